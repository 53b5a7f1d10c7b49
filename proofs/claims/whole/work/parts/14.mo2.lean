
theorem k_1019 : (Jvm.Cond.fieldLink "CellHeapModel" (51 : Nat) "CellHeapModel" "refusal" "I") ∈ wx_tbl := wx_in 1083 (by decide +kernel) rfl
theorem k_1022 : (Jvm.Cond.fieldLink "CellHeapModel" (111 : Nat) "CellHeapModel" "many" "I") ∈ wx_tbl := wx_in 1086 (by decide +kernel) rfl
theorem k_1023 : (Jvm.Cond.fieldLink "CellHeapModel" (16 : Nat) "CellHeapModel" "order" "[I") ∈ wx_tbl := wx_in 1087 (by decide +kernel) rfl
theorem k_1024 : (Jvm.Cond.fieldLink "CellHeapModel" (19 : Nat) "CellHeapModel" "sort" "[I") ∈ wx_tbl := wx_in 1088 (by decide +kernel) rfl
theorem k_1025 : (Jvm.Cond.fieldLink "CellHeapModel" (22 : Nat) "CellHeapModel" "cells" "[I") ∈ wx_tbl := wx_in 1089 (by decide +kernel) rfl
theorem k_1026 : (Jvm.Cond.fieldLink "CellHeapModel" (25 : Nat) "CellHeapModel" "isMarked" "[Z") ∈ wx_tbl := wx_in 1090 (by decide +kernel) rfl
theorem k_1027 : (Jvm.Cond.fieldLink "CellHeapModel" (29 : Nat) "CellHeapModel" "pile" "[I") ∈ wx_tbl := wx_in 1091 (by decide +kernel) rfl
theorem k_1028 : (Jvm.Cond.fieldLink "CellHeapModel" (114 : Nat) "CellHeapModel" "top" "I") ∈ wx_tbl := wx_in 1092 (by decide +kernel) rfl
theorem k_1029 : (Jvm.Cond.fieldLink "CellHeapModel" (117 : Nat) "CellHeapModel" "collections" "I") ∈ wx_tbl := wx_in 1093 (by decide +kernel) rfl
theorem k_1033 : (Jvm.Cond.fieldLink "CellHeapModel" (41 : Nat) "CellHeapModel" "line" "[C") ∈ wx_tbl := wx_in 1097 (by decide +kernel) rfl
theorem k_1034 : (Jvm.Cond.fieldLink "CellHeapModel" (185 : Nat) "CellHeapModel" "lineSize" "I") ∈ wx_tbl := wx_in 1098 (by decide +kernel) rfl
theorem k_1035 : (Jvm.Cond.fieldLink "CellHeapModel" (45 : Nat) "CellHeapModel" "out" "[C") ∈ wx_tbl := wx_in 1099 (by decide +kernel) rfl
theorem k_1036 : (Jvm.Cond.fieldLink "CellHeapModel" (197 : Nat) "CellHeapModel" "outSize" "I") ∈ wx_tbl := wx_in 1100 (by decide +kernel) rfl
theorem k_1037 : (Jvm.Cond.fieldLink "CellHeapModel" (200 : Nat) "CellHeapModel" "isFull" "Z") ∈ wx_tbl := wx_in 1101 (by decide +kernel) rfl
theorem k_1038 : (Jvm.Cond.fieldLink "CellHeapModel" (48 : Nat) "CellHeapModel" "digits" "[I") ∈ wx_tbl := wx_in 1102 (by decide +kernel) rfl
theorem k_1039 : (Jvm.Cond.fieldLink "CellHeapModel" (191 : Nat) "CellHeapModel" "at" "I") ∈ wx_tbl := wx_in 1103 (by decide +kernel) rfl
theorem k_1091 : (Jvm.Cond.methodLink "CellHeapModel" (157 : Nat) ({ cls := "CellHeapModel", name := "isRegister", desc := "(I)Z" } : Jvm.MethodName)) ∈ wx_tbl := wx_in 1155 (by decide +kernel) rfl
theorem k_1094 : (Jvm.Cond.methodLink "CellHeapModel" (160 : Nat) ({ cls := "CellHeapModel", name := "refused", desc := "(I)Z" } : Jvm.MethodName)) ∈ wx_tbl := wx_in 1158 (by decide +kernel) rfl
theorem k_1098 : (Jvm.Cond.methodLink "CellHeapModel" (127 : Nat) ({ cls := "CellHeapModel", name := "setValue", desc := "(III)V" } : Jvm.MethodName)) ∈ wx_tbl := wx_in 1162 (by decide +kernel) rfl
theorem k_1116 : (Jvm.Cond.methodLink "CellHeapModel" (163 : Nat) ({ cls := "CellHeapModel", name := "finish", desc := "(I)I" } : Jvm.MethodName)) ∈ wx_tbl := wx_in 1180 (by decide +kernel) rfl
theorem k_1120 : (Jvm.Cond.methodLink "CellHeapModel" (139 : Nat) ({ cls := "CellHeapModel", name := "isLarge", desc := "(I)Z" } : Jvm.MethodName)) ∈ wx_tbl := wx_in 1184 (by decide +kernel) rfl
theorem k_1128 : (Jvm.Cond.methodLink "CellHeapModel" (130 : Nat) ({ cls := "CellHeapModel", name := "cellsOf", desc := "(I)I" } : Jvm.MethodName)) ∈ wx_tbl := wx_in 1192 (by decide +kernel) rfl
theorem k_1141 : (Jvm.Cond.methodLink "CellHeapModel" (142 : Nat) ({ cls := "CellHeapModel", name := "wants", desc := "(I)Z" } : Jvm.MethodName)) ∈ wx_tbl := wx_in 1205 (by decide +kernel) rfl
theorem k_1145 : (Jvm.Cond.methodLink "CellHeapModel" (120 : Nat) ({ cls := "CellHeapModel", name := "clean", desc := "()I" } : Jvm.MethodName)) ∈ wx_tbl := wx_in 1209 (by decide +kernel) rfl
theorem k_1149 : (Jvm.Cond.methodLink "CellHeapModel" (107 : Nat) ({ cls := "CellHeapModel", name := "mark", desc := "()I" } : Jvm.MethodName)) ∈ wx_tbl := wx_in 1213 (by decide +kernel) rfl
theorem k_1153 : (Jvm.Cond.methodLink "CellHeapModel" (104 : Nat) ({ cls := "CellHeapModel", name := "slotOf", desc := "(II)I" } : Jvm.MethodName)) ∈ wx_tbl := wx_in 1217 (by decide +kernel) rfl
theorem k_1156 : (Jvm.Cond.methodLink "CellHeapModel" (145 : Nat) ({ cls := "CellHeapModel", name := "place", desc := "(II)V" } : Jvm.MethodName)) ∈ wx_tbl := wx_in 1220 (by decide +kernel) rfl
theorem k_1160 : (Jvm.Cond.methodLink "CellHeapModel" (133 : Nat) ({ cls := "CellHeapModel", name := "make", desc := "(II)I" } : Jvm.MethodName)) ∈ wx_tbl := wx_in 1224 (by decide +kernel) rfl
theorem k_1164 : (Jvm.Cond.methodLink "CellHeapModel" (136 : Nat) ({ cls := "CellHeapModel", name := "rowOf", desc := "(I)I" } : Jvm.MethodName)) ∈ wx_tbl := wx_in 1228 (by decide +kernel) rfl
theorem k_1171 : (Jvm.Cond.methodLink "CellHeapModel" (148 : Nat) ({ cls := "CellHeapModel", name := "copyValue", desc := "(II)V" } : Jvm.MethodName)) ∈ wx_tbl := wx_in 1235 (by decide +kernel) rfl
theorem k_1187 : (Jvm.Cond.methodLink "CellHeapModel" (151 : Nat) ({ cls := "CellHeapModel", name := "sortOf", desc := "(I)I" } : Jvm.MethodName)) ∈ wx_tbl := wx_in 1251 (by decide +kernel) rfl
theorem k_1199 : (Jvm.Cond.methodLink "CellHeapModel" (166 : Nat) ({ cls := "CellHeapModel", name := "isNumber", desc := "(I)Z" } : Jvm.MethodName)) ∈ wx_tbl := wx_in 1263 (by decide +kernel) rfl
theorem k_1203 : (Jvm.Cond.methodLink "CellHeapModel" (169 : Nat) ({ cls := "CellHeapModel", name := "take", desc := "(III)V" } : Jvm.MethodName)) ∈ wx_tbl := wx_in 1267 (by decide +kernel) rfl
theorem k_1207 : (Jvm.Cond.methodLink "CellHeapModel" (154 : Nat) ({ cls := "CellHeapModel", name := "takeWhole", desc := "(II)V" } : Jvm.MethodName)) ∈ wx_tbl := wx_in 1271 (by decide +kernel) rfl
theorem k_1211 : (Jvm.Cond.methodLink "CellHeapModel" (172 : Nat) ({ cls := "CellHeapModel", name := "workWhole", desc := "(II)I" } : Jvm.MethodName)) ∈ wx_tbl := wx_in 1275 (by decide +kernel) rfl
theorem k_1247 : (Jvm.Cond.methodLink "CellHeapModel" (175 : Nat) ({ cls := "CellHeapModel", name := "product", desc := "(III)V" } : Jvm.MethodName)) ∈ wx_tbl := wx_in 1311 (by decide +kernel) rfl
theorem k_1251 : (Jvm.Cond.methodLink "CellHeapModel" (178 : Nat) ({ cls := "CellHeapModel", name := "sum", desc := "(IIIZ)V" } : Jvm.MethodName)) ∈ wx_tbl := wx_in 1315 (by decide +kernel) rfl
theorem k_1255 : (Jvm.Cond.methodLink "CellHeapModel" (182 : Nat) ({ cls := "CellHeapModel", name := "reduce", desc := "()V" } : Jvm.MethodName)) ∈ wx_tbl := wx_in 1319 (by decide +kernel) rfl
theorem k_1271 : (Jvm.Cond.methodLink "CellHeapModel" (188 : Nat) ({ cls := "CellHeapModel", name := "put", desc := "(II)V" } : Jvm.MethodName)) ∈ wx_tbl := wx_in 1335 (by decide +kernel) rfl
theorem k_1283 : (Jvm.Cond.methodLink "CellHeapModel" (194 : Nat) ({ cls := "CellHeapModel", name := "readDigits", desc := "(I)Z" } : Jvm.MethodName)) ∈ wx_tbl := wx_in 1347 (by decide +kernel) rfl
theorem k_1291 : (Jvm.Cond.methodLink "CellHeapModel" (204 : Nat) ({ cls := "CellHeapModel", name := "say", desc := "(C)V" } : Jvm.MethodName)) ∈ wx_tbl := wx_in 1355 (by decide +kernel) rfl
theorem k_1295 : (Jvm.Cond.methodLink "CellHeapModel" (211 : Nat) ({ cls := "CellHeapModel", name := "sayPlain", desc := "(I)V" } : Jvm.MethodName)) ∈ wx_tbl := wx_in 1359 (by decide +kernel) rfl
theorem k_1299 : (Jvm.Cond.methodLink "CellHeapModel" (208 : Nat) ({ cls := "CellHeapModel", name := "sayWhole", desc := "(I)V" } : Jvm.MethodName)) ∈ wx_tbl := wx_in 1363 (by decide +kernel) rfl
theorem k_1315 : (Jvm.Cond.methodLink "CellHeapModel" (214 : Nat) ({ cls := "CellHeapModel", name := "cellOf", desc := "(I)I" } : Jvm.MethodName)) ∈ wx_tbl := wx_in 1379 (by decide +kernel) rfl
/-! Mo_thrown: ('CellHeapModel', 'thrown', '()I') -/
abbrev b_Mo_thrown : ByteArray := prog_10_method_2_code
abbrev y_Mo_thrown : MethodName := ⟨R_Mo, "thrown", "()I"⟩
abbrev K_Mo_thrown := CanI y_Mo_thrown b_Mo_thrown 1 ((some .int)) 0 0 0
theorem I_Mo_thrown {h : HP}  {Φ : Int32 → HP → Prop} (body : ∀ X : CX, Cok X b_Mo_thrown 1 R_Mo ((some .int)) → xR X = rml 0 0 0 → Qok X 0 0 (fun r h2 => ∃ v, r = some (.int v) ∧ Φ v h2) → Wg X 0 0 h [(0, .ref 0)] [] 0) : K_Mo_thrown [.ref 0] h Φ := Can.intro (by decide) (fun _ => Nat.le_of_ble_eq_true rfl) body
theorem M_Mo_thrown : Mv y_Mo_thrown b_Mo_thrown 1 ((some .int)) 0 8 := ⟨wx_in 1150 (by decide +kernel) rfl, wx_in 1148 (by decide +kernel) rfl, wx_in 1149 (by decide +kernel) rfl, wx_in 73 (by decide +kernel) rfl, by decide +kernel, by decide, by decide, _, _, rfl⟩
theorem d_Mo_thrown_0 : decode b_Mo_thrown 0 = .ok (.aload_n 0, 1) := by decide +kernel
theorem d_Mo_thrown_1 : decode b_Mo_thrown 1 = .ok (.getfield 51, 3) := by decide +kernel
theorem d_Mo_thrown_4 : decode b_Mo_thrown 4 = .ok (.ireturn, 1) := by decide +kernel
/-! Mo_refused: ('CellHeapModel', 'refused', '(I)Z') -/
abbrev b_Mo_refused : ByteArray := prog_10_method_3_code
abbrev y_Mo_refused : MethodName := ⟨R_Mo, "refused", "(I)Z"⟩
abbrev K_Mo_refused := CanI y_Mo_refused b_Mo_refused 2 ((some .boolean)) 0 0 0
theorem I_Mo_refused {h : HP} {v1 : Int32} {Φ : Int32 → HP → Prop} (body : ∀ X : CX, Cok X b_Mo_refused 2 R_Mo ((some .boolean)) → xR X = rml 0 0 0 → Qok X 0 0 (fun r h2 => ∃ v, r = some (.int v) ∧ Φ v h2) → Wg X 0 0 h [(0, .ref 0), (1, .int v1)] [] 0) : K_Mo_refused [.ref 0, .int v1] h Φ := Can.intro (by decide) (fun _ => Nat.le_of_ble_eq_true rfl) body
theorem M_Mo_refused : Mv y_Mo_refused b_Mo_refused 2 ((some .boolean)) 1 8 := ⟨wx_in 1161 (by decide +kernel) rfl, wx_in 1160 (by decide +kernel) rfl, wx_in 25 (by decide +kernel) rfl, wx_in 73 (by decide +kernel) rfl, by decide +kernel, by decide, by decide, _, _, rfl⟩
theorem d_Mo_refused_0 : decode b_Mo_refused 0 = .ok (.aload_n 0, 1) := by decide +kernel
theorem d_Mo_refused_1 : decode b_Mo_refused 1 = .ok (.iload_n 1, 1) := by decide +kernel
theorem d_Mo_refused_2 : decode b_Mo_refused 2 = .ok (.putfield 51, 3) := by decide +kernel
theorem d_Mo_refused_5 : decode b_Mo_refused 5 = .ok (.iload_n 1, 1) := by decide +kernel
theorem d_Mo_refused_6 : decode b_Mo_refused 6 = .ok (.ifCond .le 7, 3) := by decide +kernel
theorem d_Mo_refused_9 : decode b_Mo_refused 9 = .ok (.iconst 1, 1) := by decide +kernel
theorem d_Mo_refused_10 : decode b_Mo_refused 10 = .ok (.goto 4, 3) := by decide +kernel
theorem d_Mo_refused_13 : decode b_Mo_refused 13 = .ok (.iconst 0, 1) := by decide +kernel
theorem d_Mo_refused_14 : decode b_Mo_refused 14 = .ok (.ireturn, 1) := by decide +kernel
/-! Mo_isRegister: ('CellHeapModel', 'isRegister', '(I)Z') -/
abbrev b_Mo_isRegister : ByteArray := prog_10_method_4_code
abbrev y_Mo_isRegister : MethodName := ⟨R_Mo, "isRegister", "(I)Z"⟩
abbrev K_Mo_isRegister := CanI y_Mo_isRegister b_Mo_isRegister 1 ((some .boolean)) 0 0 0
theorem I_Mo_isRegister {h : HP} {v0 : Int32} {Φ : Int32 → HP → Prop} (body : ∀ X : CX, Cok X b_Mo_isRegister 1 R_Mo ((some .boolean)) → xR X = rml 0 0 0 → Qok X 0 0 (fun r h2 => ∃ v, r = some (.int v) ∧ Φ v h2) → Wg X 0 0 h [(0, .int v0)] [] 0) : K_Mo_isRegister [.int v0] h Φ := Can.intro (by decide) (fun _ => Nat.le_of_ble_eq_true rfl) body
theorem M_Mo_isRegister : Ms y_Mo_isRegister b_Mo_isRegister 1 ((some .boolean)) 1 := ⟨wx_in 1157 (by decide +kernel) rfl, wx_in 1156 (by decide +kernel) rfl, wx_in 73 (by decide +kernel) rfl, by decide +kernel, by decide⟩
theorem d_Mo_isRegister_0 : decode b_Mo_isRegister 0 = .ok (.iload_n 0, 1) := by decide +kernel
theorem d_Mo_isRegister_1 : decode b_Mo_isRegister 1 = .ok (.ifCond .lt 13, 3) := by decide +kernel
theorem d_Mo_isRegister_4 : decode b_Mo_isRegister 4 = .ok (.iload_n 0, 1) := by decide +kernel
theorem d_Mo_isRegister_5 : decode b_Mo_isRegister 5 = .ok (.bipush 8, 2) := by decide +kernel
theorem d_Mo_isRegister_7 : decode b_Mo_isRegister 7 = .ok (.if_icmp .ge 7, 3) := by decide +kernel
theorem d_Mo_isRegister_10 : decode b_Mo_isRegister 10 = .ok (.iconst 1, 1) := by decide +kernel
theorem d_Mo_isRegister_11 : decode b_Mo_isRegister 11 = .ok (.goto 4, 3) := by decide +kernel
theorem d_Mo_isRegister_14 : decode b_Mo_isRegister 14 = .ok (.iconst 0, 1) := by decide +kernel
theorem d_Mo_isRegister_15 : decode b_Mo_isRegister 15 = .ok (.ireturn, 1) := by decide +kernel
/-! Mo_cellOf: ('CellHeapModel', 'cellOf', '(I)I') -/
abbrev b_Mo_cellOf : ByteArray := prog_10_method_26_code
abbrev y_Mo_cellOf : MethodName := ⟨R_Mo, "cellOf", "(I)I"⟩
abbrev K_Mo_cellOf := CanI y_Mo_cellOf b_Mo_cellOf 4 ((some .int)) 0 0 0
theorem I_Mo_cellOf {h : HP} {v1 : Int32} {Φ : Int32 → HP → Prop} (body : ∀ X : CX, Cok X b_Mo_cellOf 4 R_Mo ((some .int)) → xR X = rml 0 0 0 → Qok X 0 0 (fun r h2 => ∃ v, r = some (.int v) ∧ Φ v h2) → Wg X 0 0 h [(0, .ref 0), (1, .int v1)] [] 0) : K_Mo_cellOf [.ref 0, .int v1] h Φ := Can.intro (by decide) (fun _ => Nat.le_of_ble_eq_true rfl) body
theorem M_Mo_cellOf : Mv y_Mo_cellOf b_Mo_cellOf 4 ((some .int)) 1 8 := ⟨wx_in 1382 (by decide +kernel) rfl, wx_in 1381 (by decide +kernel) rfl, wx_in 63 (by decide +kernel) rfl, wx_in 73 (by decide +kernel) rfl, by decide +kernel, by decide, by decide, _, _, rfl⟩
theorem d_Mo_cellOf_0 : decode b_Mo_cellOf 0 = .ok (.iconst 0, 1) := by decide +kernel
theorem d_Mo_cellOf_1 : decode b_Mo_cellOf 1 = .ok (.istore_n 2, 1) := by decide +kernel
theorem d_Mo_cellOf_2 : decode b_Mo_cellOf 2 = .ok (.iconst 0, 1) := by decide +kernel
theorem d_Mo_cellOf_3 : decode b_Mo_cellOf 3 = .ok (.istore_n 3, 1) := by decide +kernel
theorem d_Mo_cellOf_4 : decode b_Mo_cellOf 4 = .ok (.aload_n 0, 1) := by decide +kernel
theorem d_Mo_cellOf_5 : decode b_Mo_cellOf 5 = .ok (.getfield 16, 3) := by decide +kernel
theorem d_Mo_cellOf_8 : decode b_Mo_cellOf 8 = .ok (.iload_n 3, 1) := by decide +kernel
theorem d_Mo_cellOf_9 : decode b_Mo_cellOf 9 = .ok (.iaload, 1) := by decide +kernel
theorem d_Mo_cellOf_10 : decode b_Mo_cellOf 10 = .ok (.iload_n 1, 1) := by decide +kernel
theorem d_Mo_cellOf_11 : decode b_Mo_cellOf 11 = .ok (.if_icmp .eq 23, 3) := by decide +kernel
theorem d_Mo_cellOf_14 : decode b_Mo_cellOf 14 = .ok (.iload_n 2, 1) := by decide +kernel
theorem d_Mo_cellOf_15 : decode b_Mo_cellOf 15 = .ok (.aload_n 0, 1) := by decide +kernel
theorem d_Mo_cellOf_16 : decode b_Mo_cellOf 16 = .ok (.getfield 22, 3) := by decide +kernel
theorem d_Mo_cellOf_19 : decode b_Mo_cellOf 19 = .ok (.aload_n 0, 1) := by decide +kernel
theorem d_Mo_cellOf_20 : decode b_Mo_cellOf 20 = .ok (.getfield 16, 3) := by decide +kernel
theorem d_Mo_cellOf_23 : decode b_Mo_cellOf 23 = .ok (.iload_n 3, 1) := by decide +kernel
theorem d_Mo_cellOf_24 : decode b_Mo_cellOf 24 = .ok (.iaload, 1) := by decide +kernel
theorem d_Mo_cellOf_25 : decode b_Mo_cellOf 25 = .ok (.iaload, 1) := by decide +kernel
theorem d_Mo_cellOf_26 : decode b_Mo_cellOf 26 = .ok (.iadd, 1) := by decide +kernel
theorem d_Mo_cellOf_27 : decode b_Mo_cellOf 27 = .ok (.istore_n 2, 1) := by decide +kernel
theorem d_Mo_cellOf_28 : decode b_Mo_cellOf 28 = .ok (.iinc 3 1, 3) := by decide +kernel
theorem d_Mo_cellOf_31 : decode b_Mo_cellOf 31 = .ok (.goto (-27), 3) := by decide +kernel
theorem d_Mo_cellOf_34 : decode b_Mo_cellOf 34 = .ok (.iload_n 2, 1) := by decide +kernel
theorem d_Mo_cellOf_35 : decode b_Mo_cellOf 35 = .ok (.ireturn, 1) := by decide +kernel
/-! Mo_mark: ('CellHeapModel', 'mark', '()I') -/
abbrev b_Mo_mark : ByteArray := prog_10_method_27_code
abbrev y_Mo_mark : MethodName := ⟨R_Mo, "mark", "()I"⟩
abbrev K_Mo_mark := CanI y_Mo_mark b_Mo_mark 5 ((some .int)) 1 0 0
theorem I_Mo_mark {h : HP}  {Φ : Int32 → HP → Prop} (body : ∀ X : CX, Cok X b_Mo_mark 5 R_Mo ((some .int)) → xR X = rml 1 0 0 → Qok X 0 0 (fun r h2 => ∃ v, r = some (.int v) ∧ Φ v h2) → Wg X 0 0 h [(0, .ref 0)] [] 0) : K_Mo_mark [.ref 0] h Φ := Can.intro (by decide) (fun _ => Nat.le_of_ble_eq_true rfl) body
theorem M_Mo_mark : Mv y_Mo_mark b_Mo_mark 5 ((some .int)) 0 8 := ⟨wx_in 1216 (by decide +kernel) rfl, wx_in 1215 (by decide +kernel) rfl, wx_in 37 (by decide +kernel) rfl, wx_in 73 (by decide +kernel) rfl, by decide +kernel, by decide, by decide, _, _, rfl⟩
theorem d_Mo_mark_0 : decode b_Mo_mark 0 = .ok (.iconst 0, 1) := by decide +kernel
theorem d_Mo_mark_1 : decode b_Mo_mark 1 = .ok (.istore_n 1, 1) := by decide +kernel
theorem d_Mo_mark_2 : decode b_Mo_mark 2 = .ok (.iload_n 1, 1) := by decide +kernel
theorem d_Mo_mark_3 : decode b_Mo_mark 3 = .ok (.sipush 204, 3) := by decide +kernel
theorem d_Mo_mark_6 : decode b_Mo_mark 6 = .ok (.if_icmp .ge 16, 3) := by decide +kernel
theorem d_Mo_mark_9 : decode b_Mo_mark 9 = .ok (.aload_n 0, 1) := by decide +kernel
theorem d_Mo_mark_10 : decode b_Mo_mark 10 = .ok (.getfield 25, 3) := by decide +kernel
theorem d_Mo_mark_13 : decode b_Mo_mark 13 = .ok (.iload_n 1, 1) := by decide +kernel
theorem d_Mo_mark_14 : decode b_Mo_mark 14 = .ok (.iconst 0, 1) := by decide +kernel
theorem d_Mo_mark_15 : decode b_Mo_mark 15 = .ok (.bastore, 1) := by decide +kernel
theorem d_Mo_mark_16 : decode b_Mo_mark 16 = .ok (.iinc 1 1, 3) := by decide +kernel
theorem d_Mo_mark_19 : decode b_Mo_mark 19 = .ok (.goto (-17), 3) := by decide +kernel
theorem d_Mo_mark_22 : decode b_Mo_mark 22 = .ok (.iconst 0, 1) := by decide +kernel
theorem d_Mo_mark_23 : decode b_Mo_mark 23 = .ok (.istore_n 1, 1) := by decide +kernel
theorem d_Mo_mark_24 : decode b_Mo_mark 24 = .ok (.iconst 0, 1) := by decide +kernel
theorem d_Mo_mark_25 : decode b_Mo_mark 25 = .ok (.istore_n 2, 1) := by decide +kernel
theorem d_Mo_mark_26 : decode b_Mo_mark 26 = .ok (.iconst 0, 1) := by decide +kernel
theorem d_Mo_mark_27 : decode b_Mo_mark 27 = .ok (.istore_n 3, 1) := by decide +kernel
theorem d_Mo_mark_28 : decode b_Mo_mark 28 = .ok (.iload_n 3, 1) := by decide +kernel
theorem d_Mo_mark_29 : decode b_Mo_mark 29 = .ok (.bipush 8, 2) := by decide +kernel
theorem d_Mo_mark_31 : decode b_Mo_mark 31 = .ok (.if_icmp .ge 34, 3) := by decide +kernel
theorem d_Mo_mark_34 : decode b_Mo_mark 34 = .ok (.aload_n 0, 1) := by decide +kernel
theorem d_Mo_mark_35 : decode b_Mo_mark 35 = .ok (.getfield 7, 3) := by decide +kernel
theorem d_Mo_mark_38 : decode b_Mo_mark 38 = .ok (.iload_n 3, 1) := by decide +kernel
theorem d_Mo_mark_39 : decode b_Mo_mark 39 = .ok (.iaload, 1) := by decide +kernel
theorem d_Mo_mark_40 : decode b_Mo_mark 40 = .ok (.iconst 2, 1) := by decide +kernel
theorem d_Mo_mark_41 : decode b_Mo_mark 41 = .ok (.if_icmp .ne 18, 3) := by decide +kernel
theorem d_Mo_mark_44 : decode b_Mo_mark 44 = .ok (.aload_n 0, 1) := by decide +kernel
theorem d_Mo_mark_45 : decode b_Mo_mark 45 = .ok (.getfield 29, 3) := by decide +kernel
theorem d_Mo_mark_48 : decode b_Mo_mark 48 = .ok (.iload_n 2, 1) := by decide +kernel
theorem d_Mo_mark_49 : decode b_Mo_mark 49 = .ok (.aload_n 0, 1) := by decide +kernel
theorem d_Mo_mark_50 : decode b_Mo_mark 50 = .ok (.getfield 13, 3) := by decide +kernel
theorem d_Mo_mark_53 : decode b_Mo_mark 53 = .ok (.iload_n 3, 1) := by decide +kernel
theorem d_Mo_mark_54 : decode b_Mo_mark 54 = .ok (.iaload, 1) := by decide +kernel
theorem d_Mo_mark_55 : decode b_Mo_mark 55 = .ok (.iastore, 1) := by decide +kernel
theorem d_Mo_mark_56 : decode b_Mo_mark 56 = .ok (.iinc 2 1, 3) := by decide +kernel
theorem d_Mo_mark_59 : decode b_Mo_mark 59 = .ok (.iinc 3 1, 3) := by decide +kernel
theorem d_Mo_mark_62 : decode b_Mo_mark 62 = .ok (.goto (-34), 3) := by decide +kernel
theorem d_Mo_mark_65 : decode b_Mo_mark 65 = .ok (.iload_n 2, 1) := by decide +kernel
theorem d_Mo_mark_66 : decode b_Mo_mark 66 = .ok (.ifCond .le 117, 3) := by decide +kernel
theorem d_Mo_mark_69 : decode b_Mo_mark 69 = .ok (.iinc 2 (-1), 3) := by decide +kernel
theorem d_Mo_mark_72 : decode b_Mo_mark 72 = .ok (.aload_n 0, 1) := by decide +kernel
theorem d_Mo_mark_73 : decode b_Mo_mark 73 = .ok (.getfield 29, 3) := by decide +kernel
theorem d_Mo_mark_76 : decode b_Mo_mark 76 = .ok (.iload_n 2, 1) := by decide +kernel
theorem d_Mo_mark_77 : decode b_Mo_mark 77 = .ok (.iaload, 1) := by decide +kernel
theorem d_Mo_mark_78 : decode b_Mo_mark 78 = .ok (.istore_n 3, 1) := by decide +kernel
theorem d_Mo_mark_79 : decode b_Mo_mark 79 = .ok (.aload_n 0, 1) := by decide +kernel
theorem d_Mo_mark_80 : decode b_Mo_mark 80 = .ok (.getfield 25, 3) := by decide +kernel
theorem d_Mo_mark_83 : decode b_Mo_mark 83 = .ok (.iload_n 3, 1) := by decide +kernel
theorem d_Mo_mark_84 : decode b_Mo_mark 84 = .ok (.baload, 1) := by decide +kernel
theorem d_Mo_mark_85 : decode b_Mo_mark 85 = .ok (.ifCond .eq 6, 3) := by decide +kernel
theorem d_Mo_mark_88 : decode b_Mo_mark 88 = .ok (.goto (-23), 3) := by decide +kernel
theorem d_Mo_mark_91 : decode b_Mo_mark 91 = .ok (.aload_n 0, 1) := by decide +kernel
theorem d_Mo_mark_92 : decode b_Mo_mark 92 = .ok (.getfield 25, 3) := by decide +kernel
theorem d_Mo_mark_95 : decode b_Mo_mark 95 = .ok (.iload_n 3, 1) := by decide +kernel
theorem d_Mo_mark_96 : decode b_Mo_mark 96 = .ok (.iconst 1, 1) := by decide +kernel
theorem d_Mo_mark_97 : decode b_Mo_mark 97 = .ok (.bastore, 1) := by decide +kernel
theorem d_Mo_mark_98 : decode b_Mo_mark 98 = .ok (.iinc 1 1, 3) := by decide +kernel
theorem d_Mo_mark_101 : decode b_Mo_mark 101 = .ok (.iconst 0, 1) := by decide +kernel
theorem d_Mo_mark_102 : decode b_Mo_mark 102 = .ok (.istore 4, 2) := by decide +kernel
theorem d_Mo_mark_104 : decode b_Mo_mark 104 = .ok (.iload 4, 2) := by decide +kernel
theorem d_Mo_mark_106 : decode b_Mo_mark 106 = .ok (.iconst 2, 1) := by decide +kernel
theorem d_Mo_mark_107 : decode b_Mo_mark 107 = .ok (.if_icmp .ge 73, 3) := by decide +kernel
theorem d_Mo_mark_110 : decode b_Mo_mark 110 = .ok (.aload_n 0, 1) := by decide +kernel
theorem d_Mo_mark_111 : decode b_Mo_mark 111 = .ok (.getfield 19, 3) := by decide +kernel
theorem d_Mo_mark_114 : decode b_Mo_mark 114 = .ok (.iload_n 3, 1) := by decide +kernel
theorem d_Mo_mark_115 : decode b_Mo_mark 115 = .ok (.iaload, 1) := by decide +kernel
theorem d_Mo_mark_116 : decode b_Mo_mark 116 = .ok (.iconst 3, 1) := by decide +kernel
theorem d_Mo_mark_117 : decode b_Mo_mark 117 = .ok (.if_icmp .lt 63, 3) := by decide +kernel
theorem d_Mo_mark_120 : decode b_Mo_mark 120 = .ok (.aload_n 0, 1) := by decide +kernel
theorem d_Mo_mark_121 : decode b_Mo_mark 121 = .ok (.getfield 7, 3) := by decide +kernel
theorem d_Mo_mark_124 : decode b_Mo_mark 124 = .ok (.iload_n 3, 1) := by decide +kernel
theorem d_Mo_mark_125 : decode b_Mo_mark 125 = .ok (.iload 4, 2) := by decide +kernel
theorem d_Mo_mark_127 : decode b_Mo_mark 127 = .ok (.invokestatic 104, 3) := by decide +kernel
theorem d_Mo_mark_130 : decode b_Mo_mark 130 = .ok (.iaload, 1) := by decide +kernel
theorem d_Mo_mark_131 : decode b_Mo_mark 131 = .ok (.iconst 2, 1) := by decide +kernel
theorem d_Mo_mark_132 : decode b_Mo_mark 132 = .ok (.if_icmp .ne 42, 3) := by decide +kernel
theorem d_Mo_mark_135 : decode b_Mo_mark 135 = .ok (.aload_n 0, 1) := by decide +kernel
theorem d_Mo_mark_136 : decode b_Mo_mark 136 = .ok (.getfield 25, 3) := by decide +kernel
theorem d_Mo_mark_139 : decode b_Mo_mark 139 = .ok (.aload_n 0, 1) := by decide +kernel
theorem d_Mo_mark_140 : decode b_Mo_mark 140 = .ok (.getfield 13, 3) := by decide +kernel
theorem d_Mo_mark_143 : decode b_Mo_mark 143 = .ok (.iload_n 3, 1) := by decide +kernel
theorem d_Mo_mark_144 : decode b_Mo_mark 144 = .ok (.iload 4, 2) := by decide +kernel
theorem d_Mo_mark_146 : decode b_Mo_mark 146 = .ok (.invokestatic 104, 3) := by decide +kernel
theorem d_Mo_mark_149 : decode b_Mo_mark 149 = .ok (.iaload, 1) := by decide +kernel
theorem d_Mo_mark_150 : decode b_Mo_mark 150 = .ok (.baload, 1) := by decide +kernel
theorem d_Mo_mark_151 : decode b_Mo_mark 151 = .ok (.ifCond .ne 23, 3) := by decide +kernel
theorem d_Mo_mark_154 : decode b_Mo_mark 154 = .ok (.aload_n 0, 1) := by decide +kernel
theorem d_Mo_mark_155 : decode b_Mo_mark 155 = .ok (.getfield 29, 3) := by decide +kernel
theorem d_Mo_mark_158 : decode b_Mo_mark 158 = .ok (.iload_n 2, 1) := by decide +kernel
theorem d_Mo_mark_159 : decode b_Mo_mark 159 = .ok (.aload_n 0, 1) := by decide +kernel
theorem d_Mo_mark_160 : decode b_Mo_mark 160 = .ok (.getfield 13, 3) := by decide +kernel
theorem d_Mo_mark_163 : decode b_Mo_mark 163 = .ok (.iload_n 3, 1) := by decide +kernel
theorem d_Mo_mark_164 : decode b_Mo_mark 164 = .ok (.iload 4, 2) := by decide +kernel
theorem d_Mo_mark_166 : decode b_Mo_mark 166 = .ok (.invokestatic 104, 3) := by decide +kernel
theorem d_Mo_mark_169 : decode b_Mo_mark 169 = .ok (.iaload, 1) := by decide +kernel
theorem d_Mo_mark_170 : decode b_Mo_mark 170 = .ok (.iastore, 1) := by decide +kernel
theorem d_Mo_mark_171 : decode b_Mo_mark 171 = .ok (.iinc 2 1, 3) := by decide +kernel
theorem d_Mo_mark_174 : decode b_Mo_mark 174 = .ok (.iinc 4 1, 3) := by decide +kernel
theorem d_Mo_mark_177 : decode b_Mo_mark 177 = .ok (.goto (-73), 3) := by decide +kernel
theorem d_Mo_mark_180 : decode b_Mo_mark 180 = .ok (.goto (-115), 3) := by decide +kernel
theorem d_Mo_mark_183 : decode b_Mo_mark 183 = .ok (.iload_n 1, 1) := by decide +kernel
theorem d_Mo_mark_184 : decode b_Mo_mark 184 = .ok (.ireturn, 1) := by decide +kernel
/-! Mo_clean: ('CellHeapModel', 'clean', '()I') -/
abbrev b_Mo_clean : ByteArray := prog_10_method_28_code
abbrev y_Mo_clean : MethodName := ⟨R_Mo, "clean", "()I"⟩
abbrev K_Mo_clean := CanI y_Mo_clean b_Mo_clean 6 ((some .int)) 2 0 0
theorem I_Mo_clean {h : HP}  {Φ : Int32 → HP → Prop} (body : ∀ X : CX, Cok X b_Mo_clean 6 R_Mo ((some .int)) → xR X = rml 2 0 0 → Qok X 0 0 (fun r h2 => ∃ v, r = some (.int v) ∧ Φ v h2) → Wg X 0 0 h [(0, .ref 0)] [] 0) : K_Mo_clean [.ref 0] h Φ := Can.intro (by decide) (fun _ => Nat.le_of_ble_eq_true rfl) body
theorem M_Mo_clean : Mv y_Mo_clean b_Mo_clean 6 ((some .int)) 0 8 := ⟨wx_in 1212 (by decide +kernel) rfl, wx_in 1211 (by decide +kernel) rfl, wx_in 36 (by decide +kernel) rfl, wx_in 73 (by decide +kernel) rfl, by decide +kernel, by decide, by decide, _, _, rfl⟩
theorem d_Mo_clean_0 : decode b_Mo_clean 0 = .ok (.aload_n 0, 1) := by decide +kernel
theorem d_Mo_clean_1 : decode b_Mo_clean 1 = .ok (.invokevirtual 107, 3) := by decide +kernel
theorem d_Mo_clean_4 : decode b_Mo_clean 4 = .ok (.istore_n 1, 1) := by decide +kernel
theorem d_Mo_clean_5 : decode b_Mo_clean 5 = .ok (.iconst 0, 1) := by decide +kernel
theorem d_Mo_clean_6 : decode b_Mo_clean 6 = .ok (.istore_n 2, 1) := by decide +kernel
theorem d_Mo_clean_7 : decode b_Mo_clean 7 = .ok (.iconst 0, 1) := by decide +kernel
theorem d_Mo_clean_8 : decode b_Mo_clean 8 = .ok (.istore_n 3, 1) := by decide +kernel
theorem d_Mo_clean_9 : decode b_Mo_clean 9 = .ok (.iconst 0, 1) := by decide +kernel
theorem d_Mo_clean_10 : decode b_Mo_clean 10 = .ok (.istore 4, 2) := by decide +kernel
theorem d_Mo_clean_12 : decode b_Mo_clean 12 = .ok (.iload 4, 2) := by decide +kernel
theorem d_Mo_clean_14 : decode b_Mo_clean 14 = .ok (.aload_n 0, 1) := by decide +kernel
theorem d_Mo_clean_15 : decode b_Mo_clean 15 = .ok (.getfield 111, 3) := by decide +kernel
theorem d_Mo_clean_18 : decode b_Mo_clean 18 = .ok (.if_icmp .ge 60, 3) := by decide +kernel
theorem d_Mo_clean_21 : decode b_Mo_clean 21 = .ok (.aload_n 0, 1) := by decide +kernel
theorem d_Mo_clean_22 : decode b_Mo_clean 22 = .ok (.getfield 16, 3) := by decide +kernel
theorem d_Mo_clean_25 : decode b_Mo_clean 25 = .ok (.iload 4, 2) := by decide +kernel
theorem d_Mo_clean_27 : decode b_Mo_clean 27 = .ok (.iaload, 1) := by decide +kernel
theorem d_Mo_clean_28 : decode b_Mo_clean 28 = .ok (.istore 5, 2) := by decide +kernel
theorem d_Mo_clean_30 : decode b_Mo_clean 30 = .ok (.aload_n 0, 1) := by decide +kernel
theorem d_Mo_clean_31 : decode b_Mo_clean 31 = .ok (.getfield 25, 3) := by decide +kernel
theorem d_Mo_clean_34 : decode b_Mo_clean 34 = .ok (.iload 5, 2) := by decide +kernel
theorem d_Mo_clean_36 : decode b_Mo_clean 36 = .ok (.baload, 1) := by decide +kernel
theorem d_Mo_clean_37 : decode b_Mo_clean 37 = .ok (.ifCond .eq 17, 3) := by decide +kernel
theorem d_Mo_clean_40 : decode b_Mo_clean 40 = .ok (.aload_n 0, 1) := by decide +kernel
theorem d_Mo_clean_41 : decode b_Mo_clean 41 = .ok (.getfield 16, 3) := by decide +kernel
theorem d_Mo_clean_44 : decode b_Mo_clean 44 = .ok (.iload_n 2, 1) := by decide +kernel
theorem d_Mo_clean_45 : decode b_Mo_clean 45 = .ok (.iload 5, 2) := by decide +kernel
theorem d_Mo_clean_47 : decode b_Mo_clean 47 = .ok (.iastore, 1) := by decide +kernel
theorem d_Mo_clean_48 : decode b_Mo_clean 48 = .ok (.iinc 2 1, 3) := by decide +kernel
theorem d_Mo_clean_51 : decode b_Mo_clean 51 = .ok (.goto 21, 3) := by decide +kernel
theorem d_Mo_clean_54 : decode b_Mo_clean 54 = .ok (.iload_n 3, 1) := by decide +kernel
theorem d_Mo_clean_55 : decode b_Mo_clean 55 = .ok (.aload_n 0, 1) := by decide +kernel
theorem d_Mo_clean_56 : decode b_Mo_clean 56 = .ok (.getfield 22, 3) := by decide +kernel
theorem d_Mo_clean_59 : decode b_Mo_clean 59 = .ok (.iload 5, 2) := by decide +kernel
theorem d_Mo_clean_61 : decode b_Mo_clean 61 = .ok (.iaload, 1) := by decide +kernel
theorem d_Mo_clean_62 : decode b_Mo_clean 62 = .ok (.iadd, 1) := by decide +kernel
theorem d_Mo_clean_63 : decode b_Mo_clean 63 = .ok (.istore_n 3, 1) := by decide +kernel
theorem d_Mo_clean_64 : decode b_Mo_clean 64 = .ok (.aload_n 0, 1) := by decide +kernel
theorem d_Mo_clean_65 : decode b_Mo_clean 65 = .ok (.getfield 19, 3) := by decide +kernel
theorem d_Mo_clean_68 : decode b_Mo_clean 68 = .ok (.iload 5, 2) := by decide +kernel
theorem d_Mo_clean_70 : decode b_Mo_clean 70 = .ok (.iconst 0, 1) := by decide +kernel
theorem d_Mo_clean_71 : decode b_Mo_clean 71 = .ok (.iastore, 1) := by decide +kernel
theorem d_Mo_clean_72 : decode b_Mo_clean 72 = .ok (.iinc 4 1, 3) := by decide +kernel
theorem d_Mo_clean_75 : decode b_Mo_clean 75 = .ok (.goto (-63), 3) := by decide +kernel
theorem d_Mo_clean_78 : decode b_Mo_clean 78 = .ok (.aload_n 0, 1) := by decide +kernel
theorem d_Mo_clean_79 : decode b_Mo_clean 79 = .ok (.iload_n 2, 1) := by decide +kernel
theorem d_Mo_clean_80 : decode b_Mo_clean 80 = .ok (.putfield 111, 3) := by decide +kernel
theorem d_Mo_clean_83 : decode b_Mo_clean 83 = .ok (.aload_n 0, 1) := by decide +kernel
theorem d_Mo_clean_84 : decode b_Mo_clean 84 = .ok (.aload_n 0, 1) := by decide +kernel
theorem d_Mo_clean_85 : decode b_Mo_clean 85 = .ok (.getfield 114, 3) := by decide +kernel
theorem d_Mo_clean_88 : decode b_Mo_clean 88 = .ok (.iload_n 3, 1) := by decide +kernel
theorem d_Mo_clean_89 : decode b_Mo_clean 89 = .ok (.isub, 1) := by decide +kernel
theorem d_Mo_clean_90 : decode b_Mo_clean 90 = .ok (.putfield 114, 3) := by decide +kernel
theorem d_Mo_clean_93 : decode b_Mo_clean 93 = .ok (.aload_n 0, 1) := by decide +kernel
theorem d_Mo_clean_94 : decode b_Mo_clean 94 = .ok (.dup, 1) := by decide +kernel
theorem d_Mo_clean_95 : decode b_Mo_clean 95 = .ok (.getfield 117, 3) := by decide +kernel
theorem d_Mo_clean_98 : decode b_Mo_clean 98 = .ok (.iconst 1, 1) := by decide +kernel
theorem d_Mo_clean_99 : decode b_Mo_clean 99 = .ok (.iadd, 1) := by decide +kernel
theorem d_Mo_clean_100 : decode b_Mo_clean 100 = .ok (.putfield 117, 3) := by decide +kernel
theorem d_Mo_clean_103 : decode b_Mo_clean 103 = .ok (.iload_n 1, 1) := by decide +kernel
theorem d_Mo_clean_104 : decode b_Mo_clean 104 = .ok (.ifCond .ge 7, 3) := by decide +kernel
theorem d_Mo_clean_107 : decode b_Mo_clean 107 = .ok (.iconst 0, 1) := by decide +kernel
theorem d_Mo_clean_108 : decode b_Mo_clean 108 = .ok (.goto 4, 3) := by decide +kernel
theorem d_Mo_clean_111 : decode b_Mo_clean 111 = .ok (.iload_n 3, 1) := by decide +kernel
theorem d_Mo_clean_112 : decode b_Mo_clean 112 = .ok (.ireturn, 1) := by decide +kernel
/-! Mo_wants: ('CellHeapModel', 'wants', '(I)Z') -/
abbrev b_Mo_wants : ByteArray := prog_10_method_29_code
abbrev y_Mo_wants : MethodName := ⟨R_Mo, "wants", "(I)Z"⟩
abbrev K_Mo_wants := CanI y_Mo_wants b_Mo_wants 3 ((some .boolean)) 3 0 0
theorem I_Mo_wants {h : HP} {v1 : Int32} {Φ : Int32 → HP → Prop} (body : ∀ X : CX, Cok X b_Mo_wants 3 R_Mo ((some .boolean)) → xR X = rml 3 0 0 → Qok X 0 0 (fun r h2 => ∃ v, r = some (.int v) ∧ Φ v h2) → Wg X 0 0 h [(0, .ref 0), (1, .int v1)] [] 0) : K_Mo_wants [.ref 0, .int v1] h Φ := Can.intro (by decide) (fun _ => Nat.le_of_ble_eq_true rfl) body
theorem M_Mo_wants : Mv y_Mo_wants b_Mo_wants 3 ((some .boolean)) 1 8 := ⟨wx_in 1208 (by decide +kernel) rfl, wx_in 1207 (by decide +kernel) rfl, wx_in 35 (by decide +kernel) rfl, wx_in 73 (by decide +kernel) rfl, by decide +kernel, by decide, by decide, _, _, rfl⟩
theorem d_Mo_wants_0 : decode b_Mo_wants 0 = .ok (.sipush 400, 3) := by decide +kernel
theorem d_Mo_wants_3 : decode b_Mo_wants 3 = .ok (.aload_n 0, 1) := by decide +kernel
theorem d_Mo_wants_4 : decode b_Mo_wants 4 = .ok (.getfield 114, 3) := by decide +kernel
theorem d_Mo_wants_7 : decode b_Mo_wants 7 = .ok (.isub, 1) := by decide +kernel
theorem d_Mo_wants_8 : decode b_Mo_wants 8 = .ok (.iload_n 1, 1) := by decide +kernel
theorem d_Mo_wants_9 : decode b_Mo_wants 9 = .ok (.if_icmp .ge 8, 3) := by decide +kernel
theorem d_Mo_wants_12 : decode b_Mo_wants 12 = .ok (.aload_n 0, 1) := by decide +kernel
theorem d_Mo_wants_13 : decode b_Mo_wants 13 = .ok (.invokevirtual 120, 3) := by decide +kernel
theorem d_Mo_wants_16 : decode b_Mo_wants 16 = .ok (.istore_n 2, 1) := by decide +kernel
theorem d_Mo_wants_17 : decode b_Mo_wants 17 = .ok (.sipush 400, 3) := by decide +kernel
theorem d_Mo_wants_20 : decode b_Mo_wants 20 = .ok (.aload_n 0, 1) := by decide +kernel
theorem d_Mo_wants_21 : decode b_Mo_wants 21 = .ok (.getfield 114, 3) := by decide +kernel
theorem d_Mo_wants_24 : decode b_Mo_wants 24 = .ok (.isub, 1) := by decide +kernel
theorem d_Mo_wants_25 : decode b_Mo_wants 25 = .ok (.iload_n 1, 1) := by decide +kernel
theorem d_Mo_wants_26 : decode b_Mo_wants 26 = .ok (.if_icmp .lt 7, 3) := by decide +kernel
theorem d_Mo_wants_29 : decode b_Mo_wants 29 = .ok (.iconst 1, 1) := by decide +kernel
theorem d_Mo_wants_30 : decode b_Mo_wants 30 = .ok (.goto 4, 3) := by decide +kernel
theorem d_Mo_wants_33 : decode b_Mo_wants 33 = .ok (.iconst 0, 1) := by decide +kernel
theorem d_Mo_wants_34 : decode b_Mo_wants 34 = .ok (.ireturn, 1) := by decide +kernel
/-! Mo_make: ('CellHeapModel', 'make', '(II)I') -/
abbrev b_Mo_make : ByteArray := prog_10_method_30_code
abbrev y_Mo_make : MethodName := ⟨R_Mo, "make", "(II)I"⟩
abbrev K_Mo_make := CanI y_Mo_make b_Mo_make 4 ((some .int)) 0 0 0
theorem I_Mo_make {h : HP} {v1 : Int32} {v2 : Int32} {Φ : Int32 → HP → Prop} (body : ∀ X : CX, Cok X b_Mo_make 4 R_Mo ((some .int)) → xR X = rml 0 0 0 → Qok X 0 0 (fun r h2 => ∃ v, r = some (.int v) ∧ Φ v h2) → Wg X 0 0 h [(0, .ref 0), (1, .int v1), (2, .int v2)] [] 0) : K_Mo_make [.ref 0, .int v1, .int v2] h Φ := Can.intro (by decide) (fun _ => Nat.le_of_ble_eq_true rfl) body
theorem M_Mo_make : Mv y_Mo_make b_Mo_make 4 ((some .int)) 2 8 := ⟨wx_in 1227 (by decide +kernel) rfl, wx_in 1226 (by decide +kernel) rfl, wx_in 39 (by decide +kernel) rfl, wx_in 73 (by decide +kernel) rfl, by decide +kernel, by decide, by decide, _, _, rfl⟩
theorem d_Mo_make_0 : decode b_Mo_make 0 = .ok (.iconst 0, 1) := by decide +kernel
theorem d_Mo_make_1 : decode b_Mo_make 1 = .ok (.istore_n 3, 1) := by decide +kernel
theorem d_Mo_make_2 : decode b_Mo_make 2 = .ok (.aload_n 0, 1) := by decide +kernel
theorem d_Mo_make_3 : decode b_Mo_make 3 = .ok (.getfield 19, 3) := by decide +kernel
theorem d_Mo_make_6 : decode b_Mo_make 6 = .ok (.iload_n 3, 1) := by decide +kernel
theorem d_Mo_make_7 : decode b_Mo_make 7 = .ok (.iaload, 1) := by decide +kernel
theorem d_Mo_make_8 : decode b_Mo_make 8 = .ok (.ifCond .eq 9, 3) := by decide +kernel
theorem d_Mo_make_11 : decode b_Mo_make 11 = .ok (.iinc 3 1, 3) := by decide +kernel
theorem d_Mo_make_14 : decode b_Mo_make 14 = .ok (.goto (-12), 3) := by decide +kernel
theorem d_Mo_make_17 : decode b_Mo_make 17 = .ok (.aload_n 0, 1) := by decide +kernel
theorem d_Mo_make_18 : decode b_Mo_make 18 = .ok (.getfield 19, 3) := by decide +kernel
theorem d_Mo_make_21 : decode b_Mo_make 21 = .ok (.iload_n 3, 1) := by decide +kernel
theorem d_Mo_make_22 : decode b_Mo_make 22 = .ok (.iload_n 1, 1) := by decide +kernel
theorem d_Mo_make_23 : decode b_Mo_make 23 = .ok (.iastore, 1) := by decide +kernel
theorem d_Mo_make_24 : decode b_Mo_make 24 = .ok (.aload_n 0, 1) := by decide +kernel
theorem d_Mo_make_25 : decode b_Mo_make 25 = .ok (.getfield 22, 3) := by decide +kernel
theorem d_Mo_make_28 : decode b_Mo_make 28 = .ok (.iload_n 3, 1) := by decide +kernel
theorem d_Mo_make_29 : decode b_Mo_make 29 = .ok (.iload_n 2, 1) := by decide +kernel
theorem d_Mo_make_30 : decode b_Mo_make 30 = .ok (.iastore, 1) := by decide +kernel
theorem d_Mo_make_31 : decode b_Mo_make 31 = .ok (.aload_n 0, 1) := by decide +kernel
theorem d_Mo_make_32 : decode b_Mo_make 32 = .ok (.getfield 16, 3) := by decide +kernel
theorem d_Mo_make_35 : decode b_Mo_make 35 = .ok (.aload_n 0, 1) := by decide +kernel
theorem d_Mo_make_36 : decode b_Mo_make 36 = .ok (.getfield 111, 3) := by decide +kernel
theorem d_Mo_make_39 : decode b_Mo_make 39 = .ok (.iload_n 3, 1) := by decide +kernel
theorem d_Mo_make_40 : decode b_Mo_make 40 = .ok (.iastore, 1) := by decide +kernel
theorem d_Mo_make_41 : decode b_Mo_make 41 = .ok (.aload_n 0, 1) := by decide +kernel
theorem d_Mo_make_42 : decode b_Mo_make 42 = .ok (.dup, 1) := by decide +kernel
theorem d_Mo_make_43 : decode b_Mo_make 43 = .ok (.getfield 111, 3) := by decide +kernel
theorem d_Mo_make_46 : decode b_Mo_make 46 = .ok (.iconst 1, 1) := by decide +kernel
theorem d_Mo_make_47 : decode b_Mo_make 47 = .ok (.iadd, 1) := by decide +kernel
theorem d_Mo_make_48 : decode b_Mo_make 48 = .ok (.putfield 111, 3) := by decide +kernel
theorem d_Mo_make_51 : decode b_Mo_make 51 = .ok (.aload_n 0, 1) := by decide +kernel
theorem d_Mo_make_52 : decode b_Mo_make 52 = .ok (.aload_n 0, 1) := by decide +kernel
theorem d_Mo_make_53 : decode b_Mo_make 53 = .ok (.getfield 114, 3) := by decide +kernel
theorem d_Mo_make_56 : decode b_Mo_make 56 = .ok (.iload_n 2, 1) := by decide +kernel
theorem d_Mo_make_57 : decode b_Mo_make 57 = .ok (.iadd, 1) := by decide +kernel
theorem d_Mo_make_58 : decode b_Mo_make 58 = .ok (.putfield 114, 3) := by decide +kernel
theorem d_Mo_make_61 : decode b_Mo_make 61 = .ok (.iload_n 3, 1) := by decide +kernel
theorem d_Mo_make_62 : decode b_Mo_make 62 = .ok (.ireturn, 1) := by decide +kernel
/-! Mo_place: ('CellHeapModel', 'place', '(II)V') -/
abbrev b_Mo_place : ByteArray := prog_10_method_33_code
abbrev y_Mo_place : MethodName := ⟨R_Mo, "place", "(II)V"⟩
abbrev K_Mo_place := CanV y_Mo_place b_Mo_place 4 none 3 0 0
theorem I_Mo_place {h : HP} {v1 : Int32} {v2 : Int32} {Φ : HP → Prop} (body : ∀ X : CX, Cok X b_Mo_place 4 R_Mo none → xR X = rml 3 0 0 → Qok X 0 0 (fun r h2 => r = none ∧ Φ h2) → Wg X 0 0 h [(0, .ref 0), (1, .int v1), (2, .int v2)] [] 0) : K_Mo_place [.ref 0, .int v1, .int v2] h Φ := Can.intro (by decide) (fun _ => Nat.le_of_ble_eq_true rfl) body
theorem M_Mo_place : Mv y_Mo_place b_Mo_place 4 none 2 8 := ⟨wx_in 1223 (by decide +kernel) rfl, wx_in 1222 (by decide +kernel) rfl, wx_in 38 (by decide +kernel) rfl, wx_in 73 (by decide +kernel) rfl, by decide +kernel, by decide, by decide, _, _, rfl⟩
theorem d_Mo_place_0 : decode b_Mo_place 0 = .ok (.aload_n 0, 1) := by decide +kernel
theorem d_Mo_place_1 : decode b_Mo_place 1 = .ok (.iload_n 2, 1) := by decide +kernel
theorem d_Mo_place_2 : decode b_Mo_place 2 = .ok (.invokevirtual 124, 3) := by decide +kernel
theorem d_Mo_place_5 : decode b_Mo_place 5 = .ok (.ifCond .eq 42, 3) := by decide +kernel
theorem d_Mo_place_8 : decode b_Mo_place 8 = .ok (.aload_n 0, 1) := by decide +kernel
theorem d_Mo_place_9 : decode b_Mo_place 9 = .ok (.iload_n 2, 1) := by decide +kernel
theorem d_Mo_place_10 : decode b_Mo_place 10 = .ok (.iconst 0, 1) := by decide +kernel
theorem d_Mo_place_11 : decode b_Mo_place 11 = .ok (.invokevirtual 62, 3) := by decide +kernel
theorem d_Mo_place_14 : decode b_Mo_place 14 = .ok (.aload_n 0, 1) := by decide +kernel
theorem d_Mo_place_15 : decode b_Mo_place 15 = .ok (.iload_n 2, 1) := by decide +kernel
theorem d_Mo_place_16 : decode b_Mo_place 16 = .ok (.iconst 1, 1) := by decide +kernel
theorem d_Mo_place_17 : decode b_Mo_place 17 = .ok (.invokevirtual 62, 3) := by decide +kernel
theorem d_Mo_place_20 : decode b_Mo_place 20 = .ok (.bipush 16, 2) := by decide +kernel
theorem d_Mo_place_22 : decode b_Mo_place 22 = .ok (.ishl, 1) := by decide +kernel
theorem d_Mo_place_23 : decode b_Mo_place 23 = .ok (.ior, 1) := by decide +kernel
theorem d_Mo_place_24 : decode b_Mo_place 24 = .ok (.istore_n 3, 1) := by decide +kernel
theorem d_Mo_place_25 : decode b_Mo_place 25 = .ok (.aload_n 0, 1) := by decide +kernel
theorem d_Mo_place_26 : decode b_Mo_place 26 = .ok (.iload_n 1, 1) := by decide +kernel
theorem d_Mo_place_27 : decode b_Mo_place 27 = .ok (.iconst 1, 1) := by decide +kernel
theorem d_Mo_place_28 : decode b_Mo_place 28 = .ok (.aload_n 0, 1) := by decide +kernel
theorem d_Mo_place_29 : decode b_Mo_place 29 = .ok (.getfield 38, 3) := by decide +kernel
theorem d_Mo_place_32 : decode b_Mo_place 32 = .ok (.iload_n 2, 1) := by decide +kernel
theorem d_Mo_place_33 : decode b_Mo_place 33 = .ok (.baload, 1) := by decide +kernel
theorem d_Mo_place_34 : decode b_Mo_place 34 = .ok (.ifCond .eq 8, 3) := by decide +kernel
theorem d_Mo_place_37 : decode b_Mo_place 37 = .ok (.iload_n 3, 1) := by decide +kernel
theorem d_Mo_place_38 : decode b_Mo_place 38 = .ok (.ineg, 1) := by decide +kernel
theorem d_Mo_place_39 : decode b_Mo_place 39 = .ok (.goto 4, 3) := by decide +kernel
theorem d_Mo_place_42 : decode b_Mo_place 42 = .ok (.iload_n 3, 1) := by decide +kernel
theorem d_Mo_place_43 : decode b_Mo_place 43 = .ok (.invokevirtual 127, 3) := by decide +kernel
theorem d_Mo_place_46 : decode b_Mo_place 46 = .ok (.return_, 1) := by decide +kernel
theorem d_Mo_place_47 : decode b_Mo_place 47 = .ok (.aload_n 0, 1) := by decide +kernel
theorem d_Mo_place_48 : decode b_Mo_place 48 = .ok (.iconst 2, 1) := by decide +kernel
theorem d_Mo_place_49 : decode b_Mo_place 49 = .ok (.aload_n 0, 1) := by decide +kernel
theorem d_Mo_place_50 : decode b_Mo_place 50 = .ok (.iload_n 2, 1) := by decide +kernel
theorem d_Mo_place_51 : decode b_Mo_place 51 = .ok (.invokevirtual 130, 3) := by decide +kernel
theorem d_Mo_place_54 : decode b_Mo_place 54 = .ok (.invokevirtual 133, 3) := by decide +kernel
theorem d_Mo_place_57 : decode b_Mo_place 57 = .ok (.istore_n 3, 1) := by decide +kernel
theorem d_Mo_place_58 : decode b_Mo_place 58 = .ok (.aload_n 0, 1) := by decide +kernel
theorem d_Mo_place_59 : decode b_Mo_place 59 = .ok (.iload_n 3, 1) := by decide +kernel
theorem d_Mo_place_60 : decode b_Mo_place 60 = .ok (.invokestatic 136, 3) := by decide +kernel
theorem d_Mo_place_63 : decode b_Mo_place 63 = .ok (.iload_n 2, 1) := by decide +kernel
theorem d_Mo_place_64 : decode b_Mo_place 64 = .ok (.invokevirtual 80, 3) := by decide +kernel
theorem d_Mo_place_67 : decode b_Mo_place 67 = .ok (.aload_n 0, 1) := by decide +kernel
theorem d_Mo_place_68 : decode b_Mo_place 68 = .ok (.iload_n 1, 1) := by decide +kernel
theorem d_Mo_place_69 : decode b_Mo_place 69 = .ok (.iconst 2, 1) := by decide +kernel
theorem d_Mo_place_70 : decode b_Mo_place 70 = .ok (.iload_n 3, 1) := by decide +kernel
theorem d_Mo_place_71 : decode b_Mo_place 71 = .ok (.invokevirtual 127, 3) := by decide +kernel
theorem d_Mo_place_74 : decode b_Mo_place 74 = .ok (.return_, 1) := by decide +kernel
/-! Mo_finish: ('CellHeapModel', 'finish', '(I)I') -/
abbrev b_Mo_finish : ByteArray := prog_10_method_34_code
abbrev y_Mo_finish : MethodName := ⟨R_Mo, "finish", "(I)I"⟩
abbrev K_Mo_finish := CanI y_Mo_finish b_Mo_finish 5 ((some .int)) 4 0 0
theorem I_Mo_finish {h : HP} {v1 : Int32} {Φ : Int32 → HP → Prop} (body : ∀ X : CX, Cok X b_Mo_finish 5 R_Mo ((some .int)) → xR X = rml 4 0 0 → Qok X 0 0 (fun r h2 => ∃ v, r = some (.int v) ∧ Φ v h2) → Wg X 0 0 h [(0, .ref 0), (1, .int v1)] [] 0) : K_Mo_finish [.ref 0, .int v1] h Φ := Can.intro (by decide) (fun _ => Nat.le_of_ble_eq_true rfl) body
theorem M_Mo_finish : Mv y_Mo_finish b_Mo_finish 5 ((some .int)) 1 8 := ⟨wx_in 1183 (by decide +kernel) rfl, wx_in 1182 (by decide +kernel) rfl, wx_in 29 (by decide +kernel) rfl, wx_in 73 (by decide +kernel) rfl, by decide +kernel, by decide, by decide, _, _, rfl⟩
theorem d_Mo_finish_0 : decode b_Mo_finish 0 = .ok (.aload_n 0, 1) := by decide +kernel
theorem d_Mo_finish_1 : decode b_Mo_finish 1 = .ok (.getfield 35, 3) := by decide +kernel
theorem d_Mo_finish_4 : decode b_Mo_finish 4 = .ok (.iconst 5, 1) := by decide +kernel
theorem d_Mo_finish_5 : decode b_Mo_finish 5 = .ok (.iaload, 1) := by decide +kernel
theorem d_Mo_finish_6 : decode b_Mo_finish 6 = .ok (.iconst 1, 1) := by decide +kernel
theorem d_Mo_finish_7 : decode b_Mo_finish 7 = .ok (.if_icmp .ne 19, 3) := by decide +kernel
theorem d_Mo_finish_10 : decode b_Mo_finish 10 = .ok (.aload_n 0, 1) := by decide +kernel
theorem d_Mo_finish_11 : decode b_Mo_finish 11 = .ok (.getfield 32, 3) := by decide +kernel
theorem d_Mo_finish_14 : decode b_Mo_finish 14 = .ok (.sipush 500, 3) := by decide +kernel
theorem d_Mo_finish_17 : decode b_Mo_finish 17 = .ok (.iaload, 1) := by decide +kernel
theorem d_Mo_finish_18 : decode b_Mo_finish 18 = .ok (.iconst 1, 1) := by decide +kernel
theorem d_Mo_finish_19 : decode b_Mo_finish 19 = .ok (.if_icmp .ne 7, 3) := by decide +kernel
theorem d_Mo_finish_22 : decode b_Mo_finish 22 = .ok (.iconst 1, 1) := by decide +kernel
theorem d_Mo_finish_23 : decode b_Mo_finish 23 = .ok (.goto 4, 3) := by decide +kernel
theorem d_Mo_finish_26 : decode b_Mo_finish 26 = .ok (.iconst 0, 1) := by decide +kernel
theorem d_Mo_finish_27 : decode b_Mo_finish 27 = .ok (.istore_n 2, 1) := by decide +kernel
theorem d_Mo_finish_28 : decode b_Mo_finish 28 = .ok (.aload_n 0, 1) := by decide +kernel
theorem d_Mo_finish_29 : decode b_Mo_finish 29 = .ok (.iconst 4, 1) := by decide +kernel
theorem d_Mo_finish_30 : decode b_Mo_finish 30 = .ok (.invokevirtual 139, 3) := by decide +kernel
theorem d_Mo_finish_33 : decode b_Mo_finish 33 = .ok (.ifCond .ne 11, 3) := by decide +kernel
theorem d_Mo_finish_36 : decode b_Mo_finish 36 = .ok (.aload_n 0, 1) := by decide +kernel
theorem d_Mo_finish_37 : decode b_Mo_finish 37 = .ok (.iconst 5, 1) := by decide +kernel
theorem d_Mo_finish_38 : decode b_Mo_finish 38 = .ok (.invokevirtual 139, 3) := by decide +kernel
theorem d_Mo_finish_41 : decode b_Mo_finish 41 = .ok (.ifCond .eq 6, 3) := by decide +kernel
theorem d_Mo_finish_44 : decode b_Mo_finish 44 = .ok (.bipush (-3), 2) := by decide +kernel
theorem d_Mo_finish_46 : decode b_Mo_finish 46 = .ok (.ireturn, 1) := by decide +kernel
theorem d_Mo_finish_47 : decode b_Mo_finish 47 = .ok (.aload_n 0, 1) := by decide +kernel
theorem d_Mo_finish_48 : decode b_Mo_finish 48 = .ok (.iconst 4, 1) := by decide +kernel
theorem d_Mo_finish_49 : decode b_Mo_finish 49 = .ok (.invokevirtual 130, 3) := by decide +kernel
theorem d_Mo_finish_52 : decode b_Mo_finish 52 = .ok (.iload_n 2, 1) := by decide +kernel
theorem d_Mo_finish_53 : decode b_Mo_finish 53 = .ok (.ifCond .eq 7, 3) := by decide +kernel
theorem d_Mo_finish_56 : decode b_Mo_finish 56 = .ok (.iconst 0, 1) := by decide +kernel
theorem d_Mo_finish_57 : decode b_Mo_finish 57 = .ok (.goto 10, 3) := by decide +kernel
theorem d_Mo_finish_60 : decode b_Mo_finish 60 = .ok (.aload_n 0, 1) := by decide +kernel
theorem d_Mo_finish_61 : decode b_Mo_finish 61 = .ok (.iconst 5, 1) := by decide +kernel
theorem d_Mo_finish_62 : decode b_Mo_finish 62 = .ok (.invokevirtual 130, 3) := by decide +kernel
theorem d_Mo_finish_65 : decode b_Mo_finish 65 = .ok (.iconst 3, 1) := by decide +kernel
theorem d_Mo_finish_66 : decode b_Mo_finish 66 = .ok (.iadd, 1) := by decide +kernel
theorem d_Mo_finish_67 : decode b_Mo_finish 67 = .ok (.iadd, 1) := by decide +kernel
theorem d_Mo_finish_68 : decode b_Mo_finish 68 = .ok (.istore_n 3, 1) := by decide +kernel
theorem d_Mo_finish_69 : decode b_Mo_finish 69 = .ok (.aload_n 0, 1) := by decide +kernel
theorem d_Mo_finish_70 : decode b_Mo_finish 70 = .ok (.iload_n 3, 1) := by decide +kernel
theorem d_Mo_finish_71 : decode b_Mo_finish 71 = .ok (.invokevirtual 142, 3) := by decide +kernel
theorem d_Mo_finish_74 : decode b_Mo_finish 74 = .ok (.ifCond .ne 6, 3) := by decide +kernel
theorem d_Mo_finish_77 : decode b_Mo_finish 77 = .ok (.bipush (-2), 2) := by decide +kernel
theorem d_Mo_finish_79 : decode b_Mo_finish 79 = .ok (.ireturn, 1) := by decide +kernel
theorem d_Mo_finish_80 : decode b_Mo_finish 80 = .ok (.iload_n 2, 1) := by decide +kernel
theorem d_Mo_finish_81 : decode b_Mo_finish 81 = .ok (.ifCond .eq 11, 3) := by decide +kernel
theorem d_Mo_finish_84 : decode b_Mo_finish 84 = .ok (.aload_n 0, 1) := by decide +kernel
theorem d_Mo_finish_85 : decode b_Mo_finish 85 = .ok (.iload_n 1, 1) := by decide +kernel
theorem d_Mo_finish_86 : decode b_Mo_finish 86 = .ok (.iconst 4, 1) := by decide +kernel
theorem d_Mo_finish_87 : decode b_Mo_finish 87 = .ok (.invokevirtual 145, 3) := by decide +kernel
theorem d_Mo_finish_90 : decode b_Mo_finish 90 = .ok (.iconst 0, 1) := by decide +kernel
theorem d_Mo_finish_91 : decode b_Mo_finish 91 = .ok (.ireturn, 1) := by decide +kernel
theorem d_Mo_finish_92 : decode b_Mo_finish 92 = .ok (.aload_n 0, 1) := by decide +kernel
theorem d_Mo_finish_93 : decode b_Mo_finish 93 = .ok (.sipush 414, 3) := by decide +kernel
theorem d_Mo_finish_96 : decode b_Mo_finish 96 = .ok (.iconst 4, 1) := by decide +kernel
theorem d_Mo_finish_97 : decode b_Mo_finish 97 = .ok (.invokevirtual 145, 3) := by decide +kernel
theorem d_Mo_finish_100 : decode b_Mo_finish 100 = .ok (.aload_n 0, 1) := by decide +kernel
theorem d_Mo_finish_101 : decode b_Mo_finish 101 = .ok (.sipush 415, 3) := by decide +kernel
theorem d_Mo_finish_104 : decode b_Mo_finish 104 = .ok (.iconst 5, 1) := by decide +kernel
theorem d_Mo_finish_105 : decode b_Mo_finish 105 = .ok (.invokevirtual 145, 3) := by decide +kernel
theorem d_Mo_finish_108 : decode b_Mo_finish 108 = .ok (.aload_n 0, 1) := by decide +kernel
theorem d_Mo_finish_109 : decode b_Mo_finish 109 = .ok (.iconst 3, 1) := by decide +kernel
theorem d_Mo_finish_110 : decode b_Mo_finish 110 = .ok (.iconst 3, 1) := by decide +kernel
theorem d_Mo_finish_111 : decode b_Mo_finish 111 = .ok (.invokevirtual 133, 3) := by decide +kernel
theorem d_Mo_finish_114 : decode b_Mo_finish 114 = .ok (.istore 4, 2) := by decide +kernel
theorem d_Mo_finish_116 : decode b_Mo_finish 116 = .ok (.aload_n 0, 1) := by decide +kernel
theorem d_Mo_finish_117 : decode b_Mo_finish 117 = .ok (.iload 4, 2) := by decide +kernel
theorem d_Mo_finish_119 : decode b_Mo_finish 119 = .ok (.iconst 0, 1) := by decide +kernel
theorem d_Mo_finish_120 : decode b_Mo_finish 120 = .ok (.invokestatic 104, 3) := by decide +kernel
theorem d_Mo_finish_123 : decode b_Mo_finish 123 = .ok (.sipush 414, 3) := by decide +kernel
theorem d_Mo_finish_126 : decode b_Mo_finish 126 = .ok (.invokevirtual 148, 3) := by decide +kernel
theorem d_Mo_finish_129 : decode b_Mo_finish 129 = .ok (.aload_n 0, 1) := by decide +kernel
theorem d_Mo_finish_130 : decode b_Mo_finish 130 = .ok (.iload 4, 2) := by decide +kernel
theorem d_Mo_finish_132 : decode b_Mo_finish 132 = .ok (.iconst 1, 1) := by decide +kernel
theorem d_Mo_finish_133 : decode b_Mo_finish 133 = .ok (.invokestatic 104, 3) := by decide +kernel
theorem d_Mo_finish_136 : decode b_Mo_finish 136 = .ok (.sipush 415, 3) := by decide +kernel
theorem d_Mo_finish_139 : decode b_Mo_finish 139 = .ok (.invokevirtual 148, 3) := by decide +kernel
theorem d_Mo_finish_142 : decode b_Mo_finish 142 = .ok (.aload_n 0, 1) := by decide +kernel
theorem d_Mo_finish_143 : decode b_Mo_finish 143 = .ok (.iload_n 1, 1) := by decide +kernel
theorem d_Mo_finish_144 : decode b_Mo_finish 144 = .ok (.iconst 2, 1) := by decide +kernel
theorem d_Mo_finish_145 : decode b_Mo_finish 145 = .ok (.iload 4, 2) := by decide +kernel
theorem d_Mo_finish_147 : decode b_Mo_finish 147 = .ok (.invokevirtual 127, 3) := by decide +kernel
theorem d_Mo_finish_150 : decode b_Mo_finish 150 = .ok (.iconst 0, 1) := by decide +kernel
theorem d_Mo_finish_151 : decode b_Mo_finish 151 = .ok (.ireturn, 1) := by decide +kernel
/-! Mo_takeWhole: ('CellHeapModel', 'takeWhole', '(II)V') -/
abbrev b_Mo_takeWhole : ByteArray := prog_10_method_35_code
abbrev y_Mo_takeWhole : MethodName := ⟨R_Mo, "takeWhole", "(II)V"⟩
abbrev K_Mo_takeWhole := CanV y_Mo_takeWhole b_Mo_takeWhole 3 none 2 0 0
theorem I_Mo_takeWhole {h : HP} {v1 : Int32} {v2 : Int32} {Φ : HP → Prop} (body : ∀ X : CX, Cok X b_Mo_takeWhole 3 R_Mo none → xR X = rml 2 0 0 → Qok X 0 0 (fun r h2 => r = none ∧ Φ h2) → Wg X 0 0 h [(0, .ref 0), (1, .int v1), (2, .int v2)] [] 0) : K_Mo_takeWhole [.ref 0, .int v1, .int v2] h Φ := Can.intro (by decide) (fun _ => Nat.le_of_ble_eq_true rfl) body
theorem M_Mo_takeWhole : Mv y_Mo_takeWhole b_Mo_takeWhole 3 none 2 8 := ⟨wx_in 1274 (by decide +kernel) rfl, wx_in 1273 (by decide +kernel) rfl, wx_in 45 (by decide +kernel) rfl, wx_in 73 (by decide +kernel) rfl, by decide +kernel, by decide, by decide, _, _, rfl⟩
theorem d_Mo_takeWhole_0 : decode b_Mo_takeWhole 0 = .ok (.aload_n 0, 1) := by decide +kernel
theorem d_Mo_takeWhole_1 : decode b_Mo_takeWhole 1 = .ok (.getfield 7, 3) := by decide +kernel
theorem d_Mo_takeWhole_4 : decode b_Mo_takeWhole 4 = .ok (.iload_n 2, 1) := by decide +kernel
theorem d_Mo_takeWhole_5 : decode b_Mo_takeWhole 5 = .ok (.iaload, 1) := by decide +kernel
theorem d_Mo_takeWhole_6 : decode b_Mo_takeWhole 6 = .ok (.iconst 1, 1) := by decide +kernel
theorem d_Mo_takeWhole_7 : decode b_Mo_takeWhole 7 = .ok (.if_icmp .ne 18, 3) := by decide +kernel
theorem d_Mo_takeWhole_10 : decode b_Mo_takeWhole 10 = .ok (.aload_n 0, 1) := by decide +kernel
theorem d_Mo_takeWhole_11 : decode b_Mo_takeWhole 11 = .ok (.iload_n 1, 1) := by decide +kernel
theorem d_Mo_takeWhole_12 : decode b_Mo_takeWhole 12 = .ok (.aload_n 0, 1) := by decide +kernel
theorem d_Mo_takeWhole_13 : decode b_Mo_takeWhole 13 = .ok (.getfield 13, 3) := by decide +kernel
theorem d_Mo_takeWhole_16 : decode b_Mo_takeWhole 16 = .ok (.iload_n 2, 1) := by decide +kernel
theorem d_Mo_takeWhole_17 : decode b_Mo_takeWhole 17 = .ok (.iaload, 1) := by decide +kernel
theorem d_Mo_takeWhole_18 : decode b_Mo_takeWhole 18 = .ok (.i2l, 1) := by decide +kernel
theorem d_Mo_takeWhole_19 : decode b_Mo_takeWhole 19 = .ok (.invokevirtual 87, 3) := by decide +kernel
theorem d_Mo_takeWhole_22 : decode b_Mo_takeWhole 22 = .ok (.goto 17, 3) := by decide +kernel
theorem d_Mo_takeWhole_25 : decode b_Mo_takeWhole 25 = .ok (.aload_n 0, 1) := by decide +kernel
theorem d_Mo_takeWhole_26 : decode b_Mo_takeWhole 26 = .ok (.iload_n 1, 1) := by decide +kernel
theorem d_Mo_takeWhole_27 : decode b_Mo_takeWhole 27 = .ok (.aload_n 0, 1) := by decide +kernel
theorem d_Mo_takeWhole_28 : decode b_Mo_takeWhole 28 = .ok (.getfield 13, 3) := by decide +kernel
theorem d_Mo_takeWhole_31 : decode b_Mo_takeWhole 31 = .ok (.iload_n 2, 1) := by decide +kernel
theorem d_Mo_takeWhole_32 : decode b_Mo_takeWhole 32 = .ok (.iaload, 1) := by decide +kernel
theorem d_Mo_takeWhole_33 : decode b_Mo_takeWhole 33 = .ok (.invokestatic 136, 3) := by decide +kernel
theorem d_Mo_takeWhole_36 : decode b_Mo_takeWhole 36 = .ok (.invokevirtual 80, 3) := by decide +kernel
theorem d_Mo_takeWhole_39 : decode b_Mo_takeWhole 39 = .ok (.return_, 1) := by decide +kernel
/-! Mo_sortOf: ('CellHeapModel', 'sortOf', '(I)I') -/
abbrev b_Mo_sortOf : ByteArray := prog_10_method_36_code
abbrev y_Mo_sortOf : MethodName := ⟨R_Mo, "sortOf", "(I)I"⟩
abbrev K_Mo_sortOf := CanI y_Mo_sortOf b_Mo_sortOf 2 ((some .int)) 0 0 0
theorem I_Mo_sortOf {h : HP} {v1 : Int32} {Φ : Int32 → HP → Prop} (body : ∀ X : CX, Cok X b_Mo_sortOf 2 R_Mo ((some .int)) → xR X = rml 0 0 0 → Qok X 0 0 (fun r h2 => ∃ v, r = some (.int v) ∧ Φ v h2) → Wg X 0 0 h [(0, .ref 0), (1, .int v1)] [] 0) : K_Mo_sortOf [.ref 0, .int v1] h Φ := Can.intro (by decide) (fun _ => Nat.le_of_ble_eq_true rfl) body
theorem M_Mo_sortOf : Mv y_Mo_sortOf b_Mo_sortOf 2 ((some .int)) 1 8 := ⟨wx_in 1254 (by decide +kernel) rfl, wx_in 1253 (by decide +kernel) rfl, wx_in 42 (by decide +kernel) rfl, wx_in 73 (by decide +kernel) rfl, by decide +kernel, by decide, by decide, _, _, rfl⟩
theorem d_Mo_sortOf_0 : decode b_Mo_sortOf 0 = .ok (.aload_n 0, 1) := by decide +kernel
theorem d_Mo_sortOf_1 : decode b_Mo_sortOf 1 = .ok (.getfield 7, 3) := by decide +kernel
theorem d_Mo_sortOf_4 : decode b_Mo_sortOf 4 = .ok (.iload_n 1, 1) := by decide +kernel
theorem d_Mo_sortOf_5 : decode b_Mo_sortOf 5 = .ok (.iaload, 1) := by decide +kernel
theorem d_Mo_sortOf_6 : decode b_Mo_sortOf 6 = .ok (.iconst 2, 1) := by decide +kernel
theorem d_Mo_sortOf_7 : decode b_Mo_sortOf 7 = .ok (.if_icmp .ne 17, 3) := by decide +kernel
theorem d_Mo_sortOf_10 : decode b_Mo_sortOf 10 = .ok (.aload_n 0, 1) := by decide +kernel
theorem d_Mo_sortOf_11 : decode b_Mo_sortOf 11 = .ok (.getfield 19, 3) := by decide +kernel
theorem d_Mo_sortOf_14 : decode b_Mo_sortOf 14 = .ok (.aload_n 0, 1) := by decide +kernel
theorem d_Mo_sortOf_15 : decode b_Mo_sortOf 15 = .ok (.getfield 13, 3) := by decide +kernel
theorem d_Mo_sortOf_18 : decode b_Mo_sortOf 18 = .ok (.iload_n 1, 1) := by decide +kernel
theorem d_Mo_sortOf_19 : decode b_Mo_sortOf 19 = .ok (.iaload, 1) := by decide +kernel
theorem d_Mo_sortOf_20 : decode b_Mo_sortOf 20 = .ok (.iaload, 1) := by decide +kernel
theorem d_Mo_sortOf_21 : decode b_Mo_sortOf 21 = .ok (.goto 9, 3) := by decide +kernel
theorem d_Mo_sortOf_24 : decode b_Mo_sortOf 24 = .ok (.aload_n 0, 1) := by decide +kernel
theorem d_Mo_sortOf_25 : decode b_Mo_sortOf 25 = .ok (.getfield 7, 3) := by decide +kernel
theorem d_Mo_sortOf_28 : decode b_Mo_sortOf 28 = .ok (.iload_n 1, 1) := by decide +kernel
theorem d_Mo_sortOf_29 : decode b_Mo_sortOf 29 = .ok (.iaload, 1) := by decide +kernel
theorem d_Mo_sortOf_30 : decode b_Mo_sortOf 30 = .ok (.ireturn, 1) := by decide +kernel
/-! Mo_isNumber: ('CellHeapModel', 'isNumber', '(I)Z') -/
abbrev b_Mo_isNumber : ByteArray := prog_10_method_37_code
abbrev y_Mo_isNumber : MethodName := ⟨R_Mo, "isNumber", "(I)Z"⟩
abbrev K_Mo_isNumber := CanI y_Mo_isNumber b_Mo_isNumber 2 ((some .boolean)) 1 0 0
theorem I_Mo_isNumber {h : HP} {v1 : Int32} {Φ : Int32 → HP → Prop} (body : ∀ X : CX, Cok X b_Mo_isNumber 2 R_Mo ((some .boolean)) → xR X = rml 1 0 0 → Qok X 0 0 (fun r h2 => ∃ v, r = some (.int v) ∧ Φ v h2) → Wg X 0 0 h [(0, .ref 0), (1, .int v1)] [] 0) : K_Mo_isNumber [.ref 0, .int v1] h Φ := Can.intro (by decide) (fun _ => Nat.le_of_ble_eq_true rfl) body
theorem M_Mo_isNumber : Mv y_Mo_isNumber b_Mo_isNumber 2 ((some .boolean)) 1 8 := ⟨wx_in 1266 (by decide +kernel) rfl, wx_in 1265 (by decide +kernel) rfl, wx_in 43 (by decide +kernel) rfl, wx_in 73 (by decide +kernel) rfl, by decide +kernel, by decide, by decide, _, _, rfl⟩
theorem d_Mo_isNumber_0 : decode b_Mo_isNumber 0 = .ok (.aload_n 0, 1) := by decide +kernel
theorem d_Mo_isNumber_1 : decode b_Mo_isNumber 1 = .ok (.iload_n 1, 1) := by decide +kernel
theorem d_Mo_isNumber_2 : decode b_Mo_isNumber 2 = .ok (.invokevirtual 151, 3) := by decide +kernel
theorem d_Mo_isNumber_5 : decode b_Mo_isNumber 5 = .ok (.iconst 1, 1) := by decide +kernel
theorem d_Mo_isNumber_6 : decode b_Mo_isNumber 6 = .ok (.if_icmp .lt 16, 3) := by decide +kernel
theorem d_Mo_isNumber_9 : decode b_Mo_isNumber 9 = .ok (.aload_n 0, 1) := by decide +kernel
theorem d_Mo_isNumber_10 : decode b_Mo_isNumber 10 = .ok (.iload_n 1, 1) := by decide +kernel
theorem d_Mo_isNumber_11 : decode b_Mo_isNumber 11 = .ok (.invokevirtual 151, 3) := by decide +kernel
theorem d_Mo_isNumber_14 : decode b_Mo_isNumber 14 = .ok (.iconst 3, 1) := by decide +kernel
theorem d_Mo_isNumber_15 : decode b_Mo_isNumber 15 = .ok (.if_icmp .gt 7, 3) := by decide +kernel
theorem d_Mo_isNumber_18 : decode b_Mo_isNumber 18 = .ok (.iconst 1, 1) := by decide +kernel
theorem d_Mo_isNumber_19 : decode b_Mo_isNumber 19 = .ok (.goto 4, 3) := by decide +kernel
theorem d_Mo_isNumber_22 : decode b_Mo_isNumber 22 = .ok (.iconst 0, 1) := by decide +kernel
theorem d_Mo_isNumber_23 : decode b_Mo_isNumber 23 = .ok (.ireturn, 1) := by decide +kernel
/-! Mo_take: ('CellHeapModel', 'take', '(III)V') -/
abbrev b_Mo_take : ByteArray := prog_10_method_38_code
abbrev y_Mo_take : MethodName := ⟨R_Mo, "take", "(III)V"⟩
abbrev K_Mo_take := CanV y_Mo_take b_Mo_take 4 none 3 0 0
theorem I_Mo_take {h : HP} {v1 : Int32} {v2 : Int32} {v3 : Int32} {Φ : HP → Prop} (body : ∀ X : CX, Cok X b_Mo_take 4 R_Mo none → xR X = rml 3 0 0 → Qok X 0 0 (fun r h2 => r = none ∧ Φ h2) → Wg X 0 0 h [(0, .ref 0), (1, .int v1), (2, .int v2), (3, .int v3)] [] 0) : K_Mo_take [.ref 0, .int v1, .int v2, .int v3] h Φ := Can.intro (by decide) (fun _ => Nat.le_of_ble_eq_true rfl) body
theorem M_Mo_take : Mv y_Mo_take b_Mo_take 4 none 3 8 := ⟨wx_in 1270 (by decide +kernel) rfl, wx_in 1269 (by decide +kernel) rfl, wx_in 44 (by decide +kernel) rfl, wx_in 73 (by decide +kernel) rfl, by decide +kernel, by decide, by decide, _, _, rfl⟩
theorem d_Mo_take_0 : decode b_Mo_take 0 = .ok (.aload_n 0, 1) := by decide +kernel
theorem d_Mo_take_1 : decode b_Mo_take 1 = .ok (.iload_n 3, 1) := by decide +kernel
theorem d_Mo_take_2 : decode b_Mo_take 2 = .ok (.invokevirtual 151, 3) := by decide +kernel
theorem d_Mo_take_5 : decode b_Mo_take 5 = .ok (.iconst 3, 1) := by decide +kernel
theorem d_Mo_take_6 : decode b_Mo_take 6 = .ok (.if_icmp .ne 36, 3) := by decide +kernel
theorem d_Mo_take_9 : decode b_Mo_take 9 = .ok (.aload_n 0, 1) := by decide +kernel
theorem d_Mo_take_10 : decode b_Mo_take 10 = .ok (.iload_n 1, 1) := by decide +kernel
theorem d_Mo_take_11 : decode b_Mo_take 11 = .ok (.aload_n 0, 1) := by decide +kernel
theorem d_Mo_take_12 : decode b_Mo_take 12 = .ok (.getfield 13, 3) := by decide +kernel
theorem d_Mo_take_15 : decode b_Mo_take 15 = .ok (.iload_n 3, 1) := by decide +kernel
theorem d_Mo_take_16 : decode b_Mo_take 16 = .ok (.iaload, 1) := by decide +kernel
theorem d_Mo_take_17 : decode b_Mo_take 17 = .ok (.iconst 0, 1) := by decide +kernel
theorem d_Mo_take_18 : decode b_Mo_take 18 = .ok (.invokestatic 104, 3) := by decide +kernel
theorem d_Mo_take_21 : decode b_Mo_take 21 = .ok (.invokevirtual 154, 3) := by decide +kernel
theorem d_Mo_take_24 : decode b_Mo_take 24 = .ok (.aload_n 0, 1) := by decide +kernel
theorem d_Mo_take_25 : decode b_Mo_take 25 = .ok (.iload_n 2, 1) := by decide +kernel
theorem d_Mo_take_26 : decode b_Mo_take 26 = .ok (.aload_n 0, 1) := by decide +kernel
theorem d_Mo_take_27 : decode b_Mo_take 27 = .ok (.getfield 13, 3) := by decide +kernel
theorem d_Mo_take_30 : decode b_Mo_take 30 = .ok (.iload_n 3, 1) := by decide +kernel
theorem d_Mo_take_31 : decode b_Mo_take 31 = .ok (.iaload, 1) := by decide +kernel
theorem d_Mo_take_32 : decode b_Mo_take 32 = .ok (.iconst 1, 1) := by decide +kernel
theorem d_Mo_take_33 : decode b_Mo_take 33 = .ok (.invokestatic 104, 3) := by decide +kernel
theorem d_Mo_take_36 : decode b_Mo_take 36 = .ok (.invokevirtual 154, 3) := by decide +kernel
theorem d_Mo_take_39 : decode b_Mo_take 39 = .ok (.goto 15, 3) := by decide +kernel
theorem d_Mo_take_42 : decode b_Mo_take 42 = .ok (.aload_n 0, 1) := by decide +kernel
theorem d_Mo_take_43 : decode b_Mo_take 43 = .ok (.iload_n 1, 1) := by decide +kernel
theorem d_Mo_take_44 : decode b_Mo_take 44 = .ok (.iload_n 3, 1) := by decide +kernel
theorem d_Mo_take_45 : decode b_Mo_take 45 = .ok (.invokevirtual 154, 3) := by decide +kernel
theorem d_Mo_take_48 : decode b_Mo_take 48 = .ok (.aload_n 0, 1) := by decide +kernel
theorem d_Mo_take_49 : decode b_Mo_take 49 = .ok (.iload_n 2, 1) := by decide +kernel
theorem d_Mo_take_50 : decode b_Mo_take 50 = .ok (.lconst 1, 1) := by decide +kernel
theorem d_Mo_take_51 : decode b_Mo_take 51 = .ok (.invokevirtual 87, 3) := by decide +kernel
theorem d_Mo_take_54 : decode b_Mo_take 54 = .ok (.return_, 1) := by decide +kernel
/-! Mo_nil: ('CellHeapModel', 'nil', '(I)V') -/
abbrev b_Mo_nil : ByteArray := prog_10_method_39_code
abbrev y_Mo_nil : MethodName := ⟨R_Mo, "nil", "(I)V"⟩
abbrev K_Mo_nil := CanV y_Mo_nil b_Mo_nil 2 none 1 0 0
theorem I_Mo_nil {h : HP} {v1 : Int32} {Φ : HP → Prop} (body : ∀ X : CX, Cok X b_Mo_nil 2 R_Mo none → xR X = rml 1 0 0 → Qok X 0 0 (fun r h2 => r = none ∧ Φ h2) → Wg X 0 0 h [(0, .ref 0), (1, .int v1)] [] 0) : K_Mo_nil [.ref 0, .int v1] h Φ := Can.intro (by decide) (fun _ => Nat.le_of_ble_eq_true rfl) body
theorem M_Mo_nil : Mv y_Mo_nil b_Mo_nil 2 none 1 8 := ⟨wx_in 1154 (by decide +kernel) rfl, wx_in 1152 (by decide +kernel) rfl, wx_in 1153 (by decide +kernel) rfl, wx_in 73 (by decide +kernel) rfl, by decide +kernel, by decide, by decide, _, _, rfl⟩
theorem d_Mo_nil_0 : decode b_Mo_nil 0 = .ok (.aload_n 0, 1) := by decide +kernel
theorem d_Mo_nil_1 : decode b_Mo_nil 1 = .ok (.iload_n 1, 1) := by decide +kernel
theorem d_Mo_nil_2 : decode b_Mo_nil 2 = .ok (.invokestatic 157, 3) := by decide +kernel
theorem d_Mo_nil_5 : decode b_Mo_nil 5 = .ok (.ifCond .eq 7, 3) := by decide +kernel
theorem d_Mo_nil_8 : decode b_Mo_nil 8 = .ok (.iconst 0, 1) := by decide +kernel
theorem d_Mo_nil_9 : decode b_Mo_nil 9 = .ok (.goto 4, 3) := by decide +kernel
theorem d_Mo_nil_12 : decode b_Mo_nil 12 = .ok (.iconst 1, 1) := by decide +kernel
theorem d_Mo_nil_13 : decode b_Mo_nil 13 = .ok (.invokevirtual 160, 3) := by decide +kernel
theorem d_Mo_nil_16 : decode b_Mo_nil 16 = .ok (.ifCond .eq 4, 3) := by decide +kernel
theorem d_Mo_nil_19 : decode b_Mo_nil 19 = .ok (.return_, 1) := by decide +kernel
theorem d_Mo_nil_20 : decode b_Mo_nil 20 = .ok (.aload_n 0, 1) := by decide +kernel
theorem d_Mo_nil_21 : decode b_Mo_nil 21 = .ok (.iload_n 1, 1) := by decide +kernel
theorem d_Mo_nil_22 : decode b_Mo_nil 22 = .ok (.iconst 0, 1) := by decide +kernel
theorem d_Mo_nil_23 : decode b_Mo_nil 23 = .ok (.iconst 0, 1) := by decide +kernel
theorem d_Mo_nil_24 : decode b_Mo_nil 24 = .ok (.invokevirtual 127, 3) := by decide +kernel
theorem d_Mo_nil_27 : decode b_Mo_nil 27 = .ok (.return_, 1) := by decide +kernel
/-! Mo_load: ('CellHeapModel', 'load', '(IJ)I') -/
abbrev b_Mo_load : ByteArray := prog_10_method_40_code
abbrev y_Mo_load : MethodName := ⟨R_Mo, "load", "(IJ)I"⟩
abbrev K_Mo_load := CanI y_Mo_load b_Mo_load 4 ((some .int)) 5 0 0
theorem I_Mo_load {h : HP} {v1 : Int32} {v2 : Int64} {Φ : Int32 → HP → Prop} (body : ∀ X : CX, Cok X b_Mo_load 4 R_Mo ((some .int)) → xR X = rml 5 0 0 → Qok X 0 0 (fun r h2 => ∃ v, r = some (.int v) ∧ Φ v h2) → Wg X 0 0 h [(0, .ref 0), (1, .int v1), (2, .long v2)] [] 0) : K_Mo_load [.ref 0, .int v1, .long v2] h Φ := Can.intro (by decide) (fun _ => Nat.le_of_ble_eq_true rfl) body
theorem M_Mo_load : Mv y_Mo_load b_Mo_load 4 ((some .int)) 2 8 := ⟨wx_in 1169 (by decide +kernel) rfl, wx_in 1167 (by decide +kernel) rfl, wx_in 1168 (by decide +kernel) rfl, wx_in 73 (by decide +kernel) rfl, by decide +kernel, by decide, by decide, _, _, rfl⟩
theorem d_Mo_load_0 : decode b_Mo_load 0 = .ok (.aload_n 0, 1) := by decide +kernel
theorem d_Mo_load_1 : decode b_Mo_load 1 = .ok (.iload_n 1, 1) := by decide +kernel
theorem d_Mo_load_2 : decode b_Mo_load 2 = .ok (.invokestatic 157, 3) := by decide +kernel
theorem d_Mo_load_5 : decode b_Mo_load 5 = .ok (.ifCond .eq 7, 3) := by decide +kernel
theorem d_Mo_load_8 : decode b_Mo_load 8 = .ok (.iconst 0, 1) := by decide +kernel
theorem d_Mo_load_9 : decode b_Mo_load 9 = .ok (.goto 4, 3) := by decide +kernel
theorem d_Mo_load_12 : decode b_Mo_load 12 = .ok (.iconst 1, 1) := by decide +kernel
theorem d_Mo_load_13 : decode b_Mo_load 13 = .ok (.invokevirtual 160, 3) := by decide +kernel
theorem d_Mo_load_16 : decode b_Mo_load 16 = .ok (.ifCond .eq 5, 3) := by decide +kernel
theorem d_Mo_load_19 : decode b_Mo_load 19 = .ok (.iconst 0, 1) := by decide +kernel
theorem d_Mo_load_20 : decode b_Mo_load 20 = .ok (.ireturn, 1) := by decide +kernel
theorem d_Mo_load_21 : decode b_Mo_load 21 = .ok (.aload_n 0, 1) := by decide +kernel
theorem d_Mo_load_22 : decode b_Mo_load 22 = .ok (.iconst 4, 1) := by decide +kernel
theorem d_Mo_load_23 : decode b_Mo_load 23 = .ok (.lload_n 2, 1) := by decide +kernel
theorem d_Mo_load_24 : decode b_Mo_load 24 = .ok (.invokevirtual 87, 3) := by decide +kernel
theorem d_Mo_load_27 : decode b_Mo_load 27 = .ok (.aload_n 0, 1) := by decide +kernel
theorem d_Mo_load_28 : decode b_Mo_load 28 = .ok (.iconst 5, 1) := by decide +kernel
theorem d_Mo_load_29 : decode b_Mo_load 29 = .ok (.lconst 1, 1) := by decide +kernel
theorem d_Mo_load_30 : decode b_Mo_load 30 = .ok (.invokevirtual 87, 3) := by decide +kernel
theorem d_Mo_load_33 : decode b_Mo_load 33 = .ok (.aload_n 0, 1) := by decide +kernel
theorem d_Mo_load_34 : decode b_Mo_load 34 = .ok (.iload_n 1, 1) := by decide +kernel
theorem d_Mo_load_35 : decode b_Mo_load 35 = .ok (.invokevirtual 163, 3) := by decide +kernel
theorem d_Mo_load_38 : decode b_Mo_load 38 = .ok (.ireturn, 1) := by decide +kernel
/-! Mo_copy: ('CellHeapModel', 'copy', '(II)V') -/
abbrev b_Mo_copy : ByteArray := prog_10_method_41_code
abbrev y_Mo_copy : MethodName := ⟨R_Mo, "copy", "(II)V"⟩
abbrev K_Mo_copy := CanV y_Mo_copy b_Mo_copy 3 none 1 0 0
theorem I_Mo_copy {h : HP} {v1 : Int32} {v2 : Int32} {Φ : HP → Prop} (body : ∀ X : CX, Cok X b_Mo_copy 3 R_Mo none → xR X = rml 1 0 0 → Qok X 0 0 (fun r h2 => r = none ∧ Φ h2) → Wg X 0 0 h [(0, .ref 0), (1, .int v1), (2, .int v2)] [] 0) : K_Mo_copy [.ref 0, .int v1, .int v2] h Φ := Can.intro (by decide) (fun _ => Nat.le_of_ble_eq_true rfl) body
theorem M_Mo_copy : Mv y_Mo_copy b_Mo_copy 3 none 2 8 := ⟨wx_in 1242 (by decide +kernel) rfl, wx_in 1240 (by decide +kernel) rfl, wx_in 1241 (by decide +kernel) rfl, wx_in 73 (by decide +kernel) rfl, by decide +kernel, by decide, by decide, _, _, rfl⟩
theorem d_Mo_copy_0 : decode b_Mo_copy 0 = .ok (.aload_n 0, 1) := by decide +kernel
theorem d_Mo_copy_1 : decode b_Mo_copy 1 = .ok (.iload_n 1, 1) := by decide +kernel
theorem d_Mo_copy_2 : decode b_Mo_copy 2 = .ok (.invokestatic 157, 3) := by decide +kernel
theorem d_Mo_copy_5 : decode b_Mo_copy 5 = .ok (.ifCond .eq 14, 3) := by decide +kernel
theorem d_Mo_copy_8 : decode b_Mo_copy 8 = .ok (.iload_n 2, 1) := by decide +kernel
theorem d_Mo_copy_9 : decode b_Mo_copy 9 = .ok (.invokestatic 157, 3) := by decide +kernel
theorem d_Mo_copy_12 : decode b_Mo_copy 12 = .ok (.ifCond .eq 7, 3) := by decide +kernel
theorem d_Mo_copy_15 : decode b_Mo_copy 15 = .ok (.iconst 0, 1) := by decide +kernel
theorem d_Mo_copy_16 : decode b_Mo_copy 16 = .ok (.goto 4, 3) := by decide +kernel
theorem d_Mo_copy_19 : decode b_Mo_copy 19 = .ok (.iconst 1, 1) := by decide +kernel
theorem d_Mo_copy_20 : decode b_Mo_copy 20 = .ok (.invokevirtual 160, 3) := by decide +kernel
theorem d_Mo_copy_23 : decode b_Mo_copy 23 = .ok (.ifCond .eq 4, 3) := by decide +kernel
theorem d_Mo_copy_26 : decode b_Mo_copy 26 = .ok (.return_, 1) := by decide +kernel
theorem d_Mo_copy_27 : decode b_Mo_copy 27 = .ok (.aload_n 0, 1) := by decide +kernel
theorem d_Mo_copy_28 : decode b_Mo_copy 28 = .ok (.iload_n 1, 1) := by decide +kernel
theorem d_Mo_copy_29 : decode b_Mo_copy 29 = .ok (.iload_n 2, 1) := by decide +kernel
theorem d_Mo_copy_30 : decode b_Mo_copy 30 = .ok (.invokevirtual 148, 3) := by decide +kernel
theorem d_Mo_copy_33 : decode b_Mo_copy 33 = .ok (.return_, 1) := by decide +kernel
/-! Mo_cons: ('CellHeapModel', 'cons', '(III)I') -/
abbrev b_Mo_cons : ByteArray := prog_10_method_42_code
abbrev y_Mo_cons : MethodName := ⟨R_Mo, "cons", "(III)I"⟩
abbrev K_Mo_cons := CanI y_Mo_cons b_Mo_cons 6 ((some .int)) 4 0 0
theorem I_Mo_cons {h : HP} {v1 : Int32} {v2 : Int32} {v3 : Int32} {Φ : Int32 → HP → Prop} (body : ∀ X : CX, Cok X b_Mo_cons 6 R_Mo ((some .int)) → xR X = rml 4 0 0 → Qok X 0 0 (fun r h2 => ∃ v, r = some (.int v) ∧ Φ v h2) → Wg X 0 0 h [(0, .ref 0), (1, .int v1), (2, .int v2), (3, .int v3)] [] 0) : K_Mo_cons [.ref 0, .int v1, .int v2, .int v3] h Φ := Can.intro (by decide) (fun _ => Nat.le_of_ble_eq_true rfl) body
theorem M_Mo_cons : Mv y_Mo_cons b_Mo_cons 6 ((some .int)) 3 8 := ⟨wx_in 1246 (by decide +kernel) rfl, wx_in 1244 (by decide +kernel) rfl, wx_in 1245 (by decide +kernel) rfl, wx_in 73 (by decide +kernel) rfl, by decide +kernel, by decide, by decide, _, _, rfl⟩
theorem d_Mo_cons_0 : decode b_Mo_cons 0 = .ok (.aload_n 0, 1) := by decide +kernel
theorem d_Mo_cons_1 : decode b_Mo_cons 1 = .ok (.iload_n 1, 1) := by decide +kernel
theorem d_Mo_cons_2 : decode b_Mo_cons 2 = .ok (.invokestatic 157, 3) := by decide +kernel
theorem d_Mo_cons_5 : decode b_Mo_cons 5 = .ok (.ifCond .eq 21, 3) := by decide +kernel
theorem d_Mo_cons_8 : decode b_Mo_cons 8 = .ok (.iload_n 2, 1) := by decide +kernel
theorem d_Mo_cons_9 : decode b_Mo_cons 9 = .ok (.invokestatic 157, 3) := by decide +kernel
theorem d_Mo_cons_12 : decode b_Mo_cons 12 = .ok (.ifCond .eq 14, 3) := by decide +kernel
theorem d_Mo_cons_15 : decode b_Mo_cons 15 = .ok (.iload_n 3, 1) := by decide +kernel
theorem d_Mo_cons_16 : decode b_Mo_cons 16 = .ok (.invokestatic 157, 3) := by decide +kernel
theorem d_Mo_cons_19 : decode b_Mo_cons 19 = .ok (.ifCond .eq 7, 3) := by decide +kernel
theorem d_Mo_cons_22 : decode b_Mo_cons 22 = .ok (.iconst 0, 1) := by decide +kernel
theorem d_Mo_cons_23 : decode b_Mo_cons 23 = .ok (.goto 4, 3) := by decide +kernel
theorem d_Mo_cons_26 : decode b_Mo_cons 26 = .ok (.iconst 1, 1) := by decide +kernel
theorem d_Mo_cons_27 : decode b_Mo_cons 27 = .ok (.invokevirtual 160, 3) := by decide +kernel
theorem d_Mo_cons_30 : decode b_Mo_cons 30 = .ok (.ifCond .eq 5, 3) := by decide +kernel
theorem d_Mo_cons_33 : decode b_Mo_cons 33 = .ok (.iconst 0, 1) := by decide +kernel
theorem d_Mo_cons_34 : decode b_Mo_cons 34 = .ok (.ireturn, 1) := by decide +kernel
theorem d_Mo_cons_35 : decode b_Mo_cons 35 = .ok (.aload_n 0, 1) := by decide +kernel
theorem d_Mo_cons_36 : decode b_Mo_cons 36 = .ok (.iconst 3, 1) := by decide +kernel
theorem d_Mo_cons_37 : decode b_Mo_cons 37 = .ok (.invokevirtual 142, 3) := by decide +kernel
theorem d_Mo_cons_40 : decode b_Mo_cons 40 = .ok (.ifCond .ne 6, 3) := by decide +kernel
theorem d_Mo_cons_43 : decode b_Mo_cons 43 = .ok (.bipush (-2), 2) := by decide +kernel
theorem d_Mo_cons_45 : decode b_Mo_cons 45 = .ok (.ireturn, 1) := by decide +kernel
theorem d_Mo_cons_46 : decode b_Mo_cons 46 = .ok (.aload_n 0, 1) := by decide +kernel
theorem d_Mo_cons_47 : decode b_Mo_cons 47 = .ok (.getfield 114, 3) := by decide +kernel
theorem d_Mo_cons_50 : decode b_Mo_cons 50 = .ok (.istore 4, 2) := by decide +kernel
theorem d_Mo_cons_52 : decode b_Mo_cons 52 = .ok (.aload_n 0, 1) := by decide +kernel
theorem d_Mo_cons_53 : decode b_Mo_cons 53 = .ok (.iconst 4, 1) := by decide +kernel
theorem d_Mo_cons_54 : decode b_Mo_cons 54 = .ok (.iconst 3, 1) := by decide +kernel
theorem d_Mo_cons_55 : decode b_Mo_cons 55 = .ok (.invokevirtual 133, 3) := by decide +kernel
theorem d_Mo_cons_58 : decode b_Mo_cons 58 = .ok (.istore 5, 2) := by decide +kernel
theorem d_Mo_cons_60 : decode b_Mo_cons 60 = .ok (.aload_n 0, 1) := by decide +kernel
theorem d_Mo_cons_61 : decode b_Mo_cons 61 = .ok (.iload 5, 2) := by decide +kernel
theorem d_Mo_cons_63 : decode b_Mo_cons 63 = .ok (.iconst 0, 1) := by decide +kernel
theorem d_Mo_cons_64 : decode b_Mo_cons 64 = .ok (.invokestatic 104, 3) := by decide +kernel
theorem d_Mo_cons_67 : decode b_Mo_cons 67 = .ok (.iload_n 2, 1) := by decide +kernel
theorem d_Mo_cons_68 : decode b_Mo_cons 68 = .ok (.invokevirtual 148, 3) := by decide +kernel
theorem d_Mo_cons_71 : decode b_Mo_cons 71 = .ok (.aload_n 0, 1) := by decide +kernel
theorem d_Mo_cons_72 : decode b_Mo_cons 72 = .ok (.iload 5, 2) := by decide +kernel
theorem d_Mo_cons_74 : decode b_Mo_cons 74 = .ok (.iconst 1, 1) := by decide +kernel
theorem d_Mo_cons_75 : decode b_Mo_cons 75 = .ok (.invokestatic 104, 3) := by decide +kernel
theorem d_Mo_cons_78 : decode b_Mo_cons 78 = .ok (.iload_n 3, 1) := by decide +kernel
theorem d_Mo_cons_79 : decode b_Mo_cons 79 = .ok (.invokevirtual 148, 3) := by decide +kernel
theorem d_Mo_cons_82 : decode b_Mo_cons 82 = .ok (.aload_n 0, 1) := by decide +kernel
theorem d_Mo_cons_83 : decode b_Mo_cons 83 = .ok (.iload_n 1, 1) := by decide +kernel
theorem d_Mo_cons_84 : decode b_Mo_cons 84 = .ok (.iconst 2, 1) := by decide +kernel
theorem d_Mo_cons_85 : decode b_Mo_cons 85 = .ok (.iload 5, 2) := by decide +kernel
theorem d_Mo_cons_87 : decode b_Mo_cons 87 = .ok (.invokevirtual 127, 3) := by decide +kernel
theorem d_Mo_cons_90 : decode b_Mo_cons 90 = .ok (.iload 4, 2) := by decide +kernel
theorem d_Mo_cons_92 : decode b_Mo_cons 92 = .ok (.ireturn, 1) := by decide +kernel
/-! Mo_part: ('CellHeapModel', 'part', '(IIZ)I') -/
abbrev b_Mo_part : ByteArray := prog_10_method_43_code
abbrev y_Mo_part : MethodName := ⟨R_Mo, "part", "(IIZ)I"⟩
abbrev K_Mo_part := CanI y_Mo_part b_Mo_part 4 ((some .int)) 1 0 0
theorem I_Mo_part {h : HP} {v1 : Int32} {v2 : Int32} {v3 : Int32} {Φ : Int32 → HP → Prop} (body : ∀ X : CX, Cok X b_Mo_part 4 R_Mo ((some .int)) → xR X = rml 1 0 0 → Qok X 0 0 (fun r h2 => ∃ v, r = some (.int v) ∧ Φ v h2) → Wg X 0 0 h [(0, .ref 0), (1, .int v1), (2, .int v2), (3, .int v3)] [] 0) : K_Mo_part [.ref 0, .int v1, .int v2, .int v3] h Φ := Can.intro (by decide) (fun _ => Nat.le_of_ble_eq_true rfl) body
theorem M_Mo_part : Mv y_Mo_part b_Mo_part 4 ((some .int)) 3 8 := ⟨wx_in 1250 (by decide +kernel) rfl, wx_in 1248 (by decide +kernel) rfl, wx_in 1249 (by decide +kernel) rfl, wx_in 73 (by decide +kernel) rfl, by decide +kernel, by decide, by decide, _, _, rfl⟩
theorem d_Mo_part_0 : decode b_Mo_part 0 = .ok (.aload_n 0, 1) := by decide +kernel
theorem d_Mo_part_1 : decode b_Mo_part 1 = .ok (.iload_n 1, 1) := by decide +kernel
theorem d_Mo_part_2 : decode b_Mo_part 2 = .ok (.invokestatic 157, 3) := by decide +kernel
theorem d_Mo_part_5 : decode b_Mo_part 5 = .ok (.ifCond .eq 14, 3) := by decide +kernel
theorem d_Mo_part_8 : decode b_Mo_part 8 = .ok (.iload_n 2, 1) := by decide +kernel
theorem d_Mo_part_9 : decode b_Mo_part 9 = .ok (.invokestatic 157, 3) := by decide +kernel
theorem d_Mo_part_12 : decode b_Mo_part 12 = .ok (.ifCond .eq 7, 3) := by decide +kernel
theorem d_Mo_part_15 : decode b_Mo_part 15 = .ok (.iconst 0, 1) := by decide +kernel
theorem d_Mo_part_16 : decode b_Mo_part 16 = .ok (.goto 4, 3) := by decide +kernel
theorem d_Mo_part_19 : decode b_Mo_part 19 = .ok (.iconst 1, 1) := by decide +kernel
theorem d_Mo_part_20 : decode b_Mo_part 20 = .ok (.invokevirtual 160, 3) := by decide +kernel
theorem d_Mo_part_23 : decode b_Mo_part 23 = .ok (.ifCond .eq 5, 3) := by decide +kernel
theorem d_Mo_part_26 : decode b_Mo_part 26 = .ok (.iconst 0, 1) := by decide +kernel
theorem d_Mo_part_27 : decode b_Mo_part 27 = .ok (.ireturn, 1) := by decide +kernel
theorem d_Mo_part_28 : decode b_Mo_part 28 = .ok (.aload_n 0, 1) := by decide +kernel
theorem d_Mo_part_29 : decode b_Mo_part 29 = .ok (.iload_n 2, 1) := by decide +kernel
theorem d_Mo_part_30 : decode b_Mo_part 30 = .ok (.invokevirtual 151, 3) := by decide +kernel
theorem d_Mo_part_33 : decode b_Mo_part 33 = .ok (.iconst 4, 1) := by decide +kernel
theorem d_Mo_part_34 : decode b_Mo_part 34 = .ok (.if_icmp .eq 6, 3) := by decide +kernel
theorem d_Mo_part_37 : decode b_Mo_part 37 = .ok (.bipush (-4), 2) := by decide +kernel
theorem d_Mo_part_39 : decode b_Mo_part 39 = .ok (.ireturn, 1) := by decide +kernel
theorem d_Mo_part_40 : decode b_Mo_part 40 = .ok (.aload_n 0, 1) := by decide +kernel
theorem d_Mo_part_41 : decode b_Mo_part 41 = .ok (.iload_n 1, 1) := by decide +kernel
theorem d_Mo_part_42 : decode b_Mo_part 42 = .ok (.aload_n 0, 1) := by decide +kernel
theorem d_Mo_part_43 : decode b_Mo_part 43 = .ok (.getfield 13, 3) := by decide +kernel
theorem d_Mo_part_46 : decode b_Mo_part 46 = .ok (.iload_n 2, 1) := by decide +kernel
theorem d_Mo_part_47 : decode b_Mo_part 47 = .ok (.iaload, 1) := by decide +kernel
theorem d_Mo_part_48 : decode b_Mo_part 48 = .ok (.iload_n 3, 1) := by decide +kernel
theorem d_Mo_part_49 : decode b_Mo_part 49 = .ok (.ifCond .eq 7, 3) := by decide +kernel
theorem d_Mo_part_52 : decode b_Mo_part 52 = .ok (.iconst 0, 1) := by decide +kernel
theorem d_Mo_part_53 : decode b_Mo_part 53 = .ok (.goto 4, 3) := by decide +kernel
theorem d_Mo_part_56 : decode b_Mo_part 56 = .ok (.iconst 1, 1) := by decide +kernel
theorem d_Mo_part_57 : decode b_Mo_part 57 = .ok (.invokestatic 104, 3) := by decide +kernel
theorem d_Mo_part_60 : decode b_Mo_part 60 = .ok (.invokevirtual 148, 3) := by decide +kernel
theorem d_Mo_part_63 : decode b_Mo_part 63 = .ok (.iconst 0, 1) := by decide +kernel
theorem d_Mo_part_64 : decode b_Mo_part 64 = .ok (.ireturn, 1) := by decide +kernel
/-! Mo_change: ('CellHeapModel', 'change', '(IZI)I') -/
abbrev b_Mo_change : ByteArray := prog_10_method_44_code
abbrev y_Mo_change : MethodName := ⟨R_Mo, "change", "(IZI)I"⟩
abbrev K_Mo_change := CanI y_Mo_change b_Mo_change 4 ((some .int)) 1 0 0
theorem I_Mo_change {h : HP} {v1 : Int32} {v2 : Int32} {v3 : Int32} {Φ : Int32 → HP → Prop} (body : ∀ X : CX, Cok X b_Mo_change 4 R_Mo ((some .int)) → xR X = rml 1 0 0 → Qok X 0 0 (fun r h2 => ∃ v, r = some (.int v) ∧ Φ v h2) → Wg X 0 0 h [(0, .ref 0), (1, .int v1), (2, .int v2), (3, .int v3)] [] 0) : K_Mo_change [.ref 0, .int v1, .int v2, .int v3] h Φ := Can.intro (by decide) (fun _ => Nat.le_of_ble_eq_true rfl) body
theorem M_Mo_change : Mv y_Mo_change b_Mo_change 4 ((some .int)) 3 8 := ⟨wx_in 1258 (by decide +kernel) rfl, wx_in 1256 (by decide +kernel) rfl, wx_in 1257 (by decide +kernel) rfl, wx_in 73 (by decide +kernel) rfl, by decide +kernel, by decide, by decide, _, _, rfl⟩
theorem d_Mo_change_0 : decode b_Mo_change 0 = .ok (.aload_n 0, 1) := by decide +kernel
theorem d_Mo_change_1 : decode b_Mo_change 1 = .ok (.iload_n 1, 1) := by decide +kernel
theorem d_Mo_change_2 : decode b_Mo_change 2 = .ok (.invokestatic 157, 3) := by decide +kernel
theorem d_Mo_change_5 : decode b_Mo_change 5 = .ok (.ifCond .eq 14, 3) := by decide +kernel
theorem d_Mo_change_8 : decode b_Mo_change 8 = .ok (.iload_n 3, 1) := by decide +kernel
theorem d_Mo_change_9 : decode b_Mo_change 9 = .ok (.invokestatic 157, 3) := by decide +kernel
theorem d_Mo_change_12 : decode b_Mo_change 12 = .ok (.ifCond .eq 7, 3) := by decide +kernel
theorem d_Mo_change_15 : decode b_Mo_change 15 = .ok (.iconst 0, 1) := by decide +kernel
theorem d_Mo_change_16 : decode b_Mo_change 16 = .ok (.goto 4, 3) := by decide +kernel
theorem d_Mo_change_19 : decode b_Mo_change 19 = .ok (.iconst 1, 1) := by decide +kernel
theorem d_Mo_change_20 : decode b_Mo_change 20 = .ok (.invokevirtual 160, 3) := by decide +kernel
theorem d_Mo_change_23 : decode b_Mo_change 23 = .ok (.ifCond .eq 5, 3) := by decide +kernel
theorem d_Mo_change_26 : decode b_Mo_change 26 = .ok (.iconst 0, 1) := by decide +kernel
theorem d_Mo_change_27 : decode b_Mo_change 27 = .ok (.ireturn, 1) := by decide +kernel
theorem d_Mo_change_28 : decode b_Mo_change 28 = .ok (.aload_n 0, 1) := by decide +kernel
theorem d_Mo_change_29 : decode b_Mo_change 29 = .ok (.iload_n 1, 1) := by decide +kernel
theorem d_Mo_change_30 : decode b_Mo_change 30 = .ok (.invokevirtual 151, 3) := by decide +kernel
theorem d_Mo_change_33 : decode b_Mo_change 33 = .ok (.iconst 4, 1) := by decide +kernel
theorem d_Mo_change_34 : decode b_Mo_change 34 = .ok (.if_icmp .eq 6, 3) := by decide +kernel
theorem d_Mo_change_37 : decode b_Mo_change 37 = .ok (.bipush (-4), 2) := by decide +kernel
theorem d_Mo_change_39 : decode b_Mo_change 39 = .ok (.ireturn, 1) := by decide +kernel
theorem d_Mo_change_40 : decode b_Mo_change 40 = .ok (.aload_n 0, 1) := by decide +kernel
theorem d_Mo_change_41 : decode b_Mo_change 41 = .ok (.aload_n 0, 1) := by decide +kernel
theorem d_Mo_change_42 : decode b_Mo_change 42 = .ok (.getfield 13, 3) := by decide +kernel
theorem d_Mo_change_45 : decode b_Mo_change 45 = .ok (.iload_n 1, 1) := by decide +kernel
theorem d_Mo_change_46 : decode b_Mo_change 46 = .ok (.iaload, 1) := by decide +kernel
theorem d_Mo_change_47 : decode b_Mo_change 47 = .ok (.iload_n 2, 1) := by decide +kernel
theorem d_Mo_change_48 : decode b_Mo_change 48 = .ok (.ifCond .eq 7, 3) := by decide +kernel
theorem d_Mo_change_51 : decode b_Mo_change 51 = .ok (.iconst 0, 1) := by decide +kernel
theorem d_Mo_change_52 : decode b_Mo_change 52 = .ok (.goto 4, 3) := by decide +kernel
theorem d_Mo_change_55 : decode b_Mo_change 55 = .ok (.iconst 1, 1) := by decide +kernel
theorem d_Mo_change_56 : decode b_Mo_change 56 = .ok (.invokestatic 104, 3) := by decide +kernel
theorem d_Mo_change_59 : decode b_Mo_change 59 = .ok (.iload_n 3, 1) := by decide +kernel
theorem d_Mo_change_60 : decode b_Mo_change 60 = .ok (.invokevirtual 148, 3) := by decide +kernel
theorem d_Mo_change_63 : decode b_Mo_change 63 = .ok (.iconst 0, 1) := by decide +kernel
theorem d_Mo_change_64 : decode b_Mo_change 64 = .ok (.ireturn, 1) := by decide +kernel
/-! Mo_workWhole: ('CellHeapModel', 'workWhole', '(II)I') -/
abbrev b_Mo_workWhole : ByteArray := prog_10_method_45_code
abbrev y_Mo_workWhole : MethodName := ⟨R_Mo, "workWhole", "(II)I"⟩
abbrev K_Mo_workWhole := CanI y_Mo_workWhole b_Mo_workWhole 5 ((some .int)) 5 0 0
theorem I_Mo_workWhole {h : HP} {v1 : Int32} {v2 : Int32} {Φ : Int32 → HP → Prop} (body : ∀ X : CX, Cok X b_Mo_workWhole 5 R_Mo ((some .int)) → xR X = rml 5 0 0 → Qok X 0 0 (fun r h2 => ∃ v, r = some (.int v) ∧ Φ v h2) → Wg X 0 0 h [(0, .ref 0), (1, .int v1), (2, .int v2)] [] 0) : K_Mo_workWhole [.ref 0, .int v1, .int v2] h Φ := Can.intro (by decide) (fun _ => Nat.le_of_ble_eq_true rfl) body
theorem M_Mo_workWhole : Mv y_Mo_workWhole b_Mo_workWhole 5 ((some .int)) 2 8 := ⟨wx_in 1278 (by decide +kernel) rfl, wx_in 1277 (by decide +kernel) rfl, wx_in 46 (by decide +kernel) rfl, wx_in 73 (by decide +kernel) rfl, by decide +kernel, by decide, by decide, _, _, rfl⟩
theorem d_Mo_workWhole_0 : decode b_Mo_workWhole 0 = .ok (.iload_n 2, 1) := by decide +kernel
theorem d_Mo_workWhole_1 : decode b_Mo_workWhole 1 = .ok (.bipush 6, 2) := by decide +kernel
theorem d_Mo_workWhole_3 : decode b_Mo_workWhole 3 = .ok (.if_icmp .ne 19, 3) := by decide +kernel
theorem d_Mo_workWhole_6 : decode b_Mo_workWhole 6 = .ok (.aload_n 0, 1) := by decide +kernel
theorem d_Mo_workWhole_7 : decode b_Mo_workWhole 7 = .ok (.iconst 0, 1) := by decide +kernel
theorem d_Mo_workWhole_8 : decode b_Mo_workWhole 8 = .ok (.iconst 2, 1) := by decide +kernel
theorem d_Mo_workWhole_9 : decode b_Mo_workWhole 9 = .ok (.invokevirtual 98, 3) := by decide +kernel
theorem d_Mo_workWhole_12 : decode b_Mo_workWhole 12 = .ok (.aload_n 0, 1) := by decide +kernel
theorem d_Mo_workWhole_13 : decode b_Mo_workWhole 13 = .ok (.iconst 4, 1) := by decide +kernel
theorem d_Mo_workWhole_14 : decode b_Mo_workWhole 14 = .ok (.bipush 10, 2) := by decide +kernel
theorem d_Mo_workWhole_16 : decode b_Mo_workWhole 16 = .ok (.invokevirtual 80, 3) := by decide +kernel
theorem d_Mo_workWhole_19 : decode b_Mo_workWhole 19 = .ok (.goto 93, 3) := by decide +kernel
theorem d_Mo_workWhole_22 : decode b_Mo_workWhole 22 = .ok (.aload_n 0, 1) := by decide +kernel
theorem d_Mo_workWhole_23 : decode b_Mo_workWhole 23 = .ok (.getfield 35, 3) := by decide +kernel
theorem d_Mo_workWhole_26 : decode b_Mo_workWhole 26 = .ok (.iconst 2, 1) := by decide +kernel
theorem d_Mo_workWhole_27 : decode b_Mo_workWhole 27 = .ok (.iaload, 1) := by decide +kernel
theorem d_Mo_workWhole_28 : decode b_Mo_workWhole 28 = .ok (.ifCond .ne 6, 3) := by decide +kernel
theorem d_Mo_workWhole_31 : decode b_Mo_workWhole 31 = .ok (.bipush (-5), 2) := by decide +kernel
theorem d_Mo_workWhole_33 : decode b_Mo_workWhole 33 = .ok (.ireturn, 1) := by decide +kernel
theorem d_Mo_workWhole_34 : decode b_Mo_workWhole 34 = .ok (.aload_n 0, 1) := by decide +kernel
theorem d_Mo_workWhole_35 : decode b_Mo_workWhole 35 = .ok (.getfield 38, 3) := by decide +kernel
theorem d_Mo_workWhole_38 : decode b_Mo_workWhole 38 = .ok (.iconst 0, 1) := by decide +kernel
theorem d_Mo_workWhole_39 : decode b_Mo_workWhole 39 = .ok (.baload, 1) := by decide +kernel
theorem d_Mo_workWhole_40 : decode b_Mo_workWhole 40 = .ok (.istore_n 3, 1) := by decide +kernel
theorem d_Mo_workWhole_41 : decode b_Mo_workWhole 41 = .ok (.aload_n 0, 1) := by decide +kernel
theorem d_Mo_workWhole_42 : decode b_Mo_workWhole 42 = .ok (.getfield 38, 3) := by decide +kernel
theorem d_Mo_workWhole_45 : decode b_Mo_workWhole 45 = .ok (.iconst 2, 1) := by decide +kernel
theorem d_Mo_workWhole_46 : decode b_Mo_workWhole 46 = .ok (.baload, 1) := by decide +kernel
theorem d_Mo_workWhole_47 : decode b_Mo_workWhole 47 = .ok (.istore 4, 2) := by decide +kernel
theorem d_Mo_workWhole_49 : decode b_Mo_workWhole 49 = .ok (.aload_n 0, 1) := by decide +kernel
theorem d_Mo_workWhole_50 : decode b_Mo_workWhole 50 = .ok (.bipush 12, 2) := by decide +kernel
theorem d_Mo_workWhole_52 : decode b_Mo_workWhole 52 = .ok (.iconst 0, 1) := by decide +kernel
theorem d_Mo_workWhole_53 : decode b_Mo_workWhole 53 = .ok (.iconst 2, 1) := by decide +kernel
theorem d_Mo_workWhole_54 : decode b_Mo_workWhole 54 = .ok (.invokevirtual 101, 3) := by decide +kernel
theorem d_Mo_workWhole_57 : decode b_Mo_workWhole 57 = .ok (.aload_n 0, 1) := by decide +kernel
theorem d_Mo_workWhole_58 : decode b_Mo_workWhole 58 = .ok (.iconst 4, 1) := by decide +kernel
theorem d_Mo_workWhole_59 : decode b_Mo_workWhole 59 = .ok (.iload_n 2, 1) := by decide +kernel
theorem d_Mo_workWhole_60 : decode b_Mo_workWhole 60 = .ok (.iconst 4, 1) := by decide +kernel
theorem d_Mo_workWhole_61 : decode b_Mo_workWhole 61 = .ok (.if_icmp .ne 8, 3) := by decide +kernel
theorem d_Mo_workWhole_64 : decode b_Mo_workWhole 64 = .ok (.bipush 12, 2) := by decide +kernel
theorem d_Mo_workWhole_66 : decode b_Mo_workWhole 66 = .ok (.goto 5, 3) := by decide +kernel
theorem d_Mo_workWhole_69 : decode b_Mo_workWhole 69 = .ok (.bipush 9, 2) := by decide +kernel
theorem d_Mo_workWhole_71 : decode b_Mo_workWhole 71 = .ok (.invokevirtual 80, 3) := by decide +kernel
theorem d_Mo_workWhole_74 : decode b_Mo_workWhole 74 = .ok (.aload_n 0, 1) := by decide +kernel
theorem d_Mo_workWhole_75 : decode b_Mo_workWhole 75 = .ok (.getfield 38, 3) := by decide +kernel
theorem d_Mo_workWhole_78 : decode b_Mo_workWhole 78 = .ok (.iconst 4, 1) := by decide +kernel
theorem d_Mo_workWhole_79 : decode b_Mo_workWhole 79 = .ok (.aload_n 0, 1) := by decide +kernel
theorem d_Mo_workWhole_80 : decode b_Mo_workWhole 80 = .ok (.getfield 35, 3) := by decide +kernel
theorem d_Mo_workWhole_83 : decode b_Mo_workWhole 83 = .ok (.iconst 4, 1) := by decide +kernel
theorem d_Mo_workWhole_84 : decode b_Mo_workWhole 84 = .ok (.iaload, 1) := by decide +kernel
theorem d_Mo_workWhole_85 : decode b_Mo_workWhole 85 = .ok (.ifCond .le 25, 3) := by decide +kernel
theorem d_Mo_workWhole_88 : decode b_Mo_workWhole 88 = .ok (.iload_n 2, 1) := by decide +kernel
theorem d_Mo_workWhole_89 : decode b_Mo_workWhole 89 = .ok (.iconst 4, 1) := by decide +kernel
theorem d_Mo_workWhole_90 : decode b_Mo_workWhole 90 = .ok (.if_icmp .ne 12, 3) := by decide +kernel
theorem d_Mo_workWhole_93 : decode b_Mo_workWhole 93 = .ok (.iload_n 3, 1) := by decide +kernel
theorem d_Mo_workWhole_94 : decode b_Mo_workWhole 94 = .ok (.iload 4, 2) := by decide +kernel
theorem d_Mo_workWhole_96 : decode b_Mo_workWhole 96 = .ok (.if_icmp .eq 14, 3) := by decide +kernel
theorem d_Mo_workWhole_99 : decode b_Mo_workWhole 99 = .ok (.goto 7, 3) := by decide +kernel
theorem d_Mo_workWhole_102 : decode b_Mo_workWhole 102 = .ok (.iload_n 3, 1) := by decide +kernel
theorem d_Mo_workWhole_103 : decode b_Mo_workWhole 103 = .ok (.ifCond .eq 7, 3) := by decide +kernel
theorem d_Mo_workWhole_106 : decode b_Mo_workWhole 106 = .ok (.iconst 1, 1) := by decide +kernel
theorem d_Mo_workWhole_107 : decode b_Mo_workWhole 107 = .ok (.goto 4, 3) := by decide +kernel
theorem d_Mo_workWhole_110 : decode b_Mo_workWhole 110 = .ok (.iconst 0, 1) := by decide +kernel
theorem d_Mo_workWhole_111 : decode b_Mo_workWhole 111 = .ok (.bastore, 1) := by decide +kernel
theorem d_Mo_workWhole_112 : decode b_Mo_workWhole 112 = .ok (.aload_n 0, 1) := by decide +kernel
theorem d_Mo_workWhole_113 : decode b_Mo_workWhole 113 = .ok (.iconst 5, 1) := by decide +kernel
theorem d_Mo_workWhole_114 : decode b_Mo_workWhole 114 = .ok (.lconst 1, 1) := by decide +kernel
theorem d_Mo_workWhole_115 : decode b_Mo_workWhole 115 = .ok (.invokevirtual 87, 3) := by decide +kernel
theorem d_Mo_workWhole_118 : decode b_Mo_workWhole 118 = .ok (.aload_n 0, 1) := by decide +kernel
theorem d_Mo_workWhole_119 : decode b_Mo_workWhole 119 = .ok (.iload_n 1, 1) := by decide +kernel
theorem d_Mo_workWhole_120 : decode b_Mo_workWhole 120 = .ok (.invokevirtual 163, 3) := by decide +kernel
theorem d_Mo_workWhole_123 : decode b_Mo_workWhole 123 = .ok (.ireturn, 1) := by decide +kernel
/-! Mo_work: ('CellHeapModel', 'work', '(IIII)I') -/
abbrev b_Mo_work : ByteArray := prog_10_method_46_code
abbrev y_Mo_work : MethodName := ⟨R_Mo, "work", "(IIII)I"⟩
abbrev K_Mo_work := CanI y_Mo_work b_Mo_work 5 ((some .int)) 6 0 0
theorem I_Mo_work {h : HP} {v1 : Int32} {v2 : Int32} {v3 : Int32} {v4 : Int32} {Φ : Int32 → HP → Prop} (body : ∀ X : CX, Cok X b_Mo_work 5 R_Mo ((some .int)) → xR X = rml 6 0 0 → Qok X 0 0 (fun r h2 => ∃ v, r = some (.int v) ∧ Φ v h2) → Wg X 0 0 h [(0, .ref 0), (1, .int v1), (2, .int v2), (3, .int v3), (4, .int v4)] [] 0) : K_Mo_work [.ref 0, .int v1, .int v2, .int v3, .int v4] h Φ := Can.intro (by decide) (fun _ => Nat.le_of_ble_eq_true rfl) body
theorem M_Mo_work : Mv y_Mo_work b_Mo_work 5 ((some .int)) 4 8 := ⟨wx_in 1262 (by decide +kernel) rfl, wx_in 1260 (by decide +kernel) rfl, wx_in 1261 (by decide +kernel) rfl, wx_in 73 (by decide +kernel) rfl, by decide +kernel, by decide, by decide, _, _, rfl⟩
theorem d_Mo_work_0 : decode b_Mo_work 0 = .ok (.aload_n 0, 1) := by decide +kernel
theorem d_Mo_work_1 : decode b_Mo_work 1 = .ok (.iload_n 1, 1) := by decide +kernel
theorem d_Mo_work_2 : decode b_Mo_work 2 = .ok (.invokestatic 157, 3) := by decide +kernel
theorem d_Mo_work_5 : decode b_Mo_work 5 = .ok (.ifCond .eq 33, 3) := by decide +kernel
theorem d_Mo_work_8 : decode b_Mo_work 8 = .ok (.iload_n 2, 1) := by decide +kernel
theorem d_Mo_work_9 : decode b_Mo_work 9 = .ok (.invokestatic 157, 3) := by decide +kernel
theorem d_Mo_work_12 : decode b_Mo_work 12 = .ok (.ifCond .eq 26, 3) := by decide +kernel
theorem d_Mo_work_15 : decode b_Mo_work 15 = .ok (.iload_n 3, 1) := by decide +kernel
theorem d_Mo_work_16 : decode b_Mo_work 16 = .ok (.invokestatic 157, 3) := by decide +kernel
theorem d_Mo_work_19 : decode b_Mo_work 19 = .ok (.ifCond .eq 19, 3) := by decide +kernel
theorem d_Mo_work_22 : decode b_Mo_work 22 = .ok (.iload 4, 2) := by decide +kernel
theorem d_Mo_work_24 : decode b_Mo_work 24 = .ok (.ifCond .lt 14, 3) := by decide +kernel
theorem d_Mo_work_27 : decode b_Mo_work 27 = .ok (.iload 4, 2) := by decide +kernel
theorem d_Mo_work_29 : decode b_Mo_work 29 = .ok (.bipush 6, 2) := by decide +kernel
theorem d_Mo_work_31 : decode b_Mo_work 31 = .ok (.if_icmp .gt 7, 3) := by decide +kernel
theorem d_Mo_work_34 : decode b_Mo_work 34 = .ok (.iconst 0, 1) := by decide +kernel
theorem d_Mo_work_35 : decode b_Mo_work 35 = .ok (.goto 4, 3) := by decide +kernel
theorem d_Mo_work_38 : decode b_Mo_work 38 = .ok (.iconst 1, 1) := by decide +kernel
theorem d_Mo_work_39 : decode b_Mo_work 39 = .ok (.invokevirtual 160, 3) := by decide +kernel
theorem d_Mo_work_42 : decode b_Mo_work 42 = .ok (.ifCond .eq 5, 3) := by decide +kernel
theorem d_Mo_work_45 : decode b_Mo_work 45 = .ok (.iconst 0, 1) := by decide +kernel
theorem d_Mo_work_46 : decode b_Mo_work 46 = .ok (.ireturn, 1) := by decide +kernel
theorem d_Mo_work_47 : decode b_Mo_work 47 = .ok (.aload_n 0, 1) := by decide +kernel
theorem d_Mo_work_48 : decode b_Mo_work 48 = .ok (.iload_n 2, 1) := by decide +kernel
theorem d_Mo_work_49 : decode b_Mo_work 49 = .ok (.invokevirtual 166, 3) := by decide +kernel
theorem d_Mo_work_52 : decode b_Mo_work 52 = .ok (.ifCond .eq 35, 3) := by decide +kernel
theorem d_Mo_work_55 : decode b_Mo_work 55 = .ok (.aload_n 0, 1) := by decide +kernel
theorem d_Mo_work_56 : decode b_Mo_work 56 = .ok (.iload_n 3, 1) := by decide +kernel
theorem d_Mo_work_57 : decode b_Mo_work 57 = .ok (.invokevirtual 166, 3) := by decide +kernel
theorem d_Mo_work_60 : decode b_Mo_work 60 = .ok (.ifCond .eq 27, 3) := by decide +kernel
theorem d_Mo_work_63 : decode b_Mo_work 63 = .ok (.iload 4, 2) := by decide +kernel
theorem d_Mo_work_65 : decode b_Mo_work 65 = .ok (.iconst 3, 1) := by decide +kernel
theorem d_Mo_work_66 : decode b_Mo_work 66 = .ok (.if_icmp .le 24, 3) := by decide +kernel
theorem d_Mo_work_69 : decode b_Mo_work 69 = .ok (.aload_n 0, 1) := by decide +kernel
theorem d_Mo_work_70 : decode b_Mo_work 70 = .ok (.iload_n 2, 1) := by decide +kernel
theorem d_Mo_work_71 : decode b_Mo_work 71 = .ok (.invokevirtual 151, 3) := by decide +kernel
theorem d_Mo_work_74 : decode b_Mo_work 74 = .ok (.iconst 3, 1) := by decide +kernel
theorem d_Mo_work_75 : decode b_Mo_work 75 = .ok (.if_icmp .eq 12, 3) := by decide +kernel
theorem d_Mo_work_78 : decode b_Mo_work 78 = .ok (.aload_n 0, 1) := by decide +kernel
theorem d_Mo_work_79 : decode b_Mo_work 79 = .ok (.iload_n 3, 1) := by decide +kernel
theorem d_Mo_work_80 : decode b_Mo_work 80 = .ok (.invokevirtual 151, 3) := by decide +kernel
theorem d_Mo_work_83 : decode b_Mo_work 83 = .ok (.iconst 3, 1) := by decide +kernel
theorem d_Mo_work_84 : decode b_Mo_work 84 = .ok (.if_icmp .ne 6, 3) := by decide +kernel
theorem d_Mo_work_87 : decode b_Mo_work 87 = .ok (.bipush (-4), 2) := by decide +kernel
theorem d_Mo_work_89 : decode b_Mo_work 89 = .ok (.ireturn, 1) := by decide +kernel
theorem d_Mo_work_90 : decode b_Mo_work 90 = .ok (.aload_n 0, 1) := by decide +kernel
theorem d_Mo_work_91 : decode b_Mo_work 91 = .ok (.iconst 0, 1) := by decide +kernel
theorem d_Mo_work_92 : decode b_Mo_work 92 = .ok (.iconst 1, 1) := by decide +kernel
theorem d_Mo_work_93 : decode b_Mo_work 93 = .ok (.iload_n 2, 1) := by decide +kernel
theorem d_Mo_work_94 : decode b_Mo_work 94 = .ok (.invokevirtual 169, 3) := by decide +kernel
theorem d_Mo_work_97 : decode b_Mo_work 97 = .ok (.aload_n 0, 1) := by decide +kernel
theorem d_Mo_work_98 : decode b_Mo_work 98 = .ok (.iconst 2, 1) := by decide +kernel
theorem d_Mo_work_99 : decode b_Mo_work 99 = .ok (.iconst 3, 1) := by decide +kernel
theorem d_Mo_work_100 : decode b_Mo_work 100 = .ok (.iload_n 3, 1) := by decide +kernel
theorem d_Mo_work_101 : decode b_Mo_work 101 = .ok (.invokevirtual 169, 3) := by decide +kernel
theorem d_Mo_work_104 : decode b_Mo_work 104 = .ok (.iload 4, 2) := by decide +kernel
theorem d_Mo_work_106 : decode b_Mo_work 106 = .ok (.iconst 3, 1) := by decide +kernel
theorem d_Mo_work_107 : decode b_Mo_work 107 = .ok (.if_icmp .le 11, 3) := by decide +kernel
theorem d_Mo_work_110 : decode b_Mo_work 110 = .ok (.aload_n 0, 1) := by decide +kernel
theorem d_Mo_work_111 : decode b_Mo_work 111 = .ok (.iload_n 1, 1) := by decide +kernel
theorem d_Mo_work_112 : decode b_Mo_work 112 = .ok (.iload 4, 2) := by decide +kernel
theorem d_Mo_work_114 : decode b_Mo_work 114 = .ok (.invokevirtual 172, 3) := by decide +kernel
theorem d_Mo_work_117 : decode b_Mo_work 117 = .ok (.ireturn, 1) := by decide +kernel
theorem d_Mo_work_118 : decode b_Mo_work 118 = .ok (.iload 4, 2) := by decide +kernel
theorem d_Mo_work_120 : decode b_Mo_work 120 = .ok (.iconst 3, 1) := by decide +kernel
theorem d_Mo_work_121 : decode b_Mo_work 121 = .ok (.if_icmp .ne 15, 3) := by decide +kernel
theorem d_Mo_work_124 : decode b_Mo_work 124 = .ok (.aload_n 0, 1) := by decide +kernel
theorem d_Mo_work_125 : decode b_Mo_work 125 = .ok (.getfield 35, 3) := by decide +kernel
theorem d_Mo_work_128 : decode b_Mo_work 128 = .ok (.iconst 2, 1) := by decide +kernel
theorem d_Mo_work_129 : decode b_Mo_work 129 = .ok (.iaload, 1) := by decide +kernel
theorem d_Mo_work_130 : decode b_Mo_work 130 = .ok (.ifCond .ne 6, 3) := by decide +kernel
theorem d_Mo_work_133 : decode b_Mo_work 133 = .ok (.bipush (-5), 2) := by decide +kernel
theorem d_Mo_work_135 : decode b_Mo_work 135 = .ok (.ireturn, 1) := by decide +kernel
theorem d_Mo_work_136 : decode b_Mo_work 136 = .ok (.iload 4, 2) := by decide +kernel
theorem d_Mo_work_138 : decode b_Mo_work 138 = .ok (.iconst 2, 1) := by decide +kernel
theorem d_Mo_work_139 : decode b_Mo_work 139 = .ok (.if_icmp .ge 49, 3) := by decide +kernel
theorem d_Mo_work_142 : decode b_Mo_work 142 = .ok (.aload_n 0, 1) := by decide +kernel
theorem d_Mo_work_143 : decode b_Mo_work 143 = .ok (.bipush 6, 2) := by decide +kernel
theorem d_Mo_work_145 : decode b_Mo_work 145 = .ok (.iconst 0, 1) := by decide +kernel
theorem d_Mo_work_146 : decode b_Mo_work 146 = .ok (.iconst 3, 1) := by decide +kernel
theorem d_Mo_work_147 : decode b_Mo_work 147 = .ok (.invokevirtual 175, 3) := by decide +kernel
theorem d_Mo_work_150 : decode b_Mo_work 150 = .ok (.aload_n 0, 1) := by decide +kernel
theorem d_Mo_work_151 : decode b_Mo_work 151 = .ok (.bipush 7, 2) := by decide +kernel
theorem d_Mo_work_153 : decode b_Mo_work 153 = .ok (.iconst 2, 1) := by decide +kernel
theorem d_Mo_work_154 : decode b_Mo_work 154 = .ok (.iconst 1, 1) := by decide +kernel
theorem d_Mo_work_155 : decode b_Mo_work 155 = .ok (.invokevirtual 175, 3) := by decide +kernel
theorem d_Mo_work_158 : decode b_Mo_work 158 = .ok (.aload_n 0, 1) := by decide +kernel
theorem d_Mo_work_159 : decode b_Mo_work 159 = .ok (.iconst 4, 1) := by decide +kernel
theorem d_Mo_work_160 : decode b_Mo_work 160 = .ok (.bipush 6, 2) := by decide +kernel
theorem d_Mo_work_162 : decode b_Mo_work 162 = .ok (.bipush 7, 2) := by decide +kernel
theorem d_Mo_work_164 : decode b_Mo_work 164 = .ok (.iload 4, 2) := by decide +kernel
theorem d_Mo_work_166 : decode b_Mo_work 166 = .ok (.iconst 1, 1) := by decide +kernel
theorem d_Mo_work_167 : decode b_Mo_work 167 = .ok (.if_icmp .ne 7, 3) := by decide +kernel
theorem d_Mo_work_170 : decode b_Mo_work 170 = .ok (.iconst 1, 1) := by decide +kernel
theorem d_Mo_work_171 : decode b_Mo_work 171 = .ok (.goto 4, 3) := by decide +kernel
theorem d_Mo_work_174 : decode b_Mo_work 174 = .ok (.iconst 0, 1) := by decide +kernel
theorem d_Mo_work_175 : decode b_Mo_work 175 = .ok (.invokevirtual 178, 3) := by decide +kernel
theorem d_Mo_work_178 : decode b_Mo_work 178 = .ok (.aload_n 0, 1) := by decide +kernel
theorem d_Mo_work_179 : decode b_Mo_work 179 = .ok (.iconst 5, 1) := by decide +kernel
theorem d_Mo_work_180 : decode b_Mo_work 180 = .ok (.iconst 1, 1) := by decide +kernel
theorem d_Mo_work_181 : decode b_Mo_work 181 = .ok (.iconst 3, 1) := by decide +kernel
theorem d_Mo_work_182 : decode b_Mo_work 182 = .ok (.invokevirtual 175, 3) := by decide +kernel
theorem d_Mo_work_185 : decode b_Mo_work 185 = .ok (.goto 37, 3) := by decide +kernel
theorem d_Mo_work_188 : decode b_Mo_work 188 = .ok (.aload_n 0, 1) := by decide +kernel
theorem d_Mo_work_189 : decode b_Mo_work 189 = .ok (.iconst 4, 1) := by decide +kernel
theorem d_Mo_work_190 : decode b_Mo_work 190 = .ok (.iconst 0, 1) := by decide +kernel
theorem d_Mo_work_191 : decode b_Mo_work 191 = .ok (.iload 4, 2) := by decide +kernel
theorem d_Mo_work_193 : decode b_Mo_work 193 = .ok (.iconst 2, 1) := by decide +kernel
theorem d_Mo_work_194 : decode b_Mo_work 194 = .ok (.if_icmp .ne 7, 3) := by decide +kernel
theorem d_Mo_work_197 : decode b_Mo_work 197 = .ok (.iconst 2, 1) := by decide +kernel
theorem d_Mo_work_198 : decode b_Mo_work 198 = .ok (.goto 4, 3) := by decide +kernel
theorem d_Mo_work_201 : decode b_Mo_work 201 = .ok (.iconst 3, 1) := by decide +kernel
theorem d_Mo_work_202 : decode b_Mo_work 202 = .ok (.invokevirtual 175, 3) := by decide +kernel
theorem d_Mo_work_205 : decode b_Mo_work 205 = .ok (.aload_n 0, 1) := by decide +kernel
theorem d_Mo_work_206 : decode b_Mo_work 206 = .ok (.iconst 5, 1) := by decide +kernel
theorem d_Mo_work_207 : decode b_Mo_work 207 = .ok (.iconst 1, 1) := by decide +kernel
theorem d_Mo_work_208 : decode b_Mo_work 208 = .ok (.iload 4, 2) := by decide +kernel
theorem d_Mo_work_210 : decode b_Mo_work 210 = .ok (.iconst 2, 1) := by decide +kernel
theorem d_Mo_work_211 : decode b_Mo_work 211 = .ok (.if_icmp .ne 7, 3) := by decide +kernel
theorem d_Mo_work_214 : decode b_Mo_work 214 = .ok (.iconst 3, 1) := by decide +kernel
theorem d_Mo_work_215 : decode b_Mo_work 215 = .ok (.goto 4, 3) := by decide +kernel
theorem d_Mo_work_218 : decode b_Mo_work 218 = .ok (.iconst 2, 1) := by decide +kernel
theorem d_Mo_work_219 : decode b_Mo_work 219 = .ok (.invokevirtual 175, 3) := by decide +kernel
theorem d_Mo_work_222 : decode b_Mo_work 222 = .ok (.aload_n 0, 1) := by decide +kernel
theorem d_Mo_work_223 : decode b_Mo_work 223 = .ok (.invokevirtual 182, 3) := by decide +kernel
theorem d_Mo_work_226 : decode b_Mo_work 226 = .ok (.aload_n 0, 1) := by decide +kernel
theorem d_Mo_work_227 : decode b_Mo_work 227 = .ok (.iload_n 1, 1) := by decide +kernel
theorem d_Mo_work_228 : decode b_Mo_work 228 = .ok (.invokevirtual 163, 3) := by decide +kernel
theorem d_Mo_work_231 : decode b_Mo_work 231 = .ok (.ireturn, 1) := by decide +kernel
/-! Mo_compare: ('CellHeapModel', 'compare', '(II)I') -/
abbrev b_Mo_compare : ByteArray := prog_10_method_47_code
abbrev y_Mo_compare : MethodName := ⟨R_Mo, "compare", "(II)I"⟩
abbrev K_Mo_compare := CanI y_Mo_compare b_Mo_compare 3 ((some .int)) 4 0 0
theorem I_Mo_compare {h : HP} {v1 : Int32} {v2 : Int32} {Φ : Int32 → HP → Prop} (body : ∀ X : CX, Cok X b_Mo_compare 3 R_Mo ((some .int)) → xR X = rml 4 0 0 → Qok X 0 0 (fun r h2 => ∃ v, r = some (.int v) ∧ Φ v h2) → Wg X 0 0 h [(0, .ref 0), (1, .int v1), (2, .int v2)] [] 0) : K_Mo_compare [.ref 0, .int v1, .int v2] h Φ := Can.intro (by decide) (fun _ => Nat.le_of_ble_eq_true rfl) body
theorem M_Mo_compare : Mv y_Mo_compare b_Mo_compare 3 ((some .int)) 2 8 := ⟨wx_in 1326 (by decide +kernel) rfl, wx_in 1324 (by decide +kernel) rfl, wx_in 1325 (by decide +kernel) rfl, wx_in 73 (by decide +kernel) rfl, by decide +kernel, by decide, by decide, _, _, rfl⟩
theorem d_Mo_compare_0 : decode b_Mo_compare 0 = .ok (.aload_n 0, 1) := by decide +kernel
theorem d_Mo_compare_1 : decode b_Mo_compare 1 = .ok (.iload_n 1, 1) := by decide +kernel
theorem d_Mo_compare_2 : decode b_Mo_compare 2 = .ok (.invokestatic 157, 3) := by decide +kernel
theorem d_Mo_compare_5 : decode b_Mo_compare 5 = .ok (.ifCond .eq 14, 3) := by decide +kernel
theorem d_Mo_compare_8 : decode b_Mo_compare 8 = .ok (.iload_n 2, 1) := by decide +kernel
theorem d_Mo_compare_9 : decode b_Mo_compare 9 = .ok (.invokestatic 157, 3) := by decide +kernel
theorem d_Mo_compare_12 : decode b_Mo_compare 12 = .ok (.ifCond .eq 7, 3) := by decide +kernel
theorem d_Mo_compare_15 : decode b_Mo_compare 15 = .ok (.iconst 0, 1) := by decide +kernel
theorem d_Mo_compare_16 : decode b_Mo_compare 16 = .ok (.goto 4, 3) := by decide +kernel
theorem d_Mo_compare_19 : decode b_Mo_compare 19 = .ok (.iconst 1, 1) := by decide +kernel
theorem d_Mo_compare_20 : decode b_Mo_compare 20 = .ok (.invokevirtual 160, 3) := by decide +kernel
theorem d_Mo_compare_23 : decode b_Mo_compare 23 = .ok (.ifCond .eq 5, 3) := by decide +kernel
theorem d_Mo_compare_26 : decode b_Mo_compare 26 = .ok (.iconst 0, 1) := by decide +kernel
theorem d_Mo_compare_27 : decode b_Mo_compare 27 = .ok (.ireturn, 1) := by decide +kernel
theorem d_Mo_compare_28 : decode b_Mo_compare 28 = .ok (.aload_n 0, 1) := by decide +kernel
theorem d_Mo_compare_29 : decode b_Mo_compare 29 = .ok (.iload_n 1, 1) := by decide +kernel
theorem d_Mo_compare_30 : decode b_Mo_compare 30 = .ok (.invokevirtual 166, 3) := by decide +kernel
theorem d_Mo_compare_33 : decode b_Mo_compare 33 = .ok (.ifCond .eq 11, 3) := by decide +kernel
theorem d_Mo_compare_36 : decode b_Mo_compare 36 = .ok (.aload_n 0, 1) := by decide +kernel
theorem d_Mo_compare_37 : decode b_Mo_compare 37 = .ok (.iload_n 2, 1) := by decide +kernel
theorem d_Mo_compare_38 : decode b_Mo_compare 38 = .ok (.invokevirtual 166, 3) := by decide +kernel
theorem d_Mo_compare_41 : decode b_Mo_compare 41 = .ok (.ifCond .ne 6, 3) := by decide +kernel
theorem d_Mo_compare_44 : decode b_Mo_compare 44 = .ok (.bipush (-4), 2) := by decide +kernel
theorem d_Mo_compare_46 : decode b_Mo_compare 46 = .ok (.ireturn, 1) := by decide +kernel
theorem d_Mo_compare_47 : decode b_Mo_compare 47 = .ok (.aload_n 0, 1) := by decide +kernel
theorem d_Mo_compare_48 : decode b_Mo_compare 48 = .ok (.iconst 0, 1) := by decide +kernel
theorem d_Mo_compare_49 : decode b_Mo_compare 49 = .ok (.iconst 1, 1) := by decide +kernel
theorem d_Mo_compare_50 : decode b_Mo_compare 50 = .ok (.iload_n 1, 1) := by decide +kernel
theorem d_Mo_compare_51 : decode b_Mo_compare 51 = .ok (.invokevirtual 169, 3) := by decide +kernel
theorem d_Mo_compare_54 : decode b_Mo_compare 54 = .ok (.aload_n 0, 1) := by decide +kernel
theorem d_Mo_compare_55 : decode b_Mo_compare 55 = .ok (.iconst 2, 1) := by decide +kernel
theorem d_Mo_compare_56 : decode b_Mo_compare 56 = .ok (.iconst 3, 1) := by decide +kernel
theorem d_Mo_compare_57 : decode b_Mo_compare 57 = .ok (.iload_n 2, 1) := by decide +kernel
theorem d_Mo_compare_58 : decode b_Mo_compare 58 = .ok (.invokevirtual 169, 3) := by decide +kernel
theorem d_Mo_compare_61 : decode b_Mo_compare 61 = .ok (.aload_n 0, 1) := by decide +kernel
theorem d_Mo_compare_62 : decode b_Mo_compare 62 = .ok (.bipush 6, 2) := by decide +kernel
theorem d_Mo_compare_64 : decode b_Mo_compare 64 = .ok (.iconst 0, 1) := by decide +kernel
theorem d_Mo_compare_65 : decode b_Mo_compare 65 = .ok (.iconst 3, 1) := by decide +kernel
theorem d_Mo_compare_66 : decode b_Mo_compare 66 = .ok (.invokevirtual 175, 3) := by decide +kernel
theorem d_Mo_compare_69 : decode b_Mo_compare 69 = .ok (.aload_n 0, 1) := by decide +kernel
theorem d_Mo_compare_70 : decode b_Mo_compare 70 = .ok (.bipush 7, 2) := by decide +kernel
theorem d_Mo_compare_72 : decode b_Mo_compare 72 = .ok (.iconst 2, 1) := by decide +kernel
theorem d_Mo_compare_73 : decode b_Mo_compare 73 = .ok (.iconst 1, 1) := by decide +kernel
theorem d_Mo_compare_74 : decode b_Mo_compare 74 = .ok (.invokevirtual 175, 3) := by decide +kernel
theorem d_Mo_compare_77 : decode b_Mo_compare 77 = .ok (.aload_n 0, 1) := by decide +kernel
theorem d_Mo_compare_78 : decode b_Mo_compare 78 = .ok (.bipush 8, 2) := by decide +kernel
theorem d_Mo_compare_80 : decode b_Mo_compare 80 = .ok (.bipush 6, 2) := by decide +kernel
theorem d_Mo_compare_82 : decode b_Mo_compare 82 = .ok (.bipush 7, 2) := by decide +kernel
theorem d_Mo_compare_84 : decode b_Mo_compare 84 = .ok (.iconst 1, 1) := by decide +kernel
theorem d_Mo_compare_85 : decode b_Mo_compare 85 = .ok (.invokevirtual 178, 3) := by decide +kernel
theorem d_Mo_compare_88 : decode b_Mo_compare 88 = .ok (.aload_n 0, 1) := by decide +kernel
theorem d_Mo_compare_89 : decode b_Mo_compare 89 = .ok (.getfield 35, 3) := by decide +kernel
theorem d_Mo_compare_92 : decode b_Mo_compare 92 = .ok (.bipush 8, 2) := by decide +kernel
theorem d_Mo_compare_94 : decode b_Mo_compare 94 = .ok (.iaload, 1) := by decide +kernel
theorem d_Mo_compare_95 : decode b_Mo_compare 95 = .ok (.ifCond .ne 7, 3) := by decide +kernel
theorem d_Mo_compare_98 : decode b_Mo_compare 98 = .ok (.iconst 0, 1) := by decide +kernel
theorem d_Mo_compare_99 : decode b_Mo_compare 99 = .ok (.goto 18, 3) := by decide +kernel
theorem d_Mo_compare_102 : decode b_Mo_compare 102 = .ok (.aload_n 0, 1) := by decide +kernel
theorem d_Mo_compare_103 : decode b_Mo_compare 103 = .ok (.getfield 38, 3) := by decide +kernel
theorem d_Mo_compare_106 : decode b_Mo_compare 106 = .ok (.bipush 8, 2) := by decide +kernel
theorem d_Mo_compare_108 : decode b_Mo_compare 108 = .ok (.baload, 1) := by decide +kernel
theorem d_Mo_compare_109 : decode b_Mo_compare 109 = .ok (.ifCond .eq 7, 3) := by decide +kernel
theorem d_Mo_compare_112 : decode b_Mo_compare 112 = .ok (.iconst (-1), 1) := by decide +kernel
theorem d_Mo_compare_113 : decode b_Mo_compare 113 = .ok (.goto 4, 3) := by decide +kernel
theorem d_Mo_compare_116 : decode b_Mo_compare 116 = .ok (.iconst 1, 1) := by decide +kernel
theorem d_Mo_compare_117 : decode b_Mo_compare 117 = .ok (.ireturn, 1) := by decide +kernel
/-! Mo_same: ('CellHeapModel', 'same', '(II)Z') -/
abbrev b_Mo_same : ByteArray := prog_10_method_48_code
abbrev y_Mo_same : MethodName := ⟨R_Mo, "same", "(II)Z"⟩
abbrev K_Mo_same := CanI y_Mo_same b_Mo_same 3 ((some .boolean)) 1 0 0
theorem I_Mo_same {h : HP} {v1 : Int32} {v2 : Int32} {Φ : Int32 → HP → Prop} (body : ∀ X : CX, Cok X b_Mo_same 3 R_Mo ((some .boolean)) → xR X = rml 1 0 0 → Qok X 0 0 (fun r h2 => ∃ v, r = some (.int v) ∧ Φ v h2) → Wg X 0 0 h [(0, .ref 0), (1, .int v1), (2, .int v2)] [] 0) : K_Mo_same [.ref 0, .int v1, .int v2] h Φ := Can.intro (by decide) (fun _ => Nat.le_of_ble_eq_true rfl) body
theorem M_Mo_same : Mv y_Mo_same b_Mo_same 3 ((some .boolean)) 2 8 := ⟨wx_in 1330 (by decide +kernel) rfl, wx_in 1328 (by decide +kernel) rfl, wx_in 1329 (by decide +kernel) rfl, wx_in 73 (by decide +kernel) rfl, by decide +kernel, by decide, by decide, _, _, rfl⟩
theorem d_Mo_same_0 : decode b_Mo_same 0 = .ok (.aload_n 0, 1) := by decide +kernel
theorem d_Mo_same_1 : decode b_Mo_same 1 = .ok (.iload_n 1, 1) := by decide +kernel
theorem d_Mo_same_2 : decode b_Mo_same 2 = .ok (.invokestatic 157, 3) := by decide +kernel
theorem d_Mo_same_5 : decode b_Mo_same 5 = .ok (.ifCond .eq 14, 3) := by decide +kernel
theorem d_Mo_same_8 : decode b_Mo_same 8 = .ok (.iload_n 2, 1) := by decide +kernel
theorem d_Mo_same_9 : decode b_Mo_same 9 = .ok (.invokestatic 157, 3) := by decide +kernel
theorem d_Mo_same_12 : decode b_Mo_same 12 = .ok (.ifCond .eq 7, 3) := by decide +kernel
theorem d_Mo_same_15 : decode b_Mo_same 15 = .ok (.iconst 0, 1) := by decide +kernel
theorem d_Mo_same_16 : decode b_Mo_same 16 = .ok (.goto 4, 3) := by decide +kernel
theorem d_Mo_same_19 : decode b_Mo_same 19 = .ok (.iconst 1, 1) := by decide +kernel
theorem d_Mo_same_20 : decode b_Mo_same 20 = .ok (.invokevirtual 160, 3) := by decide +kernel
theorem d_Mo_same_23 : decode b_Mo_same 23 = .ok (.ifCond .eq 5, 3) := by decide +kernel
theorem d_Mo_same_26 : decode b_Mo_same 26 = .ok (.iconst 0, 1) := by decide +kernel
theorem d_Mo_same_27 : decode b_Mo_same 27 = .ok (.ireturn, 1) := by decide +kernel
theorem d_Mo_same_28 : decode b_Mo_same 28 = .ok (.aload_n 0, 1) := by decide +kernel
theorem d_Mo_same_29 : decode b_Mo_same 29 = .ok (.getfield 7, 3) := by decide +kernel
theorem d_Mo_same_32 : decode b_Mo_same 32 = .ok (.iload_n 1, 1) := by decide +kernel
theorem d_Mo_same_33 : decode b_Mo_same 33 = .ok (.iaload, 1) := by decide +kernel
theorem d_Mo_same_34 : decode b_Mo_same 34 = .ok (.aload_n 0, 1) := by decide +kernel
theorem d_Mo_same_35 : decode b_Mo_same 35 = .ok (.getfield 7, 3) := by decide +kernel
theorem d_Mo_same_38 : decode b_Mo_same 38 = .ok (.iload_n 2, 1) := by decide +kernel
theorem d_Mo_same_39 : decode b_Mo_same 39 = .ok (.iaload, 1) := by decide +kernel
theorem d_Mo_same_40 : decode b_Mo_same 40 = .ok (.if_icmp .ne 31, 3) := by decide +kernel
theorem d_Mo_same_43 : decode b_Mo_same 43 = .ok (.aload_n 0, 1) := by decide +kernel
theorem d_Mo_same_44 : decode b_Mo_same 44 = .ok (.getfield 7, 3) := by decide +kernel
theorem d_Mo_same_47 : decode b_Mo_same 47 = .ok (.iload_n 1, 1) := by decide +kernel
theorem d_Mo_same_48 : decode b_Mo_same 48 = .ok (.iaload, 1) := by decide +kernel
theorem d_Mo_same_49 : decode b_Mo_same 49 = .ok (.ifCond .eq 18, 3) := by decide +kernel
theorem d_Mo_same_52 : decode b_Mo_same 52 = .ok (.aload_n 0, 1) := by decide +kernel
theorem d_Mo_same_53 : decode b_Mo_same 53 = .ok (.getfield 13, 3) := by decide +kernel
theorem d_Mo_same_56 : decode b_Mo_same 56 = .ok (.iload_n 1, 1) := by decide +kernel
theorem d_Mo_same_57 : decode b_Mo_same 57 = .ok (.iaload, 1) := by decide +kernel
theorem d_Mo_same_58 : decode b_Mo_same 58 = .ok (.aload_n 0, 1) := by decide +kernel
theorem d_Mo_same_59 : decode b_Mo_same 59 = .ok (.getfield 13, 3) := by decide +kernel
theorem d_Mo_same_62 : decode b_Mo_same 62 = .ok (.iload_n 2, 1) := by decide +kernel
theorem d_Mo_same_63 : decode b_Mo_same 63 = .ok (.iaload, 1) := by decide +kernel
theorem d_Mo_same_64 : decode b_Mo_same 64 = .ok (.if_icmp .ne 7, 3) := by decide +kernel
theorem d_Mo_same_67 : decode b_Mo_same 67 = .ok (.iconst 1, 1) := by decide +kernel
theorem d_Mo_same_68 : decode b_Mo_same 68 = .ok (.goto 4, 3) := by decide +kernel
theorem d_Mo_same_71 : decode b_Mo_same 71 = .ok (.iconst 0, 1) := by decide +kernel
theorem d_Mo_same_72 : decode b_Mo_same 72 = .ok (.ireturn, 1) := by decide +kernel
/-! Mo_put: ('CellHeapModel', 'put', '(II)V') -/
abbrev b_Mo_put : ByteArray := prog_10_method_49_code
abbrev y_Mo_put : MethodName := ⟨R_Mo, "put", "(II)V"⟩
abbrev K_Mo_put := CanV y_Mo_put b_Mo_put 4 none 0 0 0
theorem I_Mo_put {h : HP} {v1 : Int32} {v2 : Int32} {Φ : HP → Prop} (body : ∀ X : CX, Cok X b_Mo_put 4 R_Mo none → xR X = rml 0 0 0 → Qok X 0 0 (fun r h2 => r = none ∧ Φ h2) → Wg X 0 0 h [(0, .ref 0), (1, .int v1), (2, .int v2)] [] 0) : K_Mo_put [.ref 0, .int v1, .int v2] h Φ := Can.intro (by decide) (fun _ => Nat.le_of_ble_eq_true rfl) body
theorem M_Mo_put : Mv y_Mo_put b_Mo_put 4 none 2 8 := ⟨wx_in 1338 (by decide +kernel) rfl, wx_in 1337 (by decide +kernel) rfl, wx_in 58 (by decide +kernel) rfl, wx_in 73 (by decide +kernel) rfl, by decide +kernel, by decide, by decide, _, _, rfl⟩
theorem d_Mo_put_0 : decode b_Mo_put 0 = .ok (.iload_n 1, 1) := by decide +kernel
theorem d_Mo_put_1 : decode b_Mo_put 1 = .ok (.iload_n 2, 1) := by decide +kernel
theorem d_Mo_put_2 : decode b_Mo_put 2 = .ok (.ishr, 1) := by decide +kernel
theorem d_Mo_put_3 : decode b_Mo_put 3 = .ok (.sipush 255, 3) := by decide +kernel
theorem d_Mo_put_6 : decode b_Mo_put 6 = .ok (.iand, 1) := by decide +kernel
theorem d_Mo_put_7 : decode b_Mo_put 7 = .ok (.istore_n 3, 1) := by decide +kernel
theorem d_Mo_put_8 : decode b_Mo_put 8 = .ok (.iload_n 3, 1) := by decide +kernel
theorem d_Mo_put_9 : decode b_Mo_put 9 = .ok (.ifCond .le 34, 3) := by decide +kernel
theorem d_Mo_put_12 : decode b_Mo_put 12 = .ok (.aload_n 0, 1) := by decide +kernel
theorem d_Mo_put_13 : decode b_Mo_put 13 = .ok (.getfield 185, 3) := by decide +kernel
theorem d_Mo_put_16 : decode b_Mo_put 16 = .ok (.sipush 200, 3) := by decide +kernel
theorem d_Mo_put_19 : decode b_Mo_put 19 = .ok (.if_icmp .ge 14, 3) := by decide +kernel
theorem d_Mo_put_22 : decode b_Mo_put 22 = .ok (.aload_n 0, 1) := by decide +kernel
theorem d_Mo_put_23 : decode b_Mo_put 23 = .ok (.getfield 41, 3) := by decide +kernel
theorem d_Mo_put_26 : decode b_Mo_put 26 = .ok (.aload_n 0, 1) := by decide +kernel
theorem d_Mo_put_27 : decode b_Mo_put 27 = .ok (.getfield 185, 3) := by decide +kernel
theorem d_Mo_put_30 : decode b_Mo_put 30 = .ok (.iload_n 3, 1) := by decide +kernel
theorem d_Mo_put_31 : decode b_Mo_put 31 = .ok (.i2c, 1) := by decide +kernel
theorem d_Mo_put_32 : decode b_Mo_put 32 = .ok (.castore, 1) := by decide +kernel
theorem d_Mo_put_33 : decode b_Mo_put 33 = .ok (.aload_n 0, 1) := by decide +kernel
theorem d_Mo_put_34 : decode b_Mo_put 34 = .ok (.dup, 1) := by decide +kernel
theorem d_Mo_put_35 : decode b_Mo_put 35 = .ok (.getfield 185, 3) := by decide +kernel
theorem d_Mo_put_38 : decode b_Mo_put 38 = .ok (.iconst 1, 1) := by decide +kernel
theorem d_Mo_put_39 : decode b_Mo_put 39 = .ok (.iadd, 1) := by decide +kernel
theorem d_Mo_put_40 : decode b_Mo_put 40 = .ok (.putfield 185, 3) := by decide +kernel
theorem d_Mo_put_43 : decode b_Mo_put 43 = .ok (.return_, 1) := by decide +kernel
/-! Mo_type: ('CellHeapModel', 'type', '(IIIII)I') -/
abbrev b_Mo_type : ByteArray := prog_10_method_50_code
abbrev y_Mo_type : MethodName := ⟨R_Mo, "type", "(IIIII)I"⟩
abbrev K_Mo_type := CanI y_Mo_type b_Mo_type 10 ((some .int)) 1 0 0
theorem I_Mo_type {h : HP} {v1 : Int32} {v2 : Int32} {v3 : Int32} {v4 : Int32} {v5 : Int32} {Φ : Int32 → HP → Prop} (body : ∀ X : CX, Cok X b_Mo_type 10 R_Mo ((some .int)) → xR X = rml 1 0 0 → Qok X 0 0 (fun r h2 => ∃ v, r = some (.int v) ∧ Φ v h2) → Wg X 0 0 h [(0, .ref 0), (1, .int v1), (2, .int v2), (3, .int v3), (4, .int v4), (5, .int v5)] [] 0) : K_Mo_type [.ref 0, .int v1, .int v2, .int v3, .int v4, .int v5] h Φ := Can.intro (by decide) (fun _ => Nat.le_of_ble_eq_true rfl) body
theorem M_Mo_type : Mv y_Mo_type b_Mo_type 10 ((some .int)) 5 8 := ⟨wx_in 1334 (by decide +kernel) rfl, wx_in 1332 (by decide +kernel) rfl, wx_in 1333 (by decide +kernel) rfl, wx_in 73 (by decide +kernel) rfl, by decide +kernel, by decide, by decide, _, _, rfl⟩
theorem d_Mo_type_0 : decode b_Mo_type 0 = .ok (.aload_n 0, 1) := by decide +kernel
theorem d_Mo_type_1 : decode b_Mo_type 1 = .ok (.getfield 185, 3) := by decide +kernel
theorem d_Mo_type_4 : decode b_Mo_type 4 = .ok (.istore 6, 2) := by decide +kernel
theorem d_Mo_type_6 : decode b_Mo_type 6 = .ok (.iconst 0, 1) := by decide +kernel
theorem d_Mo_type_7 : decode b_Mo_type 7 = .ok (.istore 7, 2) := by decide +kernel
theorem d_Mo_type_9 : decode b_Mo_type 9 = .ok (.iload 7, 2) := by decide +kernel
theorem d_Mo_type_11 : decode b_Mo_type 11 = .ok (.iconst 5, 1) := by decide +kernel
theorem d_Mo_type_12 : decode b_Mo_type 12 = .ok (.if_icmp .ge 80, 3) := by decide +kernel
theorem d_Mo_type_15 : decode b_Mo_type 15 = .ok (.iload 7, 2) := by decide +kernel
theorem d_Mo_type_17 : decode b_Mo_type 17 = .ok (.ifCond .ne 7, 3) := by decide +kernel
theorem d_Mo_type_20 : decode b_Mo_type 20 = .ok (.iload_n 1, 1) := by decide +kernel
theorem d_Mo_type_21 : decode b_Mo_type 21 = .ok (.goto 36, 3) := by decide +kernel
theorem d_Mo_type_24 : decode b_Mo_type 24 = .ok (.iload 7, 2) := by decide +kernel
theorem d_Mo_type_26 : decode b_Mo_type 26 = .ok (.iconst 1, 1) := by decide +kernel
theorem d_Mo_type_27 : decode b_Mo_type 27 = .ok (.if_icmp .ne 7, 3) := by decide +kernel
theorem d_Mo_type_30 : decode b_Mo_type 30 = .ok (.iload_n 2, 1) := by decide +kernel
theorem d_Mo_type_31 : decode b_Mo_type 31 = .ok (.goto 26, 3) := by decide +kernel
theorem d_Mo_type_34 : decode b_Mo_type 34 = .ok (.iload 7, 2) := by decide +kernel
theorem d_Mo_type_36 : decode b_Mo_type 36 = .ok (.iconst 2, 1) := by decide +kernel
theorem d_Mo_type_37 : decode b_Mo_type 37 = .ok (.if_icmp .ne 7, 3) := by decide +kernel
theorem d_Mo_type_40 : decode b_Mo_type 40 = .ok (.iload_n 3, 1) := by decide +kernel
theorem d_Mo_type_41 : decode b_Mo_type 41 = .ok (.goto 16, 3) := by decide +kernel
theorem d_Mo_type_44 : decode b_Mo_type 44 = .ok (.iload 7, 2) := by decide +kernel
theorem d_Mo_type_46 : decode b_Mo_type 46 = .ok (.iconst 3, 1) := by decide +kernel
theorem d_Mo_type_47 : decode b_Mo_type 47 = .ok (.if_icmp .ne 8, 3) := by decide +kernel
theorem d_Mo_type_50 : decode b_Mo_type 50 = .ok (.iload 4, 2) := by decide +kernel
theorem d_Mo_type_52 : decode b_Mo_type 52 = .ok (.goto 5, 3) := by decide +kernel
theorem d_Mo_type_55 : decode b_Mo_type 55 = .ok (.iload 5, 2) := by decide +kernel
theorem d_Mo_type_57 : decode b_Mo_type 57 = .ok (.istore 8, 2) := by decide +kernel
theorem d_Mo_type_59 : decode b_Mo_type 59 = .ok (.bipush 24, 2) := by decide +kernel
theorem d_Mo_type_61 : decode b_Mo_type 61 = .ok (.istore 9, 2) := by decide +kernel
theorem d_Mo_type_63 : decode b_Mo_type 63 = .ok (.iload 9, 2) := by decide +kernel
theorem d_Mo_type_65 : decode b_Mo_type 65 = .ok (.ifCond .lt 21, 3) := by decide +kernel
theorem d_Mo_type_68 : decode b_Mo_type 68 = .ok (.aload_n 0, 1) := by decide +kernel
theorem d_Mo_type_69 : decode b_Mo_type 69 = .ok (.iload 8, 2) := by decide +kernel
theorem d_Mo_type_71 : decode b_Mo_type 71 = .ok (.iload 9, 2) := by decide +kernel
theorem d_Mo_type_73 : decode b_Mo_type 73 = .ok (.invokevirtual 188, 3) := by decide +kernel
theorem d_Mo_type_76 : decode b_Mo_type 76 = .ok (.iload 9, 2) := by decide +kernel
theorem d_Mo_type_78 : decode b_Mo_type 78 = .ok (.bipush 8, 2) := by decide +kernel
theorem d_Mo_type_80 : decode b_Mo_type 80 = .ok (.isub, 1) := by decide +kernel
theorem d_Mo_type_81 : decode b_Mo_type 81 = .ok (.istore 9, 2) := by decide +kernel
theorem d_Mo_type_83 : decode b_Mo_type 83 = .ok (.goto (-20), 3) := by decide +kernel
theorem d_Mo_type_86 : decode b_Mo_type 86 = .ok (.iinc 7 1, 3) := by decide +kernel
theorem d_Mo_type_89 : decode b_Mo_type 89 = .ok (.goto (-80), 3) := by decide +kernel
theorem d_Mo_type_92 : decode b_Mo_type 92 = .ok (.aload_n 0, 1) := by decide +kernel
theorem d_Mo_type_93 : decode b_Mo_type 93 = .ok (.aload_n 0, 1) := by decide +kernel
theorem d_Mo_type_94 : decode b_Mo_type 94 = .ok (.getfield 185, 3) := by decide +kernel
theorem d_Mo_type_97 : decode b_Mo_type 97 = .ok (.sipush 200, 3) := by decide +kernel
theorem d_Mo_type_100 : decode b_Mo_type 100 = .ok (.if_icmp .le 7, 3) := by decide +kernel
theorem d_Mo_type_103 : decode b_Mo_type 103 = .ok (.iconst 1, 1) := by decide +kernel
theorem d_Mo_type_104 : decode b_Mo_type 104 = .ok (.goto 4, 3) := by decide +kernel
theorem d_Mo_type_107 : decode b_Mo_type 107 = .ok (.iconst 0, 1) := by decide +kernel
theorem d_Mo_type_108 : decode b_Mo_type 108 = .ok (.invokevirtual 160, 3) := by decide +kernel
theorem d_Mo_type_111 : decode b_Mo_type 111 = .ok (.ifCond .eq 11, 3) := by decide +kernel
theorem d_Mo_type_114 : decode b_Mo_type 114 = .ok (.aload_n 0, 1) := by decide +kernel
theorem d_Mo_type_115 : decode b_Mo_type 115 = .ok (.iload 6, 2) := by decide +kernel
theorem d_Mo_type_117 : decode b_Mo_type 117 = .ok (.putfield 185, 3) := by decide +kernel
theorem d_Mo_type_120 : decode b_Mo_type 120 = .ok (.iconst 0, 1) := by decide +kernel
theorem d_Mo_type_121 : decode b_Mo_type 121 = .ok (.ireturn, 1) := by decide +kernel
theorem d_Mo_type_122 : decode b_Mo_type 122 = .ok (.aload_n 0, 1) := by decide +kernel
theorem d_Mo_type_123 : decode b_Mo_type 123 = .ok (.getfield 185, 3) := by decide +kernel
theorem d_Mo_type_126 : decode b_Mo_type 126 = .ok (.ireturn, 1) := by decide +kernel
/-! Mo_erase: ('CellHeapModel', 'erase', '()I') -/
abbrev b_Mo_erase : ByteArray := prog_10_method_51_code
abbrev y_Mo_erase : MethodName := ⟨R_Mo, "erase", "()I"⟩
abbrev K_Mo_erase := CanI y_Mo_erase b_Mo_erase 2 ((some .int)) 0 0 0
theorem I_Mo_erase {h : HP}  {Φ : Int32 → HP → Prop} (body : ∀ X : CX, Cok X b_Mo_erase 2 R_Mo ((some .int)) → xR X = rml 0 0 0 → Qok X 0 0 (fun r h2 => ∃ v, r = some (.int v) ∧ Φ v h2) → Wg X 0 0 h [(0, .ref 0)] [] 0) : K_Mo_erase [.ref 0] h Φ := Can.intro (by decide) (fun _ => Nat.le_of_ble_eq_true rfl) body
theorem M_Mo_erase : Mv y_Mo_erase b_Mo_erase 2 ((some .int)) 0 8 := ⟨wx_in 1342 (by decide +kernel) rfl, wx_in 1340 (by decide +kernel) rfl, wx_in 1341 (by decide +kernel) rfl, wx_in 73 (by decide +kernel) rfl, by decide +kernel, by decide, by decide, _, _, rfl⟩
theorem d_Mo_erase_0 : decode b_Mo_erase 0 = .ok (.aload_n 0, 1) := by decide +kernel
theorem d_Mo_erase_1 : decode b_Mo_erase 1 = .ok (.iconst 0, 1) := by decide +kernel
theorem d_Mo_erase_2 : decode b_Mo_erase 2 = .ok (.putfield 51, 3) := by decide +kernel
theorem d_Mo_erase_5 : decode b_Mo_erase 5 = .ok (.aload_n 0, 1) := by decide +kernel
theorem d_Mo_erase_6 : decode b_Mo_erase 6 = .ok (.getfield 185, 3) := by decide +kernel
theorem d_Mo_erase_9 : decode b_Mo_erase 9 = .ok (.istore_n 1, 1) := by decide +kernel
theorem d_Mo_erase_10 : decode b_Mo_erase 10 = .ok (.aload_n 0, 1) := by decide +kernel
theorem d_Mo_erase_11 : decode b_Mo_erase 11 = .ok (.iconst 0, 1) := by decide +kernel
theorem d_Mo_erase_12 : decode b_Mo_erase 12 = .ok (.putfield 185, 3) := by decide +kernel
theorem d_Mo_erase_15 : decode b_Mo_erase 15 = .ok (.iload_n 1, 1) := by decide +kernel
theorem d_Mo_erase_16 : decode b_Mo_erase 16 = .ok (.ireturn, 1) := by decide +kernel
/-! Mo_readDigits: ('CellHeapModel', 'readDigits', '(I)Z') -/
abbrev b_Mo_readDigits : ByteArray := prog_10_method_52_code
abbrev y_Mo_readDigits : MethodName := ⟨R_Mo, "readDigits", "(I)Z"⟩
abbrev K_Mo_readDigits := CanI y_Mo_readDigits b_Mo_readDigits 6 ((some .boolean)) 0 0 0
theorem I_Mo_readDigits {h : HP} {v1 : Int32} {Φ : Int32 → HP → Prop} (body : ∀ X : CX, Cok X b_Mo_readDigits 6 R_Mo ((some .boolean)) → xR X = rml 0 0 0 → Qok X 0 0 (fun r h2 => ∃ v, r = some (.int v) ∧ Φ v h2) → Wg X 0 0 h [(0, .ref 0), (1, .int v1)] [] 0) : K_Mo_readDigits [.ref 0, .int v1] h Φ := Can.intro (by decide) (fun _ => Nat.le_of_ble_eq_true rfl) body
theorem M_Mo_readDigits : Mv y_Mo_readDigits b_Mo_readDigits 6 ((some .boolean)) 1 8 := ⟨wx_in 1350 (by decide +kernel) rfl, wx_in 1349 (by decide +kernel) rfl, wx_in 59 (by decide +kernel) rfl, wx_in 73 (by decide +kernel) rfl, by decide +kernel, by decide, by decide, _, _, rfl⟩
theorem d_Mo_readDigits_0 : decode b_Mo_readDigits 0 = .ok (.aload_n 0, 1) := by decide +kernel
theorem d_Mo_readDigits_1 : decode b_Mo_readDigits 1 = .ok (.getfield 35, 3) := by decide +kernel
theorem d_Mo_readDigits_4 : decode b_Mo_readDigits 4 = .ok (.iload_n 1, 1) := by decide +kernel
theorem d_Mo_readDigits_5 : decode b_Mo_readDigits 5 = .ok (.iconst 0, 1) := by decide +kernel
theorem d_Mo_readDigits_6 : decode b_Mo_readDigits 6 = .ok (.iastore, 1) := by decide +kernel
theorem d_Mo_readDigits_7 : decode b_Mo_readDigits 7 = .ok (.aload_n 0, 1) := by decide +kernel
theorem d_Mo_readDigits_8 : decode b_Mo_readDigits 8 = .ok (.getfield 38, 3) := by decide +kernel
theorem d_Mo_readDigits_11 : decode b_Mo_readDigits 11 = .ok (.iload_n 1, 1) := by decide +kernel
theorem d_Mo_readDigits_12 : decode b_Mo_readDigits 12 = .ok (.iconst 0, 1) := by decide +kernel
theorem d_Mo_readDigits_13 : decode b_Mo_readDigits 13 = .ok (.bastore, 1) := by decide +kernel
theorem d_Mo_readDigits_14 : decode b_Mo_readDigits 14 = .ok (.aload_n 0, 1) := by decide +kernel
theorem d_Mo_readDigits_15 : decode b_Mo_readDigits 15 = .ok (.getfield 191, 3) := by decide +kernel
theorem d_Mo_readDigits_18 : decode b_Mo_readDigits 18 = .ok (.istore_n 2, 1) := by decide +kernel
theorem d_Mo_readDigits_19 : decode b_Mo_readDigits 19 = .ok (.aload_n 0, 1) := by decide +kernel
theorem d_Mo_readDigits_20 : decode b_Mo_readDigits 20 = .ok (.getfield 191, 3) := by decide +kernel
theorem d_Mo_readDigits_23 : decode b_Mo_readDigits 23 = .ok (.aload_n 0, 1) := by decide +kernel
theorem d_Mo_readDigits_24 : decode b_Mo_readDigits 24 = .ok (.getfield 185, 3) := by decide +kernel
theorem d_Mo_readDigits_27 : decode b_Mo_readDigits 27 = .ok (.if_icmp .ge 150, 3) := by decide +kernel
theorem d_Mo_readDigits_30 : decode b_Mo_readDigits 30 = .ok (.aload_n 0, 1) := by decide +kernel
theorem d_Mo_readDigits_31 : decode b_Mo_readDigits 31 = .ok (.getfield 41, 3) := by decide +kernel
theorem d_Mo_readDigits_34 : decode b_Mo_readDigits 34 = .ok (.aload_n 0, 1) := by decide +kernel
theorem d_Mo_readDigits_35 : decode b_Mo_readDigits 35 = .ok (.getfield 191, 3) := by decide +kernel
theorem d_Mo_readDigits_38 : decode b_Mo_readDigits 38 = .ok (.caload, 1) := by decide +kernel
theorem d_Mo_readDigits_39 : decode b_Mo_readDigits 39 = .ok (.bipush 48, 2) := by decide +kernel
theorem d_Mo_readDigits_41 : decode b_Mo_readDigits 41 = .ok (.if_icmp .lt 136, 3) := by decide +kernel
theorem d_Mo_readDigits_44 : decode b_Mo_readDigits 44 = .ok (.aload_n 0, 1) := by decide +kernel
theorem d_Mo_readDigits_45 : decode b_Mo_readDigits 45 = .ok (.getfield 41, 3) := by decide +kernel
theorem d_Mo_readDigits_48 : decode b_Mo_readDigits 48 = .ok (.aload_n 0, 1) := by decide +kernel
theorem d_Mo_readDigits_49 : decode b_Mo_readDigits 49 = .ok (.getfield 191, 3) := by decide +kernel
theorem d_Mo_readDigits_52 : decode b_Mo_readDigits 52 = .ok (.caload, 1) := by decide +kernel
theorem d_Mo_readDigits_53 : decode b_Mo_readDigits 53 = .ok (.bipush 57, 2) := by decide +kernel
theorem d_Mo_readDigits_55 : decode b_Mo_readDigits 55 = .ok (.if_icmp .gt 122, 3) := by decide +kernel
theorem d_Mo_readDigits_58 : decode b_Mo_readDigits 58 = .ok (.aload_n 0, 1) := by decide +kernel
theorem d_Mo_readDigits_59 : decode b_Mo_readDigits 59 = .ok (.getfield 41, 3) := by decide +kernel
theorem d_Mo_readDigits_62 : decode b_Mo_readDigits 62 = .ok (.aload_n 0, 1) := by decide +kernel
theorem d_Mo_readDigits_63 : decode b_Mo_readDigits 63 = .ok (.getfield 191, 3) := by decide +kernel
theorem d_Mo_readDigits_66 : decode b_Mo_readDigits 66 = .ok (.caload, 1) := by decide +kernel
theorem d_Mo_readDigits_67 : decode b_Mo_readDigits 67 = .ok (.bipush 48, 2) := by decide +kernel
theorem d_Mo_readDigits_69 : decode b_Mo_readDigits 69 = .ok (.isub, 1) := by decide +kernel
theorem d_Mo_readDigits_70 : decode b_Mo_readDigits 70 = .ok (.istore_n 3, 1) := by decide +kernel
theorem d_Mo_readDigits_71 : decode b_Mo_readDigits 71 = .ok (.iconst 0, 1) := by decide +kernel
theorem d_Mo_readDigits_72 : decode b_Mo_readDigits 72 = .ok (.istore 4, 2) := by decide +kernel
theorem d_Mo_readDigits_74 : decode b_Mo_readDigits 74 = .ok (.iload 4, 2) := by decide +kernel
theorem d_Mo_readDigits_76 : decode b_Mo_readDigits 76 = .ok (.aload_n 0, 1) := by decide +kernel
theorem d_Mo_readDigits_77 : decode b_Mo_readDigits 77 = .ok (.getfield 35, 3) := by decide +kernel
theorem d_Mo_readDigits_80 : decode b_Mo_readDigits 80 = .ok (.iload_n 1, 1) := by decide +kernel
theorem d_Mo_readDigits_81 : decode b_Mo_readDigits 81 = .ok (.iaload, 1) := by decide +kernel
theorem d_Mo_readDigits_82 : decode b_Mo_readDigits 82 = .ok (.if_icmp .ge 51, 3) := by decide +kernel
theorem d_Mo_readDigits_85 : decode b_Mo_readDigits 85 = .ok (.bipush 10, 2) := by decide +kernel
theorem d_Mo_readDigits_87 : decode b_Mo_readDigits 87 = .ok (.aload_n 0, 1) := by decide +kernel
theorem d_Mo_readDigits_88 : decode b_Mo_readDigits 88 = .ok (.getfield 32, 3) := by decide +kernel
theorem d_Mo_readDigits_91 : decode b_Mo_readDigits 91 = .ok (.bipush 100, 2) := by decide +kernel
theorem d_Mo_readDigits_93 : decode b_Mo_readDigits 93 = .ok (.iload_n 1, 1) := by decide +kernel
theorem d_Mo_readDigits_94 : decode b_Mo_readDigits 94 = .ok (.imul, 1) := by decide +kernel
theorem d_Mo_readDigits_95 : decode b_Mo_readDigits 95 = .ok (.iload 4, 2) := by decide +kernel
theorem d_Mo_readDigits_97 : decode b_Mo_readDigits 97 = .ok (.iadd, 1) := by decide +kernel
theorem d_Mo_readDigits_98 : decode b_Mo_readDigits 98 = .ok (.iaload, 1) := by decide +kernel
theorem d_Mo_readDigits_99 : decode b_Mo_readDigits 99 = .ok (.imul, 1) := by decide +kernel
theorem d_Mo_readDigits_100 : decode b_Mo_readDigits 100 = .ok (.iload_n 3, 1) := by decide +kernel
theorem d_Mo_readDigits_101 : decode b_Mo_readDigits 101 = .ok (.iadd, 1) := by decide +kernel
theorem d_Mo_readDigits_102 : decode b_Mo_readDigits 102 = .ok (.istore 5, 2) := by decide +kernel
theorem d_Mo_readDigits_104 : decode b_Mo_readDigits 104 = .ok (.aload_n 0, 1) := by decide +kernel
theorem d_Mo_readDigits_105 : decode b_Mo_readDigits 105 = .ok (.getfield 32, 3) := by decide +kernel
theorem d_Mo_readDigits_108 : decode b_Mo_readDigits 108 = .ok (.bipush 100, 2) := by decide +kernel
theorem d_Mo_readDigits_110 : decode b_Mo_readDigits 110 = .ok (.iload_n 1, 1) := by decide +kernel
theorem d_Mo_readDigits_111 : decode b_Mo_readDigits 111 = .ok (.imul, 1) := by decide +kernel
theorem d_Mo_readDigits_112 : decode b_Mo_readDigits 112 = .ok (.iload 4, 2) := by decide +kernel
theorem d_Mo_readDigits_114 : decode b_Mo_readDigits 114 = .ok (.iadd, 1) := by decide +kernel
theorem d_Mo_readDigits_115 : decode b_Mo_readDigits 115 = .ok (.iload 5, 2) := by decide +kernel
theorem d_Mo_readDigits_117 : decode b_Mo_readDigits 117 = .ok (.ldc 57, 2) := by decide +kernel
theorem d_Mo_readDigits_119 : decode b_Mo_readDigits 119 = .ok (.iand, 1) := by decide +kernel
theorem d_Mo_readDigits_120 : decode b_Mo_readDigits 120 = .ok (.iastore, 1) := by decide +kernel
theorem d_Mo_readDigits_121 : decode b_Mo_readDigits 121 = .ok (.iload 5, 2) := by decide +kernel
theorem d_Mo_readDigits_123 : decode b_Mo_readDigits 123 = .ok (.bipush 16, 2) := by decide +kernel
theorem d_Mo_readDigits_125 : decode b_Mo_readDigits 125 = .ok (.ishr, 1) := by decide +kernel
theorem d_Mo_readDigits_126 : decode b_Mo_readDigits 126 = .ok (.istore_n 3, 1) := by decide +kernel
theorem d_Mo_readDigits_127 : decode b_Mo_readDigits 127 = .ok (.iinc 4 1, 3) := by decide +kernel
theorem d_Mo_readDigits_130 : decode b_Mo_readDigits 130 = .ok (.goto (-56), 3) := by decide +kernel
theorem d_Mo_readDigits_133 : decode b_Mo_readDigits 133 = .ok (.iload_n 3, 1) := by decide +kernel
theorem d_Mo_readDigits_134 : decode b_Mo_readDigits 134 = .ok (.ifCond .le 30, 3) := by decide +kernel
theorem d_Mo_readDigits_137 : decode b_Mo_readDigits 137 = .ok (.aload_n 0, 1) := by decide +kernel
theorem d_Mo_readDigits_138 : decode b_Mo_readDigits 138 = .ok (.getfield 32, 3) := by decide +kernel
theorem d_Mo_readDigits_141 : decode b_Mo_readDigits 141 = .ok (.bipush 100, 2) := by decide +kernel
theorem d_Mo_readDigits_143 : decode b_Mo_readDigits 143 = .ok (.iload_n 1, 1) := by decide +kernel
theorem d_Mo_readDigits_144 : decode b_Mo_readDigits 144 = .ok (.imul, 1) := by decide +kernel
theorem d_Mo_readDigits_145 : decode b_Mo_readDigits 145 = .ok (.aload_n 0, 1) := by decide +kernel
theorem d_Mo_readDigits_146 : decode b_Mo_readDigits 146 = .ok (.getfield 35, 3) := by decide +kernel
theorem d_Mo_readDigits_149 : decode b_Mo_readDigits 149 = .ok (.iload_n 1, 1) := by decide +kernel
theorem d_Mo_readDigits_150 : decode b_Mo_readDigits 150 = .ok (.iaload, 1) := by decide +kernel
theorem d_Mo_readDigits_151 : decode b_Mo_readDigits 151 = .ok (.iadd, 1) := by decide +kernel
theorem d_Mo_readDigits_152 : decode b_Mo_readDigits 152 = .ok (.iload_n 3, 1) := by decide +kernel
theorem d_Mo_readDigits_153 : decode b_Mo_readDigits 153 = .ok (.iastore, 1) := by decide +kernel
theorem d_Mo_readDigits_154 : decode b_Mo_readDigits 154 = .ok (.aload_n 0, 1) := by decide +kernel
theorem d_Mo_readDigits_155 : decode b_Mo_readDigits 155 = .ok (.getfield 35, 3) := by decide +kernel
theorem d_Mo_readDigits_158 : decode b_Mo_readDigits 158 = .ok (.iload_n 1, 1) := by decide +kernel
theorem d_Mo_readDigits_159 : decode b_Mo_readDigits 159 = .ok (.dup2, 1) := by decide +kernel
theorem d_Mo_readDigits_160 : decode b_Mo_readDigits 160 = .ok (.iaload, 1) := by decide +kernel
theorem d_Mo_readDigits_161 : decode b_Mo_readDigits 161 = .ok (.iconst 1, 1) := by decide +kernel
theorem d_Mo_readDigits_162 : decode b_Mo_readDigits 162 = .ok (.iadd, 1) := by decide +kernel
theorem d_Mo_readDigits_163 : decode b_Mo_readDigits 163 = .ok (.iastore, 1) := by decide +kernel
theorem d_Mo_readDigits_164 : decode b_Mo_readDigits 164 = .ok (.aload_n 0, 1) := by decide +kernel
theorem d_Mo_readDigits_165 : decode b_Mo_readDigits 165 = .ok (.dup, 1) := by decide +kernel
theorem d_Mo_readDigits_166 : decode b_Mo_readDigits 166 = .ok (.getfield 191, 3) := by decide +kernel
theorem d_Mo_readDigits_169 : decode b_Mo_readDigits 169 = .ok (.iconst 1, 1) := by decide +kernel
theorem d_Mo_readDigits_170 : decode b_Mo_readDigits 170 = .ok (.iadd, 1) := by decide +kernel
theorem d_Mo_readDigits_171 : decode b_Mo_readDigits 171 = .ok (.putfield 191, 3) := by decide +kernel
theorem d_Mo_readDigits_174 : decode b_Mo_readDigits 174 = .ok (.goto (-155), 3) := by decide +kernel
theorem d_Mo_readDigits_177 : decode b_Mo_readDigits 177 = .ok (.aload_n 0, 1) := by decide +kernel
theorem d_Mo_readDigits_178 : decode b_Mo_readDigits 178 = .ok (.getfield 191, 3) := by decide +kernel
theorem d_Mo_readDigits_181 : decode b_Mo_readDigits 181 = .ok (.iload_n 2, 1) := by decide +kernel
theorem d_Mo_readDigits_182 : decode b_Mo_readDigits 182 = .ok (.if_icmp .le 7, 3) := by decide +kernel
theorem d_Mo_readDigits_185 : decode b_Mo_readDigits 185 = .ok (.iconst 1, 1) := by decide +kernel
theorem d_Mo_readDigits_186 : decode b_Mo_readDigits 186 = .ok (.goto 4, 3) := by decide +kernel
theorem d_Mo_readDigits_189 : decode b_Mo_readDigits 189 = .ok (.iconst 0, 1) := by decide +kernel
theorem d_Mo_readDigits_190 : decode b_Mo_readDigits 190 = .ok (.ireturn, 1) := by decide +kernel
/-! Mo_read: ('CellHeapModel', 'read', '(I)I') -/
abbrev b_Mo_read : ByteArray := prog_10_method_53_code
abbrev y_Mo_read : MethodName := ⟨R_Mo, "read", "(I)I"⟩
abbrev K_Mo_read := CanI y_Mo_read b_Mo_read 4 ((some .int)) 5 0 0
theorem I_Mo_read {h : HP} {v1 : Int32} {Φ : Int32 → HP → Prop} (body : ∀ X : CX, Cok X b_Mo_read 4 R_Mo ((some .int)) → xR X = rml 5 0 0 → Qok X 0 0 (fun r h2 => ∃ v, r = some (.int v) ∧ Φ v h2) → Wg X 0 0 h [(0, .ref 0), (1, .int v1)] [] 0) : K_Mo_read [.ref 0, .int v1] h Φ := Can.intro (by decide) (fun _ => Nat.le_of_ble_eq_true rfl) body
theorem M_Mo_read : Mv y_Mo_read b_Mo_read 4 ((some .int)) 1 8 := ⟨wx_in 1346 (by decide +kernel) rfl, wx_in 1344 (by decide +kernel) rfl, wx_in 1345 (by decide +kernel) rfl, wx_in 73 (by decide +kernel) rfl, by decide +kernel, by decide, by decide, _, _, rfl⟩
theorem d_Mo_read_0 : decode b_Mo_read 0 = .ok (.aload_n 0, 1) := by decide +kernel
theorem d_Mo_read_1 : decode b_Mo_read 1 = .ok (.iload_n 1, 1) := by decide +kernel
theorem d_Mo_read_2 : decode b_Mo_read 2 = .ok (.invokestatic 157, 3) := by decide +kernel
theorem d_Mo_read_5 : decode b_Mo_read 5 = .ok (.ifCond .eq 7, 3) := by decide +kernel
theorem d_Mo_read_8 : decode b_Mo_read 8 = .ok (.iconst 0, 1) := by decide +kernel
theorem d_Mo_read_9 : decode b_Mo_read 9 = .ok (.goto 4, 3) := by decide +kernel
theorem d_Mo_read_12 : decode b_Mo_read 12 = .ok (.iconst 1, 1) := by decide +kernel
theorem d_Mo_read_13 : decode b_Mo_read 13 = .ok (.invokevirtual 160, 3) := by decide +kernel
theorem d_Mo_read_16 : decode b_Mo_read 16 = .ok (.ifCond .eq 5, 3) := by decide +kernel
theorem d_Mo_read_19 : decode b_Mo_read 19 = .ok (.iconst 0, 1) := by decide +kernel
theorem d_Mo_read_20 : decode b_Mo_read 20 = .ok (.ireturn, 1) := by decide +kernel
theorem d_Mo_read_21 : decode b_Mo_read 21 = .ok (.aload_n 0, 1) := by decide +kernel
theorem d_Mo_read_22 : decode b_Mo_read 22 = .ok (.getfield 185, 3) := by decide +kernel
theorem d_Mo_read_25 : decode b_Mo_read 25 = .ok (.ifCond .le 18, 3) := by decide +kernel
theorem d_Mo_read_28 : decode b_Mo_read 28 = .ok (.aload_n 0, 1) := by decide +kernel
theorem d_Mo_read_29 : decode b_Mo_read 29 = .ok (.getfield 41, 3) := by decide +kernel
theorem d_Mo_read_32 : decode b_Mo_read 32 = .ok (.iconst 0, 1) := by decide +kernel
theorem d_Mo_read_33 : decode b_Mo_read 33 = .ok (.caload, 1) := by decide +kernel
theorem d_Mo_read_34 : decode b_Mo_read 34 = .ok (.bipush 45, 2) := by decide +kernel
theorem d_Mo_read_36 : decode b_Mo_read 36 = .ok (.if_icmp .ne 7, 3) := by decide +kernel
theorem d_Mo_read_39 : decode b_Mo_read 39 = .ok (.iconst 1, 1) := by decide +kernel
theorem d_Mo_read_40 : decode b_Mo_read 40 = .ok (.goto 4, 3) := by decide +kernel
theorem d_Mo_read_43 : decode b_Mo_read 43 = .ok (.iconst 0, 1) := by decide +kernel
theorem d_Mo_read_44 : decode b_Mo_read 44 = .ok (.istore_n 2, 1) := by decide +kernel
theorem d_Mo_read_45 : decode b_Mo_read 45 = .ok (.aload_n 0, 1) := by decide +kernel
theorem d_Mo_read_46 : decode b_Mo_read 46 = .ok (.iload_n 2, 1) := by decide +kernel
theorem d_Mo_read_47 : decode b_Mo_read 47 = .ok (.ifCond .eq 7, 3) := by decide +kernel
theorem d_Mo_read_50 : decode b_Mo_read 50 = .ok (.iconst 1, 1) := by decide +kernel
theorem d_Mo_read_51 : decode b_Mo_read 51 = .ok (.goto 4, 3) := by decide +kernel
theorem d_Mo_read_54 : decode b_Mo_read 54 = .ok (.iconst 0, 1) := by decide +kernel
theorem d_Mo_read_55 : decode b_Mo_read 55 = .ok (.putfield 191, 3) := by decide +kernel
theorem d_Mo_read_58 : decode b_Mo_read 58 = .ok (.aload_n 0, 1) := by decide +kernel
theorem d_Mo_read_59 : decode b_Mo_read 59 = .ok (.iconst 4, 1) := by decide +kernel
theorem d_Mo_read_60 : decode b_Mo_read 60 = .ok (.invokevirtual 194, 3) := by decide +kernel
theorem d_Mo_read_63 : decode b_Mo_read 63 = .ok (.istore_n 3, 1) := by decide +kernel
theorem d_Mo_read_64 : decode b_Mo_read 64 = .ok (.aload_n 0, 1) := by decide +kernel
theorem d_Mo_read_65 : decode b_Mo_read 65 = .ok (.iconst 5, 1) := by decide +kernel
theorem d_Mo_read_66 : decode b_Mo_read 66 = .ok (.lconst 1, 1) := by decide +kernel
theorem d_Mo_read_67 : decode b_Mo_read 67 = .ok (.invokevirtual 87, 3) := by decide +kernel
theorem d_Mo_read_70 : decode b_Mo_read 70 = .ok (.iload_n 3, 1) := by decide +kernel
theorem d_Mo_read_71 : decode b_Mo_read 71 = .ok (.ifCond .eq 44, 3) := by decide +kernel
theorem d_Mo_read_74 : decode b_Mo_read 74 = .ok (.aload_n 0, 1) := by decide +kernel
theorem d_Mo_read_75 : decode b_Mo_read 75 = .ok (.getfield 191, 3) := by decide +kernel
theorem d_Mo_read_78 : decode b_Mo_read 78 = .ok (.aload_n 0, 1) := by decide +kernel
theorem d_Mo_read_79 : decode b_Mo_read 79 = .ok (.getfield 185, 3) := by decide +kernel
theorem d_Mo_read_82 : decode b_Mo_read 82 = .ok (.if_icmp .ge 33, 3) := by decide +kernel
theorem d_Mo_read_85 : decode b_Mo_read 85 = .ok (.aload_n 0, 1) := by decide +kernel
theorem d_Mo_read_86 : decode b_Mo_read 86 = .ok (.getfield 41, 3) := by decide +kernel
theorem d_Mo_read_89 : decode b_Mo_read 89 = .ok (.aload_n 0, 1) := by decide +kernel
theorem d_Mo_read_90 : decode b_Mo_read 90 = .ok (.getfield 191, 3) := by decide +kernel
theorem d_Mo_read_93 : decode b_Mo_read 93 = .ok (.caload, 1) := by decide +kernel
theorem d_Mo_read_94 : decode b_Mo_read 94 = .ok (.bipush 47, 2) := by decide +kernel
theorem d_Mo_read_96 : decode b_Mo_read 96 = .ok (.if_icmp .ne 19, 3) := by decide +kernel
theorem d_Mo_read_99 : decode b_Mo_read 99 = .ok (.aload_n 0, 1) := by decide +kernel
theorem d_Mo_read_100 : decode b_Mo_read 100 = .ok (.dup, 1) := by decide +kernel
theorem d_Mo_read_101 : decode b_Mo_read 101 = .ok (.getfield 191, 3) := by decide +kernel
theorem d_Mo_read_104 : decode b_Mo_read 104 = .ok (.iconst 1, 1) := by decide +kernel
theorem d_Mo_read_105 : decode b_Mo_read 105 = .ok (.iadd, 1) := by decide +kernel
theorem d_Mo_read_106 : decode b_Mo_read 106 = .ok (.putfield 191, 3) := by decide +kernel
theorem d_Mo_read_109 : decode b_Mo_read 109 = .ok (.aload_n 0, 1) := by decide +kernel
theorem d_Mo_read_110 : decode b_Mo_read 110 = .ok (.iconst 5, 1) := by decide +kernel
theorem d_Mo_read_111 : decode b_Mo_read 111 = .ok (.invokevirtual 194, 3) := by decide +kernel
theorem d_Mo_read_114 : decode b_Mo_read 114 = .ok (.istore_n 3, 1) := by decide +kernel
theorem d_Mo_read_115 : decode b_Mo_read 115 = .ok (.iload_n 3, 1) := by decide +kernel
theorem d_Mo_read_116 : decode b_Mo_read 116 = .ok (.ifCond .eq 14, 3) := by decide +kernel
theorem d_Mo_read_119 : decode b_Mo_read 119 = .ok (.aload_n 0, 1) := by decide +kernel
theorem d_Mo_read_120 : decode b_Mo_read 120 = .ok (.getfield 191, 3) := by decide +kernel
theorem d_Mo_read_123 : decode b_Mo_read 123 = .ok (.aload_n 0, 1) := by decide +kernel
theorem d_Mo_read_124 : decode b_Mo_read 124 = .ok (.getfield 185, 3) := by decide +kernel
theorem d_Mo_read_127 : decode b_Mo_read 127 = .ok (.if_icmp .ge 6, 3) := by decide +kernel
theorem d_Mo_read_130 : decode b_Mo_read 130 = .ok (.bipush (-7), 2) := by decide +kernel
theorem d_Mo_read_132 : decode b_Mo_read 132 = .ok (.ireturn, 1) := by decide +kernel
theorem d_Mo_read_133 : decode b_Mo_read 133 = .ok (.aload_n 0, 1) := by decide +kernel
theorem d_Mo_read_134 : decode b_Mo_read 134 = .ok (.getfield 35, 3) := by decide +kernel
theorem d_Mo_read_137 : decode b_Mo_read 137 = .ok (.iconst 5, 1) := by decide +kernel
theorem d_Mo_read_138 : decode b_Mo_read 138 = .ok (.iaload, 1) := by decide +kernel
theorem d_Mo_read_139 : decode b_Mo_read 139 = .ok (.ifCond .ne 6, 3) := by decide +kernel
theorem d_Mo_read_142 : decode b_Mo_read 142 = .ok (.bipush (-5), 2) := by decide +kernel
theorem d_Mo_read_144 : decode b_Mo_read 144 = .ok (.ireturn, 1) := by decide +kernel
theorem d_Mo_read_145 : decode b_Mo_read 145 = .ok (.aload_n 0, 1) := by decide +kernel
theorem d_Mo_read_146 : decode b_Mo_read 146 = .ok (.iconst 4, 1) := by decide +kernel
theorem d_Mo_read_147 : decode b_Mo_read 147 = .ok (.invokevirtual 139, 3) := by decide +kernel
theorem d_Mo_read_150 : decode b_Mo_read 150 = .ok (.ifCond .ne 11, 3) := by decide +kernel
theorem d_Mo_read_153 : decode b_Mo_read 153 = .ok (.aload_n 0, 1) := by decide +kernel
theorem d_Mo_read_154 : decode b_Mo_read 154 = .ok (.iconst 5, 1) := by decide +kernel
theorem d_Mo_read_155 : decode b_Mo_read 155 = .ok (.invokevirtual 139, 3) := by decide +kernel
theorem d_Mo_read_158 : decode b_Mo_read 158 = .ok (.ifCond .eq 6, 3) := by decide +kernel
theorem d_Mo_read_161 : decode b_Mo_read 161 = .ok (.bipush (-3), 2) := by decide +kernel
theorem d_Mo_read_163 : decode b_Mo_read 163 = .ok (.ireturn, 1) := by decide +kernel
theorem d_Mo_read_164 : decode b_Mo_read 164 = .ok (.aload_n 0, 1) := by decide +kernel
theorem d_Mo_read_165 : decode b_Mo_read 165 = .ok (.getfield 38, 3) := by decide +kernel
theorem d_Mo_read_168 : decode b_Mo_read 168 = .ok (.iconst 4, 1) := by decide +kernel
theorem d_Mo_read_169 : decode b_Mo_read 169 = .ok (.iload_n 2, 1) := by decide +kernel
theorem d_Mo_read_170 : decode b_Mo_read 170 = .ok (.ifCond .eq 16, 3) := by decide +kernel
theorem d_Mo_read_173 : decode b_Mo_read 173 = .ok (.aload_n 0, 1) := by decide +kernel
theorem d_Mo_read_174 : decode b_Mo_read 174 = .ok (.getfield 35, 3) := by decide +kernel
theorem d_Mo_read_177 : decode b_Mo_read 177 = .ok (.iconst 4, 1) := by decide +kernel
theorem d_Mo_read_178 : decode b_Mo_read 178 = .ok (.iaload, 1) := by decide +kernel
theorem d_Mo_read_179 : decode b_Mo_read 179 = .ok (.ifCond .le 7, 3) := by decide +kernel
theorem d_Mo_read_182 : decode b_Mo_read 182 = .ok (.iconst 1, 1) := by decide +kernel
theorem d_Mo_read_183 : decode b_Mo_read 183 = .ok (.goto 4, 3) := by decide +kernel
theorem d_Mo_read_186 : decode b_Mo_read 186 = .ok (.iconst 0, 1) := by decide +kernel
theorem d_Mo_read_187 : decode b_Mo_read 187 = .ok (.bastore, 1) := by decide +kernel
theorem d_Mo_read_188 : decode b_Mo_read 188 = .ok (.aload_n 0, 1) := by decide +kernel
theorem d_Mo_read_189 : decode b_Mo_read 189 = .ok (.invokevirtual 182, 3) := by decide +kernel
theorem d_Mo_read_192 : decode b_Mo_read 192 = .ok (.aload_n 0, 1) := by decide +kernel
theorem d_Mo_read_193 : decode b_Mo_read 193 = .ok (.iload_n 1, 1) := by decide +kernel
theorem d_Mo_read_194 : decode b_Mo_read 194 = .ok (.invokevirtual 163, 3) := by decide +kernel
theorem d_Mo_read_197 : decode b_Mo_read 197 = .ok (.ireturn, 1) := by decide +kernel
/-! Mo_say: ('CellHeapModel', 'say', '(C)V') -/
abbrev b_Mo_say : ByteArray := prog_10_method_54_code
abbrev y_Mo_say : MethodName := ⟨R_Mo, "say", "(C)V"⟩
abbrev K_Mo_say := CanV y_Mo_say b_Mo_say 2 none 0 0 0
theorem I_Mo_say {h : HP} {v1 : Int32} {Φ : HP → Prop} (body : ∀ X : CX, Cok X b_Mo_say 2 R_Mo none → xR X = rml 0 0 0 → Qok X 0 0 (fun r h2 => r = none ∧ Φ h2) → Wg X 0 0 h [(0, .ref 0), (1, .int v1)] [] 0) : K_Mo_say [.ref 0, .int v1] h Φ := Can.intro (by decide) (fun _ => Nat.le_of_ble_eq_true rfl) body
theorem M_Mo_say : Mv y_Mo_say b_Mo_say 2 none 1 8 := ⟨wx_in 1358 (by decide +kernel) rfl, wx_in 1357 (by decide +kernel) rfl, wx_in 60 (by decide +kernel) rfl, wx_in 73 (by decide +kernel) rfl, by decide +kernel, by decide, by decide, _, _, rfl⟩
theorem d_Mo_say_0 : decode b_Mo_say 0 = .ok (.aload_n 0, 1) := by decide +kernel
theorem d_Mo_say_1 : decode b_Mo_say 1 = .ok (.getfield 197, 3) := by decide +kernel
theorem d_Mo_say_4 : decode b_Mo_say 4 = .ok (.sipush 400, 3) := by decide +kernel
theorem d_Mo_say_7 : decode b_Mo_say 7 = .ok (.if_icmp .ne 11, 3) := by decide +kernel
theorem d_Mo_say_10 : decode b_Mo_say 10 = .ok (.aload_n 0, 1) := by decide +kernel
theorem d_Mo_say_11 : decode b_Mo_say 11 = .ok (.iconst 1, 1) := by decide +kernel
theorem d_Mo_say_12 : decode b_Mo_say 12 = .ok (.putfield 200, 3) := by decide +kernel
theorem d_Mo_say_15 : decode b_Mo_say 15 = .ok (.goto 23, 3) := by decide +kernel
theorem d_Mo_say_18 : decode b_Mo_say 18 = .ok (.aload_n 0, 1) := by decide +kernel
theorem d_Mo_say_19 : decode b_Mo_say 19 = .ok (.getfield 45, 3) := by decide +kernel
theorem d_Mo_say_22 : decode b_Mo_say 22 = .ok (.aload_n 0, 1) := by decide +kernel
theorem d_Mo_say_23 : decode b_Mo_say 23 = .ok (.getfield 197, 3) := by decide +kernel
theorem d_Mo_say_26 : decode b_Mo_say 26 = .ok (.iload_n 1, 1) := by decide +kernel
theorem d_Mo_say_27 : decode b_Mo_say 27 = .ok (.castore, 1) := by decide +kernel
theorem d_Mo_say_28 : decode b_Mo_say 28 = .ok (.aload_n 0, 1) := by decide +kernel
theorem d_Mo_say_29 : decode b_Mo_say 29 = .ok (.dup, 1) := by decide +kernel
theorem d_Mo_say_30 : decode b_Mo_say 30 = .ok (.getfield 197, 3) := by decide +kernel
theorem d_Mo_say_33 : decode b_Mo_say 33 = .ok (.iconst 1, 1) := by decide +kernel
theorem d_Mo_say_34 : decode b_Mo_say 34 = .ok (.iadd, 1) := by decide +kernel
theorem d_Mo_say_35 : decode b_Mo_say 35 = .ok (.putfield 197, 3) := by decide +kernel
theorem d_Mo_say_38 : decode b_Mo_say 38 = .ok (.return_, 1) := by decide +kernel
/-! Mo_sayWhole: ('CellHeapModel', 'sayWhole', '(I)V') -/
abbrev b_Mo_sayWhole : ByteArray := prog_10_method_55_code
abbrev y_Mo_sayWhole : MethodName := ⟨R_Mo, "sayWhole", "(I)V"⟩
abbrev K_Mo_sayWhole := CanV y_Mo_sayWhole b_Mo_sayWhole 5 none 3 0 0
theorem I_Mo_sayWhole {h : HP} {v1 : Int32} {Φ : HP → Prop} (body : ∀ X : CX, Cok X b_Mo_sayWhole 5 R_Mo none → xR X = rml 3 0 0 → Qok X 0 0 (fun r h2 => r = none ∧ Φ h2) → Wg X 0 0 h [(0, .ref 0), (1, .int v1)] [] 0) : K_Mo_sayWhole [.ref 0, .int v1] h Φ := Can.intro (by decide) (fun _ => Nat.le_of_ble_eq_true rfl) body
theorem M_Mo_sayWhole : Mv y_Mo_sayWhole b_Mo_sayWhole 5 none 1 8 := ⟨wx_in 1366 (by decide +kernel) rfl, wx_in 1365 (by decide +kernel) rfl, wx_in 62 (by decide +kernel) rfl, wx_in 73 (by decide +kernel) rfl, by decide +kernel, by decide, by decide, _, _, rfl⟩
theorem d_Mo_sayWhole_0 : decode b_Mo_sayWhole 0 = .ok (.aload_n 0, 1) := by decide +kernel
theorem d_Mo_sayWhole_1 : decode b_Mo_sayWhole 1 = .ok (.bipush 6, 2) := by decide +kernel
theorem d_Mo_sayWhole_3 : decode b_Mo_sayWhole 3 = .ok (.iload_n 1, 1) := by decide +kernel
theorem d_Mo_sayWhole_4 : decode b_Mo_sayWhole 4 = .ok (.invokevirtual 154, 3) := by decide +kernel
theorem d_Mo_sayWhole_7 : decode b_Mo_sayWhole 7 = .ok (.aload_n 0, 1) := by decide +kernel
theorem d_Mo_sayWhole_8 : decode b_Mo_sayWhole 8 = .ok (.getfield 38, 3) := by decide +kernel
theorem d_Mo_sayWhole_11 : decode b_Mo_sayWhole 11 = .ok (.bipush 6, 2) := by decide +kernel
theorem d_Mo_sayWhole_13 : decode b_Mo_sayWhole 13 = .ok (.baload, 1) := by decide +kernel
theorem d_Mo_sayWhole_14 : decode b_Mo_sayWhole 14 = .ok (.ifCond .eq 9, 3) := by decide +kernel
theorem d_Mo_sayWhole_17 : decode b_Mo_sayWhole 17 = .ok (.aload_n 0, 1) := by decide +kernel
theorem d_Mo_sayWhole_18 : decode b_Mo_sayWhole 18 = .ok (.bipush 45, 2) := by decide +kernel
theorem d_Mo_sayWhole_20 : decode b_Mo_sayWhole 20 = .ok (.invokevirtual 204, 3) := by decide +kernel
theorem d_Mo_sayWhole_23 : decode b_Mo_sayWhole 23 = .ok (.aload_n 0, 1) := by decide +kernel
theorem d_Mo_sayWhole_24 : decode b_Mo_sayWhole 24 = .ok (.getfield 35, 3) := by decide +kernel
theorem d_Mo_sayWhole_27 : decode b_Mo_sayWhole 27 = .ok (.bipush 6, 2) := by decide +kernel
theorem d_Mo_sayWhole_29 : decode b_Mo_sayWhole 29 = .ok (.iaload, 1) := by decide +kernel
theorem d_Mo_sayWhole_30 : decode b_Mo_sayWhole 30 = .ok (.ifCond .ne 10, 3) := by decide +kernel
theorem d_Mo_sayWhole_33 : decode b_Mo_sayWhole 33 = .ok (.aload_n 0, 1) := by decide +kernel
theorem d_Mo_sayWhole_34 : decode b_Mo_sayWhole 34 = .ok (.bipush 48, 2) := by decide +kernel
theorem d_Mo_sayWhole_36 : decode b_Mo_sayWhole 36 = .ok (.invokevirtual 204, 3) := by decide +kernel
theorem d_Mo_sayWhole_39 : decode b_Mo_sayWhole 39 = .ok (.return_, 1) := by decide +kernel
theorem d_Mo_sayWhole_40 : decode b_Mo_sayWhole 40 = .ok (.iconst 0, 1) := by decide +kernel
theorem d_Mo_sayWhole_41 : decode b_Mo_sayWhole 41 = .ok (.istore_n 2, 1) := by decide +kernel
theorem d_Mo_sayWhole_42 : decode b_Mo_sayWhole 42 = .ok (.aload_n 0, 1) := by decide +kernel
theorem d_Mo_sayWhole_43 : decode b_Mo_sayWhole 43 = .ok (.getfield 35, 3) := by decide +kernel
theorem d_Mo_sayWhole_46 : decode b_Mo_sayWhole 46 = .ok (.bipush 6, 2) := by decide +kernel
theorem d_Mo_sayWhole_48 : decode b_Mo_sayWhole 48 = .ok (.iaload, 1) := by decide +kernel
theorem d_Mo_sayWhole_49 : decode b_Mo_sayWhole 49 = .ok (.ifCond .le 24, 3) := by decide +kernel
theorem d_Mo_sayWhole_52 : decode b_Mo_sayWhole 52 = .ok (.aload_n 0, 1) := by decide +kernel
theorem d_Mo_sayWhole_53 : decode b_Mo_sayWhole 53 = .ok (.getfield 48, 3) := by decide +kernel
theorem d_Mo_sayWhole_56 : decode b_Mo_sayWhole 56 = .ok (.iload_n 2, 1) := by decide +kernel
theorem d_Mo_sayWhole_57 : decode b_Mo_sayWhole 57 = .ok (.aload_n 0, 1) := by decide +kernel
theorem d_Mo_sayWhole_58 : decode b_Mo_sayWhole 58 = .ok (.bipush 6, 2) := by decide +kernel
theorem d_Mo_sayWhole_60 : decode b_Mo_sayWhole 60 = .ok (.sipush 10000, 3) := by decide +kernel
theorem d_Mo_sayWhole_63 : decode b_Mo_sayWhole 63 = .ok (.invokevirtual 84, 3) := by decide +kernel
theorem d_Mo_sayWhole_66 : decode b_Mo_sayWhole 66 = .ok (.iastore, 1) := by decide +kernel
theorem d_Mo_sayWhole_67 : decode b_Mo_sayWhole 67 = .ok (.iinc 2 1, 3) := by decide +kernel
theorem d_Mo_sayWhole_70 : decode b_Mo_sayWhole 70 = .ok (.goto (-28), 3) := by decide +kernel
theorem d_Mo_sayWhole_73 : decode b_Mo_sayWhole 73 = .ok (.iload_n 2, 1) := by decide +kernel
theorem d_Mo_sayWhole_74 : decode b_Mo_sayWhole 74 = .ok (.iconst 1, 1) := by decide +kernel
theorem d_Mo_sayWhole_75 : decode b_Mo_sayWhole 75 = .ok (.isub, 1) := by decide +kernel
theorem d_Mo_sayWhole_76 : decode b_Mo_sayWhole 76 = .ok (.istore_n 3, 1) := by decide +kernel
theorem d_Mo_sayWhole_77 : decode b_Mo_sayWhole 77 = .ok (.iload_n 3, 1) := by decide +kernel
theorem d_Mo_sayWhole_78 : decode b_Mo_sayWhole 78 = .ok (.ifCond .lt 67, 3) := by decide +kernel
theorem d_Mo_sayWhole_81 : decode b_Mo_sayWhole 81 = .ok (.sipush 1000, 3) := by decide +kernel
theorem d_Mo_sayWhole_84 : decode b_Mo_sayWhole 84 = .ok (.istore 4, 2) := by decide +kernel
theorem d_Mo_sayWhole_86 : decode b_Mo_sayWhole 86 = .ok (.iload 4, 2) := by decide +kernel
theorem d_Mo_sayWhole_88 : decode b_Mo_sayWhole 88 = .ok (.ifCond .le 51, 3) := by decide +kernel
theorem d_Mo_sayWhole_91 : decode b_Mo_sayWhole 91 = .ok (.iload_n 3, 1) := by decide +kernel
theorem d_Mo_sayWhole_92 : decode b_Mo_sayWhole 92 = .ok (.iload_n 2, 1) := by decide +kernel
theorem d_Mo_sayWhole_93 : decode b_Mo_sayWhole 93 = .ok (.iconst 1, 1) := by decide +kernel
theorem d_Mo_sayWhole_94 : decode b_Mo_sayWhole 94 = .ok (.isub, 1) := by decide +kernel
theorem d_Mo_sayWhole_95 : decode b_Mo_sayWhole 95 = .ok (.if_icmp .lt 14, 3) := by decide +kernel
theorem d_Mo_sayWhole_98 : decode b_Mo_sayWhole 98 = .ok (.aload_n 0, 1) := by decide +kernel
theorem d_Mo_sayWhole_99 : decode b_Mo_sayWhole 99 = .ok (.getfield 48, 3) := by decide +kernel
theorem d_Mo_sayWhole_102 : decode b_Mo_sayWhole 102 = .ok (.iload_n 3, 1) := by decide +kernel
theorem d_Mo_sayWhole_103 : decode b_Mo_sayWhole 103 = .ok (.iaload, 1) := by decide +kernel
theorem d_Mo_sayWhole_104 : decode b_Mo_sayWhole 104 = .ok (.iload 4, 2) := by decide +kernel
theorem d_Mo_sayWhole_106 : decode b_Mo_sayWhole 106 = .ok (.if_icmp .lt 23, 3) := by decide +kernel
theorem d_Mo_sayWhole_109 : decode b_Mo_sayWhole 109 = .ok (.aload_n 0, 1) := by decide +kernel
theorem d_Mo_sayWhole_110 : decode b_Mo_sayWhole 110 = .ok (.bipush 48, 2) := by decide +kernel
theorem d_Mo_sayWhole_112 : decode b_Mo_sayWhole 112 = .ok (.aload_n 0, 1) := by decide +kernel
theorem d_Mo_sayWhole_113 : decode b_Mo_sayWhole 113 = .ok (.getfield 48, 3) := by decide +kernel
theorem d_Mo_sayWhole_116 : decode b_Mo_sayWhole 116 = .ok (.iload_n 3, 1) := by decide +kernel
theorem d_Mo_sayWhole_117 : decode b_Mo_sayWhole 117 = .ok (.iaload, 1) := by decide +kernel
theorem d_Mo_sayWhole_118 : decode b_Mo_sayWhole 118 = .ok (.iload 4, 2) := by decide +kernel
theorem d_Mo_sayWhole_120 : decode b_Mo_sayWhole 120 = .ok (.idiv, 1) := by decide +kernel
theorem d_Mo_sayWhole_121 : decode b_Mo_sayWhole 121 = .ok (.bipush 10, 2) := by decide +kernel
theorem d_Mo_sayWhole_123 : decode b_Mo_sayWhole 123 = .ok (.irem, 1) := by decide +kernel
theorem d_Mo_sayWhole_124 : decode b_Mo_sayWhole 124 = .ok (.iadd, 1) := by decide +kernel
theorem d_Mo_sayWhole_125 : decode b_Mo_sayWhole 125 = .ok (.i2c, 1) := by decide +kernel
theorem d_Mo_sayWhole_126 : decode b_Mo_sayWhole 126 = .ok (.invokevirtual 204, 3) := by decide +kernel
theorem d_Mo_sayWhole_129 : decode b_Mo_sayWhole 129 = .ok (.iload 4, 2) := by decide +kernel
theorem d_Mo_sayWhole_131 : decode b_Mo_sayWhole 131 = .ok (.bipush 10, 2) := by decide +kernel
theorem d_Mo_sayWhole_133 : decode b_Mo_sayWhole 133 = .ok (.idiv, 1) := by decide +kernel
theorem d_Mo_sayWhole_134 : decode b_Mo_sayWhole 134 = .ok (.istore 4, 2) := by decide +kernel
theorem d_Mo_sayWhole_136 : decode b_Mo_sayWhole 136 = .ok (.goto (-50), 3) := by decide +kernel
theorem d_Mo_sayWhole_139 : decode b_Mo_sayWhole 139 = .ok (.iinc 3 (-1), 3) := by decide +kernel
theorem d_Mo_sayWhole_142 : decode b_Mo_sayWhole 142 = .ok (.goto (-65), 3) := by decide +kernel
theorem d_Mo_sayWhole_145 : decode b_Mo_sayWhole 145 = .ok (.return_, 1) := by decide +kernel
/-! Mo_sayPlain: ('CellHeapModel', 'sayPlain', '(I)V') -/
abbrev b_Mo_sayPlain : ByteArray := prog_10_method_56_code
abbrev y_Mo_sayPlain : MethodName := ⟨R_Mo, "sayPlain", "(I)V"⟩
abbrev K_Mo_sayPlain := CanV y_Mo_sayPlain b_Mo_sayPlain 2 none 4 0 0
theorem I_Mo_sayPlain {h : HP} {v1 : Int32} {Φ : HP → Prop} (body : ∀ X : CX, Cok X b_Mo_sayPlain 2 R_Mo none → xR X = rml 4 0 0 → Qok X 0 0 (fun r h2 => r = none ∧ Φ h2) → Wg X 0 0 h [(0, .ref 0), (1, .int v1)] [] 0) : K_Mo_sayPlain [.ref 0, .int v1] h Φ := Can.intro (by decide) (fun _ => Nat.le_of_ble_eq_true rfl) body
theorem M_Mo_sayPlain : Mv y_Mo_sayPlain b_Mo_sayPlain 2 none 1 8 := ⟨wx_in 1362 (by decide +kernel) rfl, wx_in 1361 (by decide +kernel) rfl, wx_in 61 (by decide +kernel) rfl, wx_in 73 (by decide +kernel) rfl, by decide +kernel, by decide, by decide, _, _, rfl⟩
theorem d_Mo_sayPlain_0 : decode b_Mo_sayPlain 0 = .ok (.aload_n 0, 1) := by decide +kernel
theorem d_Mo_sayPlain_1 : decode b_Mo_sayPlain 1 = .ok (.iload_n 1, 1) := by decide +kernel
theorem d_Mo_sayPlain_2 : decode b_Mo_sayPlain 2 = .ok (.invokevirtual 151, 3) := by decide +kernel
theorem d_Mo_sayPlain_5 : decode b_Mo_sayPlain 5 = .ok (.ifCond .ne 18, 3) := by decide +kernel
theorem d_Mo_sayPlain_8 : decode b_Mo_sayPlain 8 = .ok (.aload_n 0, 1) := by decide +kernel
theorem d_Mo_sayPlain_9 : decode b_Mo_sayPlain 9 = .ok (.bipush 40, 2) := by decide +kernel
theorem d_Mo_sayPlain_11 : decode b_Mo_sayPlain 11 = .ok (.invokevirtual 204, 3) := by decide +kernel
theorem d_Mo_sayPlain_14 : decode b_Mo_sayPlain 14 = .ok (.aload_n 0, 1) := by decide +kernel
theorem d_Mo_sayPlain_15 : decode b_Mo_sayPlain 15 = .ok (.bipush 41, 2) := by decide +kernel
theorem d_Mo_sayPlain_17 : decode b_Mo_sayPlain 17 = .ok (.invokevirtual 204, 3) := by decide +kernel
theorem d_Mo_sayPlain_20 : decode b_Mo_sayPlain 20 = .ok (.goto 54, 3) := by decide +kernel
theorem d_Mo_sayPlain_23 : decode b_Mo_sayPlain 23 = .ok (.aload_n 0, 1) := by decide +kernel
theorem d_Mo_sayPlain_24 : decode b_Mo_sayPlain 24 = .ok (.iload_n 1, 1) := by decide +kernel
theorem d_Mo_sayPlain_25 : decode b_Mo_sayPlain 25 = .ok (.invokevirtual 151, 3) := by decide +kernel
theorem d_Mo_sayPlain_28 : decode b_Mo_sayPlain 28 = .ok (.iconst 3, 1) := by decide +kernel
theorem d_Mo_sayPlain_29 : decode b_Mo_sayPlain 29 = .ok (.if_icmp .ne 40, 3) := by decide +kernel
theorem d_Mo_sayPlain_32 : decode b_Mo_sayPlain 32 = .ok (.aload_n 0, 1) := by decide +kernel
theorem d_Mo_sayPlain_33 : decode b_Mo_sayPlain 33 = .ok (.aload_n 0, 1) := by decide +kernel
theorem d_Mo_sayPlain_34 : decode b_Mo_sayPlain 34 = .ok (.getfield 13, 3) := by decide +kernel
theorem d_Mo_sayPlain_37 : decode b_Mo_sayPlain 37 = .ok (.iload_n 1, 1) := by decide +kernel
theorem d_Mo_sayPlain_38 : decode b_Mo_sayPlain 38 = .ok (.iaload, 1) := by decide +kernel
theorem d_Mo_sayPlain_39 : decode b_Mo_sayPlain 39 = .ok (.iconst 0, 1) := by decide +kernel
theorem d_Mo_sayPlain_40 : decode b_Mo_sayPlain 40 = .ok (.invokestatic 104, 3) := by decide +kernel
theorem d_Mo_sayPlain_43 : decode b_Mo_sayPlain 43 = .ok (.invokevirtual 208, 3) := by decide +kernel
theorem d_Mo_sayPlain_46 : decode b_Mo_sayPlain 46 = .ok (.aload_n 0, 1) := by decide +kernel
theorem d_Mo_sayPlain_47 : decode b_Mo_sayPlain 47 = .ok (.bipush 47, 2) := by decide +kernel
theorem d_Mo_sayPlain_49 : decode b_Mo_sayPlain 49 = .ok (.invokevirtual 204, 3) := by decide +kernel
theorem d_Mo_sayPlain_52 : decode b_Mo_sayPlain 52 = .ok (.aload_n 0, 1) := by decide +kernel
theorem d_Mo_sayPlain_53 : decode b_Mo_sayPlain 53 = .ok (.aload_n 0, 1) := by decide +kernel
theorem d_Mo_sayPlain_54 : decode b_Mo_sayPlain 54 = .ok (.getfield 13, 3) := by decide +kernel
theorem d_Mo_sayPlain_57 : decode b_Mo_sayPlain 57 = .ok (.iload_n 1, 1) := by decide +kernel
theorem d_Mo_sayPlain_58 : decode b_Mo_sayPlain 58 = .ok (.iaload, 1) := by decide +kernel
theorem d_Mo_sayPlain_59 : decode b_Mo_sayPlain 59 = .ok (.iconst 1, 1) := by decide +kernel
theorem d_Mo_sayPlain_60 : decode b_Mo_sayPlain 60 = .ok (.invokestatic 104, 3) := by decide +kernel
theorem d_Mo_sayPlain_63 : decode b_Mo_sayPlain 63 = .ok (.invokevirtual 208, 3) := by decide +kernel
theorem d_Mo_sayPlain_66 : decode b_Mo_sayPlain 66 = .ok (.goto 8, 3) := by decide +kernel
theorem d_Mo_sayPlain_69 : decode b_Mo_sayPlain 69 = .ok (.aload_n 0, 1) := by decide +kernel
theorem d_Mo_sayPlain_70 : decode b_Mo_sayPlain 70 = .ok (.iload_n 1, 1) := by decide +kernel
theorem d_Mo_sayPlain_71 : decode b_Mo_sayPlain 71 = .ok (.invokevirtual 208, 3) := by decide +kernel
theorem d_Mo_sayPlain_74 : decode b_Mo_sayPlain 74 = .ok (.return_, 1) := by decide +kernel
/-! Mo_write: ('CellHeapModel', 'write', '(I)I') -/
abbrev b_Mo_write : ByteArray := prog_10_method_57_code
abbrev y_Mo_write : MethodName := ⟨R_Mo, "write", "(I)I"⟩
abbrev K_Mo_write := CanI y_Mo_write b_Mo_write 7 ((some .int)) 5 0 0
theorem I_Mo_write {h : HP} {v1 : Int32} {Φ : Int32 → HP → Prop} (body : ∀ X : CX, Cok X b_Mo_write 7 R_Mo ((some .int)) → xR X = rml 5 0 0 → Qok X 0 0 (fun r h2 => ∃ v, r = some (.int v) ∧ Φ v h2) → Wg X 0 0 h [(0, .ref 0), (1, .int v1)] [] 0) : K_Mo_write [.ref 0, .int v1] h Φ := Can.intro (by decide) (fun _ => Nat.le_of_ble_eq_true rfl) body
theorem M_Mo_write : Mv y_Mo_write b_Mo_write 7 ((some .int)) 1 8 := ⟨wx_in 1354 (by decide +kernel) rfl, wx_in 1352 (by decide +kernel) rfl, wx_in 1353 (by decide +kernel) rfl, wx_in 73 (by decide +kernel) rfl, by decide +kernel, by decide, by decide, _, _, rfl⟩
theorem d_Mo_write_0 : decode b_Mo_write 0 = .ok (.aload_n 0, 1) := by decide +kernel
theorem d_Mo_write_1 : decode b_Mo_write 1 = .ok (.iload_n 1, 1) := by decide +kernel
theorem d_Mo_write_2 : decode b_Mo_write 2 = .ok (.invokestatic 157, 3) := by decide +kernel
theorem d_Mo_write_5 : decode b_Mo_write 5 = .ok (.ifCond .eq 7, 3) := by decide +kernel
theorem d_Mo_write_8 : decode b_Mo_write 8 = .ok (.iconst 0, 1) := by decide +kernel
theorem d_Mo_write_9 : decode b_Mo_write 9 = .ok (.goto 4, 3) := by decide +kernel
theorem d_Mo_write_12 : decode b_Mo_write 12 = .ok (.iconst 1, 1) := by decide +kernel
theorem d_Mo_write_13 : decode b_Mo_write 13 = .ok (.invokevirtual 160, 3) := by decide +kernel
theorem d_Mo_write_16 : decode b_Mo_write 16 = .ok (.ifCond .eq 5, 3) := by decide +kernel
theorem d_Mo_write_19 : decode b_Mo_write 19 = .ok (.iconst 0, 1) := by decide +kernel
theorem d_Mo_write_20 : decode b_Mo_write 20 = .ok (.ireturn, 1) := by decide +kernel
theorem d_Mo_write_21 : decode b_Mo_write 21 = .ok (.aload_n 0, 1) := by decide +kernel
theorem d_Mo_write_22 : decode b_Mo_write 22 = .ok (.iconst 0, 1) := by decide +kernel
theorem d_Mo_write_23 : decode b_Mo_write 23 = .ok (.putfield 197, 3) := by decide +kernel
theorem d_Mo_write_26 : decode b_Mo_write 26 = .ok (.aload_n 0, 1) := by decide +kernel
theorem d_Mo_write_27 : decode b_Mo_write 27 = .ok (.iconst 0, 1) := by decide +kernel
theorem d_Mo_write_28 : decode b_Mo_write 28 = .ok (.putfield 200, 3) := by decide +kernel
theorem d_Mo_write_31 : decode b_Mo_write 31 = .ok (.iconst 0, 1) := by decide +kernel
theorem d_Mo_write_32 : decode b_Mo_write 32 = .ok (.istore_n 2, 1) := by decide +kernel
theorem d_Mo_write_33 : decode b_Mo_write 33 = .ok (.iload_n 1, 1) := by decide +kernel
theorem d_Mo_write_34 : decode b_Mo_write 34 = .ok (.istore_n 3, 1) := by decide +kernel
theorem d_Mo_write_35 : decode b_Mo_write 35 = .ok (.iconst 1, 1) := by decide +kernel
theorem d_Mo_write_36 : decode b_Mo_write 36 = .ok (.istore 4, 2) := by decide +kernel
theorem d_Mo_write_38 : decode b_Mo_write 38 = .ok (.iload 4, 2) := by decide +kernel
theorem d_Mo_write_40 : decode b_Mo_write 40 = .ok (.ifCond .eq 207, 3) := by decide +kernel
theorem d_Mo_write_43 : decode b_Mo_write 43 = .ok (.aload_n 0, 1) := by decide +kernel
theorem d_Mo_write_44 : decode b_Mo_write 44 = .ok (.getfield 200, 3) := by decide +kernel
theorem d_Mo_write_47 : decode b_Mo_write 47 = .ok (.ifCond .ne 200, 3) := by decide +kernel
theorem d_Mo_write_50 : decode b_Mo_write 50 = .ok (.aload_n 0, 1) := by decide +kernel
theorem d_Mo_write_51 : decode b_Mo_write 51 = .ok (.iload_n 3, 1) := by decide +kernel
theorem d_Mo_write_52 : decode b_Mo_write 52 = .ok (.invokevirtual 151, 3) := by decide +kernel
theorem d_Mo_write_55 : decode b_Mo_write 55 = .ok (.iconst 4, 1) := by decide +kernel
theorem d_Mo_write_56 : decode b_Mo_write 56 = .ok (.if_icmp .ne 45, 3) := by decide +kernel
theorem d_Mo_write_59 : decode b_Mo_write 59 = .ok (.aload_n 0, 1) := by decide +kernel
theorem d_Mo_write_60 : decode b_Mo_write 60 = .ok (.getfield 200, 3) := by decide +kernel
theorem d_Mo_write_63 : decode b_Mo_write 63 = .ok (.ifCond .ne 38, 3) := by decide +kernel
theorem d_Mo_write_66 : decode b_Mo_write 66 = .ok (.aload_n 0, 1) := by decide +kernel
theorem d_Mo_write_67 : decode b_Mo_write 67 = .ok (.bipush 40, 2) := by decide +kernel
theorem d_Mo_write_69 : decode b_Mo_write 69 = .ok (.invokevirtual 204, 3) := by decide +kernel
theorem d_Mo_write_72 : decode b_Mo_write 72 = .ok (.aload_n 0, 1) := by decide +kernel
theorem d_Mo_write_73 : decode b_Mo_write 73 = .ok (.getfield 29, 3) := by decide +kernel
theorem d_Mo_write_76 : decode b_Mo_write 76 = .ok (.iload_n 2, 1) := by decide +kernel
theorem d_Mo_write_77 : decode b_Mo_write 77 = .ok (.aload_n 0, 1) := by decide +kernel
theorem d_Mo_write_78 : decode b_Mo_write 78 = .ok (.getfield 13, 3) := by decide +kernel
theorem d_Mo_write_81 : decode b_Mo_write 81 = .ok (.iload_n 3, 1) := by decide +kernel
theorem d_Mo_write_82 : decode b_Mo_write 82 = .ok (.iaload, 1) := by decide +kernel
theorem d_Mo_write_83 : decode b_Mo_write 83 = .ok (.iastore, 1) := by decide +kernel
theorem d_Mo_write_84 : decode b_Mo_write 84 = .ok (.iinc 2 1, 3) := by decide +kernel
theorem d_Mo_write_87 : decode b_Mo_write 87 = .ok (.aload_n 0, 1) := by decide +kernel
theorem d_Mo_write_88 : decode b_Mo_write 88 = .ok (.getfield 13, 3) := by decide +kernel
theorem d_Mo_write_91 : decode b_Mo_write 91 = .ok (.iload_n 3, 1) := by decide +kernel
theorem d_Mo_write_92 : decode b_Mo_write 92 = .ok (.iaload, 1) := by decide +kernel
theorem d_Mo_write_93 : decode b_Mo_write 93 = .ok (.iconst 0, 1) := by decide +kernel
theorem d_Mo_write_94 : decode b_Mo_write 94 = .ok (.invokestatic 104, 3) := by decide +kernel
theorem d_Mo_write_97 : decode b_Mo_write 97 = .ok (.istore_n 3, 1) := by decide +kernel
theorem d_Mo_write_98 : decode b_Mo_write 98 = .ok (.goto (-48), 3) := by decide +kernel
theorem d_Mo_write_101 : decode b_Mo_write 101 = .ok (.aload_n 0, 1) := by decide +kernel
theorem d_Mo_write_102 : decode b_Mo_write 102 = .ok (.getfield 200, 3) := by decide +kernel
theorem d_Mo_write_105 : decode b_Mo_write 105 = .ok (.ifCond .ne 8, 3) := by decide +kernel
theorem d_Mo_write_108 : decode b_Mo_write 108 = .ok (.aload_n 0, 1) := by decide +kernel
theorem d_Mo_write_109 : decode b_Mo_write 109 = .ok (.iload_n 3, 1) := by decide +kernel
theorem d_Mo_write_110 : decode b_Mo_write 110 = .ok (.invokevirtual 211, 3) := by decide +kernel
theorem d_Mo_write_113 : decode b_Mo_write 113 = .ok (.iconst 0, 1) := by decide +kernel
theorem d_Mo_write_114 : decode b_Mo_write 114 = .ok (.istore 5, 2) := by decide +kernel
theorem d_Mo_write_116 : decode b_Mo_write 116 = .ok (.iload_n 2, 1) := by decide +kernel
theorem d_Mo_write_117 : decode b_Mo_write 117 = .ok (.ifCond .le 123, 3) := by decide +kernel
theorem d_Mo_write_120 : decode b_Mo_write 120 = .ok (.iload 5, 2) := by decide +kernel
theorem d_Mo_write_122 : decode b_Mo_write 122 = .ok (.ifCond .ne 118, 3) := by decide +kernel
theorem d_Mo_write_125 : decode b_Mo_write 125 = .ok (.aload_n 0, 1) := by decide +kernel
theorem d_Mo_write_126 : decode b_Mo_write 126 = .ok (.getfield 200, 3) := by decide +kernel
theorem d_Mo_write_129 : decode b_Mo_write 129 = .ok (.ifCond .ne 111, 3) := by decide +kernel
theorem d_Mo_write_132 : decode b_Mo_write 132 = .ok (.aload_n 0, 1) := by decide +kernel
theorem d_Mo_write_133 : decode b_Mo_write 133 = .ok (.getfield 29, 3) := by decide +kernel
theorem d_Mo_write_136 : decode b_Mo_write 136 = .ok (.iload_n 2, 1) := by decide +kernel
theorem d_Mo_write_137 : decode b_Mo_write 137 = .ok (.iconst 1, 1) := by decide +kernel
theorem d_Mo_write_138 : decode b_Mo_write 138 = .ok (.isub, 1) := by decide +kernel
theorem d_Mo_write_139 : decode b_Mo_write 139 = .ok (.iaload, 1) := by decide +kernel
theorem d_Mo_write_140 : decode b_Mo_write 140 = .ok (.iconst 1, 1) := by decide +kernel
theorem d_Mo_write_141 : decode b_Mo_write 141 = .ok (.invokestatic 104, 3) := by decide +kernel
theorem d_Mo_write_144 : decode b_Mo_write 144 = .ok (.istore 6, 2) := by decide +kernel
theorem d_Mo_write_146 : decode b_Mo_write 146 = .ok (.aload_n 0, 1) := by decide +kernel
theorem d_Mo_write_147 : decode b_Mo_write 147 = .ok (.iload 6, 2) := by decide +kernel
theorem d_Mo_write_149 : decode b_Mo_write 149 = .ok (.invokevirtual 151, 3) := by decide +kernel
theorem d_Mo_write_152 : decode b_Mo_write 152 = .ok (.iconst 4, 1) := by decide +kernel
theorem d_Mo_write_153 : decode b_Mo_write 153 = .ok (.if_icmp .ne 42, 3) := by decide +kernel
theorem d_Mo_write_156 : decode b_Mo_write 156 = .ok (.aload_n 0, 1) := by decide +kernel
theorem d_Mo_write_157 : decode b_Mo_write 157 = .ok (.bipush 32, 2) := by decide +kernel
theorem d_Mo_write_159 : decode b_Mo_write 159 = .ok (.invokevirtual 204, 3) := by decide +kernel
theorem d_Mo_write_162 : decode b_Mo_write 162 = .ok (.aload_n 0, 1) := by decide +kernel
theorem d_Mo_write_163 : decode b_Mo_write 163 = .ok (.getfield 29, 3) := by decide +kernel
theorem d_Mo_write_166 : decode b_Mo_write 166 = .ok (.iload_n 2, 1) := by decide +kernel
theorem d_Mo_write_167 : decode b_Mo_write 167 = .ok (.iconst 1, 1) := by decide +kernel
theorem d_Mo_write_168 : decode b_Mo_write 168 = .ok (.isub, 1) := by decide +kernel
theorem d_Mo_write_169 : decode b_Mo_write 169 = .ok (.aload_n 0, 1) := by decide +kernel
theorem d_Mo_write_170 : decode b_Mo_write 170 = .ok (.getfield 13, 3) := by decide +kernel
theorem d_Mo_write_173 : decode b_Mo_write 173 = .ok (.iload 6, 2) := by decide +kernel
theorem d_Mo_write_175 : decode b_Mo_write 175 = .ok (.iaload, 1) := by decide +kernel
theorem d_Mo_write_176 : decode b_Mo_write 176 = .ok (.iastore, 1) := by decide +kernel
theorem d_Mo_write_177 : decode b_Mo_write 177 = .ok (.aload_n 0, 1) := by decide +kernel
theorem d_Mo_write_178 : decode b_Mo_write 178 = .ok (.getfield 13, 3) := by decide +kernel
theorem d_Mo_write_181 : decode b_Mo_write 181 = .ok (.iload 6, 2) := by decide +kernel
theorem d_Mo_write_183 : decode b_Mo_write 183 = .ok (.iaload, 1) := by decide +kernel
theorem d_Mo_write_184 : decode b_Mo_write 184 = .ok (.iconst 0, 1) := by decide +kernel
theorem d_Mo_write_185 : decode b_Mo_write 185 = .ok (.invokestatic 104, 3) := by decide +kernel
theorem d_Mo_write_188 : decode b_Mo_write 188 = .ok (.istore_n 3, 1) := by decide +kernel
theorem d_Mo_write_189 : decode b_Mo_write 189 = .ok (.iconst 1, 1) := by decide +kernel
theorem d_Mo_write_190 : decode b_Mo_write 190 = .ok (.istore 5, 2) := by decide +kernel
theorem d_Mo_write_192 : decode b_Mo_write 192 = .ok (.goto 45, 3) := by decide +kernel
theorem d_Mo_write_195 : decode b_Mo_write 195 = .ok (.aload_n 0, 1) := by decide +kernel
theorem d_Mo_write_196 : decode b_Mo_write 196 = .ok (.iload 6, 2) := by decide +kernel
theorem d_Mo_write_198 : decode b_Mo_write 198 = .ok (.invokevirtual 151, 3) := by decide +kernel
theorem d_Mo_write_201 : decode b_Mo_write 201 = .ok (.ifCond .eq 27, 3) := by decide +kernel
theorem d_Mo_write_204 : decode b_Mo_write 204 = .ok (.aload_n 0, 1) := by decide +kernel
theorem d_Mo_write_205 : decode b_Mo_write 205 = .ok (.bipush 32, 2) := by decide +kernel
theorem d_Mo_write_207 : decode b_Mo_write 207 = .ok (.invokevirtual 204, 3) := by decide +kernel
theorem d_Mo_write_210 : decode b_Mo_write 210 = .ok (.aload_n 0, 1) := by decide +kernel
theorem d_Mo_write_211 : decode b_Mo_write 211 = .ok (.bipush 46, 2) := by decide +kernel
theorem d_Mo_write_213 : decode b_Mo_write 213 = .ok (.invokevirtual 204, 3) := by decide +kernel
theorem d_Mo_write_216 : decode b_Mo_write 216 = .ok (.aload_n 0, 1) := by decide +kernel
theorem d_Mo_write_217 : decode b_Mo_write 217 = .ok (.bipush 32, 2) := by decide +kernel
theorem d_Mo_write_219 : decode b_Mo_write 219 = .ok (.invokevirtual 204, 3) := by decide +kernel
theorem d_Mo_write_222 : decode b_Mo_write 222 = .ok (.aload_n 0, 1) := by decide +kernel
theorem d_Mo_write_223 : decode b_Mo_write 223 = .ok (.iload 6, 2) := by decide +kernel
theorem d_Mo_write_225 : decode b_Mo_write 225 = .ok (.invokevirtual 211, 3) := by decide +kernel
theorem d_Mo_write_228 : decode b_Mo_write 228 = .ok (.aload_n 0, 1) := by decide +kernel
theorem d_Mo_write_229 : decode b_Mo_write 229 = .ok (.bipush 41, 2) := by decide +kernel
theorem d_Mo_write_231 : decode b_Mo_write 231 = .ok (.invokevirtual 204, 3) := by decide +kernel
theorem d_Mo_write_234 : decode b_Mo_write 234 = .ok (.iinc 2 (-1), 3) := by decide +kernel
theorem d_Mo_write_237 : decode b_Mo_write 237 = .ok (.goto (-121), 3) := by decide +kernel
theorem d_Mo_write_240 : decode b_Mo_write 240 = .ok (.iload 5, 2) := by decide +kernel
theorem d_Mo_write_242 : decode b_Mo_write 242 = .ok (.istore 4, 2) := by decide +kernel
theorem d_Mo_write_244 : decode b_Mo_write 244 = .ok (.goto (-206), 3) := by decide +kernel
theorem d_Mo_write_247 : decode b_Mo_write 247 = .ok (.aload_n 0, 1) := by decide +kernel
theorem d_Mo_write_248 : decode b_Mo_write 248 = .ok (.getfield 200, 3) := by decide +kernel
theorem d_Mo_write_251 : decode b_Mo_write 251 = .ok (.ifCond .eq 11, 3) := by decide +kernel
theorem d_Mo_write_254 : decode b_Mo_write 254 = .ok (.aload_n 0, 1) := by decide +kernel
theorem d_Mo_write_255 : decode b_Mo_write 255 = .ok (.iconst 0, 1) := by decide +kernel
theorem d_Mo_write_256 : decode b_Mo_write 256 = .ok (.putfield 197, 3) := by decide +kernel
theorem d_Mo_write_259 : decode b_Mo_write 259 = .ok (.bipush (-6), 2) := by decide +kernel
theorem d_Mo_write_261 : decode b_Mo_write 261 = .ok (.ireturn, 1) := by decide +kernel
theorem d_Mo_write_262 : decode b_Mo_write 262 = .ok (.aload_n 0, 1) := by decide +kernel
theorem d_Mo_write_263 : decode b_Mo_write 263 = .ok (.getfield 197, 3) := by decide +kernel
theorem d_Mo_write_266 : decode b_Mo_write 266 = .ok (.ireturn, 1) := by decide +kernel
/-! Mo_output: ('CellHeapModel', 'output', '(I)C') -/
abbrev b_Mo_output : ByteArray := prog_10_method_58_code
abbrev y_Mo_output : MethodName := ⟨R_Mo, "output", "(I)C"⟩
abbrev K_Mo_output := CanI y_Mo_output b_Mo_output 2 ((some .char)) 0 0 0
theorem I_Mo_output {h : HP} {v1 : Int32} {Φ : Int32 → HP → Prop} (body : ∀ X : CX, Cok X b_Mo_output 2 R_Mo ((some .char)) → xR X = rml 0 0 0 → Qok X 0 0 (fun r h2 => ∃ v, r = some (.int v) ∧ Φ v h2) → Wg X 0 0 h [(0, .ref 0), (1, .int v1)] [] 0) : K_Mo_output [.ref 0, .int v1] h Φ := Can.intro (by decide) (fun _ => Nat.le_of_ble_eq_true rfl) body
theorem M_Mo_output : Mv y_Mo_output b_Mo_output 2 ((some .char)) 1 8 := ⟨wx_in 1370 (by decide +kernel) rfl, wx_in 1368 (by decide +kernel) rfl, wx_in 1369 (by decide +kernel) rfl, wx_in 73 (by decide +kernel) rfl, by decide +kernel, by decide, by decide, _, _, rfl⟩
theorem d_Mo_output_0 : decode b_Mo_output 0 = .ok (.aload_n 0, 1) := by decide +kernel
theorem d_Mo_output_1 : decode b_Mo_output 1 = .ok (.iconst 0, 1) := by decide +kernel
theorem d_Mo_output_2 : decode b_Mo_output 2 = .ok (.putfield 51, 3) := by decide +kernel
theorem d_Mo_output_5 : decode b_Mo_output 5 = .ok (.iload_n 1, 1) := by decide +kernel
theorem d_Mo_output_6 : decode b_Mo_output 6 = .ok (.ifCond .lt 20, 3) := by decide +kernel
theorem d_Mo_output_9 : decode b_Mo_output 9 = .ok (.iload_n 1, 1) := by decide +kernel
theorem d_Mo_output_10 : decode b_Mo_output 10 = .ok (.aload_n 0, 1) := by decide +kernel
theorem d_Mo_output_11 : decode b_Mo_output 11 = .ok (.getfield 197, 3) := by decide +kernel
theorem d_Mo_output_14 : decode b_Mo_output 14 = .ok (.if_icmp .ge 12, 3) := by decide +kernel
theorem d_Mo_output_17 : decode b_Mo_output 17 = .ok (.aload_n 0, 1) := by decide +kernel
theorem d_Mo_output_18 : decode b_Mo_output 18 = .ok (.getfield 45, 3) := by decide +kernel
theorem d_Mo_output_21 : decode b_Mo_output 21 = .ok (.iload_n 1, 1) := by decide +kernel
theorem d_Mo_output_22 : decode b_Mo_output 22 = .ok (.caload, 1) := by decide +kernel
theorem d_Mo_output_23 : decode b_Mo_output 23 = .ok (.goto 5, 3) := by decide +kernel
theorem d_Mo_output_26 : decode b_Mo_output 26 = .ok (.bipush 32, 2) := by decide +kernel
theorem d_Mo_output_28 : decode b_Mo_output 28 = .ok (.ireturn, 1) := by decide +kernel
/-! Mo_collect: ('CellHeapModel', 'collect', '()I') -/
abbrev b_Mo_collect : ByteArray := prog_10_method_59_code
abbrev y_Mo_collect : MethodName := ⟨R_Mo, "collect", "()I"⟩
abbrev K_Mo_collect := CanI y_Mo_collect b_Mo_collect 1 ((some .int)) 3 0 0
theorem I_Mo_collect {h : HP}  {Φ : Int32 → HP → Prop} (body : ∀ X : CX, Cok X b_Mo_collect 1 R_Mo ((some .int)) → xR X = rml 3 0 0 → Qok X 0 0 (fun r h2 => ∃ v, r = some (.int v) ∧ Φ v h2) → Wg X 0 0 h [(0, .ref 0)] [] 0) : K_Mo_collect [.ref 0] h Φ := Can.intro (by decide) (fun _ => Nat.le_of_ble_eq_true rfl) body
theorem M_Mo_collect : Mv y_Mo_collect b_Mo_collect 1 ((some .int)) 0 8 := ⟨wx_in 1374 (by decide +kernel) rfl, wx_in 1372 (by decide +kernel) rfl, wx_in 1373 (by decide +kernel) rfl, wx_in 73 (by decide +kernel) rfl, by decide +kernel, by decide, by decide, _, _, rfl⟩
theorem d_Mo_collect_0 : decode b_Mo_collect 0 = .ok (.aload_n 0, 1) := by decide +kernel
theorem d_Mo_collect_1 : decode b_Mo_collect 1 = .ok (.iconst 0, 1) := by decide +kernel
theorem d_Mo_collect_2 : decode b_Mo_collect 2 = .ok (.putfield 51, 3) := by decide +kernel
theorem d_Mo_collect_5 : decode b_Mo_collect 5 = .ok (.aload_n 0, 1) := by decide +kernel
theorem d_Mo_collect_6 : decode b_Mo_collect 6 = .ok (.invokevirtual 120, 3) := by decide +kernel
theorem d_Mo_collect_9 : decode b_Mo_collect 9 = .ok (.ireturn, 1) := by decide +kernel
/-! Mo_value: ('CellHeapModel', 'value', '(II)I') -/
abbrev b_Mo_value : ByteArray := prog_10_method_60_code
abbrev y_Mo_value : MethodName := ⟨R_Mo, "value", "(II)I"⟩
abbrev K_Mo_value := CanI y_Mo_value b_Mo_value 4 ((some .int)) 1 0 0
theorem I_Mo_value {h : HP} {v1 : Int32} {v2 : Int32} {Φ : Int32 → HP → Prop} (body : ∀ X : CX, Cok X b_Mo_value 4 R_Mo ((some .int)) → xR X = rml 1 0 0 → Qok X 0 0 (fun r h2 => ∃ v, r = some (.int v) ∧ Φ v h2) → Wg X 0 0 h [(0, .ref 0), (1, .int v1), (2, .int v2)] [] 0) : K_Mo_value [.ref 0, .int v1, .int v2] h Φ := Can.intro (by decide) (fun _ => Nat.le_of_ble_eq_true rfl) body
theorem M_Mo_value : Mv y_Mo_value b_Mo_value 4 ((some .int)) 2 8 := ⟨wx_in 1378 (by decide +kernel) rfl, wx_in 1376 (by decide +kernel) rfl, wx_in 1377 (by decide +kernel) rfl, wx_in 73 (by decide +kernel) rfl, by decide +kernel, by decide, by decide, _, _, rfl⟩
theorem d_Mo_value_0 : decode b_Mo_value 0 = .ok (.aload_n 0, 1) := by decide +kernel
theorem d_Mo_value_1 : decode b_Mo_value 1 = .ok (.iload_n 1, 1) := by decide +kernel
theorem d_Mo_value_2 : decode b_Mo_value 2 = .ok (.invokestatic 157, 3) := by decide +kernel
theorem d_Mo_value_5 : decode b_Mo_value 5 = .ok (.ifCond .eq 16, 3) := by decide +kernel
theorem d_Mo_value_8 : decode b_Mo_value 8 = .ok (.iload_n 2, 1) := by decide +kernel
theorem d_Mo_value_9 : decode b_Mo_value 9 = .ok (.ifCond .lt 12, 3) := by decide +kernel
theorem d_Mo_value_12 : decode b_Mo_value 12 = .ok (.iload_n 2, 1) := by decide +kernel
theorem d_Mo_value_13 : decode b_Mo_value 13 = .ok (.iconst 3, 1) := by decide +kernel
theorem d_Mo_value_14 : decode b_Mo_value 14 = .ok (.if_icmp .gt 7, 3) := by decide +kernel
theorem d_Mo_value_17 : decode b_Mo_value 17 = .ok (.iconst 0, 1) := by decide +kernel
theorem d_Mo_value_18 : decode b_Mo_value 18 = .ok (.goto 4, 3) := by decide +kernel
theorem d_Mo_value_21 : decode b_Mo_value 21 = .ok (.iconst 1, 1) := by decide +kernel
theorem d_Mo_value_22 : decode b_Mo_value 22 = .ok (.invokevirtual 160, 3) := by decide +kernel
theorem d_Mo_value_25 : decode b_Mo_value 25 = .ok (.ifCond .eq 5, 3) := by decide +kernel
theorem d_Mo_value_28 : decode b_Mo_value 28 = .ok (.iconst 0, 1) := by decide +kernel
theorem d_Mo_value_29 : decode b_Mo_value 29 = .ok (.ireturn, 1) := by decide +kernel
theorem d_Mo_value_30 : decode b_Mo_value 30 = .ok (.aload_n 0, 1) := by decide +kernel
theorem d_Mo_value_31 : decode b_Mo_value 31 = .ok (.getfield 7, 3) := by decide +kernel
theorem d_Mo_value_34 : decode b_Mo_value 34 = .ok (.iload_n 1, 1) := by decide +kernel
theorem d_Mo_value_35 : decode b_Mo_value 35 = .ok (.iaload, 1) := by decide +kernel
theorem d_Mo_value_36 : decode b_Mo_value 36 = .ok (.iconst 2, 1) := by decide +kernel
theorem d_Mo_value_37 : decode b_Mo_value 37 = .ok (.if_icmp .ne 7, 3) := by decide +kernel
theorem d_Mo_value_40 : decode b_Mo_value 40 = .ok (.iconst 1, 1) := by decide +kernel
theorem d_Mo_value_41 : decode b_Mo_value 41 = .ok (.goto 4, 3) := by decide +kernel
theorem d_Mo_value_44 : decode b_Mo_value 44 = .ok (.iconst 0, 1) := by decide +kernel
theorem d_Mo_value_45 : decode b_Mo_value 45 = .ok (.istore_n 3, 1) := by decide +kernel
theorem d_Mo_value_46 : decode b_Mo_value 46 = .ok (.iload_n 2, 1) := by decide +kernel
theorem d_Mo_value_47 : decode b_Mo_value 47 = .ok (.ifCond .ne 9, 3) := by decide +kernel
theorem d_Mo_value_50 : decode b_Mo_value 50 = .ok (.aload_n 0, 1) := by decide +kernel
theorem d_Mo_value_51 : decode b_Mo_value 51 = .ok (.iload_n 1, 1) := by decide +kernel
theorem d_Mo_value_52 : decode b_Mo_value 52 = .ok (.invokevirtual 151, 3) := by decide +kernel
theorem d_Mo_value_55 : decode b_Mo_value 55 = .ok (.ireturn, 1) := by decide +kernel
theorem d_Mo_value_56 : decode b_Mo_value 56 = .ok (.iload_n 2, 1) := by decide +kernel
theorem d_Mo_value_57 : decode b_Mo_value 57 = .ok (.iconst 1, 1) := by decide +kernel
theorem d_Mo_value_58 : decode b_Mo_value 58 = .ok (.if_icmp .ne 22, 3) := by decide +kernel
theorem d_Mo_value_61 : decode b_Mo_value 61 = .ok (.iload_n 3, 1) := by decide +kernel
theorem d_Mo_value_62 : decode b_Mo_value 62 = .ok (.ifCond .eq 16, 3) := by decide +kernel
theorem d_Mo_value_65 : decode b_Mo_value 65 = .ok (.aload_n 0, 1) := by decide +kernel
theorem d_Mo_value_66 : decode b_Mo_value 66 = .ok (.aload_n 0, 1) := by decide +kernel
theorem d_Mo_value_67 : decode b_Mo_value 67 = .ok (.getfield 13, 3) := by decide +kernel
theorem d_Mo_value_70 : decode b_Mo_value 70 = .ok (.iload_n 1, 1) := by decide +kernel
theorem d_Mo_value_71 : decode b_Mo_value 71 = .ok (.iaload, 1) := by decide +kernel
theorem d_Mo_value_72 : decode b_Mo_value 72 = .ok (.invokevirtual 214, 3) := by decide +kernel
theorem d_Mo_value_75 : decode b_Mo_value 75 = .ok (.goto 4, 3) := by decide +kernel
theorem d_Mo_value_78 : decode b_Mo_value 78 = .ok (.iconst (-1), 1) := by decide +kernel
theorem d_Mo_value_79 : decode b_Mo_value 79 = .ok (.ireturn, 1) := by decide +kernel
theorem d_Mo_value_80 : decode b_Mo_value 80 = .ok (.iload_n 2, 1) := by decide +kernel
theorem d_Mo_value_81 : decode b_Mo_value 81 = .ok (.iconst 2, 1) := by decide +kernel
theorem d_Mo_value_82 : decode b_Mo_value 82 = .ok (.if_icmp .ne 25, 3) := by decide +kernel
theorem d_Mo_value_85 : decode b_Mo_value 85 = .ok (.iload_n 3, 1) := by decide +kernel
theorem d_Mo_value_86 : decode b_Mo_value 86 = .ok (.ifCond .eq 17, 3) := by decide +kernel
theorem d_Mo_value_89 : decode b_Mo_value 89 = .ok (.aload_n 0, 1) := by decide +kernel
theorem d_Mo_value_90 : decode b_Mo_value 90 = .ok (.getfield 22, 3) := by decide +kernel
theorem d_Mo_value_93 : decode b_Mo_value 93 = .ok (.aload_n 0, 1) := by decide +kernel
theorem d_Mo_value_94 : decode b_Mo_value 94 = .ok (.getfield 13, 3) := by decide +kernel
theorem d_Mo_value_97 : decode b_Mo_value 97 = .ok (.iload_n 1, 1) := by decide +kernel
theorem d_Mo_value_98 : decode b_Mo_value 98 = .ok (.iaload, 1) := by decide +kernel
theorem d_Mo_value_99 : decode b_Mo_value 99 = .ok (.iaload, 1) := by decide +kernel
theorem d_Mo_value_100 : decode b_Mo_value 100 = .ok (.goto 27, 3) := by decide +kernel
theorem d_Mo_value_103 : decode b_Mo_value 103 = .ok (.iconst 0, 1) := by decide +kernel
theorem d_Mo_value_104 : decode b_Mo_value 104 = .ok (.goto 23, 3) := by decide +kernel
theorem d_Mo_value_107 : decode b_Mo_value 107 = .ok (.aload_n 0, 1) := by decide +kernel
theorem d_Mo_value_108 : decode b_Mo_value 108 = .ok (.getfield 7, 3) := by decide +kernel
theorem d_Mo_value_111 : decode b_Mo_value 111 = .ok (.iload_n 1, 1) := by decide +kernel
theorem d_Mo_value_112 : decode b_Mo_value 112 = .ok (.iaload, 1) := by decide +kernel
theorem d_Mo_value_113 : decode b_Mo_value 113 = .ok (.iconst 1, 1) := by decide +kernel
theorem d_Mo_value_114 : decode b_Mo_value 114 = .ok (.if_icmp .ne 12, 3) := by decide +kernel
theorem d_Mo_value_117 : decode b_Mo_value 117 = .ok (.aload_n 0, 1) := by decide +kernel
theorem d_Mo_value_118 : decode b_Mo_value 118 = .ok (.getfield 13, 3) := by decide +kernel
theorem d_Mo_value_121 : decode b_Mo_value 121 = .ok (.iload_n 1, 1) := by decide +kernel
theorem d_Mo_value_122 : decode b_Mo_value 122 = .ok (.iaload, 1) := by decide +kernel
theorem d_Mo_value_123 : decode b_Mo_value 123 = .ok (.goto 4, 3) := by decide +kernel
theorem d_Mo_value_126 : decode b_Mo_value 126 = .ok (.iconst 0, 1) := by decide +kernel
theorem d_Mo_value_127 : decode b_Mo_value 127 = .ok (.ireturn, 1) := by decide +kernel
/-! Mo_count: ('CellHeapModel', 'count', '(I)I') -/
abbrev b_Mo_count : ByteArray := prog_10_method_61_code
abbrev y_Mo_count : MethodName := ⟨R_Mo, "count", "(I)I"⟩
abbrev K_Mo_count := CanI y_Mo_count b_Mo_count 2 ((some .int)) 2 0 0
theorem I_Mo_count {h : HP} {v1 : Int32} {Φ : Int32 → HP → Prop} (body : ∀ X : CX, Cok X b_Mo_count 2 R_Mo ((some .int)) → xR X = rml 2 0 0 → Qok X 0 0 (fun r h2 => ∃ v, r = some (.int v) ∧ Φ v h2) → Wg X 0 0 h [(0, .ref 0), (1, .int v1)] [] 0) : K_Mo_count [.ref 0, .int v1] h Φ := Can.intro (by decide) (fun _ => Nat.le_of_ble_eq_true rfl) body
theorem M_Mo_count : Mv y_Mo_count b_Mo_count 2 ((some .int)) 1 8 := ⟨wx_in 1386 (by decide +kernel) rfl, wx_in 1384 (by decide +kernel) rfl, wx_in 1385 (by decide +kernel) rfl, wx_in 73 (by decide +kernel) rfl, by decide +kernel, by decide, by decide, _, _, rfl⟩
theorem d_Mo_count_0 : decode b_Mo_count 0 = .ok (.aload_n 0, 1) := by decide +kernel
theorem d_Mo_count_1 : decode b_Mo_count 1 = .ok (.iload_n 1, 1) := by decide +kernel
theorem d_Mo_count_2 : decode b_Mo_count 2 = .ok (.ifCond .lt 12, 3) := by decide +kernel
theorem d_Mo_count_5 : decode b_Mo_count 5 = .ok (.iload_n 1, 1) := by decide +kernel
theorem d_Mo_count_6 : decode b_Mo_count 6 = .ok (.iconst 3, 1) := by decide +kernel
theorem d_Mo_count_7 : decode b_Mo_count 7 = .ok (.if_icmp .gt 7, 3) := by decide +kernel
theorem d_Mo_count_10 : decode b_Mo_count 10 = .ok (.iconst 0, 1) := by decide +kernel
theorem d_Mo_count_11 : decode b_Mo_count 11 = .ok (.goto 4, 3) := by decide +kernel
theorem d_Mo_count_14 : decode b_Mo_count 14 = .ok (.iconst 1, 1) := by decide +kernel
theorem d_Mo_count_15 : decode b_Mo_count 15 = .ok (.invokevirtual 160, 3) := by decide +kernel
theorem d_Mo_count_18 : decode b_Mo_count 18 = .ok (.ifCond .eq 5, 3) := by decide +kernel
theorem d_Mo_count_21 : decode b_Mo_count 21 = .ok (.iconst 0, 1) := by decide +kernel
theorem d_Mo_count_22 : decode b_Mo_count 22 = .ok (.ireturn, 1) := by decide +kernel
theorem d_Mo_count_23 : decode b_Mo_count 23 = .ok (.iload_n 1, 1) := by decide +kernel
theorem d_Mo_count_24 : decode b_Mo_count 24 = .ok (.ifCond .ne 10, 3) := by decide +kernel
theorem d_Mo_count_27 : decode b_Mo_count 27 = .ok (.aload_n 0, 1) := by decide +kernel
theorem d_Mo_count_28 : decode b_Mo_count 28 = .ok (.getfield 114, 3) := by decide +kernel
theorem d_Mo_count_31 : decode b_Mo_count 31 = .ok (.goto 31, 3) := by decide +kernel
theorem d_Mo_count_34 : decode b_Mo_count 34 = .ok (.iload_n 1, 1) := by decide +kernel
theorem d_Mo_count_35 : decode b_Mo_count 35 = .ok (.iconst 1, 1) := by decide +kernel
theorem d_Mo_count_36 : decode b_Mo_count 36 = .ok (.if_icmp .ne 10, 3) := by decide +kernel
theorem d_Mo_count_39 : decode b_Mo_count 39 = .ok (.aload_n 0, 1) := by decide +kernel
theorem d_Mo_count_40 : decode b_Mo_count 40 = .ok (.getfield 117, 3) := by decide +kernel
theorem d_Mo_count_43 : decode b_Mo_count 43 = .ok (.goto 19, 3) := by decide +kernel
theorem d_Mo_count_46 : decode b_Mo_count 46 = .ok (.iload_n 1, 1) := by decide +kernel
theorem d_Mo_count_47 : decode b_Mo_count 47 = .ok (.iconst 2, 1) := by decide +kernel
theorem d_Mo_count_48 : decode b_Mo_count 48 = .ok (.if_icmp .ne 10, 3) := by decide +kernel
theorem d_Mo_count_51 : decode b_Mo_count 51 = .ok (.aload_n 0, 1) := by decide +kernel
theorem d_Mo_count_52 : decode b_Mo_count 52 = .ok (.getfield 111, 3) := by decide +kernel
theorem d_Mo_count_55 : decode b_Mo_count 55 = .ok (.goto 7, 3) := by decide +kernel
theorem d_Mo_count_58 : decode b_Mo_count 58 = .ok (.aload_n 0, 1) := by decide +kernel
theorem d_Mo_count_59 : decode b_Mo_count 59 = .ok (.invokevirtual 107, 3) := by decide +kernel
theorem d_Mo_count_62 : decode b_Mo_count 62 = .ok (.ireturn, 1) := by decide +kernel
set_option maxRecDepth 20000 in
theorem g_Mo_thrown_0 {X : CX} {h : HP}  {Φ : Int32 → HP → Prop} (C : Cok X b_Mo_thrown 1 R_Mo ((some .int))) (Rm : xR X = rml 0 0 0) (Q : Qok X 0 0 (fun r h2 => ∃ v, r = some (.int v) ∧ Φ v h2)) 
    (K : Φ (h 0 0) h) :
    Wg X 0 0 h [(0, .ref 0)] [] 0 := by
  refine r_aload_n C 0 rfl d_Mo_thrown_0 ?_
  refine gf_Mo_refusal C rfl k_1019 d_Mo_thrown_1 ?_
  exact q_iret C Q d_Mo_thrown_4 ⟨_, rfl, K⟩
set_option maxRecDepth 20000 in
theorem g_Mo_refused_0 {X : CX} {h : HP} {v1 : Int32} {Φ : Int32 → HP → Prop} (C : Cok X b_Mo_refused 2 R_Mo ((some .boolean))) (Rm : xR X = rml 0 0 0) (Q : Qok X 0 0 (fun r h2 => ∃ v, r = some (.int v) ∧ Φ v h2)) 
    (K : (v1 ≤ 0 → Φ 0 (up h 0 0 v1)) ∧ (¬ v1 ≤ 0 → Φ 1 (up h 0 0 v1))) :
    Wg X 0 0 h [(0, .ref 0), (1, .int v1)] [] 0 := by
  refine r_aload_n C 0 rfl d_Mo_refused_0 ?_
  refine r_iload_n C 1 rfl d_Mo_refused_1 ?_
  refine pf_Mo_refusal C rfl k_1019 d_Mo_refused_2 ?_
  refine r_iload_n C 1 rfl d_Mo_refused_5 ?_
  refine r_if_le C 13 d_Mo_refused_6 (by decide) ⟨fun c0 => ?_, fun c0 => ?_⟩
  · have K := K.1 c0
    refine r_iconst (v := 0) C (by decide) d_Mo_refused_13 ?_
    exact q_zret C Q (by decide) d_Mo_refused_14 ⟨_, rfl, K⟩
  · have K := K.2 c0
    refine r_iconst (v := 1) C (by decide) d_Mo_refused_9 ?_
    refine r_goto C 14 d_Mo_refused_10 (by decide) ?_
    exact q_zret C Q (by decide) d_Mo_refused_14 ⟨_, rfl, K⟩
set_option maxRecDepth 20000 in
theorem g_Mo_isRegister_0 {X : CX} {h : HP} {v0 : Int32} {Φ : Int32 → HP → Prop} (C : Cok X b_Mo_isRegister 1 R_Mo ((some .boolean))) (Rm : xR X = rml 0 0 0) (Q : Qok X 0 0 (fun r h2 => ∃ v, r = some (.int v) ∧ Φ v h2)) 
    (K : (v0 < 0 → Φ 0 h) ∧ (¬ v0 < 0 → ((8 : Int32) ≤ v0 → Φ 0 h) ∧ (¬ (8 : Int32) ≤ v0 → Φ 1 h))) :
    Wg X 0 0 h [(0, .int v0)] [] 0 := by
  refine r_iload_n C 0 rfl d_Mo_isRegister_0 ?_
  refine r_if_lt C 14 d_Mo_isRegister_1 (by decide) ⟨fun c0 => ?_, fun c0 => ?_⟩
  · have K := K.1 c0
    refine r_iconst (v := 0) C (by decide) d_Mo_isRegister_14 ?_
    exact q_zret C Q (by decide) d_Mo_isRegister_15 ⟨_, rfl, K⟩
  · have K := K.2 c0
    refine r_iload_n C 0 rfl d_Mo_isRegister_4 ?_
    refine r_bipush (v := 8) C (by decide) d_Mo_isRegister_5 ?_
    refine r_icmp_ge C 14 d_Mo_isRegister_7 (by decide) ⟨fun c0 => ?_, fun c0 => ?_⟩
    · have K := K.1 c0
      refine r_iconst (v := 0) C (by decide) d_Mo_isRegister_14 ?_
      exact q_zret C Q (by decide) d_Mo_isRegister_15 ⟨_, rfl, K⟩
    · have K := K.2 c0
      refine r_iconst (v := 1) C (by decide) d_Mo_isRegister_10 ?_
      refine r_goto C 15 d_Mo_isRegister_11 (by decide) ?_
      exact q_zret C Q (by decide) d_Mo_isRegister_15 ⟨_, rfl, K⟩
set_option maxRecDepth 20000 in
theorem g_Mo_cellOf_0 {X : CX} {h : HP} {v1 : Int32} {Φ : Int32 → HP → Prop} (C : Cok X b_Mo_cellOf 4 R_Mo ((some .int))) (Rm : xR X = rml 0 0 0) (Q : Qok X 0 0 (fun r h2 => ∃ v, r = some (.int v) ∧ Φ v h2)) 
    (K : Wg X 0 0 h [(0, .ref 0), (1, .int v1), (2, .int 0), (3, .int 0)] [] 4) :
    Wg X 0 0 h [(0, .ref 0), (1, .int v1)] [] 0 := by
  refine r_iconst (v := 0) C (by decide) d_Mo_cellOf_0 ?_
  refine r_istore_n (ls2 := [(0, .ref 0), (1, .int v1), (2, .int 0)]) C rfl (by decide) rfl d_Mo_cellOf_1 ?_
  refine r_iconst (v := 0) C (by decide) d_Mo_cellOf_2 ?_
  refine r_istore_n (ls2 := [(0, .ref 0), (1, .int v1), (2, .int 0), (3, .int 0)]) C rfl (by decide) rfl d_Mo_cellOf_3 ?_
  exact K
set_option maxRecDepth 20000 in
theorem g_Mo_cellOf_4 {X : CX} {h : HP} {v1 : Int32} {v2 : Int32} {v3 : Int32} {Φ : Int32 → HP → Prop} (C : Cok X b_Mo_cellOf 4 R_Mo ((some .int))) (Rm : xR X = rml 0 0 0) (Q : Qok X 0 0 (fun r h2 => ∃ v, r = some (.int v) ∧ Φ v h2)) 
    (K : vp_in v3 204 ∧ ((((h 3 v3.toNatClampNeg)) = v1 → Φ v2 h) ∧ (¬ ((h 3 v3.toNatClampNeg)) = v1 → vp_in v3 204 ∧ (vp_in (h 3 v3.toNatClampNeg) 204 ∧ (Wg X 0 0 h [(0, .ref 0), (1, .int v1), (2, .int (v2 + (h 5 (h 3 v3.toNatClampNeg).toNatClampNeg))), (3, .int (v3 + 1))] [] 4))))) :
    Wg X 0 0 h [(0, .ref 0), (1, .int v1), (2, .int v2), (3, .int v3)] [] 4 := by
  refine r_aload_n C 0 rfl d_Mo_cellOf_4 ?_
  refine gf_Mo_order (k2 := 3) C rfl rfl k_1023 d_Mo_cellOf_5 ?_
  refine r_iload_n C 3 rfl d_Mo_cellOf_8 ?_
  obtain ⟨s0, K⟩ := K
  refine r_iald C rfl s0 d_Mo_cellOf_9 ?_
  refine r_iload_n C 1 rfl d_Mo_cellOf_10 ?_
  refine r_icmp_eq C 34 d_Mo_cellOf_11 (by decide) ⟨fun c0 => ?_, fun c0 => ?_⟩
  · have K := K.1 c0
    refine r_iload_n C 2 rfl d_Mo_cellOf_34 ?_
    exact q_iret C Q d_Mo_cellOf_35 ⟨_, rfl, K⟩
  · have K := K.2 c0
    refine r_iload_n C 2 rfl d_Mo_cellOf_14 ?_
    refine r_aload_n C 0 rfl d_Mo_cellOf_15 ?_
    refine gf_Mo_cells (k2 := 5) C rfl rfl k_1025 d_Mo_cellOf_16 ?_
    refine r_aload_n C 0 rfl d_Mo_cellOf_19 ?_
    refine gf_Mo_order (k2 := 3) C rfl rfl k_1023 d_Mo_cellOf_20 ?_
    refine r_iload_n C 3 rfl d_Mo_cellOf_23 ?_
    obtain ⟨s0, K⟩ := K
    refine r_iald C rfl s0 d_Mo_cellOf_24 ?_
    obtain ⟨s0, K⟩ := K
    refine r_iald C rfl s0 d_Mo_cellOf_25 ?_
    refine r_iadd C d_Mo_cellOf_26 ?_
    refine r_istore_n (ls2 := [(0, .ref 0), (1, .int v1), (2, .int (v2 + (h 5 (h 3 v3.toNatClampNeg).toNatClampNeg))), (3, .int v3)]) C rfl (by decide) rfl d_Mo_cellOf_27 ?_
    refine r_iinc (ls2 := [(0, .ref 0), (1, .int v1), (2, .int (v2 + (h 5 (h 3 v3.toNatClampNeg).toNatClampNeg))), (3, .int (v3 + 1))]) C 3 (m := 1) rfl (by decide) (by decide) rfl d_Mo_cellOf_28 ?_
    refine r_goto C 4 d_Mo_cellOf_31 (by decide) ?_
    exact K
set_option maxRecDepth 20000 in
theorem g_Mo_mark_0 {X : CX} {h : HP}  {Φ : Int32 → HP → Prop} (C : Cok X b_Mo_mark 5 R_Mo ((some .int))) (Rm : xR X = rml 1 0 0) (Q : Qok X 0 0 (fun r h2 => ∃ v, r = some (.int v) ∧ Φ v h2)) 
    (K : Wg X 0 0 h [(0, .ref 0), (1, .int 0)] [] 2) :
    Wg X 0 0 h [(0, .ref 0)] [] 0 := by
  refine r_iconst (v := 0) C (by decide) d_Mo_mark_0 ?_
  refine r_istore_n (ls2 := [(0, .ref 0), (1, .int 0)]) C rfl (by decide) rfl d_Mo_mark_1 ?_
  exact K
set_option maxRecDepth 20000 in
theorem g_Mo_mark_2 {X : CX} {h : HP} {v1 : Int32} {Φ : Int32 → HP → Prop} (C : Cok X b_Mo_mark 5 R_Mo ((some .int))) (Rm : xR X = rml 1 0 0) (Q : Qok X 0 0 (fun r h2 => ∃ v, r = some (.int v) ∧ Φ v h2)) 
    (K : ((204 : Int32) ≤ v1 → Wg X 0 0 h [(0, .ref 0), (1, .int 0), (2, .int 0), (3, .int 0)] [] 28) ∧ (¬ (204 : Int32) ≤ v1 → vp_in v1 204 ∧ (Wg X 0 0 (up h 6 v1.toNatClampNeg (vp_nar .boolean 0)) [(0, .ref 0), (1, .int (v1 + 1))] [] 2))) :
    Wg X 0 0 h [(0, .ref 0), (1, .int v1)] [] 2 := by
  refine r_iload_n C 1 rfl d_Mo_mark_2 ?_
  refine r_sipush (v := 204) C (by decide) d_Mo_mark_3 ?_
  refine r_icmp_ge C 22 d_Mo_mark_6 (by decide) ⟨fun c0 => ?_, fun c0 => ?_⟩
  · have K := K.1 c0
    refine r_iconst (v := 0) C (by decide) d_Mo_mark_22 ?_
    refine r_istore_n (ls2 := [(0, .ref 0), (1, .int 0)]) C rfl (by decide) rfl d_Mo_mark_23 ?_
    refine r_iconst (v := 0) C (by decide) d_Mo_mark_24 ?_
    refine r_istore_n (ls2 := [(0, .ref 0), (1, .int 0), (2, .int 0)]) C rfl (by decide) rfl d_Mo_mark_25 ?_
    refine r_iconst (v := 0) C (by decide) d_Mo_mark_26 ?_
    refine r_istore_n (ls2 := [(0, .ref 0), (1, .int 0), (2, .int 0), (3, .int 0)]) C rfl (by decide) rfl d_Mo_mark_27 ?_
    exact K
  · have K := K.2 c0
    refine r_aload_n C 0 rfl d_Mo_mark_9 ?_
    refine gf_Mo_isMarked (k2 := 6) C rfl rfl k_1026 d_Mo_mark_10 ?_
    refine r_iload_n C 1 rfl d_Mo_mark_13 ?_
    refine r_iconst (v := 0) C (by decide) d_Mo_mark_14 ?_
    obtain ⟨s0, K⟩ := K
    refine r_zast C rfl s0 d_Mo_mark_15 ?_
    refine r_iinc (ls2 := [(0, .ref 0), (1, .int (v1 + 1))]) C 1 (m := 1) rfl (by decide) (by decide) rfl d_Mo_mark_16 ?_
    refine r_goto C 2 d_Mo_mark_19 (by decide) ?_
    exact K
set_option maxRecDepth 20000 in
theorem g_Mo_mark_28 {X : CX} {h : HP} {v1 : Int32} {v2 : Int32} {v3 : Int32} {Φ : Int32 → HP → Prop} (C : Cok X b_Mo_mark 5 R_Mo ((some .int))) (Rm : xR X = rml 1 0 0) (Q : Qok X 0 0 (fun r h2 => ∃ v, r = some (.int v) ∧ Φ v h2)) 
    (K : ((8 : Int32) ≤ v3 → Wg X 0 0 h [(0, .ref 0), (1, .int v1), (2, .int v2), (3, .int v3)] [] 65) ∧ (¬ (8 : Int32) ≤ v3 → vp_in v3 416 ∧ ((¬ ((h 1 v3.toNatClampNeg)) = (2 : Int32) → Wg X 0 0 h [(0, .ref 0), (1, .int v1), (2, .int v2), (3, .int (v3 + 1))] [] 28) ∧ (((h 1 v3.toNatClampNeg)) = (2 : Int32) → vp_in v3 416 ∧ (vp_in v2 600 ∧ (Wg X 0 0 (up h 7 v2.toNatClampNeg (h 2 v3.toNatClampNeg)) [(0, .ref 0), (1, .int v1), (2, .int (v2 + 1)), (3, .int (v3 + 1))] [] 28)))))) :
    Wg X 0 0 h [(0, .ref 0), (1, .int v1), (2, .int v2), (3, .int v3)] [] 28 := by
  refine r_iload_n C 3 rfl d_Mo_mark_28 ?_
  refine r_bipush (v := 8) C (by decide) d_Mo_mark_29 ?_
  refine r_icmp_ge C 65 d_Mo_mark_31 (by decide) ⟨fun c0 => ?_, fun c0 => ?_⟩
  · have K := K.1 c0
    exact K
  · have K := K.2 c0
    refine r_aload_n C 0 rfl d_Mo_mark_34 ?_
    refine gf_Mo_valueSort (k2 := 1) C rfl rfl k_1020 d_Mo_mark_35 ?_
    refine r_iload_n C 3 rfl d_Mo_mark_38 ?_
    obtain ⟨s0, K⟩ := K
    refine r_iald C rfl s0 d_Mo_mark_39 ?_
    refine r_iconst (v := 2) C (by decide) d_Mo_mark_40 ?_
    refine r_icmp_ne C 59 d_Mo_mark_41 (by decide) ⟨fun c0 => ?_, fun c0 => ?_⟩
    · have K := K.1 c0
      refine r_iinc (ls2 := [(0, .ref 0), (1, .int v1), (2, .int v2), (3, .int (v3 + 1))]) C 3 (m := 1) rfl (by decide) (by decide) rfl d_Mo_mark_59 ?_
      refine r_goto C 28 d_Mo_mark_62 (by decide) ?_
      exact K
    · have K := K.2 c0
      refine r_aload_n C 0 rfl d_Mo_mark_44 ?_
      refine gf_Mo_pile (k2 := 7) C rfl rfl k_1027 d_Mo_mark_45 ?_
      refine r_iload_n C 2 rfl d_Mo_mark_48 ?_
      refine r_aload_n C 0 rfl d_Mo_mark_49 ?_
      refine gf_Mo_valueOf (k2 := 2) C rfl rfl k_1021 d_Mo_mark_50 ?_
      refine r_iload_n C 3 rfl d_Mo_mark_53 ?_
      obtain ⟨s0, K⟩ := K
      refine r_iald C rfl s0 d_Mo_mark_54 ?_
      obtain ⟨s0, K⟩ := K
      refine r_iast C rfl s0 d_Mo_mark_55 ?_
      refine r_iinc (ls2 := [(0, .ref 0), (1, .int v1), (2, .int (v2 + 1)), (3, .int v3)]) C 2 (m := 1) rfl (by decide) (by decide) rfl d_Mo_mark_56 ?_
      refine r_iinc (ls2 := [(0, .ref 0), (1, .int v1), (2, .int (v2 + 1)), (3, .int (v3 + 1))]) C 3 (m := 1) rfl (by decide) (by decide) rfl d_Mo_mark_59 ?_
      refine r_goto C 28 d_Mo_mark_62 (by decide) ?_
      exact K
set_option maxRecDepth 20000 in
theorem g_Mo_mark_65 {X : CX} {h : HP} {v1 : Int32} {v2 : Int32} {v3 : Int32} {Φ : Int32 → HP → Prop} (C : Cok X b_Mo_mark 5 R_Mo ((some .int))) (Rm : xR X = rml 1 0 0) (Q : Qok X 0 0 (fun r h2 => ∃ v, r = some (.int v) ∧ Φ v h2)) 
    (K : (v2 ≤ 0 → Φ v1 h) ∧ (¬ v2 ≤ 0 → vp_in (v2 + (-1)) 600 ∧ (vp_in (h 7 (v2 + (-1)).toNatClampNeg) 204 ∧ (((h 6 (h 7 (v2 + (-1)).toNatClampNeg).toNatClampNeg) = 0 → vp_in (h 7 (v2 + (-1)).toNatClampNeg) 204 ∧ (Wg X 0 0 (up h 6 (h 7 (v2 + (-1)).toNatClampNeg).toNatClampNeg (vp_nar .boolean 1)) [(0, .ref 0), (1, .int (v1 + 1)), (2, .int (v2 + (-1))), (3, .int (h 7 (v2 + (-1)).toNatClampNeg)), (4, .int 0)] [] 104)) ∧ (¬ (h 6 (h 7 (v2 + (-1)).toNatClampNeg).toNatClampNeg) = 0 → Wg X 0 0 h [(0, .ref 0), (1, .int v1), (2, .int (v2 + (-1))), (3, .int (h 7 (v2 + (-1)).toNatClampNeg))] [] 65))))) :
    Wg X 0 0 h [(0, .ref 0), (1, .int v1), (2, .int v2), (3, .int v3)] [] 65 := by
  refine r_iload_n C 2 rfl d_Mo_mark_65 ?_
  refine r_if_le C 183 d_Mo_mark_66 (by decide) ⟨fun c0 => ?_, fun c0 => ?_⟩
  · have K := K.1 c0
    refine r_iload_n C 1 rfl d_Mo_mark_183 ?_
    exact q_iret C Q d_Mo_mark_184 ⟨_, rfl, K⟩
  · have K := K.2 c0
    refine r_iinc (ls2 := [(0, .ref 0), (1, .int v1), (2, .int (v2 + (-1))), (3, .int v3)]) C 2 (m := -1) rfl (by decide) (by decide) rfl d_Mo_mark_69 ?_
    refine r_aload_n C 0 rfl d_Mo_mark_72 ?_
    refine gf_Mo_pile (k2 := 7) C rfl rfl k_1027 d_Mo_mark_73 ?_
    refine r_iload_n C 2 rfl d_Mo_mark_76 ?_
    obtain ⟨s0, K⟩ := K
    refine r_iald C rfl s0 d_Mo_mark_77 ?_
    refine r_istore_n (ls2 := [(0, .ref 0), (1, .int v1), (2, .int (v2 + (-1))), (3, .int (h 7 (v2 + (-1)).toNatClampNeg))]) C rfl (by decide) rfl d_Mo_mark_78 ?_
    refine r_aload_n C 0 rfl d_Mo_mark_79 ?_
    refine gf_Mo_isMarked (k2 := 6) C rfl rfl k_1026 d_Mo_mark_80 ?_
    refine r_iload_n C 3 rfl d_Mo_mark_83 ?_
    obtain ⟨s0, K⟩ := K
    refine r_zald C rfl s0 d_Mo_mark_84 ?_
    refine r_if_eq C 91 d_Mo_mark_85 (by decide) ⟨fun c0 => ?_, fun c0 => ?_⟩
    · have K := K.1 c0
      refine r_aload_n C 0 rfl d_Mo_mark_91 ?_
      refine gf_Mo_isMarked (k2 := 6) C rfl rfl k_1026 d_Mo_mark_92 ?_
      refine r_iload_n C 3 rfl d_Mo_mark_95 ?_
      refine r_iconst (v := 1) C (by decide) d_Mo_mark_96 ?_
      obtain ⟨s0, K⟩ := K
      refine r_zast C rfl s0 d_Mo_mark_97 ?_
      refine r_iinc (ls2 := [(0, .ref 0), (1, .int (v1 + 1)), (2, .int (v2 + (-1))), (3, .int (h 7 (v2 + (-1)).toNatClampNeg))]) C 1 (m := 1) rfl (by decide) (by decide) rfl d_Mo_mark_98 ?_
      refine r_iconst (v := 0) C (by decide) d_Mo_mark_101 ?_
      refine r_istore (ls2 := [(0, .ref 0), (1, .int (v1 + 1)), (2, .int (v2 + (-1))), (3, .int (h 7 (v2 + (-1)).toNatClampNeg)), (4, .int 0)]) C (by decide) rfl d_Mo_mark_102 ?_
      exact K
    · have K := K.2 c0
      refine r_goto C 65 d_Mo_mark_88 (by decide) ?_
      exact K
set_option maxRecDepth 20000 in
theorem g_Mo_mark_104 {X : CX} {h : HP} {v1 : Int32} {v2 : Int32} {v3 : Int32} {v4 : Int32} {Φ : Int32 → HP → Prop} (C : Cok X b_Mo_mark 5 R_Mo ((some .int))) (Rm : xR X = rml 1 0 0) (Q : Qok X 0 0 (fun r h2 => ∃ v, r = some (.int v) ∧ Φ v h2)) 
    (K : ((2 : Int32) ≤ v4 → Wg X 0 0 h [(0, .ref 0), (1, .int v1), (2, .int v2), (3, .int v3)] [] 65) ∧ (¬ (2 : Int32) ≤ v4 → vp_in v3 204 ∧ ((((h 4 v3.toNatClampNeg)) < (3 : Int32) → Wg X 0 0 h [(0, .ref 0), (1, .int v1), (2, .int v2), (3, .int v3)] [] 65) ∧ (¬ ((h 4 v3.toNatClampNeg)) < (3 : Int32) → K_Mo_slotOf [.int v3, .int v4] h (fun r1 h1 => vp_in r1 416 ∧ ((¬ ((h1 1 r1.toNatClampNeg)) = (2 : Int32) → Wg X 0 0 h1 [(0, .ref 0), (1, .int v1), (2, .int v2), (3, .int v3), (4, .int (v4 + 1))] [] 104) ∧ (((h1 1 r1.toNatClampNeg)) = (2 : Int32) → K_Mo_slotOf [.int v3, .int v4] h1 (fun r2 h2 => vp_in r2 416 ∧ (vp_in (h2 2 r2.toNatClampNeg) 204 ∧ ((¬ (h2 6 (h2 2 r2.toNatClampNeg).toNatClampNeg) = 0 → Wg X 0 0 h2 [(0, .ref 0), (1, .int v1), (2, .int v2), (3, .int v3), (4, .int (v4 + 1))] [] 104) ∧ ((h2 6 (h2 2 r2.toNatClampNeg).toNatClampNeg) = 0 → K_Mo_slotOf [.int v3, .int v4] h2 (fun r3 h3 => vp_in r3 416 ∧ (vp_in v2 600 ∧ (Wg X 0 0 (up h3 7 v2.toNatClampNeg (h3 2 r3.toNatClampNeg)) [(0, .ref 0), (1, .int v1), (2, .int (v2 + 1)), (3, .int v3), (4, .int (v4 + 1))] [] 104)))))))))))))) :
    Wg X 0 0 h [(0, .ref 0), (1, .int v1), (2, .int v2), (3, .int v3), (4, .int v4)] [] 104 := by
  refine r_iload C 4 rfl d_Mo_mark_104 ?_
  refine r_iconst (v := 2) C (by decide) d_Mo_mark_106 ?_
  refine r_icmp_ge C 180 d_Mo_mark_107 (by decide) ⟨fun c0 => ?_, fun c0 => ?_⟩
  · have K := K.1 c0
    refine r_goto C 65 d_Mo_mark_180 (by decide) ?_
    exact Wg.drop (by simp) K
  · have K := K.2 c0
    refine r_aload_n C 0 rfl d_Mo_mark_110 ?_
    refine gf_Mo_sort (k2 := 4) C rfl rfl k_1024 d_Mo_mark_111 ?_
    refine r_iload_n C 3 rfl d_Mo_mark_114 ?_
    obtain ⟨s0, K⟩ := K
    refine r_iald C rfl s0 d_Mo_mark_115 ?_
    refine r_iconst (v := 3) C (by decide) d_Mo_mark_116 ?_
    refine r_icmp_lt C 180 d_Mo_mark_117 (by decide) ⟨fun c0 => ?_, fun c0 => ?_⟩
    · have K := K.1 c0
      refine r_goto C 65 d_Mo_mark_180 (by decide) ?_
      exact Wg.drop (by simp) K
    · have K := K.2 c0
      refine r_aload_n C 0 rfl d_Mo_mark_120 ?_
      refine gf_Mo_valueSort (k2 := 1) C rfl rfl k_1020 d_Mo_mark_121 ?_
      refine r_iload_n C 3 rfl d_Mo_mark_124 ?_
      refine r_iload C 4 rfl d_Mo_mark_125 ?_
      refine r_callS (As := [.int v3, .int v4]) (st := [.ref 1]) (lvc := 0) (mcc := 0) (msc := 0) C Rm M_Mo_slotOf rfl k_1153 (by decide) (Nat.le_of_ble_eq_true rfl) ⟨by decide, by decide⟩ d_Mo_mark_127 ?_
      refine Can.mono K (fun _ h1 z => ?_)
      obtain ⟨r1, rfl, K⟩ := z
      show Wg X 0 0 h1 [(0, .ref 0), (1, .int v1), (2, .int v2), (3, .int v3), (4, .int v4)] [.int r1, .ref 1] 130
      obtain ⟨s0, K⟩ := K
      refine r_iald C rfl s0 d_Mo_mark_130 ?_
      refine r_iconst (v := 2) C (by decide) d_Mo_mark_131 ?_
      refine r_icmp_ne C 174 d_Mo_mark_132 (by decide) ⟨fun c0 => ?_, fun c0 => ?_⟩
      · have K := K.1 c0
        refine r_iinc (ls2 := [(0, .ref 0), (1, .int v1), (2, .int v2), (3, .int v3), (4, .int (v4 + 1))]) C 4 (m := 1) rfl (by decide) (by decide) rfl d_Mo_mark_174 ?_
        refine r_goto C 104 d_Mo_mark_177 (by decide) ?_
        exact K
      · have K := K.2 c0
        refine r_aload_n C 0 rfl d_Mo_mark_135 ?_
        refine gf_Mo_isMarked (k2 := 6) C rfl rfl k_1026 d_Mo_mark_136 ?_
        refine r_aload_n C 0 rfl d_Mo_mark_139 ?_
        refine gf_Mo_valueOf (k2 := 2) C rfl rfl k_1021 d_Mo_mark_140 ?_
        refine r_iload_n C 3 rfl d_Mo_mark_143 ?_
        refine r_iload C 4 rfl d_Mo_mark_144 ?_
        refine r_callS (As := [.int v3, .int v4]) (st := [.ref 2, .ref 6]) (lvc := 0) (mcc := 0) (msc := 0) C Rm M_Mo_slotOf rfl k_1153 (by decide) (Nat.le_of_ble_eq_true rfl) ⟨by decide, by decide⟩ d_Mo_mark_146 ?_
        refine Can.mono K (fun _ h2 z => ?_)
        obtain ⟨r2, rfl, K⟩ := z
        show Wg X 0 0 h2 [(0, .ref 0), (1, .int v1), (2, .int v2), (3, .int v3), (4, .int v4)] [.int r2, .ref 2, .ref 6] 149
        obtain ⟨s0, K⟩ := K
        refine r_iald C rfl s0 d_Mo_mark_149 ?_
        obtain ⟨s0, K⟩ := K
        refine r_zald C rfl s0 d_Mo_mark_150 ?_
        refine r_if_ne C 174 d_Mo_mark_151 (by decide) ⟨fun c0 => ?_, fun c0 => ?_⟩
        · have K := K.1 c0
          refine r_iinc (ls2 := [(0, .ref 0), (1, .int v1), (2, .int v2), (3, .int v3), (4, .int (v4 + 1))]) C 4 (m := 1) rfl (by decide) (by decide) rfl d_Mo_mark_174 ?_
          refine r_goto C 104 d_Mo_mark_177 (by decide) ?_
          exact K
        · have K := K.2 c0
          refine r_aload_n C 0 rfl d_Mo_mark_154 ?_
          refine gf_Mo_pile (k2 := 7) C rfl rfl k_1027 d_Mo_mark_155 ?_
          refine r_iload_n C 2 rfl d_Mo_mark_158 ?_
          refine r_aload_n C 0 rfl d_Mo_mark_159 ?_
          refine gf_Mo_valueOf (k2 := 2) C rfl rfl k_1021 d_Mo_mark_160 ?_
          refine r_iload_n C 3 rfl d_Mo_mark_163 ?_
          refine r_iload C 4 rfl d_Mo_mark_164 ?_
          refine r_callS (As := [.int v3, .int v4]) (st := [.ref 2, .int v2, .ref 7]) (lvc := 0) (mcc := 0) (msc := 0) C Rm M_Mo_slotOf rfl k_1153 (by decide) (Nat.le_of_ble_eq_true rfl) ⟨by decide, by decide⟩ d_Mo_mark_166 ?_
          refine Can.mono K (fun _ h3 z => ?_)
          obtain ⟨r3, rfl, K⟩ := z
          show Wg X 0 0 h3 [(0, .ref 0), (1, .int v1), (2, .int v2), (3, .int v3), (4, .int v4)] [.int r3, .ref 2, .int v2, .ref 7] 169
          obtain ⟨s0, K⟩ := K
          refine r_iald C rfl s0 d_Mo_mark_169 ?_
          obtain ⟨s0, K⟩ := K
          refine r_iast C rfl s0 d_Mo_mark_170 ?_
          refine r_iinc (ls2 := [(0, .ref 0), (1, .int v1), (2, .int (v2 + 1)), (3, .int v3), (4, .int v4)]) C 2 (m := 1) rfl (by decide) (by decide) rfl d_Mo_mark_171 ?_
          refine r_iinc (ls2 := [(0, .ref 0), (1, .int v1), (2, .int (v2 + 1)), (3, .int v3), (4, .int (v4 + 1))]) C 4 (m := 1) rfl (by decide) (by decide) rfl d_Mo_mark_174 ?_
          refine r_goto C 104 d_Mo_mark_177 (by decide) ?_
          exact K
set_option maxRecDepth 20000 in
theorem g_Mo_clean_0 {X : CX} {h : HP}  {Φ : Int32 → HP → Prop} (C : Cok X b_Mo_clean 6 R_Mo ((some .int))) (Rm : xR X = rml 2 0 0) (Q : Qok X 0 0 (fun r h2 => ∃ v, r = some (.int v) ∧ Φ v h2)) 
    (K : K_Mo_mark [.ref 0] h (fun r1 h1 => Wg X 0 0 h1 [(0, .ref 0), (1, .int r1), (2, .int 0), (3, .int 0), (4, .int 0)] [] 12)) :
    Wg X 0 0 h [(0, .ref 0)] [] 0 := by
  refine r_aload_n C 0 rfl d_Mo_clean_0 ?_
  refine r_callV (As := []) (st := []) (lvc := 1) (mcc := 0) (msc := 0) C Rm M_Mo_mark rfl k_1149 rfl (by decide) (Nat.le_of_ble_eq_true rfl) ⟨by decide, by decide⟩ d_Mo_clean_1 ?_
  refine Can.mono K (fun _ h1 z => ?_)
  obtain ⟨r1, rfl, K⟩ := z
  show Wg X 0 0 h1 [(0, .ref 0)] [.int r1] 4
  refine r_istore_n (ls2 := [(0, .ref 0), (1, .int r1)]) C rfl (by decide) rfl d_Mo_clean_4 ?_
  refine r_iconst (v := 0) C (by decide) d_Mo_clean_5 ?_
  refine r_istore_n (ls2 := [(0, .ref 0), (1, .int r1), (2, .int 0)]) C rfl (by decide) rfl d_Mo_clean_6 ?_
  refine r_iconst (v := 0) C (by decide) d_Mo_clean_7 ?_
  refine r_istore_n (ls2 := [(0, .ref 0), (1, .int r1), (2, .int 0), (3, .int 0)]) C rfl (by decide) rfl d_Mo_clean_8 ?_
  refine r_iconst (v := 0) C (by decide) d_Mo_clean_9 ?_
  refine r_istore (ls2 := [(0, .ref 0), (1, .int r1), (2, .int 0), (3, .int 0), (4, .int 0)]) C (by decide) rfl d_Mo_clean_10 ?_
  exact K
set_option maxRecDepth 20000 in
theorem g_Mo_clean_12 {X : CX} {h : HP} {v1 : Int32} {v2 : Int32} {v3 : Int32} {v4 : Int32} {Φ : Int32 → HP → Prop} (C : Cok X b_Mo_clean 6 R_Mo ((some .int))) (Rm : xR X = rml 2 0 0) (Q : Qok X 0 0 (fun r h2 => ∃ v, r = some (.int v) ∧ Φ v h2)) 
    (K : (((h 0 3)) ≤ v4 → (0 ≤ v1 → Φ v3 (up (up (up h 0 3 v2) 0 9 (((up h 0 3 v2) 0 9) - v3)) 0 10 (((up (up h 0 3 v2) 0 9 (((up h 0 3 v2) 0 9) - v3)) 0 10) + 1))) ∧ (¬ 0 ≤ v1 → Φ 0 (up (up (up h 0 3 v2) 0 9 (((up h 0 3 v2) 0 9) - v3)) 0 10 (((up (up h 0 3 v2) 0 9 (((up h 0 3 v2) 0 9) - v3)) 0 10) + 1)))) ∧ (¬ ((h 0 3)) ≤ v4 → vp_in v4 204 ∧ (vp_in (h 3 v4.toNatClampNeg) 204 ∧ (((h 6 (h 3 v4.toNatClampNeg).toNatClampNeg) = 0 → vp_in (h 3 v4.toNatClampNeg) 204 ∧ (vp_in (h 3 v4.toNatClampNeg) 204 ∧ (Wg X 0 0 (up h 4 (h 3 v4.toNatClampNeg).toNatClampNeg 0) [(0, .ref 0), (1, .int v1), (2, .int v2), (3, .int (v3 + (h 5 (h 3 v4.toNatClampNeg).toNatClampNeg))), (4, .int (v4 + 1))] [] 12))) ∧ (¬ (h 6 (h 3 v4.toNatClampNeg).toNatClampNeg) = 0 → vp_in v2 204 ∧ (Wg X 0 0 (up h 3 v2.toNatClampNeg (h 3 v4.toNatClampNeg)) [(0, .ref 0), (1, .int v1), (2, .int (v2 + 1)), (3, .int v3), (4, .int (v4 + 1))] [] 12)))))) :
    Wg X 0 0 h [(0, .ref 0), (1, .int v1), (2, .int v2), (3, .int v3), (4, .int v4)] [] 12 := by
  refine r_iload C 4 rfl d_Mo_clean_12 ?_
  refine r_aload_n C 0 rfl d_Mo_clean_14 ?_
  refine gf_Mo_many C rfl k_1022 d_Mo_clean_15 ?_
  refine r_icmp_ge C 78 d_Mo_clean_18 (by decide) ⟨fun c0 => ?_, fun c0 => ?_⟩
  · have K := K.1 c0
    refine r_aload_n C 0 rfl d_Mo_clean_78 ?_
    refine r_iload_n C 2 rfl d_Mo_clean_79 ?_
    refine pf_Mo_many C rfl k_1022 d_Mo_clean_80 ?_
    refine r_aload_n C 0 rfl d_Mo_clean_83 ?_
    refine r_aload_n C 0 rfl d_Mo_clean_84 ?_
    refine gf_Mo_top C rfl k_1028 d_Mo_clean_85 ?_
    refine r_iload_n C 3 rfl d_Mo_clean_88 ?_
    refine r_isub C d_Mo_clean_89 ?_
    refine pf_Mo_top C rfl k_1028 d_Mo_clean_90 ?_
    refine r_aload_n C 0 rfl d_Mo_clean_93 ?_
    refine r_dup C rfl d_Mo_clean_94 ?_
    refine gf_Mo_collections C rfl k_1029 d_Mo_clean_95 ?_
    refine r_iconst (v := 1) C (by decide) d_Mo_clean_98 ?_
    refine r_iadd C d_Mo_clean_99 ?_
    refine pf_Mo_collections C rfl k_1029 d_Mo_clean_100 ?_
    refine r_iload_n C 1 rfl d_Mo_clean_103 ?_
    refine r_if_ge C 111 d_Mo_clean_104 (by decide) ⟨fun c0 => ?_, fun c0 => ?_⟩
    · have K := K.1 c0
      refine r_iload_n C 3 rfl d_Mo_clean_111 ?_
      exact q_iret C Q d_Mo_clean_112 ⟨_, rfl, K⟩
    · have K := K.2 c0
      refine r_iconst (v := 0) C (by decide) d_Mo_clean_107 ?_
      refine r_goto C 112 d_Mo_clean_108 (by decide) ?_
      exact q_iret C Q d_Mo_clean_112 ⟨_, rfl, K⟩
  · have K := K.2 c0
    refine r_aload_n C 0 rfl d_Mo_clean_21 ?_
    refine gf_Mo_order (k2 := 3) C rfl rfl k_1023 d_Mo_clean_22 ?_
    refine r_iload C 4 rfl d_Mo_clean_25 ?_
    obtain ⟨s0, K⟩ := K
    refine r_iald C rfl s0 d_Mo_clean_27 ?_
    refine r_istore (ls2 := [(0, .ref 0), (1, .int v1), (2, .int v2), (3, .int v3), (4, .int v4), (5, .int (h 3 v4.toNatClampNeg))]) C (by decide) rfl d_Mo_clean_28 ?_
    refine r_aload_n C 0 rfl d_Mo_clean_30 ?_
    refine gf_Mo_isMarked (k2 := 6) C rfl rfl k_1026 d_Mo_clean_31 ?_
    refine r_iload C 5 rfl d_Mo_clean_34 ?_
    obtain ⟨s0, K⟩ := K
    refine r_zald C rfl s0 d_Mo_clean_36 ?_
    refine r_if_eq C 54 d_Mo_clean_37 (by decide) ⟨fun c0 => ?_, fun c0 => ?_⟩
    · have K := K.1 c0
      refine r_iload_n C 3 rfl d_Mo_clean_54 ?_
      refine r_aload_n C 0 rfl d_Mo_clean_55 ?_
      refine gf_Mo_cells (k2 := 5) C rfl rfl k_1025 d_Mo_clean_56 ?_
      refine r_iload C 5 rfl d_Mo_clean_59 ?_
      obtain ⟨s0, K⟩ := K
      refine r_iald C rfl s0 d_Mo_clean_61 ?_
      refine r_iadd C d_Mo_clean_62 ?_
      refine r_istore_n (ls2 := [(0, .ref 0), (1, .int v1), (2, .int v2), (3, .int (v3 + (h 5 (h 3 v4.toNatClampNeg).toNatClampNeg))), (4, .int v4), (5, .int (h 3 v4.toNatClampNeg))]) C rfl (by decide) rfl d_Mo_clean_63 ?_
      refine r_aload_n C 0 rfl d_Mo_clean_64 ?_
      refine gf_Mo_sort (k2 := 4) C rfl rfl k_1024 d_Mo_clean_65 ?_
      refine r_iload C 5 rfl d_Mo_clean_68 ?_
      refine r_iconst (v := 0) C (by decide) d_Mo_clean_70 ?_
      obtain ⟨s0, K⟩ := K
      refine r_iast C rfl s0 d_Mo_clean_71 ?_
      refine r_iinc (ls2 := [(0, .ref 0), (1, .int v1), (2, .int v2), (3, .int (v3 + (h 5 (h 3 v4.toNatClampNeg).toNatClampNeg))), (4, .int (v4 + 1)), (5, .int (h 3 v4.toNatClampNeg))]) C 4 (m := 1) rfl (by decide) (by decide) rfl d_Mo_clean_72 ?_
      refine r_goto C 12 d_Mo_clean_75 (by decide) ?_
      exact Wg.drop (by simp) K
    · have K := K.2 c0
      refine r_aload_n C 0 rfl d_Mo_clean_40 ?_
      refine gf_Mo_order (k2 := 3) C rfl rfl k_1023 d_Mo_clean_41 ?_
      refine r_iload_n C 2 rfl d_Mo_clean_44 ?_
      refine r_iload C 5 rfl d_Mo_clean_45 ?_
      obtain ⟨s0, K⟩ := K
      refine r_iast C rfl s0 d_Mo_clean_47 ?_
      refine r_iinc (ls2 := [(0, .ref 0), (1, .int v1), (2, .int (v2 + 1)), (3, .int v3), (4, .int v4), (5, .int (h 3 v4.toNatClampNeg))]) C 2 (m := 1) rfl (by decide) (by decide) rfl d_Mo_clean_48 ?_
      refine r_goto C 72 d_Mo_clean_51 (by decide) ?_
      refine r_iinc (ls2 := [(0, .ref 0), (1, .int v1), (2, .int (v2 + 1)), (3, .int v3), (4, .int (v4 + 1)), (5, .int (h 3 v4.toNatClampNeg))]) C 4 (m := 1) rfl (by decide) (by decide) rfl d_Mo_clean_72 ?_
      refine r_goto C 12 d_Mo_clean_75 (by decide) ?_
      exact Wg.drop (by simp) K
set_option maxRecDepth 20000 in
theorem g_Mo_wants_0 {X : CX} {h : HP} {v1 : Int32} {Φ : Int32 → HP → Prop} (C : Cok X b_Mo_wants 3 R_Mo ((some .boolean))) (Rm : xR X = rml 3 0 0) (Q : Qok X 0 0 (fun r h2 => ∃ v, r = some (.int v) ∧ Φ v h2)) 
    (K : (v1 ≤ ((400 - (h 0 9))) → (((400 - (h 0 9))) < v1 → Φ 0 h) ∧ (¬ ((400 - (h 0 9))) < v1 → Φ 1 h)) ∧ (¬ v1 ≤ ((400 - (h 0 9))) → K_Mo_clean [.ref 0] h (fun r1 h1 => (((400 - (h1 0 9))) < v1 → Φ 0 h1) ∧ (¬ ((400 - (h1 0 9))) < v1 → Φ 1 h1)))) :
    Wg X 0 0 h [(0, .ref 0), (1, .int v1)] [] 0 := by
  refine r_sipush (v := 400) C (by decide) d_Mo_wants_0 ?_
  refine r_aload_n C 0 rfl d_Mo_wants_3 ?_
  refine gf_Mo_top C rfl k_1028 d_Mo_wants_4 ?_
  refine r_isub C d_Mo_wants_7 ?_
  refine r_iload_n C 1 rfl d_Mo_wants_8 ?_
  refine r_icmp_ge C 17 d_Mo_wants_9 (by decide) ⟨fun c0 => ?_, fun c0 => ?_⟩
  · have K := K.1 c0
    refine r_sipush (v := 400) C (by decide) d_Mo_wants_17 ?_
    refine r_aload_n C 0 rfl d_Mo_wants_20 ?_
    refine gf_Mo_top C rfl k_1028 d_Mo_wants_21 ?_
    refine r_isub C d_Mo_wants_24 ?_
    refine r_iload_n C 1 rfl d_Mo_wants_25 ?_
    refine r_icmp_lt C 33 d_Mo_wants_26 (by decide) ⟨fun c0 => ?_, fun c0 => ?_⟩
    · have K := K.1 c0
      refine r_iconst (v := 0) C (by decide) d_Mo_wants_33 ?_
      exact q_zret C Q (by decide) d_Mo_wants_34 ⟨_, rfl, K⟩
    · have K := K.2 c0
      refine r_iconst (v := 1) C (by decide) d_Mo_wants_29 ?_
      refine r_goto C 34 d_Mo_wants_30 (by decide) ?_
      exact q_zret C Q (by decide) d_Mo_wants_34 ⟨_, rfl, K⟩
  · have K := K.2 c0
    refine r_aload_n C 0 rfl d_Mo_wants_12 ?_
    refine r_callV (As := []) (st := []) (lvc := 2) (mcc := 0) (msc := 0) C Rm M_Mo_clean rfl k_1145 rfl (by decide) (Nat.le_of_ble_eq_true rfl) ⟨by decide, by decide⟩ d_Mo_wants_13 ?_
    refine Can.mono K (fun _ h1 z => ?_)
    obtain ⟨r1, rfl, K⟩ := z
    show Wg X 0 0 h1 [(0, .ref 0), (1, .int v1)] [.int r1] 16
    refine r_istore_n (ls2 := [(0, .ref 0), (1, .int v1), (2, .int r1)]) C rfl (by decide) rfl d_Mo_wants_16 ?_
    refine r_sipush (v := 400) C (by decide) d_Mo_wants_17 ?_
    refine r_aload_n C 0 rfl d_Mo_wants_20 ?_
    refine gf_Mo_top C rfl k_1028 d_Mo_wants_21 ?_
    refine r_isub C d_Mo_wants_24 ?_
    refine r_iload_n C 1 rfl d_Mo_wants_25 ?_
    refine r_icmp_lt C 33 d_Mo_wants_26 (by decide) ⟨fun c0 => ?_, fun c0 => ?_⟩
    · have K := K.1 c0
      refine r_iconst (v := 0) C (by decide) d_Mo_wants_33 ?_
      exact q_zret C Q (by decide) d_Mo_wants_34 ⟨_, rfl, K⟩
    · have K := K.2 c0
      refine r_iconst (v := 1) C (by decide) d_Mo_wants_29 ?_
      refine r_goto C 34 d_Mo_wants_30 (by decide) ?_
      exact q_zret C Q (by decide) d_Mo_wants_34 ⟨_, rfl, K⟩
set_option maxRecDepth 20000 in
theorem g_Mo_make_0 {X : CX} {h : HP} {v1 : Int32} {v2 : Int32} {Φ : Int32 → HP → Prop} (C : Cok X b_Mo_make 4 R_Mo ((some .int))) (Rm : xR X = rml 0 0 0) (Q : Qok X 0 0 (fun r h2 => ∃ v, r = some (.int v) ∧ Φ v h2)) 
    (K : Wg X 0 0 h [(0, .ref 0), (1, .int v1), (2, .int v2), (3, .int 0)] [] 2) :
    Wg X 0 0 h [(0, .ref 0), (1, .int v1), (2, .int v2)] [] 0 := by
  refine r_iconst (v := 0) C (by decide) d_Mo_make_0 ?_
  refine r_istore_n (ls2 := [(0, .ref 0), (1, .int v1), (2, .int v2), (3, .int 0)]) C rfl (by decide) rfl d_Mo_make_1 ?_
  exact K
set_option maxRecDepth 20000 in
theorem g_Mo_make_2 {X : CX} {h : HP} {v1 : Int32} {v2 : Int32} {v3 : Int32} {Φ : Int32 → HP → Prop} (C : Cok X b_Mo_make 4 R_Mo ((some .int))) (Rm : xR X = rml 0 0 0) (Q : Qok X 0 0 (fun r h2 => ∃ v, r = some (.int v) ∧ Φ v h2)) 
    (K : vp_in v3 204 ∧ (((h 4 v3.toNatClampNeg) = 0 → vp_in v3 204 ∧ (vp_in v3 204 ∧ (vp_in ((up (up h 4 v3.toNatClampNeg v1) 5 v3.toNatClampNeg v2) 0 3) 204 ∧ (Φ v3 (up (up (up (up (up h 4 v3.toNatClampNeg v1) 5 v3.toNatClampNeg v2) 3 ((up (up h 4 v3.toNatClampNeg v1) 5 v3.toNatClampNeg v2) 0 3).toNatClampNeg v3) 0 3 (((up (up (up h 4 v3.toNatClampNeg v1) 5 v3.toNatClampNeg v2) 3 ((up (up h 4 v3.toNatClampNeg v1) 5 v3.toNatClampNeg v2) 0 3).toNatClampNeg v3) 0 3) + 1)) 0 9 (((up (up (up (up h 4 v3.toNatClampNeg v1) 5 v3.toNatClampNeg v2) 3 ((up (up h 4 v3.toNatClampNeg v1) 5 v3.toNatClampNeg v2) 0 3).toNatClampNeg v3) 0 3 (((up (up (up h 4 v3.toNatClampNeg v1) 5 v3.toNatClampNeg v2) 3 ((up (up h 4 v3.toNatClampNeg v1) 5 v3.toNatClampNeg v2) 0 3).toNatClampNeg v3) 0 3) + 1)) 0 9) + v2)))))) ∧ (¬ (h 4 v3.toNatClampNeg) = 0 → Wg X 0 0 h [(0, .ref 0), (1, .int v1), (2, .int v2), (3, .int (v3 + 1))] [] 2))) :
    Wg X 0 0 h [(0, .ref 0), (1, .int v1), (2, .int v2), (3, .int v3)] [] 2 := by
  refine r_aload_n C 0 rfl d_Mo_make_2 ?_
  refine gf_Mo_sort (k2 := 4) C rfl rfl k_1024 d_Mo_make_3 ?_
  refine r_iload_n C 3 rfl d_Mo_make_6 ?_
  obtain ⟨s0, K⟩ := K
  refine r_iald C rfl s0 d_Mo_make_7 ?_
  refine r_if_eq C 17 d_Mo_make_8 (by decide) ⟨fun c0 => ?_, fun c0 => ?_⟩
  · have K := K.1 c0
    refine r_aload_n C 0 rfl d_Mo_make_17 ?_
    refine gf_Mo_sort (k2 := 4) C rfl rfl k_1024 d_Mo_make_18 ?_
    refine r_iload_n C 3 rfl d_Mo_make_21 ?_
    refine r_iload_n C 1 rfl d_Mo_make_22 ?_
    obtain ⟨s0, K⟩ := K
    refine r_iast C rfl s0 d_Mo_make_23 ?_
    refine r_aload_n C 0 rfl d_Mo_make_24 ?_
    refine gf_Mo_cells (k2 := 5) C rfl rfl k_1025 d_Mo_make_25 ?_
    refine r_iload_n C 3 rfl d_Mo_make_28 ?_
    refine r_iload_n C 2 rfl d_Mo_make_29 ?_
    obtain ⟨s0, K⟩ := K
    refine r_iast C rfl s0 d_Mo_make_30 ?_
    refine r_aload_n C 0 rfl d_Mo_make_31 ?_
    refine gf_Mo_order (k2 := 3) C rfl rfl k_1023 d_Mo_make_32 ?_
    refine r_aload_n C 0 rfl d_Mo_make_35 ?_
    refine gf_Mo_many C rfl k_1022 d_Mo_make_36 ?_
    refine r_iload_n C 3 rfl d_Mo_make_39 ?_
    obtain ⟨s0, K⟩ := K
    refine r_iast C rfl s0 d_Mo_make_40 ?_
    refine r_aload_n C 0 rfl d_Mo_make_41 ?_
    refine r_dup C rfl d_Mo_make_42 ?_
    refine gf_Mo_many C rfl k_1022 d_Mo_make_43 ?_
    refine r_iconst (v := 1) C (by decide) d_Mo_make_46 ?_
    refine r_iadd C d_Mo_make_47 ?_
    refine pf_Mo_many C rfl k_1022 d_Mo_make_48 ?_
    refine r_aload_n C 0 rfl d_Mo_make_51 ?_
    refine r_aload_n C 0 rfl d_Mo_make_52 ?_
    refine gf_Mo_top C rfl k_1028 d_Mo_make_53 ?_
    refine r_iload_n C 2 rfl d_Mo_make_56 ?_
    refine r_iadd C d_Mo_make_57 ?_
    refine pf_Mo_top C rfl k_1028 d_Mo_make_58 ?_
    refine r_iload_n C 3 rfl d_Mo_make_61 ?_
    exact q_iret C Q d_Mo_make_62 ⟨_, rfl, K⟩
  · have K := K.2 c0
    refine r_iinc (ls2 := [(0, .ref 0), (1, .int v1), (2, .int v2), (3, .int (v3 + 1))]) C 3 (m := 1) rfl (by decide) (by decide) rfl d_Mo_make_11 ?_
    refine r_goto C 2 d_Mo_make_14 (by decide) ?_
    exact K
set_option maxRecDepth 20000 in
theorem g_Mo_place_0 {X : CX} {h : HP} {v1 : Int32} {v2 : Int32} {Φ : HP → Prop} (C : Cok X b_Mo_place 4 R_Mo none) (Rm : xR X = rml 3 0 0) (Q : Qok X 0 0 (fun r h2 => r = none ∧ Φ h2)) 
    (K : K_Mo_isFixed [.ref 0, .int v2] h (fun r1 h1 => (r1 = 0 → K_Mo_cellsOf [.ref 0, .int v2] h1 (fun r2 h2 => K_Mo_make [.ref 0, .int 2, .int r2] h2 (fun r3 h3 => K_Mo_rowOf [.int r3] h3 (fun r4 h4 => K_Mo_copyRow [.ref 0, .int r4, .int v2] h4 (fun h5 => K_Mo_setValue [.ref 0, .int v1, .int 2, .int r3] h5 (fun h6 => Φ h6)))))) ∧ (¬ r1 = 0 → K_Mo_limbOf [.ref 0, .int v2, .int 0] h1 (fun r7 h7 => K_Mo_limbOf [.ref 0, .int v2, .int 1] h7 (fun r8 h8 => vp_in v2 218 ∧ (((h8 10 v2.toNatClampNeg) = 0 → K_Mo_setValue [.ref 0, .int v1, .int 1, .int (r7 ||| (r8 <<< (16 &&& (31 : Int32))))] h8 (fun h9 => Φ h9)) ∧ (¬ (h8 10 v2.toNatClampNeg) = 0 → K_Mo_setValue [.ref 0, .int v1, .int 1, .int (-(r7 ||| (r8 <<< (16 &&& (31 : Int32)))))] h8 (fun h10 => Φ h10)))))))) :
    Wg X 0 0 h [(0, .ref 0), (1, .int v1), (2, .int v2)] [] 0 := by
  refine r_aload_n C 0 rfl d_Mo_place_0 ?_
  refine r_iload_n C 2 rfl d_Mo_place_1 ?_
  refine r_callV (As := [.int v2]) (st := []) (lvc := 1) (mcc := 0) (msc := 0) C Rm M_Mo_isFixed rfl k_1132 rfl (by decide) (Nat.le_of_ble_eq_true rfl) ⟨by decide, by decide⟩ d_Mo_place_2 ?_
  refine Can.mono K (fun _ h1 z => ?_)
  obtain ⟨r1, rfl, K⟩ := z
  show Wg X 0 0 h1 [(0, .ref 0), (1, .int v1), (2, .int v2)] [.int r1] 5
  refine r_if_eq C 47 d_Mo_place_5 (by decide) ⟨fun c0 => ?_, fun c0 => ?_⟩
  · have K := K.1 c0
    refine r_aload_n C 0 rfl d_Mo_place_47 ?_
    refine r_iconst (v := 2) C (by decide) d_Mo_place_48 ?_
    refine r_aload_n C 0 rfl d_Mo_place_49 ?_
    refine r_iload_n C 2 rfl d_Mo_place_50 ?_
    refine r_callV (As := [.int v2]) (st := [.int 2, .ref 0]) (lvc := 2) (mcc := 0) (msc := 0) C Rm M_Mo_cellsOf rfl k_1128 rfl (by decide) (Nat.le_of_ble_eq_true rfl) ⟨by decide, by decide⟩ d_Mo_place_51 ?_
    refine Can.mono K (fun _ h2 z => ?_)
    obtain ⟨r2, rfl, K⟩ := z
    show Wg X 0 0 h2 [(0, .ref 0), (1, .int v1), (2, .int v2)] [.int r2, .int 2, .ref 0] 54
    refine r_callV (As := [.int 2, .int r2]) (st := []) (lvc := 0) (mcc := 0) (msc := 0) C Rm M_Mo_make rfl k_1160 rfl (by decide) (Nat.le_of_ble_eq_true rfl) ⟨by decide, by decide⟩ d_Mo_place_54 ?_
    refine Can.mono K (fun _ h3 z => ?_)
    obtain ⟨r3, rfl, K⟩ := z
    show Wg X 0 0 h3 [(0, .ref 0), (1, .int v1), (2, .int v2)] [.int r3] 57
    refine r_istore_n (ls2 := [(0, .ref 0), (1, .int v1), (2, .int v2), (3, .int r3)]) C rfl (by decide) rfl d_Mo_place_57 ?_
    refine r_aload_n C 0 rfl d_Mo_place_58 ?_
    refine r_iload_n C 3 rfl d_Mo_place_59 ?_
    refine r_callS (As := [.int r3]) (st := [.ref 0]) (lvc := 0) (mcc := 0) (msc := 0) C Rm M_Mo_rowOf rfl k_1164 (by decide) (Nat.le_of_ble_eq_true rfl) ⟨by decide, by decide⟩ d_Mo_place_60 ?_
    refine Can.mono K (fun _ h4 z => ?_)
    obtain ⟨r4, rfl, K⟩ := z
    show Wg X 0 0 h4 [(0, .ref 0), (1, .int v1), (2, .int v2), (3, .int r3)] [.int r4, .ref 0] 63
    refine r_iload_n C 2 rfl d_Mo_place_63 ?_
    refine r_callV (As := [.int r4, .int v2]) (st := []) (lvc := 0) (mcc := 0) (msc := 0) C Rm M_Mo_copyRow rfl k_1167 rfl (by decide) (Nat.le_of_ble_eq_true rfl) ⟨by decide, by decide⟩ d_Mo_place_64 ?_
    refine Can.mono K (fun _ h5 z => ?_)
    obtain ⟨rfl, K⟩ := z
    show Wg X 0 0 h5 [(0, .ref 0), (1, .int v1), (2, .int v2), (3, .int r3)] [] 67
    refine r_aload_n C 0 rfl d_Mo_place_67 ?_
    refine r_iload_n C 1 rfl d_Mo_place_68 ?_
    refine r_iconst (v := 2) C (by decide) d_Mo_place_69 ?_
    refine r_iload_n C 3 rfl d_Mo_place_70 ?_
    refine r_callV (As := [.int v1, .int 2, .int r3]) (st := []) (lvc := 0) (mcc := 0) (msc := 0) C Rm M_Mo_setValue rfl k_1098 rfl (by decide) (Nat.le_of_ble_eq_true rfl) ⟨by decide, by decide⟩ d_Mo_place_71 ?_
    refine Can.mono K (fun _ h6 z => ?_)
    obtain ⟨rfl, K⟩ := z
    show Wg X 0 0 h6 [(0, .ref 0), (1, .int v1), (2, .int v2), (3, .int r3)] [] 74
    exact q_vret C Q d_Mo_place_74 ⟨rfl, K⟩
  · have K := K.2 c0
    refine r_aload_n C 0 rfl d_Mo_place_8 ?_
    refine r_iload_n C 2 rfl d_Mo_place_9 ?_
    refine r_iconst (v := 0) C (by decide) d_Mo_place_10 ?_
    refine r_callV (As := [.int v2, .int 0]) (st := []) (lvc := 0) (mcc := 0) (msc := 0) C Rm M_Mo_limbOf rfl k_1136 rfl (by decide) (Nat.le_of_ble_eq_true rfl) ⟨by decide, by decide⟩ d_Mo_place_11 ?_
    refine Can.mono K (fun _ h7 z => ?_)
    obtain ⟨r7, rfl, K⟩ := z
    show Wg X 0 0 h7 [(0, .ref 0), (1, .int v1), (2, .int v2)] [.int r7] 14
    refine r_aload_n C 0 rfl d_Mo_place_14 ?_
    refine r_iload_n C 2 rfl d_Mo_place_15 ?_
    refine r_iconst (v := 1) C (by decide) d_Mo_place_16 ?_
    refine r_callV (As := [.int v2, .int 1]) (st := [.int r7]) (lvc := 0) (mcc := 0) (msc := 0) C Rm M_Mo_limbOf rfl k_1136 rfl (by decide) (Nat.le_of_ble_eq_true rfl) ⟨by decide, by decide⟩ d_Mo_place_17 ?_
    refine Can.mono K (fun _ h8 z => ?_)
    obtain ⟨r8, rfl, K⟩ := z
    show Wg X 0 0 h8 [(0, .ref 0), (1, .int v1), (2, .int v2)] [.int r8, .int r7] 20
    refine r_bipush (v := 16) C (by decide) d_Mo_place_20 ?_
    refine r_ishl C d_Mo_place_22 ?_
    refine r_ior C d_Mo_place_23 ?_
    refine r_istore_n (ls2 := [(0, .ref 0), (1, .int v1), (2, .int v2), (3, .int (r7 ||| (r8 <<< (16 &&& (31 : Int32)))))]) C rfl (by decide) rfl d_Mo_place_24 ?_
    refine r_aload_n C 0 rfl d_Mo_place_25 ?_
    refine r_iload_n C 1 rfl d_Mo_place_26 ?_
    refine r_iconst (v := 1) C (by decide) d_Mo_place_27 ?_
    refine r_aload_n C 0 rfl d_Mo_place_28 ?_
    refine gf_Mo_isBelow (k2 := 10) C rfl rfl k_1032 d_Mo_place_29 ?_
    refine r_iload_n C 2 rfl d_Mo_place_32 ?_
    obtain ⟨s0, K⟩ := K
    refine r_zald C rfl s0 d_Mo_place_33 ?_
    refine r_if_eq C 42 d_Mo_place_34 (by decide) ⟨fun c0 => ?_, fun c0 => ?_⟩
    · have K := K.1 c0
      refine r_iload_n C 3 rfl d_Mo_place_42 ?_
      refine r_callV (As := [.int v1, .int 1, .int (r7 ||| (r8 <<< (16 &&& (31 : Int32))))]) (st := []) (lvc := 0) (mcc := 0) (msc := 0) C Rm M_Mo_setValue rfl k_1098 rfl (by decide) (Nat.le_of_ble_eq_true rfl) ⟨by decide, by decide⟩ d_Mo_place_43 ?_
      refine Can.mono K (fun _ h9 z => ?_)
      obtain ⟨rfl, K⟩ := z
      show Wg X 0 0 h9 [(0, .ref 0), (1, .int v1), (2, .int v2), (3, .int (r7 ||| (r8 <<< (16 &&& (31 : Int32)))))] [] 46
      exact q_vret C Q d_Mo_place_46 ⟨rfl, K⟩
    · have K := K.2 c0
      refine r_iload_n C 3 rfl d_Mo_place_37 ?_
      refine r_ineg C d_Mo_place_38 ?_
      refine r_goto C 43 d_Mo_place_39 (by decide) ?_
      refine r_callV (As := [.int v1, .int 1, .int (-(r7 ||| (r8 <<< (16 &&& (31 : Int32)))))]) (st := []) (lvc := 0) (mcc := 0) (msc := 0) C Rm M_Mo_setValue rfl k_1098 rfl (by decide) (Nat.le_of_ble_eq_true rfl) ⟨by decide, by decide⟩ d_Mo_place_43 ?_
      refine Can.mono K (fun _ h10 z => ?_)
      obtain ⟨rfl, K⟩ := z
      show Wg X 0 0 h10 [(0, .ref 0), (1, .int v1), (2, .int v2), (3, .int (r7 ||| (r8 <<< (16 &&& (31 : Int32)))))] [] 46
      exact q_vret C Q d_Mo_place_46 ⟨rfl, K⟩
set_option maxRecDepth 20000 in
theorem g_Mo_finish_0 {X : CX} {h : HP} {v1 : Int32} {Φ : Int32 → HP → Prop} (C : Cok X b_Mo_finish 5 R_Mo ((some .int))) (Rm : xR X = rml 4 0 0) (Q : Qok X 0 0 (fun r h2 => ∃ v, r = some (.int v) ∧ Φ v h2)) 
    (K : vp_in 5 218 ∧ ((¬ ((h 9 (5 : Int32).toNatClampNeg)) = (1 : Int32) → Wg X 0 0 h [(0, .ref 0), (1, .int v1)] [.int 0] 27) ∧ (((h 9 (5 : Int32).toNatClampNeg)) = (1 : Int32) → vp_in 500 21800 ∧ ((¬ ((h 8 (500 : Int32).toNatClampNeg)) = (1 : Int32) → Wg X 0 0 h [(0, .ref 0), (1, .int v1)] [.int 0] 27) ∧ (((h 8 (500 : Int32).toNatClampNeg)) = (1 : Int32) → Wg X 0 0 h [(0, .ref 0), (1, .int v1)] [.int 1] 27))))) :
    Wg X 0 0 h [(0, .ref 0), (1, .int v1)] [] 0 := by
  refine r_aload_n C 0 rfl d_Mo_finish_0 ?_
  refine gf_Mo_length (k2 := 9) C rfl rfl k_1031 d_Mo_finish_1 ?_
  refine r_iconst (v := 5) C (by decide) d_Mo_finish_4 ?_
  obtain ⟨s0, K⟩ := K
  refine r_iald C rfl s0 d_Mo_finish_5 ?_
  refine r_iconst (v := 1) C (by decide) d_Mo_finish_6 ?_
  refine r_icmp_ne C 26 d_Mo_finish_7 (by decide) ⟨fun c0 => ?_, fun c0 => ?_⟩
  · have K := K.1 c0
    refine r_iconst (v := 0) C (by decide) d_Mo_finish_26 ?_
    exact K
  · have K := K.2 c0
    refine r_aload_n C 0 rfl d_Mo_finish_10 ?_
    refine gf_Mo_limb (k2 := 8) C rfl rfl k_1030 d_Mo_finish_11 ?_
    refine r_sipush (v := 500) C (by decide) d_Mo_finish_14 ?_
    obtain ⟨s0, K⟩ := K
    refine r_iald C rfl s0 d_Mo_finish_17 ?_
    refine r_iconst (v := 1) C (by decide) d_Mo_finish_18 ?_
    refine r_icmp_ne C 26 d_Mo_finish_19 (by decide) ⟨fun c0 => ?_, fun c0 => ?_⟩
    · have K := K.1 c0
      refine r_iconst (v := 0) C (by decide) d_Mo_finish_26 ?_
      exact K
    · have K := K.2 c0
      refine r_iconst (v := 1) C (by decide) d_Mo_finish_22 ?_
      refine r_goto C 27 d_Mo_finish_23 (by decide) ?_
      exact K
set_option maxRecDepth 20000 in
theorem g_Mo_finish_27 {X : CX} {h : HP} {v1 : Int32} {t0 : Int32} {Φ : Int32 → HP → Prop} (C : Cok X b_Mo_finish 5 R_Mo ((some .int))) (Rm : xR X = rml 4 0 0) (Q : Qok X 0 0 (fun r h2 => ∃ v, r = some (.int v) ∧ Φ v h2)) 
    (K : K_Mo_isLarge [.ref 0, .int 4] h (fun r1 h1 => (¬ r1 = 0 → Φ ((-3)) h1) ∧ (r1 = 0 → K_Mo_isLarge [.ref 0, .int 5] h1 (fun r2 h2 => (r2 = 0 → K_Mo_cellsOf [.ref 0, .int 4] h2 (fun r3 h3 => (t0 = 0 → K_Mo_cellsOf [.ref 0, .int 5] h3 (fun r4 h4 => Wg X 0 0 h4 [(0, .ref 0), (1, .int v1), (2, .int t0)] [.int (r4 + 3), .int r3] 67)) ∧ (¬ t0 = 0 → Wg X 0 0 h3 [(0, .ref 0), (1, .int v1), (2, .int t0)] [.int 0, .int r3] 67))) ∧ (¬ r2 = 0 → Φ ((-3)) h2))))) :
    Wg X 0 0 h [(0, .ref 0), (1, .int v1)] [.int t0] 27 := by
  refine r_istore_n (ls2 := [(0, .ref 0), (1, .int v1), (2, .int t0)]) C rfl (by decide) rfl d_Mo_finish_27 ?_
  refine r_aload_n C 0 rfl d_Mo_finish_28 ?_
  refine r_iconst (v := 4) C (by decide) d_Mo_finish_29 ?_
  refine r_callV (As := [.int 4]) (st := []) (lvc := 1) (mcc := 0) (msc := 0) C Rm M_Mo_isLarge rfl k_1120 rfl (by decide) (Nat.le_of_ble_eq_true rfl) ⟨by decide, by decide⟩ d_Mo_finish_30 ?_
  refine Can.mono K (fun _ h1 z => ?_)
  obtain ⟨r1, rfl, K⟩ := z
  show Wg X 0 0 h1 [(0, .ref 0), (1, .int v1), (2, .int t0)] [.int r1] 33
  refine r_if_ne C 44 d_Mo_finish_33 (by decide) ⟨fun c0 => ?_, fun c0 => ?_⟩
  · have K := K.1 c0
    refine r_bipush (v := (-3)) C (by decide) d_Mo_finish_44 ?_
    exact q_iret C Q d_Mo_finish_46 ⟨_, rfl, K⟩
  · have K := K.2 c0
    refine r_aload_n C 0 rfl d_Mo_finish_36 ?_
    refine r_iconst (v := 5) C (by decide) d_Mo_finish_37 ?_
    refine r_callV (As := [.int 5]) (st := []) (lvc := 1) (mcc := 0) (msc := 0) C Rm M_Mo_isLarge rfl k_1120 rfl (by decide) (Nat.le_of_ble_eq_true rfl) ⟨by decide, by decide⟩ d_Mo_finish_38 ?_
    refine Can.mono K (fun _ h2 z => ?_)
    obtain ⟨r2, rfl, K⟩ := z
    show Wg X 0 0 h2 [(0, .ref 0), (1, .int v1), (2, .int t0)] [.int r2] 41
    refine r_if_eq C 47 d_Mo_finish_41 (by decide) ⟨fun c0 => ?_, fun c0 => ?_⟩
    · have K := K.1 c0
      refine r_aload_n C 0 rfl d_Mo_finish_47 ?_
      refine r_iconst (v := 4) C (by decide) d_Mo_finish_48 ?_
      refine r_callV (As := [.int 4]) (st := []) (lvc := 2) (mcc := 0) (msc := 0) C Rm M_Mo_cellsOf rfl k_1128 rfl (by decide) (Nat.le_of_ble_eq_true rfl) ⟨by decide, by decide⟩ d_Mo_finish_49 ?_
      refine Can.mono K (fun _ h3 z => ?_)
      obtain ⟨r3, rfl, K⟩ := z
      show Wg X 0 0 h3 [(0, .ref 0), (1, .int v1), (2, .int t0)] [.int r3] 52
      refine r_iload_n C 2 rfl d_Mo_finish_52 ?_
      refine r_if_eq C 60 d_Mo_finish_53 (by decide) ⟨fun c0 => ?_, fun c0 => ?_⟩
      · have K := K.1 c0
        refine r_aload_n C 0 rfl d_Mo_finish_60 ?_
        refine r_iconst (v := 5) C (by decide) d_Mo_finish_61 ?_
        refine r_callV (As := [.int 5]) (st := [.int r3]) (lvc := 2) (mcc := 0) (msc := 0) C Rm M_Mo_cellsOf rfl k_1128 rfl (by decide) (Nat.le_of_ble_eq_true rfl) ⟨by decide, by decide⟩ d_Mo_finish_62 ?_
        refine Can.mono K (fun _ h4 z => ?_)
        obtain ⟨r4, rfl, K⟩ := z
        show Wg X 0 0 h4 [(0, .ref 0), (1, .int v1), (2, .int t0)] [.int r4, .int r3] 65
        refine r_iconst (v := 3) C (by decide) d_Mo_finish_65 ?_
        refine r_iadd C d_Mo_finish_66 ?_
        exact K
      · have K := K.2 c0
        refine r_iconst (v := 0) C (by decide) d_Mo_finish_56 ?_
        refine r_goto C 67 d_Mo_finish_57 (by decide) ?_
        exact K
    · have K := K.2 c0
      refine r_bipush (v := (-3)) C (by decide) d_Mo_finish_44 ?_
      exact q_iret C Q d_Mo_finish_46 ⟨_, rfl, K⟩
set_option maxRecDepth 20000 in
theorem g_Mo_finish_67 {X : CX} {h : HP} {v1 : Int32} {v2 : Int32} {t1 : Int32} {t0 : Int32} {Φ : Int32 → HP → Prop} (C : Cok X b_Mo_finish 5 R_Mo ((some .int))) (Rm : xR X = rml 4 0 0) (Q : Qok X 0 0 (fun r h2 => ∃ v, r = some (.int v) ∧ Φ v h2)) 
    (K : K_Mo_wants [.ref 0, .int (t0 + t1)] h (fun r1 h1 => (¬ r1 = 0 → (v2 = 0 → K_Mo_place [.ref 0, .int 414, .int 4] h1 (fun h2 => K_Mo_place [.ref 0, .int 415, .int 5] h2 (fun h3 => K_Mo_make [.ref 0, .int 3, .int 3] h3 (fun r4 h4 => K_Mo_slotOf [.int r4, .int 0] h4 (fun r5 h5 => K_Mo_copyValue [.ref 0, .int r5, .int 414] h5 (fun h6 => K_Mo_slotOf [.int r4, .int 1] h6 (fun r7 h7 => K_Mo_copyValue [.ref 0, .int r7, .int 415] h7 (fun h8 => K_Mo_setValue [.ref 0, .int v1, .int 2, .int r4] h8 (fun h9 => Φ 0 h9))))))))) ∧ (¬ v2 = 0 → K_Mo_place [.ref 0, .int v1, .int 4] h1 (fun h10 => Φ 0 h10))) ∧ (r1 = 0 → Φ ((-2)) h1))) :
    Wg X 0 0 h [(0, .ref 0), (1, .int v1), (2, .int v2)] [.int t1, .int t0] 67 := by
  refine r_iadd C d_Mo_finish_67 ?_
  refine r_istore_n (ls2 := [(0, .ref 0), (1, .int v1), (2, .int v2), (3, .int (t0 + t1))]) C rfl (by decide) rfl d_Mo_finish_68 ?_
  refine r_aload_n C 0 rfl d_Mo_finish_69 ?_
  refine r_iload_n C 3 rfl d_Mo_finish_70 ?_
  refine r_callV (As := [.int (t0 + t1)]) (st := []) (lvc := 3) (mcc := 0) (msc := 0) C Rm M_Mo_wants rfl k_1141 rfl (by decide) (Nat.le_of_ble_eq_true rfl) ⟨by decide, by decide⟩ d_Mo_finish_71 ?_
  refine Can.mono K (fun _ h1 z => ?_)
  obtain ⟨r1, rfl, K⟩ := z
  show Wg X 0 0 h1 [(0, .ref 0), (1, .int v1), (2, .int v2), (3, .int (t0 + t1))] [.int r1] 74
  refine r_if_ne C 80 d_Mo_finish_74 (by decide) ⟨fun c0 => ?_, fun c0 => ?_⟩
  · have K := K.1 c0
    refine r_iload_n C 2 rfl d_Mo_finish_80 ?_
    refine r_if_eq C 92 d_Mo_finish_81 (by decide) ⟨fun c0 => ?_, fun c0 => ?_⟩
    · have K := K.1 c0
      refine r_aload_n C 0 rfl d_Mo_finish_92 ?_
      refine r_sipush (v := 414) C (by decide) d_Mo_finish_93 ?_
      refine r_iconst (v := 4) C (by decide) d_Mo_finish_96 ?_
      refine r_callV (As := [.int 414, .int 4]) (st := []) (lvc := 3) (mcc := 0) (msc := 0) C Rm M_Mo_place rfl k_1156 rfl (by decide) (Nat.le_of_ble_eq_true rfl) ⟨by decide, by decide⟩ d_Mo_finish_97 ?_
      refine Can.mono K (fun _ h2 z => ?_)
      obtain ⟨rfl, K⟩ := z
      show Wg X 0 0 h2 [(0, .ref 0), (1, .int v1), (2, .int v2), (3, .int (t0 + t1))] [] 100
      refine r_aload_n C 0 rfl d_Mo_finish_100 ?_
      refine r_sipush (v := 415) C (by decide) d_Mo_finish_101 ?_
      refine r_iconst (v := 5) C (by decide) d_Mo_finish_104 ?_
      refine r_callV (As := [.int 415, .int 5]) (st := []) (lvc := 3) (mcc := 0) (msc := 0) C Rm M_Mo_place rfl k_1156 rfl (by decide) (Nat.le_of_ble_eq_true rfl) ⟨by decide, by decide⟩ d_Mo_finish_105 ?_
      refine Can.mono K (fun _ h3 z => ?_)
      obtain ⟨rfl, K⟩ := z
      show Wg X 0 0 h3 [(0, .ref 0), (1, .int v1), (2, .int v2), (3, .int (t0 + t1))] [] 108
      refine r_aload_n C 0 rfl d_Mo_finish_108 ?_
      refine r_iconst (v := 3) C (by decide) d_Mo_finish_109 ?_
      refine r_iconst (v := 3) C (by decide) d_Mo_finish_110 ?_
      refine r_callV (As := [.int 3, .int 3]) (st := []) (lvc := 0) (mcc := 0) (msc := 0) C Rm M_Mo_make rfl k_1160 rfl (by decide) (Nat.le_of_ble_eq_true rfl) ⟨by decide, by decide⟩ d_Mo_finish_111 ?_
      refine Can.mono K (fun _ h4 z => ?_)
      obtain ⟨r4, rfl, K⟩ := z
      show Wg X 0 0 h4 [(0, .ref 0), (1, .int v1), (2, .int v2), (3, .int (t0 + t1))] [.int r4] 114
      refine r_istore (ls2 := [(0, .ref 0), (1, .int v1), (2, .int v2), (3, .int (t0 + t1)), (4, .int r4)]) C (by decide) rfl d_Mo_finish_114 ?_
      refine r_aload_n C 0 rfl d_Mo_finish_116 ?_
      refine r_iload C 4 rfl d_Mo_finish_117 ?_
      refine r_iconst (v := 0) C (by decide) d_Mo_finish_119 ?_
      refine r_callS (As := [.int r4, .int 0]) (st := [.ref 0]) (lvc := 0) (mcc := 0) (msc := 0) C Rm M_Mo_slotOf rfl k_1153 (by decide) (Nat.le_of_ble_eq_true rfl) ⟨by decide, by decide⟩ d_Mo_finish_120 ?_
      refine Can.mono K (fun _ h5 z => ?_)
      obtain ⟨r5, rfl, K⟩ := z
      show Wg X 0 0 h5 [(0, .ref 0), (1, .int v1), (2, .int v2), (3, .int (t0 + t1)), (4, .int r4)] [.int r5, .ref 0] 123
      refine r_sipush (v := 414) C (by decide) d_Mo_finish_123 ?_
      refine r_callV (As := [.int r5, .int 414]) (st := []) (lvc := 0) (mcc := 0) (msc := 0) C Rm M_Mo_copyValue rfl k_1171 rfl (by decide) (Nat.le_of_ble_eq_true rfl) ⟨by decide, by decide⟩ d_Mo_finish_126 ?_
      refine Can.mono K (fun _ h6 z => ?_)
      obtain ⟨rfl, K⟩ := z
      show Wg X 0 0 h6 [(0, .ref 0), (1, .int v1), (2, .int v2), (3, .int (t0 + t1)), (4, .int r4)] [] 129
      refine r_aload_n C 0 rfl d_Mo_finish_129 ?_
      refine r_iload C 4 rfl d_Mo_finish_130 ?_
      refine r_iconst (v := 1) C (by decide) d_Mo_finish_132 ?_
      refine r_callS (As := [.int r4, .int 1]) (st := [.ref 0]) (lvc := 0) (mcc := 0) (msc := 0) C Rm M_Mo_slotOf rfl k_1153 (by decide) (Nat.le_of_ble_eq_true rfl) ⟨by decide, by decide⟩ d_Mo_finish_133 ?_
      refine Can.mono K (fun _ h7 z => ?_)
      obtain ⟨r7, rfl, K⟩ := z
      show Wg X 0 0 h7 [(0, .ref 0), (1, .int v1), (2, .int v2), (3, .int (t0 + t1)), (4, .int r4)] [.int r7, .ref 0] 136
      refine r_sipush (v := 415) C (by decide) d_Mo_finish_136 ?_
      refine r_callV (As := [.int r7, .int 415]) (st := []) (lvc := 0) (mcc := 0) (msc := 0) C Rm M_Mo_copyValue rfl k_1171 rfl (by decide) (Nat.le_of_ble_eq_true rfl) ⟨by decide, by decide⟩ d_Mo_finish_139 ?_
      refine Can.mono K (fun _ h8 z => ?_)
      obtain ⟨rfl, K⟩ := z
      show Wg X 0 0 h8 [(0, .ref 0), (1, .int v1), (2, .int v2), (3, .int (t0 + t1)), (4, .int r4)] [] 142
      refine r_aload_n C 0 rfl d_Mo_finish_142 ?_
      refine r_iload_n C 1 rfl d_Mo_finish_143 ?_
      refine r_iconst (v := 2) C (by decide) d_Mo_finish_144 ?_
      refine r_iload C 4 rfl d_Mo_finish_145 ?_
      refine r_callV (As := [.int v1, .int 2, .int r4]) (st := []) (lvc := 0) (mcc := 0) (msc := 0) C Rm M_Mo_setValue rfl k_1098 rfl (by decide) (Nat.le_of_ble_eq_true rfl) ⟨by decide, by decide⟩ d_Mo_finish_147 ?_
      refine Can.mono K (fun _ h9 z => ?_)
      obtain ⟨rfl, K⟩ := z
      show Wg X 0 0 h9 [(0, .ref 0), (1, .int v1), (2, .int v2), (3, .int (t0 + t1)), (4, .int r4)] [] 150
      refine r_iconst (v := 0) C (by decide) d_Mo_finish_150 ?_
      exact q_iret C Q d_Mo_finish_151 ⟨_, rfl, K⟩
    · have K := K.2 c0
      refine r_aload_n C 0 rfl d_Mo_finish_84 ?_
      refine r_iload_n C 1 rfl d_Mo_finish_85 ?_
      refine r_iconst (v := 4) C (by decide) d_Mo_finish_86 ?_
      refine r_callV (As := [.int v1, .int 4]) (st := []) (lvc := 3) (mcc := 0) (msc := 0) C Rm M_Mo_place rfl k_1156 rfl (by decide) (Nat.le_of_ble_eq_true rfl) ⟨by decide, by decide⟩ d_Mo_finish_87 ?_
      refine Can.mono K (fun _ h10 z => ?_)
      obtain ⟨rfl, K⟩ := z
      show Wg X 0 0 h10 [(0, .ref 0), (1, .int v1), (2, .int v2), (3, .int (t0 + t1))] [] 90
      refine r_iconst (v := 0) C (by decide) d_Mo_finish_90 ?_
      exact q_iret C Q d_Mo_finish_91 ⟨_, rfl, K⟩
  · have K := K.2 c0
    refine r_bipush (v := (-2)) C (by decide) d_Mo_finish_77 ?_
    exact q_iret C Q d_Mo_finish_79 ⟨_, rfl, K⟩
set_option maxRecDepth 20000 in
theorem g_Mo_takeWhole_0 {X : CX} {h : HP} {v1 : Int32} {v2 : Int32} {Φ : HP → Prop} (C : Cok X b_Mo_takeWhole 3 R_Mo none) (Rm : xR X = rml 2 0 0) (Q : Qok X 0 0 (fun r h2 => r = none ∧ Φ h2)) 
    (K : vp_in v2 416 ∧ ((¬ ((h 1 v2.toNatClampNeg)) = (1 : Int32) → vp_in v2 416 ∧ (K_Mo_rowOf [.int (h 2 v2.toNatClampNeg)] h (fun r1 h1 => K_Mo_copyRow [.ref 0, .int v1, .int r1] h1 (fun h2 => Φ h2)))) ∧ (((h 1 v2.toNatClampNeg)) = (1 : Int32) → vp_in v2 416 ∧ (K_Mo_setLong [.ref 0, .int v1, .long (Int32.toInt64 (h 2 v2.toNatClampNeg))] h (fun h3 => Φ h3))))) :
    Wg X 0 0 h [(0, .ref 0), (1, .int v1), (2, .int v2)] [] 0 := by
  refine r_aload_n C 0 rfl d_Mo_takeWhole_0 ?_
  refine gf_Mo_valueSort (k2 := 1) C rfl rfl k_1020 d_Mo_takeWhole_1 ?_
  refine r_iload_n C 2 rfl d_Mo_takeWhole_4 ?_
  obtain ⟨s0, K⟩ := K
  refine r_iald C rfl s0 d_Mo_takeWhole_5 ?_
  refine r_iconst (v := 1) C (by decide) d_Mo_takeWhole_6 ?_
  refine r_icmp_ne C 25 d_Mo_takeWhole_7 (by decide) ⟨fun c0 => ?_, fun c0 => ?_⟩
  · have K := K.1 c0
    refine r_aload_n C 0 rfl d_Mo_takeWhole_25 ?_
    refine r_iload_n C 1 rfl d_Mo_takeWhole_26 ?_
    refine r_aload_n C 0 rfl d_Mo_takeWhole_27 ?_
    refine gf_Mo_valueOf (k2 := 2) C rfl rfl k_1021 d_Mo_takeWhole_28 ?_
    refine r_iload_n C 2 rfl d_Mo_takeWhole_31 ?_
    obtain ⟨s0, K⟩ := K
    refine r_iald C rfl s0 d_Mo_takeWhole_32 ?_
    refine r_callS (As := [.int (h 2 v2.toNatClampNeg)]) (st := [.int v1, .ref 0]) (lvc := 0) (mcc := 0) (msc := 0) C Rm M_Mo_rowOf rfl k_1164 (by decide) (Nat.le_of_ble_eq_true rfl) ⟨by decide, by decide⟩ d_Mo_takeWhole_33 ?_
    refine Can.mono K (fun _ h1 z => ?_)
    obtain ⟨r1, rfl, K⟩ := z
    show Wg X 0 0 h1 [(0, .ref 0), (1, .int v1), (2, .int v2)] [.int r1, .int v1, .ref 0] 36
    refine r_callV (As := [.int v1, .int r1]) (st := []) (lvc := 0) (mcc := 0) (msc := 0) C Rm M_Mo_copyRow rfl k_1167 rfl (by decide) (Nat.le_of_ble_eq_true rfl) ⟨by decide, by decide⟩ d_Mo_takeWhole_36 ?_
    refine Can.mono K (fun _ h2 z => ?_)
    obtain ⟨rfl, K⟩ := z
    show Wg X 0 0 h2 [(0, .ref 0), (1, .int v1), (2, .int v2)] [] 39
    exact q_vret C Q d_Mo_takeWhole_39 ⟨rfl, K⟩
  · have K := K.2 c0
    refine r_aload_n C 0 rfl d_Mo_takeWhole_10 ?_
    refine r_iload_n C 1 rfl d_Mo_takeWhole_11 ?_
    refine r_aload_n C 0 rfl d_Mo_takeWhole_12 ?_
    refine gf_Mo_valueOf (k2 := 2) C rfl rfl k_1021 d_Mo_takeWhole_13 ?_
    refine r_iload_n C 2 rfl d_Mo_takeWhole_16 ?_
    obtain ⟨s0, K⟩ := K
    refine r_iald C rfl s0 d_Mo_takeWhole_17 ?_
    refine r_i2l C d_Mo_takeWhole_18 ?_
    refine r_callV (As := [.int v1, .long (Int32.toInt64 (h 2 v2.toNatClampNeg))]) (st := []) (lvc := 1) (mcc := 0) (msc := 0) C Rm M_Mo_setLong rfl k_1106 rfl (by decide) (Nat.le_of_ble_eq_true rfl) ⟨by decide, by decide⟩ d_Mo_takeWhole_19 ?_
    refine Can.mono K (fun _ h3 z => ?_)
    obtain ⟨rfl, K⟩ := z
    show Wg X 0 0 h3 [(0, .ref 0), (1, .int v1), (2, .int v2)] [] 22
    refine r_goto C 39 d_Mo_takeWhole_22 (by decide) ?_
    exact q_vret C Q d_Mo_takeWhole_39 ⟨rfl, K⟩
set_option maxRecDepth 20000 in
theorem g_Mo_sortOf_0 {X : CX} {h : HP} {v1 : Int32} {Φ : Int32 → HP → Prop} (C : Cok X b_Mo_sortOf 2 R_Mo ((some .int))) (Rm : xR X = rml 0 0 0) (Q : Qok X 0 0 (fun r h2 => ∃ v, r = some (.int v) ∧ Φ v h2)) 
    (K : vp_in v1 416 ∧ ((¬ ((h 1 v1.toNatClampNeg)) = (2 : Int32) → vp_in v1 416 ∧ (Φ (h 1 v1.toNatClampNeg) h)) ∧ (((h 1 v1.toNatClampNeg)) = (2 : Int32) → vp_in v1 416 ∧ (vp_in (h 2 v1.toNatClampNeg) 204 ∧ (Φ (h 4 (h 2 v1.toNatClampNeg).toNatClampNeg) h))))) :
    Wg X 0 0 h [(0, .ref 0), (1, .int v1)] [] 0 := by
  refine r_aload_n C 0 rfl d_Mo_sortOf_0 ?_
  refine gf_Mo_valueSort (k2 := 1) C rfl rfl k_1020 d_Mo_sortOf_1 ?_
  refine r_iload_n C 1 rfl d_Mo_sortOf_4 ?_
  obtain ⟨s0, K⟩ := K
  refine r_iald C rfl s0 d_Mo_sortOf_5 ?_
  refine r_iconst (v := 2) C (by decide) d_Mo_sortOf_6 ?_
  refine r_icmp_ne C 24 d_Mo_sortOf_7 (by decide) ⟨fun c0 => ?_, fun c0 => ?_⟩
  · have K := K.1 c0
    refine r_aload_n C 0 rfl d_Mo_sortOf_24 ?_
    refine gf_Mo_valueSort (k2 := 1) C rfl rfl k_1020 d_Mo_sortOf_25 ?_
    refine r_iload_n C 1 rfl d_Mo_sortOf_28 ?_
    obtain ⟨s0, K⟩ := K
    refine r_iald C rfl s0 d_Mo_sortOf_29 ?_
    exact q_iret C Q d_Mo_sortOf_30 ⟨_, rfl, K⟩
  · have K := K.2 c0
    refine r_aload_n C 0 rfl d_Mo_sortOf_10 ?_
    refine gf_Mo_sort (k2 := 4) C rfl rfl k_1024 d_Mo_sortOf_11 ?_
    refine r_aload_n C 0 rfl d_Mo_sortOf_14 ?_
    refine gf_Mo_valueOf (k2 := 2) C rfl rfl k_1021 d_Mo_sortOf_15 ?_
    refine r_iload_n C 1 rfl d_Mo_sortOf_18 ?_
    obtain ⟨s0, K⟩ := K
    refine r_iald C rfl s0 d_Mo_sortOf_19 ?_
    obtain ⟨s0, K⟩ := K
    refine r_iald C rfl s0 d_Mo_sortOf_20 ?_
    refine r_goto C 30 d_Mo_sortOf_21 (by decide) ?_
    exact q_iret C Q d_Mo_sortOf_30 ⟨_, rfl, K⟩
set_option maxRecDepth 20000 in
theorem g_Mo_isNumber_0 {X : CX} {h : HP} {v1 : Int32} {Φ : Int32 → HP → Prop} (C : Cok X b_Mo_isNumber 2 R_Mo ((some .boolean))) (Rm : xR X = rml 1 0 0) (Q : Qok X 0 0 (fun r h2 => ∃ v, r = some (.int v) ∧ Φ v h2)) 
    (K : K_Mo_sortOf [.ref 0, .int v1] h (fun r1 h1 => (r1 < (1 : Int32) → Φ 0 h1) ∧ (¬ r1 < (1 : Int32) → K_Mo_sortOf [.ref 0, .int v1] h1 (fun r2 h2 => ((3 : Int32) < r2 → Φ 0 h2) ∧ (¬ (3 : Int32) < r2 → Φ 1 h2))))) :
    Wg X 0 0 h [(0, .ref 0), (1, .int v1)] [] 0 := by
  refine r_aload_n C 0 rfl d_Mo_isNumber_0 ?_
  refine r_iload_n C 1 rfl d_Mo_isNumber_1 ?_
  refine r_callV (As := [.int v1]) (st := []) (lvc := 0) (mcc := 0) (msc := 0) C Rm M_Mo_sortOf rfl k_1187 rfl (by decide) (Nat.le_of_ble_eq_true rfl) ⟨by decide, by decide⟩ d_Mo_isNumber_2 ?_
  refine Can.mono K (fun _ h1 z => ?_)
  obtain ⟨r1, rfl, K⟩ := z
  show Wg X 0 0 h1 [(0, .ref 0), (1, .int v1)] [.int r1] 5
  refine r_iconst (v := 1) C (by decide) d_Mo_isNumber_5 ?_
  refine r_icmp_lt C 22 d_Mo_isNumber_6 (by decide) ⟨fun c0 => ?_, fun c0 => ?_⟩
  · have K := K.1 c0
    refine r_iconst (v := 0) C (by decide) d_Mo_isNumber_22 ?_
    exact q_zret C Q (by decide) d_Mo_isNumber_23 ⟨_, rfl, K⟩
  · have K := K.2 c0
    refine r_aload_n C 0 rfl d_Mo_isNumber_9 ?_
    refine r_iload_n C 1 rfl d_Mo_isNumber_10 ?_
    refine r_callV (As := [.int v1]) (st := []) (lvc := 0) (mcc := 0) (msc := 0) C Rm M_Mo_sortOf rfl k_1187 rfl (by decide) (Nat.le_of_ble_eq_true rfl) ⟨by decide, by decide⟩ d_Mo_isNumber_11 ?_
    refine Can.mono K (fun _ h2 z => ?_)
    obtain ⟨r2, rfl, K⟩ := z
    show Wg X 0 0 h2 [(0, .ref 0), (1, .int v1)] [.int r2] 14
    refine r_iconst (v := 3) C (by decide) d_Mo_isNumber_14 ?_
    refine r_icmp_gt C 22 d_Mo_isNumber_15 (by decide) ⟨fun c0 => ?_, fun c0 => ?_⟩
    · have K := K.1 c0
      refine r_iconst (v := 0) C (by decide) d_Mo_isNumber_22 ?_
      exact q_zret C Q (by decide) d_Mo_isNumber_23 ⟨_, rfl, K⟩
    · have K := K.2 c0
      refine r_iconst (v := 1) C (by decide) d_Mo_isNumber_18 ?_
      refine r_goto C 23 d_Mo_isNumber_19 (by decide) ?_
      exact q_zret C Q (by decide) d_Mo_isNumber_23 ⟨_, rfl, K⟩
set_option maxRecDepth 20000 in
theorem g_Mo_take_0 {X : CX} {h : HP} {v1 : Int32} {v2 : Int32} {v3 : Int32} {Φ : HP → Prop} (C : Cok X b_Mo_take 4 R_Mo none) (Rm : xR X = rml 3 0 0) (Q : Qok X 0 0 (fun r h2 => r = none ∧ Φ h2)) 
    (K : K_Mo_sortOf [.ref 0, .int v3] h (fun r1 h1 => (¬ r1 = (3 : Int32) → K_Mo_takeWhole [.ref 0, .int v1, .int v3] h1 (fun h2 => K_Mo_setLong [.ref 0, .int v2, .long 1] h2 (fun h3 => Φ h3))) ∧ (r1 = (3 : Int32) → vp_in v3 416 ∧ (K_Mo_slotOf [.int (h1 2 v3.toNatClampNeg), .int 0] h1 (fun r4 h4 => K_Mo_takeWhole [.ref 0, .int v1, .int r4] h4 (fun h5 => vp_in v3 416 ∧ (K_Mo_slotOf [.int (h5 2 v3.toNatClampNeg), .int 1] h5 (fun r6 h6 => K_Mo_takeWhole [.ref 0, .int v2, .int r6] h6 (fun h7 => Φ h7))))))))) :
    Wg X 0 0 h [(0, .ref 0), (1, .int v1), (2, .int v2), (3, .int v3)] [] 0 := by
  refine r_aload_n C 0 rfl d_Mo_take_0 ?_
  refine r_iload_n C 3 rfl d_Mo_take_1 ?_
  refine r_callV (As := [.int v3]) (st := []) (lvc := 0) (mcc := 0) (msc := 0) C Rm M_Mo_sortOf rfl k_1187 rfl (by decide) (Nat.le_of_ble_eq_true rfl) ⟨by decide, by decide⟩ d_Mo_take_2 ?_
  refine Can.mono K (fun _ h1 z => ?_)
  obtain ⟨r1, rfl, K⟩ := z
  show Wg X 0 0 h1 [(0, .ref 0), (1, .int v1), (2, .int v2), (3, .int v3)] [.int r1] 5
  refine r_iconst (v := 3) C (by decide) d_Mo_take_5 ?_
  refine r_icmp_ne C 42 d_Mo_take_6 (by decide) ⟨fun c0 => ?_, fun c0 => ?_⟩
  · have K := K.1 c0
    refine r_aload_n C 0 rfl d_Mo_take_42 ?_
    refine r_iload_n C 1 rfl d_Mo_take_43 ?_
    refine r_iload_n C 3 rfl d_Mo_take_44 ?_
    refine r_callV (As := [.int v1, .int v3]) (st := []) (lvc := 2) (mcc := 0) (msc := 0) C Rm M_Mo_takeWhole rfl k_1207 rfl (by decide) (Nat.le_of_ble_eq_true rfl) ⟨by decide, by decide⟩ d_Mo_take_45 ?_
    refine Can.mono K (fun _ h2 z => ?_)
    obtain ⟨rfl, K⟩ := z
    show Wg X 0 0 h2 [(0, .ref 0), (1, .int v1), (2, .int v2), (3, .int v3)] [] 48
    refine r_aload_n C 0 rfl d_Mo_take_48 ?_
    refine r_iload_n C 2 rfl d_Mo_take_49 ?_
    refine r_lconst (v := 1) C (by decide) d_Mo_take_50 ?_
    refine r_callV (As := [.int v2, .long 1]) (st := []) (lvc := 1) (mcc := 0) (msc := 0) C Rm M_Mo_setLong rfl k_1106 rfl (by decide) (Nat.le_of_ble_eq_true rfl) ⟨by decide, by decide⟩ d_Mo_take_51 ?_
    refine Can.mono K (fun _ h3 z => ?_)
    obtain ⟨rfl, K⟩ := z
    show Wg X 0 0 h3 [(0, .ref 0), (1, .int v1), (2, .int v2), (3, .int v3)] [] 54
    exact q_vret C Q d_Mo_take_54 ⟨rfl, K⟩
  · have K := K.2 c0
    refine r_aload_n C 0 rfl d_Mo_take_9 ?_
    refine r_iload_n C 1 rfl d_Mo_take_10 ?_
    refine r_aload_n C 0 rfl d_Mo_take_11 ?_
    refine gf_Mo_valueOf (k2 := 2) C rfl rfl k_1021 d_Mo_take_12 ?_
    refine r_iload_n C 3 rfl d_Mo_take_15 ?_
    obtain ⟨s0, K⟩ := K
    refine r_iald C rfl s0 d_Mo_take_16 ?_
    refine r_iconst (v := 0) C (by decide) d_Mo_take_17 ?_
    refine r_callS (As := [.int (h1 2 v3.toNatClampNeg), .int 0]) (st := [.int v1, .ref 0]) (lvc := 0) (mcc := 0) (msc := 0) C Rm M_Mo_slotOf rfl k_1153 (by decide) (Nat.le_of_ble_eq_true rfl) ⟨by decide, by decide⟩ d_Mo_take_18 ?_
    refine Can.mono K (fun _ h4 z => ?_)
    obtain ⟨r4, rfl, K⟩ := z
    show Wg X 0 0 h4 [(0, .ref 0), (1, .int v1), (2, .int v2), (3, .int v3)] [.int r4, .int v1, .ref 0] 21
    refine r_callV (As := [.int v1, .int r4]) (st := []) (lvc := 2) (mcc := 0) (msc := 0) C Rm M_Mo_takeWhole rfl k_1207 rfl (by decide) (Nat.le_of_ble_eq_true rfl) ⟨by decide, by decide⟩ d_Mo_take_21 ?_
    refine Can.mono K (fun _ h5 z => ?_)
    obtain ⟨rfl, K⟩ := z
    show Wg X 0 0 h5 [(0, .ref 0), (1, .int v1), (2, .int v2), (3, .int v3)] [] 24
    refine r_aload_n C 0 rfl d_Mo_take_24 ?_
    refine r_iload_n C 2 rfl d_Mo_take_25 ?_
    refine r_aload_n C 0 rfl d_Mo_take_26 ?_
    refine gf_Mo_valueOf (k2 := 2) C rfl rfl k_1021 d_Mo_take_27 ?_
    refine r_iload_n C 3 rfl d_Mo_take_30 ?_
    obtain ⟨s0, K⟩ := K
    refine r_iald C rfl s0 d_Mo_take_31 ?_
    refine r_iconst (v := 1) C (by decide) d_Mo_take_32 ?_
    refine r_callS (As := [.int (h5 2 v3.toNatClampNeg), .int 1]) (st := [.int v2, .ref 0]) (lvc := 0) (mcc := 0) (msc := 0) C Rm M_Mo_slotOf rfl k_1153 (by decide) (Nat.le_of_ble_eq_true rfl) ⟨by decide, by decide⟩ d_Mo_take_33 ?_
    refine Can.mono K (fun _ h6 z => ?_)
    obtain ⟨r6, rfl, K⟩ := z
    show Wg X 0 0 h6 [(0, .ref 0), (1, .int v1), (2, .int v2), (3, .int v3)] [.int r6, .int v2, .ref 0] 36
    refine r_callV (As := [.int v2, .int r6]) (st := []) (lvc := 2) (mcc := 0) (msc := 0) C Rm M_Mo_takeWhole rfl k_1207 rfl (by decide) (Nat.le_of_ble_eq_true rfl) ⟨by decide, by decide⟩ d_Mo_take_36 ?_
    refine Can.mono K (fun _ h7 z => ?_)
    obtain ⟨rfl, K⟩ := z
    show Wg X 0 0 h7 [(0, .ref 0), (1, .int v1), (2, .int v2), (3, .int v3)] [] 39
    refine r_goto C 54 d_Mo_take_39 (by decide) ?_
    exact q_vret C Q d_Mo_take_54 ⟨rfl, K⟩
set_option maxRecDepth 20000 in
theorem g_Mo_nil_0 {X : CX} {h : HP} {v1 : Int32} {Φ : HP → Prop} (C : Cok X b_Mo_nil 2 R_Mo none) (Rm : xR X = rml 1 0 0) (Q : Qok X 0 0 (fun r h2 => r = none ∧ Φ h2)) 
    (K : K_Mo_isRegister [.int v1] h (fun r1 h1 => (r1 = 0 → K_Mo_refused [.ref 0, .int 1] h1 (fun r2 h2 => (r2 = 0 → K_Mo_setValue [.ref 0, .int v1, .int 0, .int 0] h2 (fun h3 => Φ h3)) ∧ (¬ r2 = 0 → Φ h2))) ∧ (¬ r1 = 0 → K_Mo_refused [.ref 0, .int 0] h1 (fun r4 h4 => (r4 = 0 → K_Mo_setValue [.ref 0, .int v1, .int 0, .int 0] h4 (fun h5 => Φ h5)) ∧ (¬ r4 = 0 → Φ h4))))) :
    Wg X 0 0 h [(0, .ref 0), (1, .int v1)] [] 0 := by
  refine r_aload_n C 0 rfl d_Mo_nil_0 ?_
  refine r_iload_n C 1 rfl d_Mo_nil_1 ?_
  refine r_callS (As := [.int v1]) (st := [.ref 0]) (lvc := 0) (mcc := 0) (msc := 0) C Rm M_Mo_isRegister rfl k_1091 (by decide) (Nat.le_of_ble_eq_true rfl) ⟨by decide, by decide⟩ d_Mo_nil_2 ?_
  refine Can.mono K (fun _ h1 z => ?_)
  obtain ⟨r1, rfl, K⟩ := z
  show Wg X 0 0 h1 [(0, .ref 0), (1, .int v1)] [.int r1, .ref 0] 5
  refine r_if_eq C 12 d_Mo_nil_5 (by decide) ⟨fun c0 => ?_, fun c0 => ?_⟩
  · have K := K.1 c0
    refine r_iconst (v := 1) C (by decide) d_Mo_nil_12 ?_
    refine r_callV (As := [.int 1]) (st := []) (lvc := 0) (mcc := 0) (msc := 0) C Rm M_Mo_refused rfl k_1094 rfl (by decide) (Nat.le_of_ble_eq_true rfl) ⟨by decide, by decide⟩ d_Mo_nil_13 ?_
    refine Can.mono K (fun _ h2 z => ?_)
    obtain ⟨r2, rfl, K⟩ := z
    show Wg X 0 0 h2 [(0, .ref 0), (1, .int v1)] [.int r2] 16
    refine r_if_eq C 20 d_Mo_nil_16 (by decide) ⟨fun c0 => ?_, fun c0 => ?_⟩
    · have K := K.1 c0
      refine r_aload_n C 0 rfl d_Mo_nil_20 ?_
      refine r_iload_n C 1 rfl d_Mo_nil_21 ?_
      refine r_iconst (v := 0) C (by decide) d_Mo_nil_22 ?_
      refine r_iconst (v := 0) C (by decide) d_Mo_nil_23 ?_
      refine r_callV (As := [.int v1, .int 0, .int 0]) (st := []) (lvc := 0) (mcc := 0) (msc := 0) C Rm M_Mo_setValue rfl k_1098 rfl (by decide) (Nat.le_of_ble_eq_true rfl) ⟨by decide, by decide⟩ d_Mo_nil_24 ?_
      refine Can.mono K (fun _ h3 z => ?_)
      obtain ⟨rfl, K⟩ := z
      show Wg X 0 0 h3 [(0, .ref 0), (1, .int v1)] [] 27
      exact q_vret C Q d_Mo_nil_27 ⟨rfl, K⟩
    · have K := K.2 c0
      exact q_vret C Q d_Mo_nil_19 ⟨rfl, K⟩
  · have K := K.2 c0
    refine r_iconst (v := 0) C (by decide) d_Mo_nil_8 ?_
    refine r_goto C 13 d_Mo_nil_9 (by decide) ?_
    refine r_callV (As := [.int 0]) (st := []) (lvc := 0) (mcc := 0) (msc := 0) C Rm M_Mo_refused rfl k_1094 rfl (by decide) (Nat.le_of_ble_eq_true rfl) ⟨by decide, by decide⟩ d_Mo_nil_13 ?_
    refine Can.mono K (fun _ h4 z => ?_)
    obtain ⟨r4, rfl, K⟩ := z
    show Wg X 0 0 h4 [(0, .ref 0), (1, .int v1)] [.int r4] 16
    refine r_if_eq C 20 d_Mo_nil_16 (by decide) ⟨fun c0 => ?_, fun c0 => ?_⟩
    · have K := K.1 c0
      refine r_aload_n C 0 rfl d_Mo_nil_20 ?_
      refine r_iload_n C 1 rfl d_Mo_nil_21 ?_
      refine r_iconst (v := 0) C (by decide) d_Mo_nil_22 ?_
      refine r_iconst (v := 0) C (by decide) d_Mo_nil_23 ?_
      refine r_callV (As := [.int v1, .int 0, .int 0]) (st := []) (lvc := 0) (mcc := 0) (msc := 0) C Rm M_Mo_setValue rfl k_1098 rfl (by decide) (Nat.le_of_ble_eq_true rfl) ⟨by decide, by decide⟩ d_Mo_nil_24 ?_
      refine Can.mono K (fun _ h5 z => ?_)
      obtain ⟨rfl, K⟩ := z
      show Wg X 0 0 h5 [(0, .ref 0), (1, .int v1)] [] 27
      exact q_vret C Q d_Mo_nil_27 ⟨rfl, K⟩
    · have K := K.2 c0
      exact q_vret C Q d_Mo_nil_19 ⟨rfl, K⟩
set_option maxRecDepth 20000 in
theorem g_Mo_load_0 {X : CX} {h : HP} {v1 : Int32} {v2 : Int64} {Φ : Int32 → HP → Prop} (C : Cok X b_Mo_load 4 R_Mo ((some .int))) (Rm : xR X = rml 5 0 0) (Q : Qok X 0 0 (fun r h2 => ∃ v, r = some (.int v) ∧ Φ v h2)) 
    (K : K_Mo_isRegister [.int v1] h (fun r1 h1 => (r1 = 0 → Wg X 0 0 h1 [(0, .ref 0), (1, .int v1), (2, .long v2)] [.int 1, .ref 0] 13) ∧ (¬ r1 = 0 → Wg X 0 0 h1 [(0, .ref 0), (1, .int v1), (2, .long v2)] [.int 0, .ref 0] 13))) :
    Wg X 0 0 h [(0, .ref 0), (1, .int v1), (2, .long v2)] [] 0 := by
  refine r_aload_n C 0 rfl d_Mo_load_0 ?_
  refine r_iload_n C 1 rfl d_Mo_load_1 ?_
  refine r_callS (As := [.int v1]) (st := [.ref 0]) (lvc := 0) (mcc := 0) (msc := 0) C Rm M_Mo_isRegister rfl k_1091 (by decide) (Nat.le_of_ble_eq_true rfl) ⟨by decide, by decide⟩ d_Mo_load_2 ?_
  refine Can.mono K (fun _ h1 z => ?_)
  obtain ⟨r1, rfl, K⟩ := z
  show Wg X 0 0 h1 [(0, .ref 0), (1, .int v1), (2, .long v2)] [.int r1, .ref 0] 5
  refine r_if_eq C 12 d_Mo_load_5 (by decide) ⟨fun c0 => ?_, fun c0 => ?_⟩
  · have K := K.1 c0
    refine r_iconst (v := 1) C (by decide) d_Mo_load_12 ?_
    exact K
  · have K := K.2 c0
    refine r_iconst (v := 0) C (by decide) d_Mo_load_8 ?_
    refine r_goto C 13 d_Mo_load_9 (by decide) ?_
    exact K
set_option maxRecDepth 20000 in
theorem g_Mo_load_13 {X : CX} {h : HP} {v1 : Int32} {v2 : Int64} {t1 : Int32} {Φ : Int32 → HP → Prop} (C : Cok X b_Mo_load 4 R_Mo ((some .int))) (Rm : xR X = rml 5 0 0) (Q : Qok X 0 0 (fun r h2 => ∃ v, r = some (.int v) ∧ Φ v h2)) 
    (K : K_Mo_refused [.ref 0, .int t1] h (fun r1 h1 => (r1 = 0 → K_Mo_setLong [.ref 0, .int 4, .long v2] h1 (fun h2 => K_Mo_setLong [.ref 0, .int 5, .long 1] h2 (fun h3 => K_Mo_finish [.ref 0, .int v1] h3 (fun r4 h4 => Φ r4 h4)))) ∧ (¬ r1 = 0 → Φ 0 h1))) :
    Wg X 0 0 h [(0, .ref 0), (1, .int v1), (2, .long v2)] [.int t1, .ref 0] 13 := by
  refine r_callV (As := [.int t1]) (st := []) (lvc := 0) (mcc := 0) (msc := 0) C Rm M_Mo_refused rfl k_1094 rfl (by decide) (Nat.le_of_ble_eq_true rfl) ⟨by decide, by decide⟩ d_Mo_load_13 ?_
  refine Can.mono K (fun _ h1 z => ?_)
  obtain ⟨r1, rfl, K⟩ := z
  show Wg X 0 0 h1 [(0, .ref 0), (1, .int v1), (2, .long v2)] [.int r1] 16
  refine r_if_eq C 21 d_Mo_load_16 (by decide) ⟨fun c0 => ?_, fun c0 => ?_⟩
  · have K := K.1 c0
    refine r_aload_n C 0 rfl d_Mo_load_21 ?_
    refine r_iconst (v := 4) C (by decide) d_Mo_load_22 ?_
    refine r_lload_n C 2 rfl d_Mo_load_23 ?_
    refine r_callV (As := [.int 4, .long v2]) (st := []) (lvc := 1) (mcc := 0) (msc := 0) C Rm M_Mo_setLong rfl k_1106 rfl (by decide) (Nat.le_of_ble_eq_true rfl) ⟨by decide, by decide⟩ d_Mo_load_24 ?_
    refine Can.mono K (fun _ h2 z => ?_)
    obtain ⟨rfl, K⟩ := z
    show Wg X 0 0 h2 [(0, .ref 0), (1, .int v1), (2, .long v2)] [] 27
    refine r_aload_n C 0 rfl d_Mo_load_27 ?_
    refine r_iconst (v := 5) C (by decide) d_Mo_load_28 ?_
    refine r_lconst (v := 1) C (by decide) d_Mo_load_29 ?_
    refine r_callV (As := [.int 5, .long 1]) (st := []) (lvc := 1) (mcc := 0) (msc := 0) C Rm M_Mo_setLong rfl k_1106 rfl (by decide) (Nat.le_of_ble_eq_true rfl) ⟨by decide, by decide⟩ d_Mo_load_30 ?_
    refine Can.mono K (fun _ h3 z => ?_)
    obtain ⟨rfl, K⟩ := z
    show Wg X 0 0 h3 [(0, .ref 0), (1, .int v1), (2, .long v2)] [] 33
    refine r_aload_n C 0 rfl d_Mo_load_33 ?_
    refine r_iload_n C 1 rfl d_Mo_load_34 ?_
    refine r_callV (As := [.int v1]) (st := []) (lvc := 4) (mcc := 0) (msc := 0) C Rm M_Mo_finish rfl k_1116 rfl (by decide) (Nat.le_of_ble_eq_true rfl) ⟨by decide, by decide⟩ d_Mo_load_35 ?_
    refine Can.mono K (fun _ h4 z => ?_)
    obtain ⟨r4, rfl, K⟩ := z
    show Wg X 0 0 h4 [(0, .ref 0), (1, .int v1), (2, .long v2)] [.int r4] 38
    exact q_iret C Q d_Mo_load_38 ⟨_, rfl, K⟩
  · have K := K.2 c0
    refine r_iconst (v := 0) C (by decide) d_Mo_load_19 ?_
    exact q_iret C Q d_Mo_load_20 ⟨_, rfl, K⟩
set_option maxRecDepth 20000 in
theorem g_Mo_copy_0 {X : CX} {h : HP} {v1 : Int32} {v2 : Int32} {Φ : HP → Prop} (C : Cok X b_Mo_copy 3 R_Mo none) (Rm : xR X = rml 1 0 0) (Q : Qok X 0 0 (fun r h2 => r = none ∧ Φ h2)) 
    (K : K_Mo_isRegister [.int v1] h (fun r1 h1 => (r1 = 0 → K_Mo_refused [.ref 0, .int 1] h1 (fun r2 h2 => (r2 = 0 → K_Mo_copyValue [.ref 0, .int v1, .int v2] h2 (fun h3 => Φ h3)) ∧ (¬ r2 = 0 → Φ h2))) ∧ (¬ r1 = 0 → K_Mo_isRegister [.int v2] h1 (fun r4 h4 => (r4 = 0 → K_Mo_refused [.ref 0, .int 1] h4 (fun r5 h5 => (r5 = 0 → K_Mo_copyValue [.ref 0, .int v1, .int v2] h5 (fun h6 => Φ h6)) ∧ (¬ r5 = 0 → Φ h5))) ∧ (¬ r4 = 0 → K_Mo_refused [.ref 0, .int 0] h4 (fun r7 h7 => (r7 = 0 → K_Mo_copyValue [.ref 0, .int v1, .int v2] h7 (fun h8 => Φ h8)) ∧ (¬ r7 = 0 → Φ h7))))))) :
    Wg X 0 0 h [(0, .ref 0), (1, .int v1), (2, .int v2)] [] 0 := by
  refine r_aload_n C 0 rfl d_Mo_copy_0 ?_
  refine r_iload_n C 1 rfl d_Mo_copy_1 ?_
  refine r_callS (As := [.int v1]) (st := [.ref 0]) (lvc := 0) (mcc := 0) (msc := 0) C Rm M_Mo_isRegister rfl k_1091 (by decide) (Nat.le_of_ble_eq_true rfl) ⟨by decide, by decide⟩ d_Mo_copy_2 ?_
  refine Can.mono K (fun _ h1 z => ?_)
  obtain ⟨r1, rfl, K⟩ := z
  show Wg X 0 0 h1 [(0, .ref 0), (1, .int v1), (2, .int v2)] [.int r1, .ref 0] 5
  refine r_if_eq C 19 d_Mo_copy_5 (by decide) ⟨fun c0 => ?_, fun c0 => ?_⟩
  · have K := K.1 c0
    refine r_iconst (v := 1) C (by decide) d_Mo_copy_19 ?_
    refine r_callV (As := [.int 1]) (st := []) (lvc := 0) (mcc := 0) (msc := 0) C Rm M_Mo_refused rfl k_1094 rfl (by decide) (Nat.le_of_ble_eq_true rfl) ⟨by decide, by decide⟩ d_Mo_copy_20 ?_
    refine Can.mono K (fun _ h2 z => ?_)
    obtain ⟨r2, rfl, K⟩ := z
    show Wg X 0 0 h2 [(0, .ref 0), (1, .int v1), (2, .int v2)] [.int r2] 23
    refine r_if_eq C 27 d_Mo_copy_23 (by decide) ⟨fun c0 => ?_, fun c0 => ?_⟩
    · have K := K.1 c0
      refine r_aload_n C 0 rfl d_Mo_copy_27 ?_
      refine r_iload_n C 1 rfl d_Mo_copy_28 ?_
      refine r_iload_n C 2 rfl d_Mo_copy_29 ?_
      refine r_callV (As := [.int v1, .int v2]) (st := []) (lvc := 0) (mcc := 0) (msc := 0) C Rm M_Mo_copyValue rfl k_1171 rfl (by decide) (Nat.le_of_ble_eq_true rfl) ⟨by decide, by decide⟩ d_Mo_copy_30 ?_
      refine Can.mono K (fun _ h3 z => ?_)
      obtain ⟨rfl, K⟩ := z
      show Wg X 0 0 h3 [(0, .ref 0), (1, .int v1), (2, .int v2)] [] 33
      exact q_vret C Q d_Mo_copy_33 ⟨rfl, K⟩
    · have K := K.2 c0
      exact q_vret C Q d_Mo_copy_26 ⟨rfl, K⟩
  · have K := K.2 c0
    refine r_iload_n C 2 rfl d_Mo_copy_8 ?_
    refine r_callS (As := [.int v2]) (st := [.ref 0]) (lvc := 0) (mcc := 0) (msc := 0) C Rm M_Mo_isRegister rfl k_1091 (by decide) (Nat.le_of_ble_eq_true rfl) ⟨by decide, by decide⟩ d_Mo_copy_9 ?_
    refine Can.mono K (fun _ h4 z => ?_)
    obtain ⟨r4, rfl, K⟩ := z
    show Wg X 0 0 h4 [(0, .ref 0), (1, .int v1), (2, .int v2)] [.int r4, .ref 0] 12
    refine r_if_eq C 19 d_Mo_copy_12 (by decide) ⟨fun c0 => ?_, fun c0 => ?_⟩
    · have K := K.1 c0
      refine r_iconst (v := 1) C (by decide) d_Mo_copy_19 ?_
      refine r_callV (As := [.int 1]) (st := []) (lvc := 0) (mcc := 0) (msc := 0) C Rm M_Mo_refused rfl k_1094 rfl (by decide) (Nat.le_of_ble_eq_true rfl) ⟨by decide, by decide⟩ d_Mo_copy_20 ?_
      refine Can.mono K (fun _ h5 z => ?_)
      obtain ⟨r5, rfl, K⟩ := z
      show Wg X 0 0 h5 [(0, .ref 0), (1, .int v1), (2, .int v2)] [.int r5] 23
      refine r_if_eq C 27 d_Mo_copy_23 (by decide) ⟨fun c0 => ?_, fun c0 => ?_⟩
      · have K := K.1 c0
        refine r_aload_n C 0 rfl d_Mo_copy_27 ?_
        refine r_iload_n C 1 rfl d_Mo_copy_28 ?_
        refine r_iload_n C 2 rfl d_Mo_copy_29 ?_
        refine r_callV (As := [.int v1, .int v2]) (st := []) (lvc := 0) (mcc := 0) (msc := 0) C Rm M_Mo_copyValue rfl k_1171 rfl (by decide) (Nat.le_of_ble_eq_true rfl) ⟨by decide, by decide⟩ d_Mo_copy_30 ?_
        refine Can.mono K (fun _ h6 z => ?_)
        obtain ⟨rfl, K⟩ := z
        show Wg X 0 0 h6 [(0, .ref 0), (1, .int v1), (2, .int v2)] [] 33
        exact q_vret C Q d_Mo_copy_33 ⟨rfl, K⟩
      · have K := K.2 c0
        exact q_vret C Q d_Mo_copy_26 ⟨rfl, K⟩
    · have K := K.2 c0
      refine r_iconst (v := 0) C (by decide) d_Mo_copy_15 ?_
      refine r_goto C 20 d_Mo_copy_16 (by decide) ?_
      refine r_callV (As := [.int 0]) (st := []) (lvc := 0) (mcc := 0) (msc := 0) C Rm M_Mo_refused rfl k_1094 rfl (by decide) (Nat.le_of_ble_eq_true rfl) ⟨by decide, by decide⟩ d_Mo_copy_20 ?_
      refine Can.mono K (fun _ h7 z => ?_)
      obtain ⟨r7, rfl, K⟩ := z
      show Wg X 0 0 h7 [(0, .ref 0), (1, .int v1), (2, .int v2)] [.int r7] 23
      refine r_if_eq C 27 d_Mo_copy_23 (by decide) ⟨fun c0 => ?_, fun c0 => ?_⟩
      · have K := K.1 c0
        refine r_aload_n C 0 rfl d_Mo_copy_27 ?_
        refine r_iload_n C 1 rfl d_Mo_copy_28 ?_
        refine r_iload_n C 2 rfl d_Mo_copy_29 ?_
        refine r_callV (As := [.int v1, .int v2]) (st := []) (lvc := 0) (mcc := 0) (msc := 0) C Rm M_Mo_copyValue rfl k_1171 rfl (by decide) (Nat.le_of_ble_eq_true rfl) ⟨by decide, by decide⟩ d_Mo_copy_30 ?_
        refine Can.mono K (fun _ h8 z => ?_)
        obtain ⟨rfl, K⟩ := z
        show Wg X 0 0 h8 [(0, .ref 0), (1, .int v1), (2, .int v2)] [] 33
        exact q_vret C Q d_Mo_copy_33 ⟨rfl, K⟩
      · have K := K.2 c0
        exact q_vret C Q d_Mo_copy_26 ⟨rfl, K⟩
set_option maxRecDepth 20000 in
theorem g_Mo_cons_0 {X : CX} {h : HP} {v1 : Int32} {v2 : Int32} {v3 : Int32} {Φ : Int32 → HP → Prop} (C : Cok X b_Mo_cons 6 R_Mo ((some .int))) (Rm : xR X = rml 4 0 0) (Q : Qok X 0 0 (fun r h2 => ∃ v, r = some (.int v) ∧ Φ v h2)) 
    (K : K_Mo_isRegister [.int v1] h (fun r1 h1 => (r1 = 0 → Wg X 0 0 h1 [(0, .ref 0), (1, .int v1), (2, .int v2), (3, .int v3)] [.int 1, .ref 0] 27) ∧ (¬ r1 = 0 → K_Mo_isRegister [.int v2] h1 (fun r2 h2 => (r2 = 0 → Wg X 0 0 h2 [(0, .ref 0), (1, .int v1), (2, .int v2), (3, .int v3)] [.int 1, .ref 0] 27) ∧ (¬ r2 = 0 → K_Mo_isRegister [.int v3] h2 (fun r3 h3 => (r3 = 0 → Wg X 0 0 h3 [(0, .ref 0), (1, .int v1), (2, .int v2), (3, .int v3)] [.int 1, .ref 0] 27) ∧ (¬ r3 = 0 → Wg X 0 0 h3 [(0, .ref 0), (1, .int v1), (2, .int v2), (3, .int v3)] [.int 0, .ref 0] 27))))))) :
    Wg X 0 0 h [(0, .ref 0), (1, .int v1), (2, .int v2), (3, .int v3)] [] 0 := by
  refine r_aload_n C 0 rfl d_Mo_cons_0 ?_
  refine r_iload_n C 1 rfl d_Mo_cons_1 ?_
  refine r_callS (As := [.int v1]) (st := [.ref 0]) (lvc := 0) (mcc := 0) (msc := 0) C Rm M_Mo_isRegister rfl k_1091 (by decide) (Nat.le_of_ble_eq_true rfl) ⟨by decide, by decide⟩ d_Mo_cons_2 ?_
  refine Can.mono K (fun _ h1 z => ?_)
  obtain ⟨r1, rfl, K⟩ := z
  show Wg X 0 0 h1 [(0, .ref 0), (1, .int v1), (2, .int v2), (3, .int v3)] [.int r1, .ref 0] 5
  refine r_if_eq C 26 d_Mo_cons_5 (by decide) ⟨fun c0 => ?_, fun c0 => ?_⟩
  · have K := K.1 c0
    refine r_iconst (v := 1) C (by decide) d_Mo_cons_26 ?_
    exact K
  · have K := K.2 c0
    refine r_iload_n C 2 rfl d_Mo_cons_8 ?_
    refine r_callS (As := [.int v2]) (st := [.ref 0]) (lvc := 0) (mcc := 0) (msc := 0) C Rm M_Mo_isRegister rfl k_1091 (by decide) (Nat.le_of_ble_eq_true rfl) ⟨by decide, by decide⟩ d_Mo_cons_9 ?_
    refine Can.mono K (fun _ h2 z => ?_)
    obtain ⟨r2, rfl, K⟩ := z
    show Wg X 0 0 h2 [(0, .ref 0), (1, .int v1), (2, .int v2), (3, .int v3)] [.int r2, .ref 0] 12
    refine r_if_eq C 26 d_Mo_cons_12 (by decide) ⟨fun c0 => ?_, fun c0 => ?_⟩
    · have K := K.1 c0
      refine r_iconst (v := 1) C (by decide) d_Mo_cons_26 ?_
      exact K
    · have K := K.2 c0
      refine r_iload_n C 3 rfl d_Mo_cons_15 ?_
      refine r_callS (As := [.int v3]) (st := [.ref 0]) (lvc := 0) (mcc := 0) (msc := 0) C Rm M_Mo_isRegister rfl k_1091 (by decide) (Nat.le_of_ble_eq_true rfl) ⟨by decide, by decide⟩ d_Mo_cons_16 ?_
      refine Can.mono K (fun _ h3 z => ?_)
      obtain ⟨r3, rfl, K⟩ := z
      show Wg X 0 0 h3 [(0, .ref 0), (1, .int v1), (2, .int v2), (3, .int v3)] [.int r3, .ref 0] 19
      refine r_if_eq C 26 d_Mo_cons_19 (by decide) ⟨fun c0 => ?_, fun c0 => ?_⟩
      · have K := K.1 c0
        refine r_iconst (v := 1) C (by decide) d_Mo_cons_26 ?_
        exact K
      · have K := K.2 c0
        refine r_iconst (v := 0) C (by decide) d_Mo_cons_22 ?_
        refine r_goto C 27 d_Mo_cons_23 (by decide) ?_
        exact K
set_option maxRecDepth 20000 in
theorem g_Mo_cons_27 {X : CX} {h : HP} {v1 : Int32} {v2 : Int32} {v3 : Int32} {t1 : Int32} {Φ : Int32 → HP → Prop} (C : Cok X b_Mo_cons 6 R_Mo ((some .int))) (Rm : xR X = rml 4 0 0) (Q : Qok X 0 0 (fun r h2 => ∃ v, r = some (.int v) ∧ Φ v h2)) 
    (K : K_Mo_refused [.ref 0, .int t1] h (fun r1 h1 => (r1 = 0 → K_Mo_wants [.ref 0, .int 3] h1 (fun r2 h2 => (¬ r2 = 0 → K_Mo_make [.ref 0, .int 4, .int 3] h2 (fun r3 h3 => K_Mo_slotOf [.int r3, .int 0] h3 (fun r4 h4 => K_Mo_copyValue [.ref 0, .int r4, .int v2] h4 (fun h5 => K_Mo_slotOf [.int r3, .int 1] h5 (fun r6 h6 => K_Mo_copyValue [.ref 0, .int r6, .int v3] h6 (fun h7 => K_Mo_setValue [.ref 0, .int v1, .int 2, .int r3] h7 (fun h8 => Φ (h2 0 9) h8))))))) ∧ (r2 = 0 → Φ ((-2)) h2))) ∧ (¬ r1 = 0 → Φ 0 h1))) :
    Wg X 0 0 h [(0, .ref 0), (1, .int v1), (2, .int v2), (3, .int v3)] [.int t1, .ref 0] 27 := by
  refine r_callV (As := [.int t1]) (st := []) (lvc := 0) (mcc := 0) (msc := 0) C Rm M_Mo_refused rfl k_1094 rfl (by decide) (Nat.le_of_ble_eq_true rfl) ⟨by decide, by decide⟩ d_Mo_cons_27 ?_
  refine Can.mono K (fun _ h1 z => ?_)
  obtain ⟨r1, rfl, K⟩ := z
  show Wg X 0 0 h1 [(0, .ref 0), (1, .int v1), (2, .int v2), (3, .int v3)] [.int r1] 30
  refine r_if_eq C 35 d_Mo_cons_30 (by decide) ⟨fun c0 => ?_, fun c0 => ?_⟩
  · have K := K.1 c0
    refine r_aload_n C 0 rfl d_Mo_cons_35 ?_
    refine r_iconst (v := 3) C (by decide) d_Mo_cons_36 ?_
    refine r_callV (As := [.int 3]) (st := []) (lvc := 3) (mcc := 0) (msc := 0) C Rm M_Mo_wants rfl k_1141 rfl (by decide) (Nat.le_of_ble_eq_true rfl) ⟨by decide, by decide⟩ d_Mo_cons_37 ?_
    refine Can.mono K (fun _ h2 z => ?_)
    obtain ⟨r2, rfl, K⟩ := z
    show Wg X 0 0 h2 [(0, .ref 0), (1, .int v1), (2, .int v2), (3, .int v3)] [.int r2] 40
    refine r_if_ne C 46 d_Mo_cons_40 (by decide) ⟨fun c0 => ?_, fun c0 => ?_⟩
    · have K := K.1 c0
      refine r_aload_n C 0 rfl d_Mo_cons_46 ?_
      refine gf_Mo_top C rfl k_1028 d_Mo_cons_47 ?_
      refine r_istore (ls2 := [(0, .ref 0), (1, .int v1), (2, .int v2), (3, .int v3), (4, .int (h2 0 9))]) C (by decide) rfl d_Mo_cons_50 ?_
      refine r_aload_n C 0 rfl d_Mo_cons_52 ?_
      refine r_iconst (v := 4) C (by decide) d_Mo_cons_53 ?_
      refine r_iconst (v := 3) C (by decide) d_Mo_cons_54 ?_
      refine r_callV (As := [.int 4, .int 3]) (st := []) (lvc := 0) (mcc := 0) (msc := 0) C Rm M_Mo_make rfl k_1160 rfl (by decide) (Nat.le_of_ble_eq_true rfl) ⟨by decide, by decide⟩ d_Mo_cons_55 ?_
      refine Can.mono K (fun _ h3 z => ?_)
      obtain ⟨r3, rfl, K⟩ := z
      show Wg X 0 0 h3 [(0, .ref 0), (1, .int v1), (2, .int v2), (3, .int v3), (4, .int (h2 0 9))] [.int r3] 58
      refine r_istore (ls2 := [(0, .ref 0), (1, .int v1), (2, .int v2), (3, .int v3), (4, .int (h2 0 9)), (5, .int r3)]) C (by decide) rfl d_Mo_cons_58 ?_
      refine r_aload_n C 0 rfl d_Mo_cons_60 ?_
      refine r_iload C 5 rfl d_Mo_cons_61 ?_
      refine r_iconst (v := 0) C (by decide) d_Mo_cons_63 ?_
      refine r_callS (As := [.int r3, .int 0]) (st := [.ref 0]) (lvc := 0) (mcc := 0) (msc := 0) C Rm M_Mo_slotOf rfl k_1153 (by decide) (Nat.le_of_ble_eq_true rfl) ⟨by decide, by decide⟩ d_Mo_cons_64 ?_
      refine Can.mono K (fun _ h4 z => ?_)
      obtain ⟨r4, rfl, K⟩ := z
      show Wg X 0 0 h4 [(0, .ref 0), (1, .int v1), (2, .int v2), (3, .int v3), (4, .int (h2 0 9)), (5, .int r3)] [.int r4, .ref 0] 67
      refine r_iload_n C 2 rfl d_Mo_cons_67 ?_
      refine r_callV (As := [.int r4, .int v2]) (st := []) (lvc := 0) (mcc := 0) (msc := 0) C Rm M_Mo_copyValue rfl k_1171 rfl (by decide) (Nat.le_of_ble_eq_true rfl) ⟨by decide, by decide⟩ d_Mo_cons_68 ?_
      refine Can.mono K (fun _ h5 z => ?_)
      obtain ⟨rfl, K⟩ := z
      show Wg X 0 0 h5 [(0, .ref 0), (1, .int v1), (2, .int v2), (3, .int v3), (4, .int (h2 0 9)), (5, .int r3)] [] 71
      refine r_aload_n C 0 rfl d_Mo_cons_71 ?_
      refine r_iload C 5 rfl d_Mo_cons_72 ?_
      refine r_iconst (v := 1) C (by decide) d_Mo_cons_74 ?_
      refine r_callS (As := [.int r3, .int 1]) (st := [.ref 0]) (lvc := 0) (mcc := 0) (msc := 0) C Rm M_Mo_slotOf rfl k_1153 (by decide) (Nat.le_of_ble_eq_true rfl) ⟨by decide, by decide⟩ d_Mo_cons_75 ?_
      refine Can.mono K (fun _ h6 z => ?_)
      obtain ⟨r6, rfl, K⟩ := z
      show Wg X 0 0 h6 [(0, .ref 0), (1, .int v1), (2, .int v2), (3, .int v3), (4, .int (h2 0 9)), (5, .int r3)] [.int r6, .ref 0] 78
      refine r_iload_n C 3 rfl d_Mo_cons_78 ?_
      refine r_callV (As := [.int r6, .int v3]) (st := []) (lvc := 0) (mcc := 0) (msc := 0) C Rm M_Mo_copyValue rfl k_1171 rfl (by decide) (Nat.le_of_ble_eq_true rfl) ⟨by decide, by decide⟩ d_Mo_cons_79 ?_
      refine Can.mono K (fun _ h7 z => ?_)
      obtain ⟨rfl, K⟩ := z
      show Wg X 0 0 h7 [(0, .ref 0), (1, .int v1), (2, .int v2), (3, .int v3), (4, .int (h2 0 9)), (5, .int r3)] [] 82
      refine r_aload_n C 0 rfl d_Mo_cons_82 ?_
      refine r_iload_n C 1 rfl d_Mo_cons_83 ?_
      refine r_iconst (v := 2) C (by decide) d_Mo_cons_84 ?_
      refine r_iload C 5 rfl d_Mo_cons_85 ?_
      refine r_callV (As := [.int v1, .int 2, .int r3]) (st := []) (lvc := 0) (mcc := 0) (msc := 0) C Rm M_Mo_setValue rfl k_1098 rfl (by decide) (Nat.le_of_ble_eq_true rfl) ⟨by decide, by decide⟩ d_Mo_cons_87 ?_
      refine Can.mono K (fun _ h8 z => ?_)
      obtain ⟨rfl, K⟩ := z
      show Wg X 0 0 h8 [(0, .ref 0), (1, .int v1), (2, .int v2), (3, .int v3), (4, .int (h2 0 9)), (5, .int r3)] [] 90
      refine r_iload C 4 rfl d_Mo_cons_90 ?_
      exact q_iret C Q d_Mo_cons_92 ⟨_, rfl, K⟩
    · have K := K.2 c0
      refine r_bipush (v := (-2)) C (by decide) d_Mo_cons_43 ?_
      exact q_iret C Q d_Mo_cons_45 ⟨_, rfl, K⟩
  · have K := K.2 c0
    refine r_iconst (v := 0) C (by decide) d_Mo_cons_33 ?_
    exact q_iret C Q d_Mo_cons_34 ⟨_, rfl, K⟩
set_option maxRecDepth 20000 in
theorem g_Mo_part_0 {X : CX} {h : HP} {v1 : Int32} {v2 : Int32} {v3 : Int32} {Φ : Int32 → HP → Prop} (C : Cok X b_Mo_part 4 R_Mo ((some .int))) (Rm : xR X = rml 1 0 0) (Q : Qok X 0 0 (fun r h2 => ∃ v, r = some (.int v) ∧ Φ v h2)) 
    (K : K_Mo_isRegister [.int v1] h (fun r1 h1 => (r1 = 0 → Wg X 0 0 h1 [(0, .ref 0), (1, .int v1), (2, .int v2), (3, .int v3)] [.int 1, .ref 0] 20) ∧ (¬ r1 = 0 → K_Mo_isRegister [.int v2] h1 (fun r2 h2 => (r2 = 0 → Wg X 0 0 h2 [(0, .ref 0), (1, .int v1), (2, .int v2), (3, .int v3)] [.int 1, .ref 0] 20) ∧ (¬ r2 = 0 → Wg X 0 0 h2 [(0, .ref 0), (1, .int v1), (2, .int v2), (3, .int v3)] [.int 0, .ref 0] 20))))) :
    Wg X 0 0 h [(0, .ref 0), (1, .int v1), (2, .int v2), (3, .int v3)] [] 0 := by
  refine r_aload_n C 0 rfl d_Mo_part_0 ?_
  refine r_iload_n C 1 rfl d_Mo_part_1 ?_
  refine r_callS (As := [.int v1]) (st := [.ref 0]) (lvc := 0) (mcc := 0) (msc := 0) C Rm M_Mo_isRegister rfl k_1091 (by decide) (Nat.le_of_ble_eq_true rfl) ⟨by decide, by decide⟩ d_Mo_part_2 ?_
  refine Can.mono K (fun _ h1 z => ?_)
  obtain ⟨r1, rfl, K⟩ := z
  show Wg X 0 0 h1 [(0, .ref 0), (1, .int v1), (2, .int v2), (3, .int v3)] [.int r1, .ref 0] 5
  refine r_if_eq C 19 d_Mo_part_5 (by decide) ⟨fun c0 => ?_, fun c0 => ?_⟩
  · have K := K.1 c0
    refine r_iconst (v := 1) C (by decide) d_Mo_part_19 ?_
    exact K
  · have K := K.2 c0
    refine r_iload_n C 2 rfl d_Mo_part_8 ?_
    refine r_callS (As := [.int v2]) (st := [.ref 0]) (lvc := 0) (mcc := 0) (msc := 0) C Rm M_Mo_isRegister rfl k_1091 (by decide) (Nat.le_of_ble_eq_true rfl) ⟨by decide, by decide⟩ d_Mo_part_9 ?_
    refine Can.mono K (fun _ h2 z => ?_)
    obtain ⟨r2, rfl, K⟩ := z
    show Wg X 0 0 h2 [(0, .ref 0), (1, .int v1), (2, .int v2), (3, .int v3)] [.int r2, .ref 0] 12
    refine r_if_eq C 19 d_Mo_part_12 (by decide) ⟨fun c0 => ?_, fun c0 => ?_⟩
    · have K := K.1 c0
      refine r_iconst (v := 1) C (by decide) d_Mo_part_19 ?_
      exact K
    · have K := K.2 c0
      refine r_iconst (v := 0) C (by decide) d_Mo_part_15 ?_
      refine r_goto C 20 d_Mo_part_16 (by decide) ?_
      exact K
set_option maxRecDepth 20000 in
theorem g_Mo_part_20 {X : CX} {h : HP} {v1 : Int32} {v2 : Int32} {v3 : Int32} {t1 : Int32} {Φ : Int32 → HP → Prop} (C : Cok X b_Mo_part 4 R_Mo ((some .int))) (Rm : xR X = rml 1 0 0) (Q : Qok X 0 0 (fun r h2 => ∃ v, r = some (.int v) ∧ Φ v h2)) 
    (K : K_Mo_refused [.ref 0, .int t1] h (fun r1 h1 => (r1 = 0 → K_Mo_sortOf [.ref 0, .int v2] h1 (fun r2 h2 => (r2 = (4 : Int32) → vp_in v2 416 ∧ ((v3 = 0 → K_Mo_slotOf [.int (h2 2 v2.toNatClampNeg), .int 1] h2 (fun r3 h3 => K_Mo_copyValue [.ref 0, .int v1, .int r3] h3 (fun h4 => Φ 0 h4))) ∧ (¬ v3 = 0 → K_Mo_slotOf [.int (h2 2 v2.toNatClampNeg), .int 0] h2 (fun r5 h5 => K_Mo_copyValue [.ref 0, .int v1, .int r5] h5 (fun h6 => Φ 0 h6))))) ∧ (¬ r2 = (4 : Int32) → Φ ((-4)) h2))) ∧ (¬ r1 = 0 → Φ 0 h1))) :
    Wg X 0 0 h [(0, .ref 0), (1, .int v1), (2, .int v2), (3, .int v3)] [.int t1, .ref 0] 20 := by
  refine r_callV (As := [.int t1]) (st := []) (lvc := 0) (mcc := 0) (msc := 0) C Rm M_Mo_refused rfl k_1094 rfl (by decide) (Nat.le_of_ble_eq_true rfl) ⟨by decide, by decide⟩ d_Mo_part_20 ?_
  refine Can.mono K (fun _ h1 z => ?_)
  obtain ⟨r1, rfl, K⟩ := z
  show Wg X 0 0 h1 [(0, .ref 0), (1, .int v1), (2, .int v2), (3, .int v3)] [.int r1] 23
  refine r_if_eq C 28 d_Mo_part_23 (by decide) ⟨fun c0 => ?_, fun c0 => ?_⟩
  · have K := K.1 c0
    refine r_aload_n C 0 rfl d_Mo_part_28 ?_
    refine r_iload_n C 2 rfl d_Mo_part_29 ?_
    refine r_callV (As := [.int v2]) (st := []) (lvc := 0) (mcc := 0) (msc := 0) C Rm M_Mo_sortOf rfl k_1187 rfl (by decide) (Nat.le_of_ble_eq_true rfl) ⟨by decide, by decide⟩ d_Mo_part_30 ?_
    refine Can.mono K (fun _ h2 z => ?_)
    obtain ⟨r2, rfl, K⟩ := z
    show Wg X 0 0 h2 [(0, .ref 0), (1, .int v1), (2, .int v2), (3, .int v3)] [.int r2] 33
    refine r_iconst (v := 4) C (by decide) d_Mo_part_33 ?_
    refine r_icmp_eq C 40 d_Mo_part_34 (by decide) ⟨fun c0 => ?_, fun c0 => ?_⟩
    · have K := K.1 c0
      refine r_aload_n C 0 rfl d_Mo_part_40 ?_
      refine r_iload_n C 1 rfl d_Mo_part_41 ?_
      refine r_aload_n C 0 rfl d_Mo_part_42 ?_
      refine gf_Mo_valueOf (k2 := 2) C rfl rfl k_1021 d_Mo_part_43 ?_
      refine r_iload_n C 2 rfl d_Mo_part_46 ?_
      obtain ⟨s0, K⟩ := K
      refine r_iald C rfl s0 d_Mo_part_47 ?_
      refine r_iload_n C 3 rfl d_Mo_part_48 ?_
      refine r_if_eq C 56 d_Mo_part_49 (by decide) ⟨fun c0 => ?_, fun c0 => ?_⟩
      · have K := K.1 c0
        refine r_iconst (v := 1) C (by decide) d_Mo_part_56 ?_
        refine r_callS (As := [.int (h2 2 v2.toNatClampNeg), .int 1]) (st := [.int v1, .ref 0]) (lvc := 0) (mcc := 0) (msc := 0) C Rm M_Mo_slotOf rfl k_1153 (by decide) (Nat.le_of_ble_eq_true rfl) ⟨by decide, by decide⟩ d_Mo_part_57 ?_
        refine Can.mono K (fun _ h3 z => ?_)
        obtain ⟨r3, rfl, K⟩ := z
        show Wg X 0 0 h3 [(0, .ref 0), (1, .int v1), (2, .int v2), (3, .int v3)] [.int r3, .int v1, .ref 0] 60
        refine r_callV (As := [.int v1, .int r3]) (st := []) (lvc := 0) (mcc := 0) (msc := 0) C Rm M_Mo_copyValue rfl k_1171 rfl (by decide) (Nat.le_of_ble_eq_true rfl) ⟨by decide, by decide⟩ d_Mo_part_60 ?_
        refine Can.mono K (fun _ h4 z => ?_)
        obtain ⟨rfl, K⟩ := z
        show Wg X 0 0 h4 [(0, .ref 0), (1, .int v1), (2, .int v2), (3, .int v3)] [] 63
        refine r_iconst (v := 0) C (by decide) d_Mo_part_63 ?_
        exact q_iret C Q d_Mo_part_64 ⟨_, rfl, K⟩
      · have K := K.2 c0
        refine r_iconst (v := 0) C (by decide) d_Mo_part_52 ?_
        refine r_goto C 57 d_Mo_part_53 (by decide) ?_
        refine r_callS (As := [.int (h2 2 v2.toNatClampNeg), .int 0]) (st := [.int v1, .ref 0]) (lvc := 0) (mcc := 0) (msc := 0) C Rm M_Mo_slotOf rfl k_1153 (by decide) (Nat.le_of_ble_eq_true rfl) ⟨by decide, by decide⟩ d_Mo_part_57 ?_
        refine Can.mono K (fun _ h5 z => ?_)
        obtain ⟨r5, rfl, K⟩ := z
        show Wg X 0 0 h5 [(0, .ref 0), (1, .int v1), (2, .int v2), (3, .int v3)] [.int r5, .int v1, .ref 0] 60
        refine r_callV (As := [.int v1, .int r5]) (st := []) (lvc := 0) (mcc := 0) (msc := 0) C Rm M_Mo_copyValue rfl k_1171 rfl (by decide) (Nat.le_of_ble_eq_true rfl) ⟨by decide, by decide⟩ d_Mo_part_60 ?_
        refine Can.mono K (fun _ h6 z => ?_)
        obtain ⟨rfl, K⟩ := z
        show Wg X 0 0 h6 [(0, .ref 0), (1, .int v1), (2, .int v2), (3, .int v3)] [] 63
        refine r_iconst (v := 0) C (by decide) d_Mo_part_63 ?_
        exact q_iret C Q d_Mo_part_64 ⟨_, rfl, K⟩
    · have K := K.2 c0
      refine r_bipush (v := (-4)) C (by decide) d_Mo_part_37 ?_
      exact q_iret C Q d_Mo_part_39 ⟨_, rfl, K⟩
  · have K := K.2 c0
    refine r_iconst (v := 0) C (by decide) d_Mo_part_26 ?_
    exact q_iret C Q d_Mo_part_27 ⟨_, rfl, K⟩
set_option maxRecDepth 20000 in
theorem g_Mo_change_0 {X : CX} {h : HP} {v1 : Int32} {v2 : Int32} {v3 : Int32} {Φ : Int32 → HP → Prop} (C : Cok X b_Mo_change 4 R_Mo ((some .int))) (Rm : xR X = rml 1 0 0) (Q : Qok X 0 0 (fun r h2 => ∃ v, r = some (.int v) ∧ Φ v h2)) 
    (K : K_Mo_isRegister [.int v1] h (fun r1 h1 => (r1 = 0 → Wg X 0 0 h1 [(0, .ref 0), (1, .int v1), (2, .int v2), (3, .int v3)] [.int 1, .ref 0] 20) ∧ (¬ r1 = 0 → K_Mo_isRegister [.int v3] h1 (fun r2 h2 => (r2 = 0 → Wg X 0 0 h2 [(0, .ref 0), (1, .int v1), (2, .int v2), (3, .int v3)] [.int 1, .ref 0] 20) ∧ (¬ r2 = 0 → Wg X 0 0 h2 [(0, .ref 0), (1, .int v1), (2, .int v2), (3, .int v3)] [.int 0, .ref 0] 20))))) :
    Wg X 0 0 h [(0, .ref 0), (1, .int v1), (2, .int v2), (3, .int v3)] [] 0 := by
  refine r_aload_n C 0 rfl d_Mo_change_0 ?_
  refine r_iload_n C 1 rfl d_Mo_change_1 ?_
  refine r_callS (As := [.int v1]) (st := [.ref 0]) (lvc := 0) (mcc := 0) (msc := 0) C Rm M_Mo_isRegister rfl k_1091 (by decide) (Nat.le_of_ble_eq_true rfl) ⟨by decide, by decide⟩ d_Mo_change_2 ?_
  refine Can.mono K (fun _ h1 z => ?_)
  obtain ⟨r1, rfl, K⟩ := z
  show Wg X 0 0 h1 [(0, .ref 0), (1, .int v1), (2, .int v2), (3, .int v3)] [.int r1, .ref 0] 5
  refine r_if_eq C 19 d_Mo_change_5 (by decide) ⟨fun c0 => ?_, fun c0 => ?_⟩
  · have K := K.1 c0
    refine r_iconst (v := 1) C (by decide) d_Mo_change_19 ?_
    exact K
  · have K := K.2 c0
    refine r_iload_n C 3 rfl d_Mo_change_8 ?_
    refine r_callS (As := [.int v3]) (st := [.ref 0]) (lvc := 0) (mcc := 0) (msc := 0) C Rm M_Mo_isRegister rfl k_1091 (by decide) (Nat.le_of_ble_eq_true rfl) ⟨by decide, by decide⟩ d_Mo_change_9 ?_
    refine Can.mono K (fun _ h2 z => ?_)
    obtain ⟨r2, rfl, K⟩ := z
    show Wg X 0 0 h2 [(0, .ref 0), (1, .int v1), (2, .int v2), (3, .int v3)] [.int r2, .ref 0] 12
    refine r_if_eq C 19 d_Mo_change_12 (by decide) ⟨fun c0 => ?_, fun c0 => ?_⟩
    · have K := K.1 c0
      refine r_iconst (v := 1) C (by decide) d_Mo_change_19 ?_
      exact K
    · have K := K.2 c0
      refine r_iconst (v := 0) C (by decide) d_Mo_change_15 ?_
      refine r_goto C 20 d_Mo_change_16 (by decide) ?_
      exact K
set_option maxRecDepth 20000 in
theorem g_Mo_change_20 {X : CX} {h : HP} {v1 : Int32} {v2 : Int32} {v3 : Int32} {t1 : Int32} {Φ : Int32 → HP → Prop} (C : Cok X b_Mo_change 4 R_Mo ((some .int))) (Rm : xR X = rml 1 0 0) (Q : Qok X 0 0 (fun r h2 => ∃ v, r = some (.int v) ∧ Φ v h2)) 
    (K : K_Mo_refused [.ref 0, .int t1] h (fun r1 h1 => (r1 = 0 → K_Mo_sortOf [.ref 0, .int v1] h1 (fun r2 h2 => (r2 = (4 : Int32) → vp_in v1 416 ∧ ((v2 = 0 → K_Mo_slotOf [.int (h2 2 v1.toNatClampNeg), .int 1] h2 (fun r3 h3 => K_Mo_copyValue [.ref 0, .int r3, .int v3] h3 (fun h4 => Φ 0 h4))) ∧ (¬ v2 = 0 → K_Mo_slotOf [.int (h2 2 v1.toNatClampNeg), .int 0] h2 (fun r5 h5 => K_Mo_copyValue [.ref 0, .int r5, .int v3] h5 (fun h6 => Φ 0 h6))))) ∧ (¬ r2 = (4 : Int32) → Φ ((-4)) h2))) ∧ (¬ r1 = 0 → Φ 0 h1))) :
    Wg X 0 0 h [(0, .ref 0), (1, .int v1), (2, .int v2), (3, .int v3)] [.int t1, .ref 0] 20 := by
  refine r_callV (As := [.int t1]) (st := []) (lvc := 0) (mcc := 0) (msc := 0) C Rm M_Mo_refused rfl k_1094 rfl (by decide) (Nat.le_of_ble_eq_true rfl) ⟨by decide, by decide⟩ d_Mo_change_20 ?_
  refine Can.mono K (fun _ h1 z => ?_)
  obtain ⟨r1, rfl, K⟩ := z
  show Wg X 0 0 h1 [(0, .ref 0), (1, .int v1), (2, .int v2), (3, .int v3)] [.int r1] 23
  refine r_if_eq C 28 d_Mo_change_23 (by decide) ⟨fun c0 => ?_, fun c0 => ?_⟩
  · have K := K.1 c0
    refine r_aload_n C 0 rfl d_Mo_change_28 ?_
    refine r_iload_n C 1 rfl d_Mo_change_29 ?_
    refine r_callV (As := [.int v1]) (st := []) (lvc := 0) (mcc := 0) (msc := 0) C Rm M_Mo_sortOf rfl k_1187 rfl (by decide) (Nat.le_of_ble_eq_true rfl) ⟨by decide, by decide⟩ d_Mo_change_30 ?_
    refine Can.mono K (fun _ h2 z => ?_)
    obtain ⟨r2, rfl, K⟩ := z
    show Wg X 0 0 h2 [(0, .ref 0), (1, .int v1), (2, .int v2), (3, .int v3)] [.int r2] 33
    refine r_iconst (v := 4) C (by decide) d_Mo_change_33 ?_
    refine r_icmp_eq C 40 d_Mo_change_34 (by decide) ⟨fun c0 => ?_, fun c0 => ?_⟩
    · have K := K.1 c0
      refine r_aload_n C 0 rfl d_Mo_change_40 ?_
      refine r_aload_n C 0 rfl d_Mo_change_41 ?_
      refine gf_Mo_valueOf (k2 := 2) C rfl rfl k_1021 d_Mo_change_42 ?_
      refine r_iload_n C 1 rfl d_Mo_change_45 ?_
      obtain ⟨s0, K⟩ := K
      refine r_iald C rfl s0 d_Mo_change_46 ?_
      refine r_iload_n C 2 rfl d_Mo_change_47 ?_
      refine r_if_eq C 55 d_Mo_change_48 (by decide) ⟨fun c0 => ?_, fun c0 => ?_⟩
      · have K := K.1 c0
        refine r_iconst (v := 1) C (by decide) d_Mo_change_55 ?_
        refine r_callS (As := [.int (h2 2 v1.toNatClampNeg), .int 1]) (st := [.ref 0]) (lvc := 0) (mcc := 0) (msc := 0) C Rm M_Mo_slotOf rfl k_1153 (by decide) (Nat.le_of_ble_eq_true rfl) ⟨by decide, by decide⟩ d_Mo_change_56 ?_
        refine Can.mono K (fun _ h3 z => ?_)
        obtain ⟨r3, rfl, K⟩ := z
        show Wg X 0 0 h3 [(0, .ref 0), (1, .int v1), (2, .int v2), (3, .int v3)] [.int r3, .ref 0] 59
        refine r_iload_n C 3 rfl d_Mo_change_59 ?_
        refine r_callV (As := [.int r3, .int v3]) (st := []) (lvc := 0) (mcc := 0) (msc := 0) C Rm M_Mo_copyValue rfl k_1171 rfl (by decide) (Nat.le_of_ble_eq_true rfl) ⟨by decide, by decide⟩ d_Mo_change_60 ?_
        refine Can.mono K (fun _ h4 z => ?_)
        obtain ⟨rfl, K⟩ := z
        show Wg X 0 0 h4 [(0, .ref 0), (1, .int v1), (2, .int v2), (3, .int v3)] [] 63
        refine r_iconst (v := 0) C (by decide) d_Mo_change_63 ?_
        exact q_iret C Q d_Mo_change_64 ⟨_, rfl, K⟩
      · have K := K.2 c0
        refine r_iconst (v := 0) C (by decide) d_Mo_change_51 ?_
        refine r_goto C 56 d_Mo_change_52 (by decide) ?_
        refine r_callS (As := [.int (h2 2 v1.toNatClampNeg), .int 0]) (st := [.ref 0]) (lvc := 0) (mcc := 0) (msc := 0) C Rm M_Mo_slotOf rfl k_1153 (by decide) (Nat.le_of_ble_eq_true rfl) ⟨by decide, by decide⟩ d_Mo_change_56 ?_
        refine Can.mono K (fun _ h5 z => ?_)
        obtain ⟨r5, rfl, K⟩ := z
        show Wg X 0 0 h5 [(0, .ref 0), (1, .int v1), (2, .int v2), (3, .int v3)] [.int r5, .ref 0] 59
        refine r_iload_n C 3 rfl d_Mo_change_59 ?_
        refine r_callV (As := [.int r5, .int v3]) (st := []) (lvc := 0) (mcc := 0) (msc := 0) C Rm M_Mo_copyValue rfl k_1171 rfl (by decide) (Nat.le_of_ble_eq_true rfl) ⟨by decide, by decide⟩ d_Mo_change_60 ?_
        refine Can.mono K (fun _ h6 z => ?_)
        obtain ⟨rfl, K⟩ := z
        show Wg X 0 0 h6 [(0, .ref 0), (1, .int v1), (2, .int v2), (3, .int v3)] [] 63
        refine r_iconst (v := 0) C (by decide) d_Mo_change_63 ?_
        exact q_iret C Q d_Mo_change_64 ⟨_, rfl, K⟩
    · have K := K.2 c0
      refine r_bipush (v := (-4)) C (by decide) d_Mo_change_37 ?_
      exact q_iret C Q d_Mo_change_39 ⟨_, rfl, K⟩
  · have K := K.2 c0
    refine r_iconst (v := 0) C (by decide) d_Mo_change_26 ?_
    exact q_iret C Q d_Mo_change_27 ⟨_, rfl, K⟩
set_option maxRecDepth 20000 in
theorem g_Mo_workWhole_0 {X : CX} {h : HP} {v1 : Int32} {v2 : Int32} {Φ : Int32 → HP → Prop} (C : Cok X b_Mo_workWhole 5 R_Mo ((some .int))) (Rm : xR X = rml 5 0 0) (Q : Qok X 0 0 (fun r h2 => ∃ v, r = some (.int v) ∧ Φ v h2)) 
    (K : (¬ v2 = (6 : Int32) → vp_in 2 218 ∧ ((¬ (h 9 (2 : Int32).toNatClampNeg) = 0 → vp_in 0 218 ∧ (vp_in 2 218 ∧ (K_Mo_divide [.ref 0, .int 12, .int 0, .int 2] h (fun h1 => (¬ v2 = (4 : Int32) → Wg X 0 0 h1 [(0, .ref 0), (1, .int v1), (2, .int v2), (3, .int (h 10 (0 : Int32).toNatClampNeg)), (4, .int (h 10 (2 : Int32).toNatClampNeg))] [.int 9, .int 4, .ref 0] 71) ∧ (v2 = (4 : Int32) → Wg X 0 0 h1 [(0, .ref 0), (1, .int v1), (2, .int v2), (3, .int (h 10 (0 : Int32).toNatClampNeg)), (4, .int (h 10 (2 : Int32).toNatClampNeg))] [.int 12, .int 4, .ref 0] 71))))) ∧ ((h 9 (2 : Int32).toNatClampNeg) = 0 → Φ ((-5)) h))) ∧ (v2 = (6 : Int32) → K_Mo_divisor [.ref 0, .int 0, .int 2] h (fun h2 => K_Mo_copyRow [.ref 0, .int 4, .int 10] h2 (fun h3 => K_Mo_setLong [.ref 0, .int 5, .long 1] h3 (fun h4 => K_Mo_finish [.ref 0, .int v1] h4 (fun r5 h5 => Φ r5 h5)))))) :
    Wg X 0 0 h [(0, .ref 0), (1, .int v1), (2, .int v2)] [] 0 := by
  refine r_iload_n C 2 rfl d_Mo_workWhole_0 ?_
  refine r_bipush (v := 6) C (by decide) d_Mo_workWhole_1 ?_
  refine r_icmp_ne C 22 d_Mo_workWhole_3 (by decide) ⟨fun c0 => ?_, fun c0 => ?_⟩
  · have K := K.1 c0
    refine r_aload_n C 0 rfl d_Mo_workWhole_22 ?_
    refine gf_Mo_length (k2 := 9) C rfl rfl k_1031 d_Mo_workWhole_23 ?_
    refine r_iconst (v := 2) C (by decide) d_Mo_workWhole_26 ?_
    obtain ⟨s0, K⟩ := K
    refine r_iald C rfl s0 d_Mo_workWhole_27 ?_
    refine r_if_ne C 34 d_Mo_workWhole_28 (by decide) ⟨fun c0 => ?_, fun c0 => ?_⟩
    · have K := K.1 c0
      refine r_aload_n C 0 rfl d_Mo_workWhole_34 ?_
      refine gf_Mo_isBelow (k2 := 10) C rfl rfl k_1032 d_Mo_workWhole_35 ?_
      refine r_iconst (v := 0) C (by decide) d_Mo_workWhole_38 ?_
      obtain ⟨s0, K⟩ := K
      refine r_zald C rfl s0 d_Mo_workWhole_39 ?_
      refine r_istore_n (ls2 := [(0, .ref 0), (1, .int v1), (2, .int v2), (3, .int (h 10 (0 : Int32).toNatClampNeg))]) C rfl (by decide) rfl d_Mo_workWhole_40 ?_
      refine r_aload_n C 0 rfl d_Mo_workWhole_41 ?_
      refine gf_Mo_isBelow (k2 := 10) C rfl rfl k_1032 d_Mo_workWhole_42 ?_
      refine r_iconst (v := 2) C (by decide) d_Mo_workWhole_45 ?_
      obtain ⟨s0, K⟩ := K
      refine r_zald C rfl s0 d_Mo_workWhole_46 ?_
      refine r_istore (ls2 := [(0, .ref 0), (1, .int v1), (2, .int v2), (3, .int (h 10 (0 : Int32).toNatClampNeg)), (4, .int (h 10 (2 : Int32).toNatClampNeg))]) C (by decide) rfl d_Mo_workWhole_47 ?_
      refine r_aload_n C 0 rfl d_Mo_workWhole_49 ?_
      refine r_bipush (v := 12) C (by decide) d_Mo_workWhole_50 ?_
      refine r_iconst (v := 0) C (by decide) d_Mo_workWhole_52 ?_
      refine r_iconst (v := 2) C (by decide) d_Mo_workWhole_53 ?_
      refine r_callV (As := [.int 12, .int 0, .int 2]) (st := []) (lvc := 2) (mcc := 0) (msc := 0) C Rm M_Mo_divide rfl k_1239 rfl (by decide) (Nat.le_of_ble_eq_true rfl) ⟨by decide, by decide⟩ d_Mo_workWhole_54 ?_
      refine Can.mono K (fun _ h1 z => ?_)
      obtain ⟨rfl, K⟩ := z
      show Wg X 0 0 h1 [(0, .ref 0), (1, .int v1), (2, .int v2), (3, .int (h 10 (0 : Int32).toNatClampNeg)), (4, .int (h 10 (2 : Int32).toNatClampNeg))] [] 57
      refine r_aload_n C 0 rfl d_Mo_workWhole_57 ?_
      refine r_iconst (v := 4) C (by decide) d_Mo_workWhole_58 ?_
      refine r_iload_n C 2 rfl d_Mo_workWhole_59 ?_
      refine r_iconst (v := 4) C (by decide) d_Mo_workWhole_60 ?_
      refine r_icmp_ne C 69 d_Mo_workWhole_61 (by decide) ⟨fun c0 => ?_, fun c0 => ?_⟩
      · have K := K.1 c0
        refine r_bipush (v := 9) C (by decide) d_Mo_workWhole_69 ?_
        exact K
      · have K := K.2 c0
        refine r_bipush (v := 12) C (by decide) d_Mo_workWhole_64 ?_
        refine r_goto C 71 d_Mo_workWhole_66 (by decide) ?_
        exact K
    · have K := K.2 c0
      refine r_bipush (v := (-5)) C (by decide) d_Mo_workWhole_31 ?_
      exact q_iret C Q d_Mo_workWhole_33 ⟨_, rfl, K⟩
  · have K := K.2 c0
    refine r_aload_n C 0 rfl d_Mo_workWhole_6 ?_
    refine r_iconst (v := 0) C (by decide) d_Mo_workWhole_7 ?_
    refine r_iconst (v := 2) C (by decide) d_Mo_workWhole_8 ?_
    refine r_callV (As := [.int 0, .int 2]) (st := []) (lvc := 2) (mcc := 0) (msc := 0) C Rm M_Mo_divisor rfl k_1215 rfl (by decide) (Nat.le_of_ble_eq_true rfl) ⟨by decide, by decide⟩ d_Mo_workWhole_9 ?_
    refine Can.mono K (fun _ h2 z => ?_)
    obtain ⟨rfl, K⟩ := z
    show Wg X 0 0 h2 [(0, .ref 0), (1, .int v1), (2, .int v2)] [] 12
    refine r_aload_n C 0 rfl d_Mo_workWhole_12 ?_
    refine r_iconst (v := 4) C (by decide) d_Mo_workWhole_13 ?_
    refine r_bipush (v := 10) C (by decide) d_Mo_workWhole_14 ?_
    refine r_callV (As := [.int 4, .int 10]) (st := []) (lvc := 0) (mcc := 0) (msc := 0) C Rm M_Mo_copyRow rfl k_1167 rfl (by decide) (Nat.le_of_ble_eq_true rfl) ⟨by decide, by decide⟩ d_Mo_workWhole_16 ?_
    refine Can.mono K (fun _ h3 z => ?_)
    obtain ⟨rfl, K⟩ := z
    show Wg X 0 0 h3 [(0, .ref 0), (1, .int v1), (2, .int v2)] [] 19
    refine r_goto C 112 d_Mo_workWhole_19 (by decide) ?_
    refine r_aload_n C 0 rfl d_Mo_workWhole_112 ?_
    refine r_iconst (v := 5) C (by decide) d_Mo_workWhole_113 ?_
    refine r_lconst (v := 1) C (by decide) d_Mo_workWhole_114 ?_
    refine r_callV (As := [.int 5, .long 1]) (st := []) (lvc := 1) (mcc := 0) (msc := 0) C Rm M_Mo_setLong rfl k_1106 rfl (by decide) (Nat.le_of_ble_eq_true rfl) ⟨by decide, by decide⟩ d_Mo_workWhole_115 ?_
    refine Can.mono K (fun _ h4 z => ?_)
    obtain ⟨rfl, K⟩ := z
    show Wg X 0 0 h4 [(0, .ref 0), (1, .int v1), (2, .int v2)] [] 118
    refine r_aload_n C 0 rfl d_Mo_workWhole_118 ?_
    refine r_iload_n C 1 rfl d_Mo_workWhole_119 ?_
    refine r_callV (As := [.int v1]) (st := []) (lvc := 4) (mcc := 0) (msc := 0) C Rm M_Mo_finish rfl k_1116 rfl (by decide) (Nat.le_of_ble_eq_true rfl) ⟨by decide, by decide⟩ d_Mo_workWhole_120 ?_
    refine Can.mono K (fun _ h5 z => ?_)
    obtain ⟨r5, rfl, K⟩ := z
    show Wg X 0 0 h5 [(0, .ref 0), (1, .int v1), (2, .int v2)] [.int r5] 123
    exact q_iret C Q d_Mo_workWhole_123 ⟨_, rfl, K⟩
set_option maxRecDepth 20000 in
theorem g_Mo_workWhole_71 {X : CX} {h : HP} {v1 : Int32} {v2 : Int32} {v3 : Int32} {v4 : Int32} {t2 : Int32} {t1 : Int32} {Φ : Int32 → HP → Prop} (C : Cok X b_Mo_workWhole 5 R_Mo ((some .int))) (Rm : xR X = rml 5 0 0) (Q : Qok X 0 0 (fun r h2 => ∃ v, r = some (.int v) ∧ Φ v h2)) 
    (K : K_Mo_copyRow [.ref 0, .int t1, .int t2] h (fun h1 => vp_in 4 218 ∧ (((h1 9 (4 : Int32).toNatClampNeg) ≤ 0 → vp_in 4 218 ∧ (K_Mo_setLong [.ref 0, .int 5, .long 1] (up h1 10 (4 : Int32).toNatClampNeg (vp_nar .boolean 0)) (fun h2 => K_Mo_finish [.ref 0, .int v1] h2 (fun r3 h3 => Φ r3 h3)))) ∧ (¬ (h1 9 (4 : Int32).toNatClampNeg) ≤ 0 → (¬ v2 = (4 : Int32) → (v3 = 0 → vp_in 4 218 ∧ (K_Mo_setLong [.ref 0, .int 5, .long 1] (up h1 10 (4 : Int32).toNatClampNeg (vp_nar .boolean 0)) (fun h4 => K_Mo_finish [.ref 0, .int v1] h4 (fun r5 h5 => Φ r5 h5)))) ∧ (¬ v3 = 0 → vp_in 4 218 ∧ (K_Mo_setLong [.ref 0, .int 5, .long 1] (up h1 10 (4 : Int32).toNatClampNeg (vp_nar .boolean 1)) (fun h6 => K_Mo_finish [.ref 0, .int v1] h6 (fun r7 h7 => Φ r7 h7))))) ∧ (v2 = (4 : Int32) → (v3 = v4 → vp_in 4 218 ∧ (K_Mo_setLong [.ref 0, .int 5, .long 1] (up h1 10 (4 : Int32).toNatClampNeg (vp_nar .boolean 0)) (fun h8 => K_Mo_finish [.ref 0, .int v1] h8 (fun r9 h9 => Φ r9 h9)))) ∧ (¬ v3 = v4 → vp_in 4 218 ∧ (K_Mo_setLong [.ref 0, .int 5, .long 1] (up h1 10 (4 : Int32).toNatClampNeg (vp_nar .boolean 1)) (fun h10 => K_Mo_finish [.ref 0, .int v1] h10 (fun r11 h11 => Φ r11 h11))))))))) :
    Wg X 0 0 h [(0, .ref 0), (1, .int v1), (2, .int v2), (3, .int v3), (4, .int v4)] [.int t2, .int t1, .ref 0] 71 := by
  refine r_callV (As := [.int t1, .int t2]) (st := []) (lvc := 0) (mcc := 0) (msc := 0) C Rm M_Mo_copyRow rfl k_1167 rfl (by decide) (Nat.le_of_ble_eq_true rfl) ⟨by decide, by decide⟩ d_Mo_workWhole_71 ?_
  refine Can.mono K (fun _ h1 z => ?_)
  obtain ⟨rfl, K⟩ := z
  show Wg X 0 0 h1 [(0, .ref 0), (1, .int v1), (2, .int v2), (3, .int v3), (4, .int v4)] [] 74
  refine r_aload_n C 0 rfl d_Mo_workWhole_74 ?_
  refine gf_Mo_isBelow (k2 := 10) C rfl rfl k_1032 d_Mo_workWhole_75 ?_
  refine r_iconst (v := 4) C (by decide) d_Mo_workWhole_78 ?_
  refine r_aload_n C 0 rfl d_Mo_workWhole_79 ?_
  refine gf_Mo_length (k2 := 9) C rfl rfl k_1031 d_Mo_workWhole_80 ?_
  refine r_iconst (v := 4) C (by decide) d_Mo_workWhole_83 ?_
  obtain ⟨s0, K⟩ := K
  refine r_iald C rfl s0 d_Mo_workWhole_84 ?_
  refine r_if_le C 110 d_Mo_workWhole_85 (by decide) ⟨fun c0 => ?_, fun c0 => ?_⟩
  · have K := K.1 c0
    refine r_iconst (v := 0) C (by decide) d_Mo_workWhole_110 ?_
    obtain ⟨s0, K⟩ := K
    refine r_zast C rfl s0 d_Mo_workWhole_111 ?_
    refine r_aload_n C 0 rfl d_Mo_workWhole_112 ?_
    refine r_iconst (v := 5) C (by decide) d_Mo_workWhole_113 ?_
    refine r_lconst (v := 1) C (by decide) d_Mo_workWhole_114 ?_
    refine r_callV (As := [.int 5, .long 1]) (st := []) (lvc := 1) (mcc := 0) (msc := 0) C Rm M_Mo_setLong rfl k_1106 rfl (by decide) (Nat.le_of_ble_eq_true rfl) ⟨by decide, by decide⟩ d_Mo_workWhole_115 ?_
    refine Can.mono K (fun _ h2 z => ?_)
    obtain ⟨rfl, K⟩ := z
    show Wg X 0 0 h2 [(0, .ref 0), (1, .int v1), (2, .int v2), (3, .int v3), (4, .int v4)] [] 118
    refine r_aload_n C 0 rfl d_Mo_workWhole_118 ?_
    refine r_iload_n C 1 rfl d_Mo_workWhole_119 ?_
    refine r_callV (As := [.int v1]) (st := []) (lvc := 4) (mcc := 0) (msc := 0) C Rm M_Mo_finish rfl k_1116 rfl (by decide) (Nat.le_of_ble_eq_true rfl) ⟨by decide, by decide⟩ d_Mo_workWhole_120 ?_
    refine Can.mono K (fun _ h3 z => ?_)
    obtain ⟨r3, rfl, K⟩ := z
    show Wg X 0 0 h3 [(0, .ref 0), (1, .int v1), (2, .int v2), (3, .int v3), (4, .int v4)] [.int r3] 123
    exact q_iret C Q d_Mo_workWhole_123 ⟨_, rfl, K⟩
  · have K := K.2 c0
    refine r_iload_n C 2 rfl d_Mo_workWhole_88 ?_
    refine r_iconst (v := 4) C (by decide) d_Mo_workWhole_89 ?_
    refine r_icmp_ne C 102 d_Mo_workWhole_90 (by decide) ⟨fun c0 => ?_, fun c0 => ?_⟩
    · have K := K.1 c0
      refine r_iload_n C 3 rfl d_Mo_workWhole_102 ?_
      refine r_if_eq C 110 d_Mo_workWhole_103 (by decide) ⟨fun c0 => ?_, fun c0 => ?_⟩
      · have K := K.1 c0
        refine r_iconst (v := 0) C (by decide) d_Mo_workWhole_110 ?_
        obtain ⟨s0, K⟩ := K
        refine r_zast C rfl s0 d_Mo_workWhole_111 ?_
        refine r_aload_n C 0 rfl d_Mo_workWhole_112 ?_
        refine r_iconst (v := 5) C (by decide) d_Mo_workWhole_113 ?_
        refine r_lconst (v := 1) C (by decide) d_Mo_workWhole_114 ?_
        refine r_callV (As := [.int 5, .long 1]) (st := []) (lvc := 1) (mcc := 0) (msc := 0) C Rm M_Mo_setLong rfl k_1106 rfl (by decide) (Nat.le_of_ble_eq_true rfl) ⟨by decide, by decide⟩ d_Mo_workWhole_115 ?_
        refine Can.mono K (fun _ h4 z => ?_)
        obtain ⟨rfl, K⟩ := z
        show Wg X 0 0 h4 [(0, .ref 0), (1, .int v1), (2, .int v2), (3, .int v3), (4, .int v4)] [] 118
        refine r_aload_n C 0 rfl d_Mo_workWhole_118 ?_
        refine r_iload_n C 1 rfl d_Mo_workWhole_119 ?_
        refine r_callV (As := [.int v1]) (st := []) (lvc := 4) (mcc := 0) (msc := 0) C Rm M_Mo_finish rfl k_1116 rfl (by decide) (Nat.le_of_ble_eq_true rfl) ⟨by decide, by decide⟩ d_Mo_workWhole_120 ?_
        refine Can.mono K (fun _ h5 z => ?_)
        obtain ⟨r5, rfl, K⟩ := z
        show Wg X 0 0 h5 [(0, .ref 0), (1, .int v1), (2, .int v2), (3, .int v3), (4, .int v4)] [.int r5] 123
        exact q_iret C Q d_Mo_workWhole_123 ⟨_, rfl, K⟩
      · have K := K.2 c0
        refine r_iconst (v := 1) C (by decide) d_Mo_workWhole_106 ?_
        refine r_goto C 111 d_Mo_workWhole_107 (by decide) ?_
        obtain ⟨s0, K⟩ := K
        refine r_zast C rfl s0 d_Mo_workWhole_111 ?_
        refine r_aload_n C 0 rfl d_Mo_workWhole_112 ?_
        refine r_iconst (v := 5) C (by decide) d_Mo_workWhole_113 ?_
        refine r_lconst (v := 1) C (by decide) d_Mo_workWhole_114 ?_
        refine r_callV (As := [.int 5, .long 1]) (st := []) (lvc := 1) (mcc := 0) (msc := 0) C Rm M_Mo_setLong rfl k_1106 rfl (by decide) (Nat.le_of_ble_eq_true rfl) ⟨by decide, by decide⟩ d_Mo_workWhole_115 ?_
        refine Can.mono K (fun _ h6 z => ?_)
        obtain ⟨rfl, K⟩ := z
        show Wg X 0 0 h6 [(0, .ref 0), (1, .int v1), (2, .int v2), (3, .int v3), (4, .int v4)] [] 118
        refine r_aload_n C 0 rfl d_Mo_workWhole_118 ?_
        refine r_iload_n C 1 rfl d_Mo_workWhole_119 ?_
        refine r_callV (As := [.int v1]) (st := []) (lvc := 4) (mcc := 0) (msc := 0) C Rm M_Mo_finish rfl k_1116 rfl (by decide) (Nat.le_of_ble_eq_true rfl) ⟨by decide, by decide⟩ d_Mo_workWhole_120 ?_
        refine Can.mono K (fun _ h7 z => ?_)
        obtain ⟨r7, rfl, K⟩ := z
        show Wg X 0 0 h7 [(0, .ref 0), (1, .int v1), (2, .int v2), (3, .int v3), (4, .int v4)] [.int r7] 123
        exact q_iret C Q d_Mo_workWhole_123 ⟨_, rfl, K⟩
    · have K := K.2 c0
      refine r_iload_n C 3 rfl d_Mo_workWhole_93 ?_
      refine r_iload C 4 rfl d_Mo_workWhole_94 ?_
      refine r_icmp_eq C 110 d_Mo_workWhole_96 (by decide) ⟨fun c0 => ?_, fun c0 => ?_⟩
      · have K := K.1 c0
        refine r_iconst (v := 0) C (by decide) d_Mo_workWhole_110 ?_
        obtain ⟨s0, K⟩ := K
        refine r_zast C rfl s0 d_Mo_workWhole_111 ?_
        refine r_aload_n C 0 rfl d_Mo_workWhole_112 ?_
        refine r_iconst (v := 5) C (by decide) d_Mo_workWhole_113 ?_
        refine r_lconst (v := 1) C (by decide) d_Mo_workWhole_114 ?_
        refine r_callV (As := [.int 5, .long 1]) (st := []) (lvc := 1) (mcc := 0) (msc := 0) C Rm M_Mo_setLong rfl k_1106 rfl (by decide) (Nat.le_of_ble_eq_true rfl) ⟨by decide, by decide⟩ d_Mo_workWhole_115 ?_
        refine Can.mono K (fun _ h8 z => ?_)
        obtain ⟨rfl, K⟩ := z
        show Wg X 0 0 h8 [(0, .ref 0), (1, .int v1), (2, .int v2), (3, .int v3), (4, .int v4)] [] 118
        refine r_aload_n C 0 rfl d_Mo_workWhole_118 ?_
        refine r_iload_n C 1 rfl d_Mo_workWhole_119 ?_
        refine r_callV (As := [.int v1]) (st := []) (lvc := 4) (mcc := 0) (msc := 0) C Rm M_Mo_finish rfl k_1116 rfl (by decide) (Nat.le_of_ble_eq_true rfl) ⟨by decide, by decide⟩ d_Mo_workWhole_120 ?_
        refine Can.mono K (fun _ h9 z => ?_)
        obtain ⟨r9, rfl, K⟩ := z
        show Wg X 0 0 h9 [(0, .ref 0), (1, .int v1), (2, .int v2), (3, .int v3), (4, .int v4)] [.int r9] 123
        exact q_iret C Q d_Mo_workWhole_123 ⟨_, rfl, K⟩
      · have K := K.2 c0
        refine r_goto C 106 d_Mo_workWhole_99 (by decide) ?_
        refine r_iconst (v := 1) C (by decide) d_Mo_workWhole_106 ?_
        refine r_goto C 111 d_Mo_workWhole_107 (by decide) ?_
        obtain ⟨s0, K⟩ := K
        refine r_zast C rfl s0 d_Mo_workWhole_111 ?_
        refine r_aload_n C 0 rfl d_Mo_workWhole_112 ?_
        refine r_iconst (v := 5) C (by decide) d_Mo_workWhole_113 ?_
        refine r_lconst (v := 1) C (by decide) d_Mo_workWhole_114 ?_
        refine r_callV (As := [.int 5, .long 1]) (st := []) (lvc := 1) (mcc := 0) (msc := 0) C Rm M_Mo_setLong rfl k_1106 rfl (by decide) (Nat.le_of_ble_eq_true rfl) ⟨by decide, by decide⟩ d_Mo_workWhole_115 ?_
        refine Can.mono K (fun _ h10 z => ?_)
        obtain ⟨rfl, K⟩ := z
        show Wg X 0 0 h10 [(0, .ref 0), (1, .int v1), (2, .int v2), (3, .int v3), (4, .int v4)] [] 118
        refine r_aload_n C 0 rfl d_Mo_workWhole_118 ?_
        refine r_iload_n C 1 rfl d_Mo_workWhole_119 ?_
        refine r_callV (As := [.int v1]) (st := []) (lvc := 4) (mcc := 0) (msc := 0) C Rm M_Mo_finish rfl k_1116 rfl (by decide) (Nat.le_of_ble_eq_true rfl) ⟨by decide, by decide⟩ d_Mo_workWhole_120 ?_
        refine Can.mono K (fun _ h11 z => ?_)
        obtain ⟨r11, rfl, K⟩ := z
        show Wg X 0 0 h11 [(0, .ref 0), (1, .int v1), (2, .int v2), (3, .int v3), (4, .int v4)] [.int r11] 123
        exact q_iret C Q d_Mo_workWhole_123 ⟨_, rfl, K⟩
set_option maxRecDepth 20000 in
theorem g_Mo_work_0 {X : CX} {h : HP} {v1 : Int32} {v2 : Int32} {v3 : Int32} {v4 : Int32} {Φ : Int32 → HP → Prop} (C : Cok X b_Mo_work 5 R_Mo ((some .int))) (Rm : xR X = rml 6 0 0) (Q : Qok X 0 0 (fun r h2 => ∃ v, r = some (.int v) ∧ Φ v h2)) 
    (K : K_Mo_isRegister [.int v1] h (fun r1 h1 => (r1 = 0 → Wg X 0 0 h1 [(0, .ref 0), (1, .int v1), (2, .int v2), (3, .int v3), (4, .int v4)] [.int 1, .ref 0] 39) ∧ (¬ r1 = 0 → K_Mo_isRegister [.int v2] h1 (fun r2 h2 => (r2 = 0 → Wg X 0 0 h2 [(0, .ref 0), (1, .int v1), (2, .int v2), (3, .int v3), (4, .int v4)] [.int 1, .ref 0] 39) ∧ (¬ r2 = 0 → K_Mo_isRegister [.int v3] h2 (fun r3 h3 => (r3 = 0 → Wg X 0 0 h3 [(0, .ref 0), (1, .int v1), (2, .int v2), (3, .int v3), (4, .int v4)] [.int 1, .ref 0] 39) ∧ (¬ r3 = 0 → (v4 < 0 → Wg X 0 0 h3 [(0, .ref 0), (1, .int v1), (2, .int v2), (3, .int v3), (4, .int v4)] [.int 1, .ref 0] 39) ∧ (¬ v4 < 0 → ((6 : Int32) < v4 → Wg X 0 0 h3 [(0, .ref 0), (1, .int v1), (2, .int v2), (3, .int v3), (4, .int v4)] [.int 1, .ref 0] 39) ∧ (¬ (6 : Int32) < v4 → Wg X 0 0 h3 [(0, .ref 0), (1, .int v1), (2, .int v2), (3, .int v3), (4, .int v4)] [.int 0, .ref 0] 39))))))))) :
    Wg X 0 0 h [(0, .ref 0), (1, .int v1), (2, .int v2), (3, .int v3), (4, .int v4)] [] 0 := by
  refine r_aload_n C 0 rfl d_Mo_work_0 ?_
  refine r_iload_n C 1 rfl d_Mo_work_1 ?_
  refine r_callS (As := [.int v1]) (st := [.ref 0]) (lvc := 0) (mcc := 0) (msc := 0) C Rm M_Mo_isRegister rfl k_1091 (by decide) (Nat.le_of_ble_eq_true rfl) ⟨by decide, by decide⟩ d_Mo_work_2 ?_
  refine Can.mono K (fun _ h1 z => ?_)
  obtain ⟨r1, rfl, K⟩ := z
  show Wg X 0 0 h1 [(0, .ref 0), (1, .int v1), (2, .int v2), (3, .int v3), (4, .int v4)] [.int r1, .ref 0] 5
  refine r_if_eq C 38 d_Mo_work_5 (by decide) ⟨fun c0 => ?_, fun c0 => ?_⟩
  · have K := K.1 c0
    refine r_iconst (v := 1) C (by decide) d_Mo_work_38 ?_
    exact K
  · have K := K.2 c0
    refine r_iload_n C 2 rfl d_Mo_work_8 ?_
    refine r_callS (As := [.int v2]) (st := [.ref 0]) (lvc := 0) (mcc := 0) (msc := 0) C Rm M_Mo_isRegister rfl k_1091 (by decide) (Nat.le_of_ble_eq_true rfl) ⟨by decide, by decide⟩ d_Mo_work_9 ?_
    refine Can.mono K (fun _ h2 z => ?_)
    obtain ⟨r2, rfl, K⟩ := z
    show Wg X 0 0 h2 [(0, .ref 0), (1, .int v1), (2, .int v2), (3, .int v3), (4, .int v4)] [.int r2, .ref 0] 12
    refine r_if_eq C 38 d_Mo_work_12 (by decide) ⟨fun c0 => ?_, fun c0 => ?_⟩
    · have K := K.1 c0
      refine r_iconst (v := 1) C (by decide) d_Mo_work_38 ?_
      exact K
    · have K := K.2 c0
      refine r_iload_n C 3 rfl d_Mo_work_15 ?_
      refine r_callS (As := [.int v3]) (st := [.ref 0]) (lvc := 0) (mcc := 0) (msc := 0) C Rm M_Mo_isRegister rfl k_1091 (by decide) (Nat.le_of_ble_eq_true rfl) ⟨by decide, by decide⟩ d_Mo_work_16 ?_
      refine Can.mono K (fun _ h3 z => ?_)
      obtain ⟨r3, rfl, K⟩ := z
      show Wg X 0 0 h3 [(0, .ref 0), (1, .int v1), (2, .int v2), (3, .int v3), (4, .int v4)] [.int r3, .ref 0] 19
      refine r_if_eq C 38 d_Mo_work_19 (by decide) ⟨fun c0 => ?_, fun c0 => ?_⟩
      · have K := K.1 c0
        refine r_iconst (v := 1) C (by decide) d_Mo_work_38 ?_
        exact K
      · have K := K.2 c0
        refine r_iload C 4 rfl d_Mo_work_22 ?_
        refine r_if_lt C 38 d_Mo_work_24 (by decide) ⟨fun c0 => ?_, fun c0 => ?_⟩
        · have K := K.1 c0
          refine r_iconst (v := 1) C (by decide) d_Mo_work_38 ?_
          exact K
        · have K := K.2 c0
          refine r_iload C 4 rfl d_Mo_work_27 ?_
          refine r_bipush (v := 6) C (by decide) d_Mo_work_29 ?_
          refine r_icmp_gt C 38 d_Mo_work_31 (by decide) ⟨fun c0 => ?_, fun c0 => ?_⟩
          · have K := K.1 c0
            refine r_iconst (v := 1) C (by decide) d_Mo_work_38 ?_
            exact K
          · have K := K.2 c0
            refine r_iconst (v := 0) C (by decide) d_Mo_work_34 ?_
            refine r_goto C 39 d_Mo_work_35 (by decide) ?_
            exact K
set_option maxRecDepth 20000 in
theorem g_Mo_work_39 {X : CX} {h : HP} {v1 : Int32} {v2 : Int32} {v3 : Int32} {v4 : Int32} {t1 : Int32} {Φ : Int32 → HP → Prop} (C : Cok X b_Mo_work 5 R_Mo ((some .int))) (Rm : xR X = rml 6 0 0) (Q : Qok X 0 0 (fun r h2 => ∃ v, r = some (.int v) ∧ Φ v h2)) 
    (K : K_Mo_refused [.ref 0, .int t1] h (fun r1 h1 => (r1 = 0 → K_Mo_isNumber [.ref 0, .int v2] h1 (fun r2 h2 => (r2 = 0 → Φ ((-4)) h2) ∧ (¬ r2 = 0 → K_Mo_isNumber [.ref 0, .int v3] h2 (fun r3 h3 => (r3 = 0 → Φ ((-4)) h3) ∧ (¬ r3 = 0 → (v4 ≤ (3 : Int32) → Wg X 0 0 h3 [(0, .ref 0), (1, .int v1), (2, .int v2), (3, .int v3), (4, .int v4)] [] 90) ∧ (¬ v4 ≤ (3 : Int32) → K_Mo_sortOf [.ref 0, .int v2] h3 (fun r4 h4 => (r4 = (3 : Int32) → Φ ((-4)) h4) ∧ (¬ r4 = (3 : Int32) → K_Mo_sortOf [.ref 0, .int v3] h4 (fun r5 h5 => (¬ r5 = (3 : Int32) → Wg X 0 0 h5 [(0, .ref 0), (1, .int v1), (2, .int v2), (3, .int v3), (4, .int v4)] [] 90) ∧ (r5 = (3 : Int32) → Φ ((-4)) h5)))))))))) ∧ (¬ r1 = 0 → Φ 0 h1))) :
    Wg X 0 0 h [(0, .ref 0), (1, .int v1), (2, .int v2), (3, .int v3), (4, .int v4)] [.int t1, .ref 0] 39 := by
  refine r_callV (As := [.int t1]) (st := []) (lvc := 0) (mcc := 0) (msc := 0) C Rm M_Mo_refused rfl k_1094 rfl (by decide) (Nat.le_of_ble_eq_true rfl) ⟨by decide, by decide⟩ d_Mo_work_39 ?_
  refine Can.mono K (fun _ h1 z => ?_)
  obtain ⟨r1, rfl, K⟩ := z
  show Wg X 0 0 h1 [(0, .ref 0), (1, .int v1), (2, .int v2), (3, .int v3), (4, .int v4)] [.int r1] 42
  refine r_if_eq C 47 d_Mo_work_42 (by decide) ⟨fun c0 => ?_, fun c0 => ?_⟩
  · have K := K.1 c0
    refine r_aload_n C 0 rfl d_Mo_work_47 ?_
    refine r_iload_n C 2 rfl d_Mo_work_48 ?_
    refine r_callV (As := [.int v2]) (st := []) (lvc := 1) (mcc := 0) (msc := 0) C Rm M_Mo_isNumber rfl k_1199 rfl (by decide) (Nat.le_of_ble_eq_true rfl) ⟨by decide, by decide⟩ d_Mo_work_49 ?_
    refine Can.mono K (fun _ h2 z => ?_)
    obtain ⟨r2, rfl, K⟩ := z
    show Wg X 0 0 h2 [(0, .ref 0), (1, .int v1), (2, .int v2), (3, .int v3), (4, .int v4)] [.int r2] 52
    refine r_if_eq C 87 d_Mo_work_52 (by decide) ⟨fun c0 => ?_, fun c0 => ?_⟩
    · have K := K.1 c0
      refine r_bipush (v := (-4)) C (by decide) d_Mo_work_87 ?_
      exact q_iret C Q d_Mo_work_89 ⟨_, rfl, K⟩
    · have K := K.2 c0
      refine r_aload_n C 0 rfl d_Mo_work_55 ?_
      refine r_iload_n C 3 rfl d_Mo_work_56 ?_
      refine r_callV (As := [.int v3]) (st := []) (lvc := 1) (mcc := 0) (msc := 0) C Rm M_Mo_isNumber rfl k_1199 rfl (by decide) (Nat.le_of_ble_eq_true rfl) ⟨by decide, by decide⟩ d_Mo_work_57 ?_
      refine Can.mono K (fun _ h3 z => ?_)
      obtain ⟨r3, rfl, K⟩ := z
      show Wg X 0 0 h3 [(0, .ref 0), (1, .int v1), (2, .int v2), (3, .int v3), (4, .int v4)] [.int r3] 60
      refine r_if_eq C 87 d_Mo_work_60 (by decide) ⟨fun c0 => ?_, fun c0 => ?_⟩
      · have K := K.1 c0
        refine r_bipush (v := (-4)) C (by decide) d_Mo_work_87 ?_
        exact q_iret C Q d_Mo_work_89 ⟨_, rfl, K⟩
      · have K := K.2 c0
        refine r_iload C 4 rfl d_Mo_work_63 ?_
        refine r_iconst (v := 3) C (by decide) d_Mo_work_65 ?_
        refine r_icmp_le C 90 d_Mo_work_66 (by decide) ⟨fun c0 => ?_, fun c0 => ?_⟩
        · have K := K.1 c0
          exact K
        · have K := K.2 c0
          refine r_aload_n C 0 rfl d_Mo_work_69 ?_
          refine r_iload_n C 2 rfl d_Mo_work_70 ?_
          refine r_callV (As := [.int v2]) (st := []) (lvc := 0) (mcc := 0) (msc := 0) C Rm M_Mo_sortOf rfl k_1187 rfl (by decide) (Nat.le_of_ble_eq_true rfl) ⟨by decide, by decide⟩ d_Mo_work_71 ?_
          refine Can.mono K (fun _ h4 z => ?_)
          obtain ⟨r4, rfl, K⟩ := z
          show Wg X 0 0 h4 [(0, .ref 0), (1, .int v1), (2, .int v2), (3, .int v3), (4, .int v4)] [.int r4] 74
          refine r_iconst (v := 3) C (by decide) d_Mo_work_74 ?_
          refine r_icmp_eq C 87 d_Mo_work_75 (by decide) ⟨fun c0 => ?_, fun c0 => ?_⟩
          · have K := K.1 c0
            refine r_bipush (v := (-4)) C (by decide) d_Mo_work_87 ?_
            exact q_iret C Q d_Mo_work_89 ⟨_, rfl, K⟩
          · have K := K.2 c0
            refine r_aload_n C 0 rfl d_Mo_work_78 ?_
            refine r_iload_n C 3 rfl d_Mo_work_79 ?_
            refine r_callV (As := [.int v3]) (st := []) (lvc := 0) (mcc := 0) (msc := 0) C Rm M_Mo_sortOf rfl k_1187 rfl (by decide) (Nat.le_of_ble_eq_true rfl) ⟨by decide, by decide⟩ d_Mo_work_80 ?_
            refine Can.mono K (fun _ h5 z => ?_)
            obtain ⟨r5, rfl, K⟩ := z
            show Wg X 0 0 h5 [(0, .ref 0), (1, .int v1), (2, .int v2), (3, .int v3), (4, .int v4)] [.int r5] 83
            refine r_iconst (v := 3) C (by decide) d_Mo_work_83 ?_
            refine r_icmp_ne C 90 d_Mo_work_84 (by decide) ⟨fun c0 => ?_, fun c0 => ?_⟩
            · have K := K.1 c0
              exact K
            · have K := K.2 c0
              refine r_bipush (v := (-4)) C (by decide) d_Mo_work_87 ?_
              exact q_iret C Q d_Mo_work_89 ⟨_, rfl, K⟩
  · have K := K.2 c0
    refine r_iconst (v := 0) C (by decide) d_Mo_work_45 ?_
    exact q_iret C Q d_Mo_work_46 ⟨_, rfl, K⟩
set_option maxRecDepth 20000 in
theorem g_Mo_work_90 {X : CX} {h : HP} {v1 : Int32} {v2 : Int32} {v3 : Int32} {v4 : Int32} {Φ : Int32 → HP → Prop} (C : Cok X b_Mo_work 5 R_Mo ((some .int))) (Rm : xR X = rml 6 0 0) (Q : Qok X 0 0 (fun r h2 => ∃ v, r = some (.int v) ∧ Φ v h2)) 
    (K : K_Mo_take [.ref 0, .int 0, .int 1, .int v2] h (fun h1 => K_Mo_take [.ref 0, .int 2, .int 3, .int v3] h1 (fun h2 => (v4 ≤ (3 : Int32) → (¬ v4 = (3 : Int32) → Wg X 0 0 h2 [(0, .ref 0), (1, .int v1), (2, .int v2), (3, .int v3), (4, .int v4)] [] 136) ∧ (v4 = (3 : Int32) → vp_in 2 218 ∧ ((¬ (h2 9 (2 : Int32).toNatClampNeg) = 0 → Wg X 0 0 h2 [(0, .ref 0), (1, .int v1), (2, .int v2), (3, .int v3), (4, .int v4)] [] 136) ∧ ((h2 9 (2 : Int32).toNatClampNeg) = 0 → Φ ((-5)) h2)))) ∧ (¬ v4 ≤ (3 : Int32) → K_Mo_workWhole [.ref 0, .int v1, .int v4] h2 (fun r3 h3 => Φ r3 h3))))) :
    Wg X 0 0 h [(0, .ref 0), (1, .int v1), (2, .int v2), (3, .int v3), (4, .int v4)] [] 90 := by
  refine r_aload_n C 0 rfl d_Mo_work_90 ?_
  refine r_iconst (v := 0) C (by decide) d_Mo_work_91 ?_
  refine r_iconst (v := 1) C (by decide) d_Mo_work_92 ?_
  refine r_iload_n C 2 rfl d_Mo_work_93 ?_
  refine r_callV (As := [.int 0, .int 1, .int v2]) (st := []) (lvc := 3) (mcc := 0) (msc := 0) C Rm M_Mo_take rfl k_1203 rfl (by decide) (Nat.le_of_ble_eq_true rfl) ⟨by decide, by decide⟩ d_Mo_work_94 ?_
  refine Can.mono K (fun _ h1 z => ?_)
  obtain ⟨rfl, K⟩ := z
  show Wg X 0 0 h1 [(0, .ref 0), (1, .int v1), (2, .int v2), (3, .int v3), (4, .int v4)] [] 97
  refine r_aload_n C 0 rfl d_Mo_work_97 ?_
  refine r_iconst (v := 2) C (by decide) d_Mo_work_98 ?_
  refine r_iconst (v := 3) C (by decide) d_Mo_work_99 ?_
  refine r_iload_n C 3 rfl d_Mo_work_100 ?_
  refine r_callV (As := [.int 2, .int 3, .int v3]) (st := []) (lvc := 3) (mcc := 0) (msc := 0) C Rm M_Mo_take rfl k_1203 rfl (by decide) (Nat.le_of_ble_eq_true rfl) ⟨by decide, by decide⟩ d_Mo_work_101 ?_
  refine Can.mono K (fun _ h2 z => ?_)
  obtain ⟨rfl, K⟩ := z
  show Wg X 0 0 h2 [(0, .ref 0), (1, .int v1), (2, .int v2), (3, .int v3), (4, .int v4)] [] 104
  refine r_iload C 4 rfl d_Mo_work_104 ?_
  refine r_iconst (v := 3) C (by decide) d_Mo_work_106 ?_
  refine r_icmp_le C 118 d_Mo_work_107 (by decide) ⟨fun c0 => ?_, fun c0 => ?_⟩
  · have K := K.1 c0
    refine r_iload C 4 rfl d_Mo_work_118 ?_
    refine r_iconst (v := 3) C (by decide) d_Mo_work_120 ?_
    refine r_icmp_ne C 136 d_Mo_work_121 (by decide) ⟨fun c0 => ?_, fun c0 => ?_⟩
    · have K := K.1 c0
      exact K
    · have K := K.2 c0
      refine r_aload_n C 0 rfl d_Mo_work_124 ?_
      refine gf_Mo_length (k2 := 9) C rfl rfl k_1031 d_Mo_work_125 ?_
      refine r_iconst (v := 2) C (by decide) d_Mo_work_128 ?_
      obtain ⟨s0, K⟩ := K
      refine r_iald C rfl s0 d_Mo_work_129 ?_
      refine r_if_ne C 136 d_Mo_work_130 (by decide) ⟨fun c0 => ?_, fun c0 => ?_⟩
      · have K := K.1 c0
        exact K
      · have K := K.2 c0
        refine r_bipush (v := (-5)) C (by decide) d_Mo_work_133 ?_
        exact q_iret C Q d_Mo_work_135 ⟨_, rfl, K⟩
  · have K := K.2 c0
    refine r_aload_n C 0 rfl d_Mo_work_110 ?_
    refine r_iload_n C 1 rfl d_Mo_work_111 ?_
    refine r_iload C 4 rfl d_Mo_work_112 ?_
    refine r_callV (As := [.int v1, .int v4]) (st := []) (lvc := 5) (mcc := 0) (msc := 0) C Rm M_Mo_workWhole rfl k_1211 rfl (by decide) (Nat.le_of_ble_eq_true rfl) ⟨by decide, by decide⟩ d_Mo_work_114 ?_
    refine Can.mono K (fun _ h3 z => ?_)
    obtain ⟨r3, rfl, K⟩ := z
    show Wg X 0 0 h3 [(0, .ref 0), (1, .int v1), (2, .int v2), (3, .int v3), (4, .int v4)] [.int r3] 117
    exact q_iret C Q d_Mo_work_117 ⟨_, rfl, K⟩
set_option maxRecDepth 20000 in
theorem g_Mo_work_136 {X : CX} {h : HP} {v1 : Int32} {v2 : Int32} {v3 : Int32} {v4 : Int32} {Φ : Int32 → HP → Prop} (C : Cok X b_Mo_work 5 R_Mo ((some .int))) (Rm : xR X = rml 6 0 0) (Q : Qok X 0 0 (fun r h2 => ∃ v, r = some (.int v) ∧ Φ v h2)) 
    (K : ((2 : Int32) ≤ v4 → (¬ v4 = (2 : Int32) → Wg X 0 0 h [(0, .ref 0), (1, .int v1), (2, .int v2), (3, .int v3), (4, .int v4)] [.int 3, .int 0, .int 4, .ref 0] 202) ∧ (v4 = (2 : Int32) → Wg X 0 0 h [(0, .ref 0), (1, .int v1), (2, .int v2), (3, .int v3), (4, .int v4)] [.int 2, .int 0, .int 4, .ref 0] 202)) ∧ (¬ (2 : Int32) ≤ v4 → K_Mo_product [.ref 0, .int 6, .int 0, .int 3] h (fun h1 => K_Mo_product [.ref 0, .int 7, .int 2, .int 1] h1 (fun h2 => (¬ v4 = (1 : Int32) → K_Mo_sum [.ref 0, .int 4, .int 6, .int 7, .int 0] h2 (fun h3 => K_Mo_product [.ref 0, .int 5, .int 1, .int 3] h3 (fun h4 => K_Mo_reduce [.ref 0] h4 (fun h5 => K_Mo_finish [.ref 0, .int v1] h5 (fun r6 h6 => Φ r6 h6))))) ∧ (v4 = (1 : Int32) → K_Mo_sum [.ref 0, .int 4, .int 6, .int 7, .int 1] h2 (fun h7 => K_Mo_product [.ref 0, .int 5, .int 1, .int 3] h7 (fun h8 => K_Mo_reduce [.ref 0] h8 (fun h9 => K_Mo_finish [.ref 0, .int v1] h9 (fun r10 h10 => Φ r10 h10))))))))) :
    Wg X 0 0 h [(0, .ref 0), (1, .int v1), (2, .int v2), (3, .int v3), (4, .int v4)] [] 136 := by
  refine r_iload C 4 rfl d_Mo_work_136 ?_
  refine r_iconst (v := 2) C (by decide) d_Mo_work_138 ?_
  refine r_icmp_ge C 188 d_Mo_work_139 (by decide) ⟨fun c0 => ?_, fun c0 => ?_⟩
  · have K := K.1 c0
    refine r_aload_n C 0 rfl d_Mo_work_188 ?_
    refine r_iconst (v := 4) C (by decide) d_Mo_work_189 ?_
    refine r_iconst (v := 0) C (by decide) d_Mo_work_190 ?_
    refine r_iload C 4 rfl d_Mo_work_191 ?_
    refine r_iconst (v := 2) C (by decide) d_Mo_work_193 ?_
    refine r_icmp_ne C 201 d_Mo_work_194 (by decide) ⟨fun c0 => ?_, fun c0 => ?_⟩
    · have K := K.1 c0
      refine r_iconst (v := 3) C (by decide) d_Mo_work_201 ?_
      exact K
    · have K := K.2 c0
      refine r_iconst (v := 2) C (by decide) d_Mo_work_197 ?_
      refine r_goto C 202 d_Mo_work_198 (by decide) ?_
      exact K
  · have K := K.2 c0
    refine r_aload_n C 0 rfl d_Mo_work_142 ?_
    refine r_bipush (v := 6) C (by decide) d_Mo_work_143 ?_
    refine r_iconst (v := 0) C (by decide) d_Mo_work_145 ?_
    refine r_iconst (v := 3) C (by decide) d_Mo_work_146 ?_
    refine r_callV (As := [.int 6, .int 0, .int 3]) (st := []) (lvc := 1) (mcc := 0) (msc := 0) C Rm M_Mo_product rfl k_1247 rfl (by decide) (Nat.le_of_ble_eq_true rfl) ⟨by decide, by decide⟩ d_Mo_work_147 ?_
    refine Can.mono K (fun _ h1 z => ?_)
    obtain ⟨rfl, K⟩ := z
    show Wg X 0 0 h1 [(0, .ref 0), (1, .int v1), (2, .int v2), (3, .int v3), (4, .int v4)] [] 150
    refine r_aload_n C 0 rfl d_Mo_work_150 ?_
    refine r_bipush (v := 7) C (by decide) d_Mo_work_151 ?_
    refine r_iconst (v := 2) C (by decide) d_Mo_work_153 ?_
    refine r_iconst (v := 1) C (by decide) d_Mo_work_154 ?_
    refine r_callV (As := [.int 7, .int 2, .int 1]) (st := []) (lvc := 1) (mcc := 0) (msc := 0) C Rm M_Mo_product rfl k_1247 rfl (by decide) (Nat.le_of_ble_eq_true rfl) ⟨by decide, by decide⟩ d_Mo_work_155 ?_
    refine Can.mono K (fun _ h2 z => ?_)
    obtain ⟨rfl, K⟩ := z
    show Wg X 0 0 h2 [(0, .ref 0), (1, .int v1), (2, .int v2), (3, .int v3), (4, .int v4)] [] 158
    refine r_aload_n C 0 rfl d_Mo_work_158 ?_
    refine r_iconst (v := 4) C (by decide) d_Mo_work_159 ?_
    refine r_bipush (v := 6) C (by decide) d_Mo_work_160 ?_
    refine r_bipush (v := 7) C (by decide) d_Mo_work_162 ?_
    refine r_iload C 4 rfl d_Mo_work_164 ?_
    refine r_iconst (v := 1) C (by decide) d_Mo_work_166 ?_
    refine r_icmp_ne C 174 d_Mo_work_167 (by decide) ⟨fun c0 => ?_, fun c0 => ?_⟩
    · have K := K.1 c0
      refine r_iconst (v := 0) C (by decide) d_Mo_work_174 ?_
      refine r_callV (As := [.int 4, .int 6, .int 7, .int 0]) (st := []) (lvc := 2) (mcc := 0) (msc := 0) C Rm M_Mo_sum rfl k_1251 rfl (by decide) (Nat.le_of_ble_eq_true rfl) ⟨by decide, by decide⟩ d_Mo_work_175 ?_
      refine Can.mono K (fun _ h3 z => ?_)
      obtain ⟨rfl, K⟩ := z
      show Wg X 0 0 h3 [(0, .ref 0), (1, .int v1), (2, .int v2), (3, .int v3), (4, .int v4)] [] 178
      refine r_aload_n C 0 rfl d_Mo_work_178 ?_
      refine r_iconst (v := 5) C (by decide) d_Mo_work_179 ?_
      refine r_iconst (v := 1) C (by decide) d_Mo_work_180 ?_
      refine r_iconst (v := 3) C (by decide) d_Mo_work_181 ?_
      refine r_callV (As := [.int 5, .int 1, .int 3]) (st := []) (lvc := 1) (mcc := 0) (msc := 0) C Rm M_Mo_product rfl k_1247 rfl (by decide) (Nat.le_of_ble_eq_true rfl) ⟨by decide, by decide⟩ d_Mo_work_182 ?_
      refine Can.mono K (fun _ h4 z => ?_)
      obtain ⟨rfl, K⟩ := z
      show Wg X 0 0 h4 [(0, .ref 0), (1, .int v1), (2, .int v2), (3, .int v3), (4, .int v4)] [] 185
      refine r_goto C 222 d_Mo_work_185 (by decide) ?_
      refine r_aload_n C 0 rfl d_Mo_work_222 ?_
      refine r_callV (As := []) (st := []) (lvc := 3) (mcc := 0) (msc := 0) C Rm M_Mo_reduce rfl k_1255 rfl (by decide) (Nat.le_of_ble_eq_true rfl) ⟨by decide, by decide⟩ d_Mo_work_223 ?_
      refine Can.mono K (fun _ h5 z => ?_)
      obtain ⟨rfl, K⟩ := z
      show Wg X 0 0 h5 [(0, .ref 0), (1, .int v1), (2, .int v2), (3, .int v3), (4, .int v4)] [] 226
      refine r_aload_n C 0 rfl d_Mo_work_226 ?_
      refine r_iload_n C 1 rfl d_Mo_work_227 ?_
      refine r_callV (As := [.int v1]) (st := []) (lvc := 4) (mcc := 0) (msc := 0) C Rm M_Mo_finish rfl k_1116 rfl (by decide) (Nat.le_of_ble_eq_true rfl) ⟨by decide, by decide⟩ d_Mo_work_228 ?_
      refine Can.mono K (fun _ h6 z => ?_)
      obtain ⟨r6, rfl, K⟩ := z
      show Wg X 0 0 h6 [(0, .ref 0), (1, .int v1), (2, .int v2), (3, .int v3), (4, .int v4)] [.int r6] 231
      exact q_iret C Q d_Mo_work_231 ⟨_, rfl, K⟩
    · have K := K.2 c0
      refine r_iconst (v := 1) C (by decide) d_Mo_work_170 ?_
      refine r_goto C 175 d_Mo_work_171 (by decide) ?_
      refine r_callV (As := [.int 4, .int 6, .int 7, .int 1]) (st := []) (lvc := 2) (mcc := 0) (msc := 0) C Rm M_Mo_sum rfl k_1251 rfl (by decide) (Nat.le_of_ble_eq_true rfl) ⟨by decide, by decide⟩ d_Mo_work_175 ?_
      refine Can.mono K (fun _ h7 z => ?_)
      obtain ⟨rfl, K⟩ := z
      show Wg X 0 0 h7 [(0, .ref 0), (1, .int v1), (2, .int v2), (3, .int v3), (4, .int v4)] [] 178
      refine r_aload_n C 0 rfl d_Mo_work_178 ?_
      refine r_iconst (v := 5) C (by decide) d_Mo_work_179 ?_
      refine r_iconst (v := 1) C (by decide) d_Mo_work_180 ?_
      refine r_iconst (v := 3) C (by decide) d_Mo_work_181 ?_
      refine r_callV (As := [.int 5, .int 1, .int 3]) (st := []) (lvc := 1) (mcc := 0) (msc := 0) C Rm M_Mo_product rfl k_1247 rfl (by decide) (Nat.le_of_ble_eq_true rfl) ⟨by decide, by decide⟩ d_Mo_work_182 ?_
      refine Can.mono K (fun _ h8 z => ?_)
      obtain ⟨rfl, K⟩ := z
      show Wg X 0 0 h8 [(0, .ref 0), (1, .int v1), (2, .int v2), (3, .int v3), (4, .int v4)] [] 185
      refine r_goto C 222 d_Mo_work_185 (by decide) ?_
      refine r_aload_n C 0 rfl d_Mo_work_222 ?_
      refine r_callV (As := []) (st := []) (lvc := 3) (mcc := 0) (msc := 0) C Rm M_Mo_reduce rfl k_1255 rfl (by decide) (Nat.le_of_ble_eq_true rfl) ⟨by decide, by decide⟩ d_Mo_work_223 ?_
      refine Can.mono K (fun _ h9 z => ?_)
      obtain ⟨rfl, K⟩ := z
      show Wg X 0 0 h9 [(0, .ref 0), (1, .int v1), (2, .int v2), (3, .int v3), (4, .int v4)] [] 226
      refine r_aload_n C 0 rfl d_Mo_work_226 ?_
      refine r_iload_n C 1 rfl d_Mo_work_227 ?_
      refine r_callV (As := [.int v1]) (st := []) (lvc := 4) (mcc := 0) (msc := 0) C Rm M_Mo_finish rfl k_1116 rfl (by decide) (Nat.le_of_ble_eq_true rfl) ⟨by decide, by decide⟩ d_Mo_work_228 ?_
      refine Can.mono K (fun _ h10 z => ?_)
      obtain ⟨r10, rfl, K⟩ := z
      show Wg X 0 0 h10 [(0, .ref 0), (1, .int v1), (2, .int v2), (3, .int v3), (4, .int v4)] [.int r10] 231
      exact q_iret C Q d_Mo_work_231 ⟨_, rfl, K⟩
set_option maxRecDepth 20000 in
theorem g_Mo_work_202 {X : CX} {h : HP} {v1 : Int32} {v2 : Int32} {v3 : Int32} {v4 : Int32} {t3 : Int32} {t2 : Int32} {t1 : Int32} {Φ : Int32 → HP → Prop} (C : Cok X b_Mo_work 5 R_Mo ((some .int))) (Rm : xR X = rml 6 0 0) (Q : Qok X 0 0 (fun r h2 => ∃ v, r = some (.int v) ∧ Φ v h2)) 
    (K : K_Mo_product [.ref 0, .int t1, .int t2, .int t3] h (fun h1 => (¬ v4 = (2 : Int32) → K_Mo_product [.ref 0, .int 5, .int 1, .int 2] h1 (fun h2 => K_Mo_reduce [.ref 0] h2 (fun h3 => K_Mo_finish [.ref 0, .int v1] h3 (fun r4 h4 => Φ r4 h4)))) ∧ (v4 = (2 : Int32) → K_Mo_product [.ref 0, .int 5, .int 1, .int 3] h1 (fun h5 => K_Mo_reduce [.ref 0] h5 (fun h6 => K_Mo_finish [.ref 0, .int v1] h6 (fun r7 h7 => Φ r7 h7)))))) :
    Wg X 0 0 h [(0, .ref 0), (1, .int v1), (2, .int v2), (3, .int v3), (4, .int v4)] [.int t3, .int t2, .int t1, .ref 0] 202 := by
  refine r_callV (As := [.int t1, .int t2, .int t3]) (st := []) (lvc := 1) (mcc := 0) (msc := 0) C Rm M_Mo_product rfl k_1247 rfl (by decide) (Nat.le_of_ble_eq_true rfl) ⟨by decide, by decide⟩ d_Mo_work_202 ?_
  refine Can.mono K (fun _ h1 z => ?_)
  obtain ⟨rfl, K⟩ := z
  show Wg X 0 0 h1 [(0, .ref 0), (1, .int v1), (2, .int v2), (3, .int v3), (4, .int v4)] [] 205
  refine r_aload_n C 0 rfl d_Mo_work_205 ?_
  refine r_iconst (v := 5) C (by decide) d_Mo_work_206 ?_
  refine r_iconst (v := 1) C (by decide) d_Mo_work_207 ?_
  refine r_iload C 4 rfl d_Mo_work_208 ?_
  refine r_iconst (v := 2) C (by decide) d_Mo_work_210 ?_
  refine r_icmp_ne C 218 d_Mo_work_211 (by decide) ⟨fun c0 => ?_, fun c0 => ?_⟩
  · have K := K.1 c0
    refine r_iconst (v := 2) C (by decide) d_Mo_work_218 ?_
    refine r_callV (As := [.int 5, .int 1, .int 2]) (st := []) (lvc := 1) (mcc := 0) (msc := 0) C Rm M_Mo_product rfl k_1247 rfl (by decide) (Nat.le_of_ble_eq_true rfl) ⟨by decide, by decide⟩ d_Mo_work_219 ?_
    refine Can.mono K (fun _ h2 z => ?_)
    obtain ⟨rfl, K⟩ := z
    show Wg X 0 0 h2 [(0, .ref 0), (1, .int v1), (2, .int v2), (3, .int v3), (4, .int v4)] [] 222
    refine r_aload_n C 0 rfl d_Mo_work_222 ?_
    refine r_callV (As := []) (st := []) (lvc := 3) (mcc := 0) (msc := 0) C Rm M_Mo_reduce rfl k_1255 rfl (by decide) (Nat.le_of_ble_eq_true rfl) ⟨by decide, by decide⟩ d_Mo_work_223 ?_
    refine Can.mono K (fun _ h3 z => ?_)
    obtain ⟨rfl, K⟩ := z
    show Wg X 0 0 h3 [(0, .ref 0), (1, .int v1), (2, .int v2), (3, .int v3), (4, .int v4)] [] 226
    refine r_aload_n C 0 rfl d_Mo_work_226 ?_
    refine r_iload_n C 1 rfl d_Mo_work_227 ?_
    refine r_callV (As := [.int v1]) (st := []) (lvc := 4) (mcc := 0) (msc := 0) C Rm M_Mo_finish rfl k_1116 rfl (by decide) (Nat.le_of_ble_eq_true rfl) ⟨by decide, by decide⟩ d_Mo_work_228 ?_
    refine Can.mono K (fun _ h4 z => ?_)
    obtain ⟨r4, rfl, K⟩ := z
    show Wg X 0 0 h4 [(0, .ref 0), (1, .int v1), (2, .int v2), (3, .int v3), (4, .int v4)] [.int r4] 231
    exact q_iret C Q d_Mo_work_231 ⟨_, rfl, K⟩
  · have K := K.2 c0
    refine r_iconst (v := 3) C (by decide) d_Mo_work_214 ?_
    refine r_goto C 219 d_Mo_work_215 (by decide) ?_
    refine r_callV (As := [.int 5, .int 1, .int 3]) (st := []) (lvc := 1) (mcc := 0) (msc := 0) C Rm M_Mo_product rfl k_1247 rfl (by decide) (Nat.le_of_ble_eq_true rfl) ⟨by decide, by decide⟩ d_Mo_work_219 ?_
    refine Can.mono K (fun _ h5 z => ?_)
    obtain ⟨rfl, K⟩ := z
    show Wg X 0 0 h5 [(0, .ref 0), (1, .int v1), (2, .int v2), (3, .int v3), (4, .int v4)] [] 222
    refine r_aload_n C 0 rfl d_Mo_work_222 ?_
    refine r_callV (As := []) (st := []) (lvc := 3) (mcc := 0) (msc := 0) C Rm M_Mo_reduce rfl k_1255 rfl (by decide) (Nat.le_of_ble_eq_true rfl) ⟨by decide, by decide⟩ d_Mo_work_223 ?_
    refine Can.mono K (fun _ h6 z => ?_)
    obtain ⟨rfl, K⟩ := z
    show Wg X 0 0 h6 [(0, .ref 0), (1, .int v1), (2, .int v2), (3, .int v3), (4, .int v4)] [] 226
    refine r_aload_n C 0 rfl d_Mo_work_226 ?_
    refine r_iload_n C 1 rfl d_Mo_work_227 ?_
    refine r_callV (As := [.int v1]) (st := []) (lvc := 4) (mcc := 0) (msc := 0) C Rm M_Mo_finish rfl k_1116 rfl (by decide) (Nat.le_of_ble_eq_true rfl) ⟨by decide, by decide⟩ d_Mo_work_228 ?_
    refine Can.mono K (fun _ h7 z => ?_)
    obtain ⟨r7, rfl, K⟩ := z
    show Wg X 0 0 h7 [(0, .ref 0), (1, .int v1), (2, .int v2), (3, .int v3), (4, .int v4)] [.int r7] 231
    exact q_iret C Q d_Mo_work_231 ⟨_, rfl, K⟩
set_option maxRecDepth 20000 in
theorem g_Mo_compare_0 {X : CX} {h : HP} {v1 : Int32} {v2 : Int32} {Φ : Int32 → HP → Prop} (C : Cok X b_Mo_compare 3 R_Mo ((some .int))) (Rm : xR X = rml 4 0 0) (Q : Qok X 0 0 (fun r h2 => ∃ v, r = some (.int v) ∧ Φ v h2)) 
    (K : K_Mo_isRegister [.int v1] h (fun r1 h1 => (r1 = 0 → Wg X 0 0 h1 [(0, .ref 0), (1, .int v1), (2, .int v2)] [.int 1, .ref 0] 20) ∧ (¬ r1 = 0 → K_Mo_isRegister [.int v2] h1 (fun r2 h2 => (r2 = 0 → Wg X 0 0 h2 [(0, .ref 0), (1, .int v1), (2, .int v2)] [.int 1, .ref 0] 20) ∧ (¬ r2 = 0 → Wg X 0 0 h2 [(0, .ref 0), (1, .int v1), (2, .int v2)] [.int 0, .ref 0] 20))))) :
    Wg X 0 0 h [(0, .ref 0), (1, .int v1), (2, .int v2)] [] 0 := by
  refine r_aload_n C 0 rfl d_Mo_compare_0 ?_
  refine r_iload_n C 1 rfl d_Mo_compare_1 ?_
  refine r_callS (As := [.int v1]) (st := [.ref 0]) (lvc := 0) (mcc := 0) (msc := 0) C Rm M_Mo_isRegister rfl k_1091 (by decide) (Nat.le_of_ble_eq_true rfl) ⟨by decide, by decide⟩ d_Mo_compare_2 ?_
  refine Can.mono K (fun _ h1 z => ?_)
  obtain ⟨r1, rfl, K⟩ := z
  show Wg X 0 0 h1 [(0, .ref 0), (1, .int v1), (2, .int v2)] [.int r1, .ref 0] 5
  refine r_if_eq C 19 d_Mo_compare_5 (by decide) ⟨fun c0 => ?_, fun c0 => ?_⟩
  · have K := K.1 c0
    refine r_iconst (v := 1) C (by decide) d_Mo_compare_19 ?_
    exact K
  · have K := K.2 c0
    refine r_iload_n C 2 rfl d_Mo_compare_8 ?_
    refine r_callS (As := [.int v2]) (st := [.ref 0]) (lvc := 0) (mcc := 0) (msc := 0) C Rm M_Mo_isRegister rfl k_1091 (by decide) (Nat.le_of_ble_eq_true rfl) ⟨by decide, by decide⟩ d_Mo_compare_9 ?_
    refine Can.mono K (fun _ h2 z => ?_)
    obtain ⟨r2, rfl, K⟩ := z
    show Wg X 0 0 h2 [(0, .ref 0), (1, .int v1), (2, .int v2)] [.int r2, .ref 0] 12
    refine r_if_eq C 19 d_Mo_compare_12 (by decide) ⟨fun c0 => ?_, fun c0 => ?_⟩
    · have K := K.1 c0
      refine r_iconst (v := 1) C (by decide) d_Mo_compare_19 ?_
      exact K
    · have K := K.2 c0
      refine r_iconst (v := 0) C (by decide) d_Mo_compare_15 ?_
      refine r_goto C 20 d_Mo_compare_16 (by decide) ?_
      exact K
set_option maxRecDepth 20000 in
theorem g_Mo_compare_20 {X : CX} {h : HP} {v1 : Int32} {v2 : Int32} {t1 : Int32} {Φ : Int32 → HP → Prop} (C : Cok X b_Mo_compare 3 R_Mo ((some .int))) (Rm : xR X = rml 4 0 0) (Q : Qok X 0 0 (fun r h2 => ∃ v, r = some (.int v) ∧ Φ v h2)) 
    (K : K_Mo_refused [.ref 0, .int t1] h (fun r1 h1 => (r1 = 0 → K_Mo_isNumber [.ref 0, .int v1] h1 (fun r2 h2 => (r2 = 0 → Φ ((-4)) h2) ∧ (¬ r2 = 0 → K_Mo_isNumber [.ref 0, .int v2] h2 (fun r3 h3 => (¬ r3 = 0 → K_Mo_take [.ref 0, .int 0, .int 1, .int v1] h3 (fun h4 => K_Mo_take [.ref 0, .int 2, .int 3, .int v2] h4 (fun h5 => K_Mo_product [.ref 0, .int 6, .int 0, .int 3] h5 (fun h6 => K_Mo_product [.ref 0, .int 7, .int 2, .int 1] h6 (fun h7 => K_Mo_sum [.ref 0, .int 8, .int 6, .int 7, .int 1] h7 (fun h8 => vp_in 8 218 ∧ ((¬ (h8 9 (8 : Int32).toNatClampNeg) = 0 → vp_in 8 218 ∧ (((h8 10 (8 : Int32).toNatClampNeg) = 0 → Φ 1 h8) ∧ (¬ (h8 10 (8 : Int32).toNatClampNeg) = 0 → Φ ((-1)) h8))) ∧ ((h8 9 (8 : Int32).toNatClampNeg) = 0 → Φ 0 h8)))))))) ∧ (r3 = 0 → Φ ((-4)) h3))))) ∧ (¬ r1 = 0 → Φ 0 h1))) :
    Wg X 0 0 h [(0, .ref 0), (1, .int v1), (2, .int v2)] [.int t1, .ref 0] 20 := by
  refine r_callV (As := [.int t1]) (st := []) (lvc := 0) (mcc := 0) (msc := 0) C Rm M_Mo_refused rfl k_1094 rfl (by decide) (Nat.le_of_ble_eq_true rfl) ⟨by decide, by decide⟩ d_Mo_compare_20 ?_
  refine Can.mono K (fun _ h1 z => ?_)
  obtain ⟨r1, rfl, K⟩ := z
  show Wg X 0 0 h1 [(0, .ref 0), (1, .int v1), (2, .int v2)] [.int r1] 23
  refine r_if_eq C 28 d_Mo_compare_23 (by decide) ⟨fun c0 => ?_, fun c0 => ?_⟩
  · have K := K.1 c0
    refine r_aload_n C 0 rfl d_Mo_compare_28 ?_
    refine r_iload_n C 1 rfl d_Mo_compare_29 ?_
    refine r_callV (As := [.int v1]) (st := []) (lvc := 1) (mcc := 0) (msc := 0) C Rm M_Mo_isNumber rfl k_1199 rfl (by decide) (Nat.le_of_ble_eq_true rfl) ⟨by decide, by decide⟩ d_Mo_compare_30 ?_
    refine Can.mono K (fun _ h2 z => ?_)
    obtain ⟨r2, rfl, K⟩ := z
    show Wg X 0 0 h2 [(0, .ref 0), (1, .int v1), (2, .int v2)] [.int r2] 33
    refine r_if_eq C 44 d_Mo_compare_33 (by decide) ⟨fun c0 => ?_, fun c0 => ?_⟩
    · have K := K.1 c0
      refine r_bipush (v := (-4)) C (by decide) d_Mo_compare_44 ?_
      exact q_iret C Q d_Mo_compare_46 ⟨_, rfl, K⟩
    · have K := K.2 c0
      refine r_aload_n C 0 rfl d_Mo_compare_36 ?_
      refine r_iload_n C 2 rfl d_Mo_compare_37 ?_
      refine r_callV (As := [.int v2]) (st := []) (lvc := 1) (mcc := 0) (msc := 0) C Rm M_Mo_isNumber rfl k_1199 rfl (by decide) (Nat.le_of_ble_eq_true rfl) ⟨by decide, by decide⟩ d_Mo_compare_38 ?_
      refine Can.mono K (fun _ h3 z => ?_)
      obtain ⟨r3, rfl, K⟩ := z
      show Wg X 0 0 h3 [(0, .ref 0), (1, .int v1), (2, .int v2)] [.int r3] 41
      refine r_if_ne C 47 d_Mo_compare_41 (by decide) ⟨fun c0 => ?_, fun c0 => ?_⟩
      · have K := K.1 c0
        refine r_aload_n C 0 rfl d_Mo_compare_47 ?_
        refine r_iconst (v := 0) C (by decide) d_Mo_compare_48 ?_
        refine r_iconst (v := 1) C (by decide) d_Mo_compare_49 ?_
        refine r_iload_n C 1 rfl d_Mo_compare_50 ?_
        refine r_callV (As := [.int 0, .int 1, .int v1]) (st := []) (lvc := 3) (mcc := 0) (msc := 0) C Rm M_Mo_take rfl k_1203 rfl (by decide) (Nat.le_of_ble_eq_true rfl) ⟨by decide, by decide⟩ d_Mo_compare_51 ?_
        refine Can.mono K (fun _ h4 z => ?_)
        obtain ⟨rfl, K⟩ := z
        show Wg X 0 0 h4 [(0, .ref 0), (1, .int v1), (2, .int v2)] [] 54
        refine r_aload_n C 0 rfl d_Mo_compare_54 ?_
        refine r_iconst (v := 2) C (by decide) d_Mo_compare_55 ?_
        refine r_iconst (v := 3) C (by decide) d_Mo_compare_56 ?_
        refine r_iload_n C 2 rfl d_Mo_compare_57 ?_
        refine r_callV (As := [.int 2, .int 3, .int v2]) (st := []) (lvc := 3) (mcc := 0) (msc := 0) C Rm M_Mo_take rfl k_1203 rfl (by decide) (Nat.le_of_ble_eq_true rfl) ⟨by decide, by decide⟩ d_Mo_compare_58 ?_
        refine Can.mono K (fun _ h5 z => ?_)
        obtain ⟨rfl, K⟩ := z
        show Wg X 0 0 h5 [(0, .ref 0), (1, .int v1), (2, .int v2)] [] 61
        refine r_aload_n C 0 rfl d_Mo_compare_61 ?_
        refine r_bipush (v := 6) C (by decide) d_Mo_compare_62 ?_
        refine r_iconst (v := 0) C (by decide) d_Mo_compare_64 ?_
        refine r_iconst (v := 3) C (by decide) d_Mo_compare_65 ?_
        refine r_callV (As := [.int 6, .int 0, .int 3]) (st := []) (lvc := 1) (mcc := 0) (msc := 0) C Rm M_Mo_product rfl k_1247 rfl (by decide) (Nat.le_of_ble_eq_true rfl) ⟨by decide, by decide⟩ d_Mo_compare_66 ?_
        refine Can.mono K (fun _ h6 z => ?_)
        obtain ⟨rfl, K⟩ := z
        show Wg X 0 0 h6 [(0, .ref 0), (1, .int v1), (2, .int v2)] [] 69
        refine r_aload_n C 0 rfl d_Mo_compare_69 ?_
        refine r_bipush (v := 7) C (by decide) d_Mo_compare_70 ?_
        refine r_iconst (v := 2) C (by decide) d_Mo_compare_72 ?_
        refine r_iconst (v := 1) C (by decide) d_Mo_compare_73 ?_
        refine r_callV (As := [.int 7, .int 2, .int 1]) (st := []) (lvc := 1) (mcc := 0) (msc := 0) C Rm M_Mo_product rfl k_1247 rfl (by decide) (Nat.le_of_ble_eq_true rfl) ⟨by decide, by decide⟩ d_Mo_compare_74 ?_
        refine Can.mono K (fun _ h7 z => ?_)
        obtain ⟨rfl, K⟩ := z
        show Wg X 0 0 h7 [(0, .ref 0), (1, .int v1), (2, .int v2)] [] 77
        refine r_aload_n C 0 rfl d_Mo_compare_77 ?_
        refine r_bipush (v := 8) C (by decide) d_Mo_compare_78 ?_
        refine r_bipush (v := 6) C (by decide) d_Mo_compare_80 ?_
        refine r_bipush (v := 7) C (by decide) d_Mo_compare_82 ?_
        refine r_iconst (v := 1) C (by decide) d_Mo_compare_84 ?_
        refine r_callV (As := [.int 8, .int 6, .int 7, .int 1]) (st := []) (lvc := 2) (mcc := 0) (msc := 0) C Rm M_Mo_sum rfl k_1251 rfl (by decide) (Nat.le_of_ble_eq_true rfl) ⟨by decide, by decide⟩ d_Mo_compare_85 ?_
        refine Can.mono K (fun _ h8 z => ?_)
        obtain ⟨rfl, K⟩ := z
        show Wg X 0 0 h8 [(0, .ref 0), (1, .int v1), (2, .int v2)] [] 88
        refine r_aload_n C 0 rfl d_Mo_compare_88 ?_
        refine gf_Mo_length (k2 := 9) C rfl rfl k_1031 d_Mo_compare_89 ?_
        refine r_bipush (v := 8) C (by decide) d_Mo_compare_92 ?_
        obtain ⟨s0, K⟩ := K
        refine r_iald C rfl s0 d_Mo_compare_94 ?_
        refine r_if_ne C 102 d_Mo_compare_95 (by decide) ⟨fun c0 => ?_, fun c0 => ?_⟩
        · have K := K.1 c0
          refine r_aload_n C 0 rfl d_Mo_compare_102 ?_
          refine gf_Mo_isBelow (k2 := 10) C rfl rfl k_1032 d_Mo_compare_103 ?_
          refine r_bipush (v := 8) C (by decide) d_Mo_compare_106 ?_
          obtain ⟨s0, K⟩ := K
          refine r_zald C rfl s0 d_Mo_compare_108 ?_
          refine r_if_eq C 116 d_Mo_compare_109 (by decide) ⟨fun c0 => ?_, fun c0 => ?_⟩
          · have K := K.1 c0
            refine r_iconst (v := 1) C (by decide) d_Mo_compare_116 ?_
            exact q_iret C Q d_Mo_compare_117 ⟨_, rfl, K⟩
          · have K := K.2 c0
            refine r_iconst (v := (-1)) C (by decide) d_Mo_compare_112 ?_
            refine r_goto C 117 d_Mo_compare_113 (by decide) ?_
            exact q_iret C Q d_Mo_compare_117 ⟨_, rfl, K⟩
        · have K := K.2 c0
          refine r_iconst (v := 0) C (by decide) d_Mo_compare_98 ?_
          refine r_goto C 117 d_Mo_compare_99 (by decide) ?_
          exact q_iret C Q d_Mo_compare_117 ⟨_, rfl, K⟩
      · have K := K.2 c0
        refine r_bipush (v := (-4)) C (by decide) d_Mo_compare_44 ?_
        exact q_iret C Q d_Mo_compare_46 ⟨_, rfl, K⟩
  · have K := K.2 c0
    refine r_iconst (v := 0) C (by decide) d_Mo_compare_26 ?_
    exact q_iret C Q d_Mo_compare_27 ⟨_, rfl, K⟩
set_option maxRecDepth 20000 in
theorem g_Mo_same_0 {X : CX} {h : HP} {v1 : Int32} {v2 : Int32} {Φ : Int32 → HP → Prop} (C : Cok X b_Mo_same 3 R_Mo ((some .boolean))) (Rm : xR X = rml 1 0 0) (Q : Qok X 0 0 (fun r h2 => ∃ v, r = some (.int v) ∧ Φ v h2)) 
    (K : K_Mo_isRegister [.int v1] h (fun r1 h1 => (r1 = 0 → Wg X 0 0 h1 [(0, .ref 0), (1, .int v1), (2, .int v2)] [.int 1, .ref 0] 20) ∧ (¬ r1 = 0 → K_Mo_isRegister [.int v2] h1 (fun r2 h2 => (r2 = 0 → Wg X 0 0 h2 [(0, .ref 0), (1, .int v1), (2, .int v2)] [.int 1, .ref 0] 20) ∧ (¬ r2 = 0 → Wg X 0 0 h2 [(0, .ref 0), (1, .int v1), (2, .int v2)] [.int 0, .ref 0] 20))))) :
    Wg X 0 0 h [(0, .ref 0), (1, .int v1), (2, .int v2)] [] 0 := by
  refine r_aload_n C 0 rfl d_Mo_same_0 ?_
  refine r_iload_n C 1 rfl d_Mo_same_1 ?_
  refine r_callS (As := [.int v1]) (st := [.ref 0]) (lvc := 0) (mcc := 0) (msc := 0) C Rm M_Mo_isRegister rfl k_1091 (by decide) (Nat.le_of_ble_eq_true rfl) ⟨by decide, by decide⟩ d_Mo_same_2 ?_
  refine Can.mono K (fun _ h1 z => ?_)
  obtain ⟨r1, rfl, K⟩ := z
  show Wg X 0 0 h1 [(0, .ref 0), (1, .int v1), (2, .int v2)] [.int r1, .ref 0] 5
  refine r_if_eq C 19 d_Mo_same_5 (by decide) ⟨fun c0 => ?_, fun c0 => ?_⟩
  · have K := K.1 c0
    refine r_iconst (v := 1) C (by decide) d_Mo_same_19 ?_
    exact K
  · have K := K.2 c0
    refine r_iload_n C 2 rfl d_Mo_same_8 ?_
    refine r_callS (As := [.int v2]) (st := [.ref 0]) (lvc := 0) (mcc := 0) (msc := 0) C Rm M_Mo_isRegister rfl k_1091 (by decide) (Nat.le_of_ble_eq_true rfl) ⟨by decide, by decide⟩ d_Mo_same_9 ?_
    refine Can.mono K (fun _ h2 z => ?_)
    obtain ⟨r2, rfl, K⟩ := z
    show Wg X 0 0 h2 [(0, .ref 0), (1, .int v1), (2, .int v2)] [.int r2, .ref 0] 12
    refine r_if_eq C 19 d_Mo_same_12 (by decide) ⟨fun c0 => ?_, fun c0 => ?_⟩
    · have K := K.1 c0
      refine r_iconst (v := 1) C (by decide) d_Mo_same_19 ?_
      exact K
    · have K := K.2 c0
      refine r_iconst (v := 0) C (by decide) d_Mo_same_15 ?_
      refine r_goto C 20 d_Mo_same_16 (by decide) ?_
      exact K
set_option maxRecDepth 20000 in
theorem g_Mo_same_20 {X : CX} {h : HP} {v1 : Int32} {v2 : Int32} {t1 : Int32} {Φ : Int32 → HP → Prop} (C : Cok X b_Mo_same 3 R_Mo ((some .boolean))) (Rm : xR X = rml 1 0 0) (Q : Qok X 0 0 (fun r h2 => ∃ v, r = some (.int v) ∧ Φ v h2)) 
    (K : K_Mo_refused [.ref 0, .int t1] h (fun r1 h1 => (r1 = 0 → vp_in v1 416 ∧ (vp_in v2 416 ∧ ((¬ ((h1 1 v1.toNatClampNeg)) = ((h1 1 v2.toNatClampNeg)) → Φ 0 h1) ∧ (((h1 1 v1.toNatClampNeg)) = ((h1 1 v2.toNatClampNeg)) → vp_in v1 416 ∧ (((h1 1 v1.toNatClampNeg) = 0 → Φ 1 h1) ∧ (¬ (h1 1 v1.toNatClampNeg) = 0 → vp_in v1 416 ∧ (vp_in v2 416 ∧ ((¬ ((h1 2 v1.toNatClampNeg)) = ((h1 2 v2.toNatClampNeg)) → Φ 0 h1) ∧ (((h1 2 v1.toNatClampNeg)) = ((h1 2 v2.toNatClampNeg)) → Φ 1 h1))))))))) ∧ (¬ r1 = 0 → Φ 0 h1))) :
    Wg X 0 0 h [(0, .ref 0), (1, .int v1), (2, .int v2)] [.int t1, .ref 0] 20 := by
  refine r_callV (As := [.int t1]) (st := []) (lvc := 0) (mcc := 0) (msc := 0) C Rm M_Mo_refused rfl k_1094 rfl (by decide) (Nat.le_of_ble_eq_true rfl) ⟨by decide, by decide⟩ d_Mo_same_20 ?_
  refine Can.mono K (fun _ h1 z => ?_)
  obtain ⟨r1, rfl, K⟩ := z
  show Wg X 0 0 h1 [(0, .ref 0), (1, .int v1), (2, .int v2)] [.int r1] 23
  refine r_if_eq C 28 d_Mo_same_23 (by decide) ⟨fun c0 => ?_, fun c0 => ?_⟩
  · have K := K.1 c0
    refine r_aload_n C 0 rfl d_Mo_same_28 ?_
    refine gf_Mo_valueSort (k2 := 1) C rfl rfl k_1020 d_Mo_same_29 ?_
    refine r_iload_n C 1 rfl d_Mo_same_32 ?_
    obtain ⟨s0, K⟩ := K
    refine r_iald C rfl s0 d_Mo_same_33 ?_
    refine r_aload_n C 0 rfl d_Mo_same_34 ?_
    refine gf_Mo_valueSort (k2 := 1) C rfl rfl k_1020 d_Mo_same_35 ?_
    refine r_iload_n C 2 rfl d_Mo_same_38 ?_
    obtain ⟨s0, K⟩ := K
    refine r_iald C rfl s0 d_Mo_same_39 ?_
    refine r_icmp_ne C 71 d_Mo_same_40 (by decide) ⟨fun c0 => ?_, fun c0 => ?_⟩
    · have K := K.1 c0
      refine r_iconst (v := 0) C (by decide) d_Mo_same_71 ?_
      exact q_zret C Q (by decide) d_Mo_same_72 ⟨_, rfl, K⟩
    · have K := K.2 c0
      refine r_aload_n C 0 rfl d_Mo_same_43 ?_
      refine gf_Mo_valueSort (k2 := 1) C rfl rfl k_1020 d_Mo_same_44 ?_
      refine r_iload_n C 1 rfl d_Mo_same_47 ?_
      obtain ⟨s0, K⟩ := K
      refine r_iald C rfl s0 d_Mo_same_48 ?_
      refine r_if_eq C 67 d_Mo_same_49 (by decide) ⟨fun c0 => ?_, fun c0 => ?_⟩
      · have K := K.1 c0
        refine r_iconst (v := 1) C (by decide) d_Mo_same_67 ?_
        refine r_goto C 72 d_Mo_same_68 (by decide) ?_
        exact q_zret C Q (by decide) d_Mo_same_72 ⟨_, rfl, K⟩
      · have K := K.2 c0
        refine r_aload_n C 0 rfl d_Mo_same_52 ?_
        refine gf_Mo_valueOf (k2 := 2) C rfl rfl k_1021 d_Mo_same_53 ?_
        refine r_iload_n C 1 rfl d_Mo_same_56 ?_
        obtain ⟨s0, K⟩ := K
        refine r_iald C rfl s0 d_Mo_same_57 ?_
        refine r_aload_n C 0 rfl d_Mo_same_58 ?_
        refine gf_Mo_valueOf (k2 := 2) C rfl rfl k_1021 d_Mo_same_59 ?_
        refine r_iload_n C 2 rfl d_Mo_same_62 ?_
        obtain ⟨s0, K⟩ := K
        refine r_iald C rfl s0 d_Mo_same_63 ?_
        refine r_icmp_ne C 71 d_Mo_same_64 (by decide) ⟨fun c0 => ?_, fun c0 => ?_⟩
        · have K := K.1 c0
          refine r_iconst (v := 0) C (by decide) d_Mo_same_71 ?_
          exact q_zret C Q (by decide) d_Mo_same_72 ⟨_, rfl, K⟩
        · have K := K.2 c0
          refine r_iconst (v := 1) C (by decide) d_Mo_same_67 ?_
          refine r_goto C 72 d_Mo_same_68 (by decide) ?_
          exact q_zret C Q (by decide) d_Mo_same_72 ⟨_, rfl, K⟩
  · have K := K.2 c0
    refine r_iconst (v := 0) C (by decide) d_Mo_same_26 ?_
    exact q_zret C Q (by decide) d_Mo_same_27 ⟨_, rfl, K⟩
set_option maxRecDepth 20000 in
theorem g_Mo_put_0 {X : CX} {h : HP} {v1 : Int32} {v2 : Int32} {Φ : HP → Prop} (C : Cok X b_Mo_put 4 R_Mo none) (Rm : xR X = rml 0 0 0) (Q : Qok X 0 0 (fun r h2 => r = none ∧ Φ h2)) 
    (K : (((v1 >>> (v2 &&& (31 : Int32))) &&& 255) ≤ 0 → Φ h) ∧ (¬ ((v1 >>> (v2 &&& (31 : Int32))) &&& 255) ≤ 0 → ((200 : Int32) ≤ ((h 0 15)) → Φ (up h 0 15 ((h 0 15) + 1))) ∧ (¬ (200 : Int32) ≤ ((h 0 15)) → vp_in (h 0 15) 200 ∧ (Φ (up (up h 11 (h 0 15).toNatClampNeg (vp_nar .char (i2c ((v1 >>> (v2 &&& (31 : Int32))) &&& 255)))) 0 15 (((up h 11 (h 0 15).toNatClampNeg (vp_nar .char (i2c ((v1 >>> (v2 &&& (31 : Int32))) &&& 255)))) 0 15) + 1)))))) :
    Wg X 0 0 h [(0, .ref 0), (1, .int v1), (2, .int v2)] [] 0 := by
  refine r_iload_n C 1 rfl d_Mo_put_0 ?_
  refine r_iload_n C 2 rfl d_Mo_put_1 ?_
  refine r_ishr C d_Mo_put_2 ?_
  refine r_sipush (v := 255) C (by decide) d_Mo_put_3 ?_
  refine r_iand C d_Mo_put_6 ?_
  refine r_istore_n (ls2 := [(0, .ref 0), (1, .int v1), (2, .int v2), (3, .int ((v1 >>> (v2 &&& (31 : Int32))) &&& 255))]) C rfl (by decide) rfl d_Mo_put_7 ?_
  refine r_iload_n C 3 rfl d_Mo_put_8 ?_
  refine r_if_le C 43 d_Mo_put_9 (by decide) ⟨fun c0 => ?_, fun c0 => ?_⟩
  · have K := K.1 c0
    exact q_vret C Q d_Mo_put_43 ⟨rfl, K⟩
  · have K := K.2 c0
    refine r_aload_n C 0 rfl d_Mo_put_12 ?_
    refine gf_Mo_lineSize C rfl k_1034 d_Mo_put_13 ?_
    refine r_sipush (v := 200) C (by decide) d_Mo_put_16 ?_
    refine r_icmp_ge C 33 d_Mo_put_19 (by decide) ⟨fun c0 => ?_, fun c0 => ?_⟩
    · have K := K.1 c0
      refine r_aload_n C 0 rfl d_Mo_put_33 ?_
      refine r_dup C rfl d_Mo_put_34 ?_
      refine gf_Mo_lineSize C rfl k_1034 d_Mo_put_35 ?_
      refine r_iconst (v := 1) C (by decide) d_Mo_put_38 ?_
      refine r_iadd C d_Mo_put_39 ?_
      refine pf_Mo_lineSize C rfl k_1034 d_Mo_put_40 ?_
      exact q_vret C Q d_Mo_put_43 ⟨rfl, K⟩
    · have K := K.2 c0
      refine r_aload_n C 0 rfl d_Mo_put_22 ?_
      refine gf_Mo_line (k2 := 11) C rfl rfl k_1033 d_Mo_put_23 ?_
      refine r_aload_n C 0 rfl d_Mo_put_26 ?_
      refine gf_Mo_lineSize C rfl k_1034 d_Mo_put_27 ?_
      refine r_iload_n C 3 rfl d_Mo_put_30 ?_
      refine r_i2c C d_Mo_put_31 ?_
      obtain ⟨s0, K⟩ := K
      refine r_cast C rfl s0 d_Mo_put_32 ?_
      refine r_aload_n C 0 rfl d_Mo_put_33 ?_
      refine r_dup C rfl d_Mo_put_34 ?_
      refine gf_Mo_lineSize C rfl k_1034 d_Mo_put_35 ?_
      refine r_iconst (v := 1) C (by decide) d_Mo_put_38 ?_
      refine r_iadd C d_Mo_put_39 ?_
      refine pf_Mo_lineSize C rfl k_1034 d_Mo_put_40 ?_
      exact q_vret C Q d_Mo_put_43 ⟨rfl, K⟩
set_option maxRecDepth 20000 in
theorem g_Mo_type_0 {X : CX} {h : HP} {v1 : Int32} {v2 : Int32} {v3 : Int32} {v4 : Int32} {v5 : Int32} {Φ : Int32 → HP → Prop} (C : Cok X b_Mo_type 10 R_Mo ((some .int))) (Rm : xR X = rml 1 0 0) (Q : Qok X 0 0 (fun r h2 => ∃ v, r = some (.int v) ∧ Φ v h2)) 
    (K : Wg X 0 0 h [(0, .ref 0), (1, .int v1), (2, .int v2), (3, .int v3), (4, .int v4), (5, .int v5), (6, .int (h 0 15)), (7, .int 0)] [] 9) :
    Wg X 0 0 h [(0, .ref 0), (1, .int v1), (2, .int v2), (3, .int v3), (4, .int v4), (5, .int v5)] [] 0 := by
  refine r_aload_n C 0 rfl d_Mo_type_0 ?_
  refine gf_Mo_lineSize C rfl k_1034 d_Mo_type_1 ?_
  refine r_istore (ls2 := [(0, .ref 0), (1, .int v1), (2, .int v2), (3, .int v3), (4, .int v4), (5, .int v5), (6, .int (h 0 15))]) C (by decide) rfl d_Mo_type_4 ?_
  refine r_iconst (v := 0) C (by decide) d_Mo_type_6 ?_
  refine r_istore (ls2 := [(0, .ref 0), (1, .int v1), (2, .int v2), (3, .int v3), (4, .int v4), (5, .int v5), (6, .int (h 0 15)), (7, .int 0)]) C (by decide) rfl d_Mo_type_7 ?_
  exact K
set_option maxRecDepth 20000 in
theorem g_Mo_type_9 {X : CX} {h : HP} {v1 : Int32} {v2 : Int32} {v3 : Int32} {v4 : Int32} {v5 : Int32} {v6 : Int32} {v7 : Int32} {Φ : Int32 → HP → Prop} (C : Cok X b_Mo_type 10 R_Mo ((some .int))) (Rm : xR X = rml 1 0 0) (Q : Qok X 0 0 (fun r h2 => ∃ v, r = some (.int v) ∧ Φ v h2)) 
    (K : ((5 : Int32) ≤ v7 → (((h 0 15)) ≤ (200 : Int32) → K_Mo_refused [.ref 0, .int 0] h (fun r1 h1 => (r1 = 0 → Φ (h1 0 15) h1) ∧ (¬ r1 = 0 → Φ 0 (up h1 0 15 v6)))) ∧ (¬ ((h 0 15)) ≤ (200 : Int32) → K_Mo_refused [.ref 0, .int 1] h (fun r2 h2 => (r2 = 0 → Φ (h2 0 15) h2) ∧ (¬ r2 = 0 → Φ 0 (up h2 0 15 v6))))) ∧ (¬ (5 : Int32) ≤ v7 → (¬ v7 = 0 → (¬ v7 = (1 : Int32) → (¬ v7 = (2 : Int32) → (¬ v7 = (3 : Int32) → Wg X 0 0 h [(0, .ref 0), (1, .int v1), (2, .int v2), (3, .int v3), (4, .int v4), (5, .int v5), (6, .int v6), (7, .int v7), (8, .int v5), (9, .int 24)] [] 63) ∧ (v7 = (3 : Int32) → Wg X 0 0 h [(0, .ref 0), (1, .int v1), (2, .int v2), (3, .int v3), (4, .int v4), (5, .int v5), (6, .int v6), (7, .int v7), (8, .int v4), (9, .int 24)] [] 63)) ∧ (v7 = (2 : Int32) → Wg X 0 0 h [(0, .ref 0), (1, .int v1), (2, .int v2), (3, .int v3), (4, .int v4), (5, .int v5), (6, .int v6), (7, .int v7), (8, .int v3), (9, .int 24)] [] 63)) ∧ (v7 = (1 : Int32) → Wg X 0 0 h [(0, .ref 0), (1, .int v1), (2, .int v2), (3, .int v3), (4, .int v4), (5, .int v5), (6, .int v6), (7, .int v7), (8, .int v2), (9, .int 24)] [] 63)) ∧ (v7 = 0 → Wg X 0 0 h [(0, .ref 0), (1, .int v1), (2, .int v2), (3, .int v3), (4, .int v4), (5, .int v5), (6, .int v6), (7, .int v7), (8, .int v1), (9, .int 24)] [] 63))) :
    Wg X 0 0 h [(0, .ref 0), (1, .int v1), (2, .int v2), (3, .int v3), (4, .int v4), (5, .int v5), (6, .int v6), (7, .int v7)] [] 9 := by
  refine r_iload C 7 rfl d_Mo_type_9 ?_
  refine r_iconst (v := 5) C (by decide) d_Mo_type_11 ?_
  refine r_icmp_ge C 92 d_Mo_type_12 (by decide) ⟨fun c0 => ?_, fun c0 => ?_⟩
  · have K := K.1 c0
    refine r_aload_n C 0 rfl d_Mo_type_92 ?_
    refine r_aload_n C 0 rfl d_Mo_type_93 ?_
    refine gf_Mo_lineSize C rfl k_1034 d_Mo_type_94 ?_
    refine r_sipush (v := 200) C (by decide) d_Mo_type_97 ?_
    refine r_icmp_le C 107 d_Mo_type_100 (by decide) ⟨fun c0 => ?_, fun c0 => ?_⟩
    · have K := K.1 c0
      refine r_iconst (v := 0) C (by decide) d_Mo_type_107 ?_
      refine r_callV (As := [.int 0]) (st := []) (lvc := 0) (mcc := 0) (msc := 0) C Rm M_Mo_refused rfl k_1094 rfl (by decide) (Nat.le_of_ble_eq_true rfl) ⟨by decide, by decide⟩ d_Mo_type_108 ?_
      refine Can.mono K (fun _ h1 z => ?_)
      obtain ⟨r1, rfl, K⟩ := z
      show Wg X 0 0 h1 [(0, .ref 0), (1, .int v1), (2, .int v2), (3, .int v3), (4, .int v4), (5, .int v5), (6, .int v6), (7, .int v7)] [.int r1] 111
      refine r_if_eq C 122 d_Mo_type_111 (by decide) ⟨fun c0 => ?_, fun c0 => ?_⟩
      · have K := K.1 c0
        refine r_aload_n C 0 rfl d_Mo_type_122 ?_
        refine gf_Mo_lineSize C rfl k_1034 d_Mo_type_123 ?_
        exact q_iret C Q d_Mo_type_126 ⟨_, rfl, K⟩
      · have K := K.2 c0
        refine r_aload_n C 0 rfl d_Mo_type_114 ?_
        refine r_iload C 6 rfl d_Mo_type_115 ?_
        refine pf_Mo_lineSize C rfl k_1034 d_Mo_type_117 ?_
        refine r_iconst (v := 0) C (by decide) d_Mo_type_120 ?_
        exact q_iret C Q d_Mo_type_121 ⟨_, rfl, K⟩
    · have K := K.2 c0
      refine r_iconst (v := 1) C (by decide) d_Mo_type_103 ?_
      refine r_goto C 108 d_Mo_type_104 (by decide) ?_
      refine r_callV (As := [.int 1]) (st := []) (lvc := 0) (mcc := 0) (msc := 0) C Rm M_Mo_refused rfl k_1094 rfl (by decide) (Nat.le_of_ble_eq_true rfl) ⟨by decide, by decide⟩ d_Mo_type_108 ?_
      refine Can.mono K (fun _ h2 z => ?_)
      obtain ⟨r2, rfl, K⟩ := z
      show Wg X 0 0 h2 [(0, .ref 0), (1, .int v1), (2, .int v2), (3, .int v3), (4, .int v4), (5, .int v5), (6, .int v6), (7, .int v7)] [.int r2] 111
      refine r_if_eq C 122 d_Mo_type_111 (by decide) ⟨fun c0 => ?_, fun c0 => ?_⟩
      · have K := K.1 c0
        refine r_aload_n C 0 rfl d_Mo_type_122 ?_
        refine gf_Mo_lineSize C rfl k_1034 d_Mo_type_123 ?_
        exact q_iret C Q d_Mo_type_126 ⟨_, rfl, K⟩
      · have K := K.2 c0
        refine r_aload_n C 0 rfl d_Mo_type_114 ?_
        refine r_iload C 6 rfl d_Mo_type_115 ?_
        refine pf_Mo_lineSize C rfl k_1034 d_Mo_type_117 ?_
        refine r_iconst (v := 0) C (by decide) d_Mo_type_120 ?_
        exact q_iret C Q d_Mo_type_121 ⟨_, rfl, K⟩
  · have K := K.2 c0
    refine r_iload C 7 rfl d_Mo_type_15 ?_
    refine r_if_ne C 24 d_Mo_type_17 (by decide) ⟨fun c0 => ?_, fun c0 => ?_⟩
    · have K := K.1 c0
      refine r_iload C 7 rfl d_Mo_type_24 ?_
      refine r_iconst (v := 1) C (by decide) d_Mo_type_26 ?_
      refine r_icmp_ne C 34 d_Mo_type_27 (by decide) ⟨fun c0 => ?_, fun c0 => ?_⟩
      · have K := K.1 c0
        refine r_iload C 7 rfl d_Mo_type_34 ?_
        refine r_iconst (v := 2) C (by decide) d_Mo_type_36 ?_
        refine r_icmp_ne C 44 d_Mo_type_37 (by decide) ⟨fun c0 => ?_, fun c0 => ?_⟩
        · have K := K.1 c0
          refine r_iload C 7 rfl d_Mo_type_44 ?_
          refine r_iconst (v := 3) C (by decide) d_Mo_type_46 ?_
          refine r_icmp_ne C 55 d_Mo_type_47 (by decide) ⟨fun c0 => ?_, fun c0 => ?_⟩
          · have K := K.1 c0
            refine r_iload C 5 rfl d_Mo_type_55 ?_
            refine r_istore (ls2 := [(0, .ref 0), (1, .int v1), (2, .int v2), (3, .int v3), (4, .int v4), (5, .int v5), (6, .int v6), (7, .int v7), (8, .int v5)]) C (by decide) rfl d_Mo_type_57 ?_
            refine r_bipush (v := 24) C (by decide) d_Mo_type_59 ?_
            refine r_istore (ls2 := [(0, .ref 0), (1, .int v1), (2, .int v2), (3, .int v3), (4, .int v4), (5, .int v5), (6, .int v6), (7, .int v7), (8, .int v5), (9, .int 24)]) C (by decide) rfl d_Mo_type_61 ?_
            exact K
          · have K := K.2 c0
            refine r_iload C 4 rfl d_Mo_type_50 ?_
            refine r_goto C 57 d_Mo_type_52 (by decide) ?_
            refine r_istore (ls2 := [(0, .ref 0), (1, .int v1), (2, .int v2), (3, .int v3), (4, .int v4), (5, .int v5), (6, .int v6), (7, .int v7), (8, .int v4)]) C (by decide) rfl d_Mo_type_57 ?_
            refine r_bipush (v := 24) C (by decide) d_Mo_type_59 ?_
            refine r_istore (ls2 := [(0, .ref 0), (1, .int v1), (2, .int v2), (3, .int v3), (4, .int v4), (5, .int v5), (6, .int v6), (7, .int v7), (8, .int v4), (9, .int 24)]) C (by decide) rfl d_Mo_type_61 ?_
            exact K
        · have K := K.2 c0
          refine r_iload_n C 3 rfl d_Mo_type_40 ?_
          refine r_goto C 57 d_Mo_type_41 (by decide) ?_
          refine r_istore (ls2 := [(0, .ref 0), (1, .int v1), (2, .int v2), (3, .int v3), (4, .int v4), (5, .int v5), (6, .int v6), (7, .int v7), (8, .int v3)]) C (by decide) rfl d_Mo_type_57 ?_
          refine r_bipush (v := 24) C (by decide) d_Mo_type_59 ?_
          refine r_istore (ls2 := [(0, .ref 0), (1, .int v1), (2, .int v2), (3, .int v3), (4, .int v4), (5, .int v5), (6, .int v6), (7, .int v7), (8, .int v3), (9, .int 24)]) C (by decide) rfl d_Mo_type_61 ?_
          exact K
      · have K := K.2 c0
        refine r_iload_n C 2 rfl d_Mo_type_30 ?_
        refine r_goto C 57 d_Mo_type_31 (by decide) ?_
        refine r_istore (ls2 := [(0, .ref 0), (1, .int v1), (2, .int v2), (3, .int v3), (4, .int v4), (5, .int v5), (6, .int v6), (7, .int v7), (8, .int v2)]) C (by decide) rfl d_Mo_type_57 ?_
        refine r_bipush (v := 24) C (by decide) d_Mo_type_59 ?_
        refine r_istore (ls2 := [(0, .ref 0), (1, .int v1), (2, .int v2), (3, .int v3), (4, .int v4), (5, .int v5), (6, .int v6), (7, .int v7), (8, .int v2), (9, .int 24)]) C (by decide) rfl d_Mo_type_61 ?_
        exact K
    · have K := K.2 c0
      refine r_iload_n C 1 rfl d_Mo_type_20 ?_
      refine r_goto C 57 d_Mo_type_21 (by decide) ?_
      refine r_istore (ls2 := [(0, .ref 0), (1, .int v1), (2, .int v2), (3, .int v3), (4, .int v4), (5, .int v5), (6, .int v6), (7, .int v7), (8, .int v1)]) C (by decide) rfl d_Mo_type_57 ?_
      refine r_bipush (v := 24) C (by decide) d_Mo_type_59 ?_
      refine r_istore (ls2 := [(0, .ref 0), (1, .int v1), (2, .int v2), (3, .int v3), (4, .int v4), (5, .int v5), (6, .int v6), (7, .int v7), (8, .int v1), (9, .int 24)]) C (by decide) rfl d_Mo_type_61 ?_
      exact K
set_option maxRecDepth 20000 in
theorem g_Mo_type_63 {X : CX} {h : HP} {v1 : Int32} {v2 : Int32} {v3 : Int32} {v4 : Int32} {v5 : Int32} {v6 : Int32} {v7 : Int32} {v8 : Int32} {v9 : Int32} {Φ : Int32 → HP → Prop} (C : Cok X b_Mo_type 10 R_Mo ((some .int))) (Rm : xR X = rml 1 0 0) (Q : Qok X 0 0 (fun r h2 => ∃ v, r = some (.int v) ∧ Φ v h2)) 
    (K : (v9 < 0 → Wg X 0 0 h [(0, .ref 0), (1, .int v1), (2, .int v2), (3, .int v3), (4, .int v4), (5, .int v5), (6, .int v6), (7, .int (v7 + 1))] [] 9) ∧ (¬ v9 < 0 → K_Mo_put [.ref 0, .int v8, .int v9] h (fun h1 => Wg X 0 0 h1 [(0, .ref 0), (1, .int v1), (2, .int v2), (3, .int v3), (4, .int v4), (5, .int v5), (6, .int v6), (7, .int v7), (8, .int v8), (9, .int (v9 - 8))] [] 63))) :
    Wg X 0 0 h [(0, .ref 0), (1, .int v1), (2, .int v2), (3, .int v3), (4, .int v4), (5, .int v5), (6, .int v6), (7, .int v7), (8, .int v8), (9, .int v9)] [] 63 := by
  refine r_iload C 9 rfl d_Mo_type_63 ?_
  refine r_if_lt C 86 d_Mo_type_65 (by decide) ⟨fun c0 => ?_, fun c0 => ?_⟩
  · have K := K.1 c0
    refine r_iinc (ls2 := [(0, .ref 0), (1, .int v1), (2, .int v2), (3, .int v3), (4, .int v4), (5, .int v5), (6, .int v6), (7, .int (v7 + 1)), (8, .int v8), (9, .int v9)]) C 7 (m := 1) rfl (by decide) (by decide) rfl d_Mo_type_86 ?_
    refine r_goto C 9 d_Mo_type_89 (by decide) ?_
    exact Wg.drop (by simp) K
  · have K := K.2 c0
    refine r_aload_n C 0 rfl d_Mo_type_68 ?_
    refine r_iload C 8 rfl d_Mo_type_69 ?_
    refine r_iload C 9 rfl d_Mo_type_71 ?_
    refine r_callV (As := [.int v8, .int v9]) (st := []) (lvc := 0) (mcc := 0) (msc := 0) C Rm M_Mo_put rfl k_1271 rfl (by decide) (Nat.le_of_ble_eq_true rfl) ⟨by decide, by decide⟩ d_Mo_type_73 ?_
    refine Can.mono K (fun _ h1 z => ?_)
    obtain ⟨rfl, K⟩ := z
    show Wg X 0 0 h1 [(0, .ref 0), (1, .int v1), (2, .int v2), (3, .int v3), (4, .int v4), (5, .int v5), (6, .int v6), (7, .int v7), (8, .int v8), (9, .int v9)] [] 76
    refine r_iload C 9 rfl d_Mo_type_76 ?_
    refine r_bipush (v := 8) C (by decide) d_Mo_type_78 ?_
    refine r_isub C d_Mo_type_80 ?_
    refine r_istore (ls2 := [(0, .ref 0), (1, .int v1), (2, .int v2), (3, .int v3), (4, .int v4), (5, .int v5), (6, .int v6), (7, .int v7), (8, .int v8), (9, .int (v9 - 8))]) C (by decide) rfl d_Mo_type_81 ?_
    refine r_goto C 63 d_Mo_type_83 (by decide) ?_
    exact K
set_option maxRecDepth 20000 in
theorem g_Mo_erase_0 {X : CX} {h : HP}  {Φ : Int32 → HP → Prop} (C : Cok X b_Mo_erase 2 R_Mo ((some .int))) (Rm : xR X = rml 0 0 0) (Q : Qok X 0 0 (fun r h2 => ∃ v, r = some (.int v) ∧ Φ v h2)) 
    (K : Φ ((up h 0 0 0) 0 15) (up (up h 0 0 0) 0 15 0)) :
    Wg X 0 0 h [(0, .ref 0)] [] 0 := by
  refine r_aload_n C 0 rfl d_Mo_erase_0 ?_
  refine r_iconst (v := 0) C (by decide) d_Mo_erase_1 ?_
  refine pf_Mo_refusal C rfl k_1019 d_Mo_erase_2 ?_
  refine r_aload_n C 0 rfl d_Mo_erase_5 ?_
  refine gf_Mo_lineSize C rfl k_1034 d_Mo_erase_6 ?_
  refine r_istore_n (ls2 := [(0, .ref 0), (1, .int ((up h 0 0 0) 0 15))]) C rfl (by decide) rfl d_Mo_erase_9 ?_
  refine r_aload_n C 0 rfl d_Mo_erase_10 ?_
  refine r_iconst (v := 0) C (by decide) d_Mo_erase_11 ?_
  refine pf_Mo_lineSize C rfl k_1034 d_Mo_erase_12 ?_
  refine r_iload_n C 1 rfl d_Mo_erase_15 ?_
  exact q_iret C Q d_Mo_erase_16 ⟨_, rfl, K⟩
set_option maxRecDepth 20000 in
theorem g_Mo_readDigits_0 {X : CX} {h : HP} {v1 : Int32} {Φ : Int32 → HP → Prop} (C : Cok X b_Mo_readDigits 6 R_Mo ((some .boolean))) (Rm : xR X = rml 0 0 0) (Q : Qok X 0 0 (fun r h2 => ∃ v, r = some (.int v) ∧ Φ v h2)) 
    (K : vp_in v1 218 ∧ (vp_in v1 218 ∧ (Wg X 0 0 (up (up h 9 v1.toNatClampNeg 0) 10 v1.toNatClampNeg (vp_nar .boolean 0)) [(0, .ref 0), (1, .int v1), (2, .int ((up (up h 9 v1.toNatClampNeg 0) 10 v1.toNatClampNeg (vp_nar .boolean 0)) 0 20))] [] 19))) :
    Wg X 0 0 h [(0, .ref 0), (1, .int v1)] [] 0 := by
  refine r_aload_n C 0 rfl d_Mo_readDigits_0 ?_
  refine gf_Mo_length (k2 := 9) C rfl rfl k_1031 d_Mo_readDigits_1 ?_
  refine r_iload_n C 1 rfl d_Mo_readDigits_4 ?_
  refine r_iconst (v := 0) C (by decide) d_Mo_readDigits_5 ?_
  obtain ⟨s0, K⟩ := K
  refine r_iast C rfl s0 d_Mo_readDigits_6 ?_
  refine r_aload_n C 0 rfl d_Mo_readDigits_7 ?_
  refine gf_Mo_isBelow (k2 := 10) C rfl rfl k_1032 d_Mo_readDigits_8 ?_
  refine r_iload_n C 1 rfl d_Mo_readDigits_11 ?_
  refine r_iconst (v := 0) C (by decide) d_Mo_readDigits_12 ?_
  obtain ⟨s0, K⟩ := K
  refine r_zast C rfl s0 d_Mo_readDigits_13 ?_
  refine r_aload_n C 0 rfl d_Mo_readDigits_14 ?_
  refine gf_Mo_at C rfl k_1039 d_Mo_readDigits_15 ?_
  refine r_istore_n (ls2 := [(0, .ref 0), (1, .int v1), (2, .int ((up (up h 9 v1.toNatClampNeg 0) 10 v1.toNatClampNeg (vp_nar .boolean 0)) 0 20))]) C rfl (by decide) rfl d_Mo_readDigits_18 ?_
  exact K
set_option maxRecDepth 20000 in
theorem g_Mo_readDigits_19 {X : CX} {h : HP} {v1 : Int32} {v2 : Int32} {Φ : Int32 → HP → Prop} (C : Cok X b_Mo_readDigits 6 R_Mo ((some .boolean))) (Rm : xR X = rml 0 0 0) (Q : Qok X 0 0 (fun r h2 => ∃ v, r = some (.int v) ∧ Φ v h2)) 
    (K : (((h 0 15)) ≤ ((h 0 20)) → (((h 0 20)) ≤ v2 → Φ 0 h) ∧ (¬ ((h 0 20)) ≤ v2 → Φ 1 h)) ∧ (¬ ((h 0 15)) ≤ ((h 0 20)) → vp_in (h 0 20) 200 ∧ ((((h 11 (h 0 20).toNatClampNeg)) < (48 : Int32) → (((h 0 20)) ≤ v2 → Φ 0 h) ∧ (¬ ((h 0 20)) ≤ v2 → Φ 1 h)) ∧ (¬ ((h 11 (h 0 20).toNatClampNeg)) < (48 : Int32) → vp_in (h 0 20) 200 ∧ (((57 : Int32) < ((h 11 (h 0 20).toNatClampNeg)) → (((h 0 20)) ≤ v2 → Φ 0 h) ∧ (¬ ((h 0 20)) ≤ v2 → Φ 1 h)) ∧ (¬ (57 : Int32) < ((h 11 (h 0 20).toNatClampNeg)) → vp_in (h 0 20) 200 ∧ (Wg X 0 0 h [(0, .ref 0), (1, .int v1), (2, .int v2), (3, .int ((h 11 (h 0 20).toNatClampNeg) - 48)), (4, .int 0)] [] 74))))))) :
    Wg X 0 0 h [(0, .ref 0), (1, .int v1), (2, .int v2)] [] 19 := by
  refine r_aload_n C 0 rfl d_Mo_readDigits_19 ?_
  refine gf_Mo_at C rfl k_1039 d_Mo_readDigits_20 ?_
  refine r_aload_n C 0 rfl d_Mo_readDigits_23 ?_
  refine gf_Mo_lineSize C rfl k_1034 d_Mo_readDigits_24 ?_
  refine r_icmp_ge C 177 d_Mo_readDigits_27 (by decide) ⟨fun c0 => ?_, fun c0 => ?_⟩
  · have K := K.1 c0
    refine r_aload_n C 0 rfl d_Mo_readDigits_177 ?_
    refine gf_Mo_at C rfl k_1039 d_Mo_readDigits_178 ?_
    refine r_iload_n C 2 rfl d_Mo_readDigits_181 ?_
    refine r_icmp_le C 189 d_Mo_readDigits_182 (by decide) ⟨fun c0 => ?_, fun c0 => ?_⟩
    · have K := K.1 c0
      refine r_iconst (v := 0) C (by decide) d_Mo_readDigits_189 ?_
      exact q_zret C Q (by decide) d_Mo_readDigits_190 ⟨_, rfl, K⟩
    · have K := K.2 c0
      refine r_iconst (v := 1) C (by decide) d_Mo_readDigits_185 ?_
      refine r_goto C 190 d_Mo_readDigits_186 (by decide) ?_
      exact q_zret C Q (by decide) d_Mo_readDigits_190 ⟨_, rfl, K⟩
  · have K := K.2 c0
    refine r_aload_n C 0 rfl d_Mo_readDigits_30 ?_
    refine gf_Mo_line (k2 := 11) C rfl rfl k_1033 d_Mo_readDigits_31 ?_
    refine r_aload_n C 0 rfl d_Mo_readDigits_34 ?_
    refine gf_Mo_at C rfl k_1039 d_Mo_readDigits_35 ?_
    obtain ⟨s0, K⟩ := K
    refine r_cald C rfl s0 d_Mo_readDigits_38 ?_
    refine r_bipush (v := 48) C (by decide) d_Mo_readDigits_39 ?_
    refine r_icmp_lt C 177 d_Mo_readDigits_41 (by decide) ⟨fun c0 => ?_, fun c0 => ?_⟩
    · have K := K.1 c0
      refine r_aload_n C 0 rfl d_Mo_readDigits_177 ?_
      refine gf_Mo_at C rfl k_1039 d_Mo_readDigits_178 ?_
      refine r_iload_n C 2 rfl d_Mo_readDigits_181 ?_
      refine r_icmp_le C 189 d_Mo_readDigits_182 (by decide) ⟨fun c0 => ?_, fun c0 => ?_⟩
      · have K := K.1 c0
        refine r_iconst (v := 0) C (by decide) d_Mo_readDigits_189 ?_
        exact q_zret C Q (by decide) d_Mo_readDigits_190 ⟨_, rfl, K⟩
      · have K := K.2 c0
        refine r_iconst (v := 1) C (by decide) d_Mo_readDigits_185 ?_
        refine r_goto C 190 d_Mo_readDigits_186 (by decide) ?_
        exact q_zret C Q (by decide) d_Mo_readDigits_190 ⟨_, rfl, K⟩
    · have K := K.2 c0
      refine r_aload_n C 0 rfl d_Mo_readDigits_44 ?_
      refine gf_Mo_line (k2 := 11) C rfl rfl k_1033 d_Mo_readDigits_45 ?_
      refine r_aload_n C 0 rfl d_Mo_readDigits_48 ?_
      refine gf_Mo_at C rfl k_1039 d_Mo_readDigits_49 ?_
      obtain ⟨s0, K⟩ := K
      refine r_cald C rfl s0 d_Mo_readDigits_52 ?_
      refine r_bipush (v := 57) C (by decide) d_Mo_readDigits_53 ?_
      refine r_icmp_gt C 177 d_Mo_readDigits_55 (by decide) ⟨fun c0 => ?_, fun c0 => ?_⟩
      · have K := K.1 c0
        refine r_aload_n C 0 rfl d_Mo_readDigits_177 ?_
        refine gf_Mo_at C rfl k_1039 d_Mo_readDigits_178 ?_
        refine r_iload_n C 2 rfl d_Mo_readDigits_181 ?_
        refine r_icmp_le C 189 d_Mo_readDigits_182 (by decide) ⟨fun c0 => ?_, fun c0 => ?_⟩
        · have K := K.1 c0
          refine r_iconst (v := 0) C (by decide) d_Mo_readDigits_189 ?_
          exact q_zret C Q (by decide) d_Mo_readDigits_190 ⟨_, rfl, K⟩
        · have K := K.2 c0
          refine r_iconst (v := 1) C (by decide) d_Mo_readDigits_185 ?_
          refine r_goto C 190 d_Mo_readDigits_186 (by decide) ?_
          exact q_zret C Q (by decide) d_Mo_readDigits_190 ⟨_, rfl, K⟩
      · have K := K.2 c0
        refine r_aload_n C 0 rfl d_Mo_readDigits_58 ?_
        refine gf_Mo_line (k2 := 11) C rfl rfl k_1033 d_Mo_readDigits_59 ?_
        refine r_aload_n C 0 rfl d_Mo_readDigits_62 ?_
        refine gf_Mo_at C rfl k_1039 d_Mo_readDigits_63 ?_
        obtain ⟨s0, K⟩ := K
        refine r_cald C rfl s0 d_Mo_readDigits_66 ?_
        refine r_bipush (v := 48) C (by decide) d_Mo_readDigits_67 ?_
        refine r_isub C d_Mo_readDigits_69 ?_
        refine r_istore_n (ls2 := [(0, .ref 0), (1, .int v1), (2, .int v2), (3, .int ((h 11 (h 0 20).toNatClampNeg) - 48))]) C rfl (by decide) rfl d_Mo_readDigits_70 ?_
        refine r_iconst (v := 0) C (by decide) d_Mo_readDigits_71 ?_
        refine r_istore (ls2 := [(0, .ref 0), (1, .int v1), (2, .int v2), (3, .int ((h 11 (h 0 20).toNatClampNeg) - 48)), (4, .int 0)]) C (by decide) rfl d_Mo_readDigits_72 ?_
        exact K
set_option maxRecDepth 20000 in
theorem g_Mo_readDigits_74 {X : CX} {h : HP} {v1 : Int32} {v2 : Int32} {v3 : Int32} {v4 : Int32} {Φ : Int32 → HP → Prop} (C : Cok X b_Mo_readDigits 6 R_Mo ((some .boolean))) (Rm : xR X = rml 0 0 0) (Q : Qok X 0 0 (fun r h2 => ∃ v, r = some (.int v) ∧ Φ v h2)) 
    (K : vp_in v1 218 ∧ ((((h 9 v1.toNatClampNeg)) ≤ v4 → (v3 ≤ 0 → Wg X 0 0 (up h 0 20 ((h 0 20) + 1)) [(0, .ref 0), (1, .int v1), (2, .int v2)] [] 19) ∧ (¬ v3 ≤ 0 → vp_in v1 218 ∧ (vp_in ((100 * v1) + (h 9 v1.toNatClampNeg)) 21800 ∧ (vp_in v1 218 ∧ (vp_in v1 218 ∧ (Wg X 0 0 (up (up (up h 8 ((100 * v1) + (h 9 v1.toNatClampNeg)).toNatClampNeg v3) 9 v1.toNatClampNeg (((up h 8 ((100 * v1) + (h 9 v1.toNatClampNeg)).toNatClampNeg v3) 9 v1.toNatClampNeg) + 1)) 0 20 (((up (up h 8 ((100 * v1) + (h 9 v1.toNatClampNeg)).toNatClampNeg v3) 9 v1.toNatClampNeg (((up h 8 ((100 * v1) + (h 9 v1.toNatClampNeg)).toNatClampNeg v3) 9 v1.toNatClampNeg) + 1)) 0 20) + 1)) [(0, .ref 0), (1, .int v1), (2, .int v2)] [] 19)))))) ∧ (¬ ((h 9 v1.toNatClampNeg)) ≤ v4 → vp_in ((100 * v1) + v4) 21800 ∧ (vp_in ((100 * v1) + v4) 21800 ∧ (Wg X 0 0 (up h 8 ((100 * v1) + v4).toNatClampNeg (((10 * (h 8 ((100 * v1) + v4).toNatClampNeg)) + v3) &&& 65535)) [(0, .ref 0), (1, .int v1), (2, .int v2), (3, .int (((10 * (h 8 ((100 * v1) + v4).toNatClampNeg)) + v3) >>> (16 &&& (31 : Int32)))), (4, .int (v4 + 1))] [] 74))))) :
    Wg X 0 0 h [(0, .ref 0), (1, .int v1), (2, .int v2), (3, .int v3), (4, .int v4)] [] 74 := by
  refine r_iload C 4 rfl d_Mo_readDigits_74 ?_
  refine r_aload_n C 0 rfl d_Mo_readDigits_76 ?_
  refine gf_Mo_length (k2 := 9) C rfl rfl k_1031 d_Mo_readDigits_77 ?_
  refine r_iload_n C 1 rfl d_Mo_readDigits_80 ?_
  obtain ⟨s0, K⟩ := K
  refine r_iald C rfl s0 d_Mo_readDigits_81 ?_
  refine r_icmp_ge C 133 d_Mo_readDigits_82 (by decide) ⟨fun c0 => ?_, fun c0 => ?_⟩
  · have K := K.1 c0
    refine r_iload_n C 3 rfl d_Mo_readDigits_133 ?_
    refine r_if_le C 164 d_Mo_readDigits_134 (by decide) ⟨fun c0 => ?_, fun c0 => ?_⟩
    · have K := K.1 c0
      refine r_aload_n C 0 rfl d_Mo_readDigits_164 ?_
      refine r_dup C rfl d_Mo_readDigits_165 ?_
      refine gf_Mo_at C rfl k_1039 d_Mo_readDigits_166 ?_
      refine r_iconst (v := 1) C (by decide) d_Mo_readDigits_169 ?_
      refine r_iadd C d_Mo_readDigits_170 ?_
      refine pf_Mo_at C rfl k_1039 d_Mo_readDigits_171 ?_
      refine r_goto C 19 d_Mo_readDigits_174 (by decide) ?_
      exact Wg.drop (by simp) K
    · have K := K.2 c0
      refine r_aload_n C 0 rfl d_Mo_readDigits_137 ?_
      refine gf_Mo_limb (k2 := 8) C rfl rfl k_1030 d_Mo_readDigits_138 ?_
      refine r_bipush (v := 100) C (by decide) d_Mo_readDigits_141 ?_
      refine r_iload_n C 1 rfl d_Mo_readDigits_143 ?_
      refine r_imul C d_Mo_readDigits_144 ?_
      refine r_aload_n C 0 rfl d_Mo_readDigits_145 ?_
      refine gf_Mo_length (k2 := 9) C rfl rfl k_1031 d_Mo_readDigits_146 ?_
      refine r_iload_n C 1 rfl d_Mo_readDigits_149 ?_
      obtain ⟨s0, K⟩ := K
      refine r_iald C rfl s0 d_Mo_readDigits_150 ?_
      refine r_iadd C d_Mo_readDigits_151 ?_
      refine r_iload_n C 3 rfl d_Mo_readDigits_152 ?_
      obtain ⟨s0, K⟩ := K
      refine r_iast C rfl s0 d_Mo_readDigits_153 ?_
      refine r_aload_n C 0 rfl d_Mo_readDigits_154 ?_
      refine gf_Mo_length (k2 := 9) C rfl rfl k_1031 d_Mo_readDigits_155 ?_
      refine r_iload_n C 1 rfl d_Mo_readDigits_158 ?_
      refine r_dup2 C rfl rfl d_Mo_readDigits_159 ?_
      obtain ⟨s0, K⟩ := K
      refine r_iald C rfl s0 d_Mo_readDigits_160 ?_
      refine r_iconst (v := 1) C (by decide) d_Mo_readDigits_161 ?_
      refine r_iadd C d_Mo_readDigits_162 ?_
      obtain ⟨s0, K⟩ := K
      refine r_iast C rfl s0 d_Mo_readDigits_163 ?_
      refine r_aload_n C 0 rfl d_Mo_readDigits_164 ?_
      refine r_dup C rfl d_Mo_readDigits_165 ?_
      refine gf_Mo_at C rfl k_1039 d_Mo_readDigits_166 ?_
      refine r_iconst (v := 1) C (by decide) d_Mo_readDigits_169 ?_
      refine r_iadd C d_Mo_readDigits_170 ?_
      refine pf_Mo_at C rfl k_1039 d_Mo_readDigits_171 ?_
      refine r_goto C 19 d_Mo_readDigits_174 (by decide) ?_
      exact Wg.drop (by simp) K
  · have K := K.2 c0
    refine r_bipush (v := 10) C (by decide) d_Mo_readDigits_85 ?_
    refine r_aload_n C 0 rfl d_Mo_readDigits_87 ?_
    refine gf_Mo_limb (k2 := 8) C rfl rfl k_1030 d_Mo_readDigits_88 ?_
    refine r_bipush (v := 100) C (by decide) d_Mo_readDigits_91 ?_
    refine r_iload_n C 1 rfl d_Mo_readDigits_93 ?_
    refine r_imul C d_Mo_readDigits_94 ?_
    refine r_iload C 4 rfl d_Mo_readDigits_95 ?_
    refine r_iadd C d_Mo_readDigits_97 ?_
    obtain ⟨s0, K⟩ := K
    refine r_iald C rfl s0 d_Mo_readDigits_98 ?_
    refine r_imul C d_Mo_readDigits_99 ?_
    refine r_iload_n C 3 rfl d_Mo_readDigits_100 ?_
    refine r_iadd C d_Mo_readDigits_101 ?_
    refine r_istore (ls2 := [(0, .ref 0), (1, .int v1), (2, .int v2), (3, .int v3), (4, .int v4), (5, .int ((10 * (h 8 ((100 * v1) + v4).toNatClampNeg)) + v3))]) C (by decide) rfl d_Mo_readDigits_102 ?_
    refine r_aload_n C 0 rfl d_Mo_readDigits_104 ?_
    refine gf_Mo_limb (k2 := 8) C rfl rfl k_1030 d_Mo_readDigits_105 ?_
    refine r_bipush (v := 100) C (by decide) d_Mo_readDigits_108 ?_
    refine r_iload_n C 1 rfl d_Mo_readDigits_110 ?_
    refine r_imul C d_Mo_readDigits_111 ?_
    refine r_iload C 4 rfl d_Mo_readDigits_112 ?_
    refine r_iadd C d_Mo_readDigits_114 ?_
    refine r_iload C 5 rfl d_Mo_readDigits_115 ?_
    refine r_ldc (v := 65535) C k_1111 d_Mo_readDigits_117 ?_
    refine r_iand C d_Mo_readDigits_119 ?_
    obtain ⟨s0, K⟩ := K
    refine r_iast C rfl s0 d_Mo_readDigits_120 ?_
    refine r_iload C 5 rfl d_Mo_readDigits_121 ?_
    refine r_bipush (v := 16) C (by decide) d_Mo_readDigits_123 ?_
    refine r_ishr C d_Mo_readDigits_125 ?_
    refine r_istore_n (ls2 := [(0, .ref 0), (1, .int v1), (2, .int v2), (3, .int (((10 * (h 8 ((100 * v1) + v4).toNatClampNeg)) + v3) >>> (16 &&& (31 : Int32)))), (4, .int v4), (5, .int ((10 * (h 8 ((100 * v1) + v4).toNatClampNeg)) + v3))]) C rfl (by decide) rfl d_Mo_readDigits_126 ?_
    refine r_iinc (ls2 := [(0, .ref 0), (1, .int v1), (2, .int v2), (3, .int (((10 * (h 8 ((100 * v1) + v4).toNatClampNeg)) + v3) >>> (16 &&& (31 : Int32)))), (4, .int (v4 + 1)), (5, .int ((10 * (h 8 ((100 * v1) + v4).toNatClampNeg)) + v3))]) C 4 (m := 1) rfl (by decide) (by decide) rfl d_Mo_readDigits_127 ?_
    refine r_goto C 74 d_Mo_readDigits_130 (by decide) ?_
    exact Wg.drop (by simp) K
set_option maxRecDepth 20000 in
theorem g_Mo_read_0 {X : CX} {h : HP} {v1 : Int32} {Φ : Int32 → HP → Prop} (C : Cok X b_Mo_read 4 R_Mo ((some .int))) (Rm : xR X = rml 5 0 0) (Q : Qok X 0 0 (fun r h2 => ∃ v, r = some (.int v) ∧ Φ v h2)) 
    (K : K_Mo_isRegister [.int v1] h (fun r1 h1 => (r1 = 0 → Wg X 0 0 h1 [(0, .ref 0), (1, .int v1)] [.int 1, .ref 0] 13) ∧ (¬ r1 = 0 → Wg X 0 0 h1 [(0, .ref 0), (1, .int v1)] [.int 0, .ref 0] 13))) :
    Wg X 0 0 h [(0, .ref 0), (1, .int v1)] [] 0 := by
  refine r_aload_n C 0 rfl d_Mo_read_0 ?_
  refine r_iload_n C 1 rfl d_Mo_read_1 ?_
  refine r_callS (As := [.int v1]) (st := [.ref 0]) (lvc := 0) (mcc := 0) (msc := 0) C Rm M_Mo_isRegister rfl k_1091 (by decide) (Nat.le_of_ble_eq_true rfl) ⟨by decide, by decide⟩ d_Mo_read_2 ?_
  refine Can.mono K (fun _ h1 z => ?_)
  obtain ⟨r1, rfl, K⟩ := z
  show Wg X 0 0 h1 [(0, .ref 0), (1, .int v1)] [.int r1, .ref 0] 5
  refine r_if_eq C 12 d_Mo_read_5 (by decide) ⟨fun c0 => ?_, fun c0 => ?_⟩
  · have K := K.1 c0
    refine r_iconst (v := 1) C (by decide) d_Mo_read_12 ?_
    exact K
  · have K := K.2 c0
    refine r_iconst (v := 0) C (by decide) d_Mo_read_8 ?_
    refine r_goto C 13 d_Mo_read_9 (by decide) ?_
    exact K
set_option maxRecDepth 20000 in
theorem g_Mo_read_13 {X : CX} {h : HP} {v1 : Int32} {t1 : Int32} {Φ : Int32 → HP → Prop} (C : Cok X b_Mo_read 4 R_Mo ((some .int))) (Rm : xR X = rml 5 0 0) (Q : Qok X 0 0 (fun r h2 => ∃ v, r = some (.int v) ∧ Φ v h2)) 
    (K : K_Mo_refused [.ref 0, .int t1] h (fun r1 h1 => (r1 = 0 → ((h1 0 15) ≤ 0 → Wg X 0 0 h1 [(0, .ref 0), (1, .int v1), (2, .int 0)] [.int 0, .ref 0] 55) ∧ (¬ (h1 0 15) ≤ 0 → vp_in 0 200 ∧ ((¬ ((h1 11 (0 : Int32).toNatClampNeg)) = (45 : Int32) → Wg X 0 0 h1 [(0, .ref 0), (1, .int v1), (2, .int 0)] [.int 0, .ref 0] 55) ∧ (((h1 11 (0 : Int32).toNatClampNeg)) = (45 : Int32) → Wg X 0 0 h1 [(0, .ref 0), (1, .int v1), (2, .int 1)] [.int 1, .ref 0] 55)))) ∧ (¬ r1 = 0 → Φ 0 h1))) :
    Wg X 0 0 h [(0, .ref 0), (1, .int v1)] [.int t1, .ref 0] 13 := by
  refine r_callV (As := [.int t1]) (st := []) (lvc := 0) (mcc := 0) (msc := 0) C Rm M_Mo_refused rfl k_1094 rfl (by decide) (Nat.le_of_ble_eq_true rfl) ⟨by decide, by decide⟩ d_Mo_read_13 ?_
  refine Can.mono K (fun _ h1 z => ?_)
  obtain ⟨r1, rfl, K⟩ := z
  show Wg X 0 0 h1 [(0, .ref 0), (1, .int v1)] [.int r1] 16
  refine r_if_eq C 21 d_Mo_read_16 (by decide) ⟨fun c0 => ?_, fun c0 => ?_⟩
  · have K := K.1 c0
    refine r_aload_n C 0 rfl d_Mo_read_21 ?_
    refine gf_Mo_lineSize C rfl k_1034 d_Mo_read_22 ?_
    refine r_if_le C 43 d_Mo_read_25 (by decide) ⟨fun c0 => ?_, fun c0 => ?_⟩
    · have K := K.1 c0
      refine r_iconst (v := 0) C (by decide) d_Mo_read_43 ?_
      refine r_istore_n (ls2 := [(0, .ref 0), (1, .int v1), (2, .int 0)]) C rfl (by decide) rfl d_Mo_read_44 ?_
      refine r_aload_n C 0 rfl d_Mo_read_45 ?_
      refine r_iload_n C 2 rfl d_Mo_read_46 ?_
      refine r_if_eq C 54 d_Mo_read_47 (by decide) ⟨fun _ => ?_, fun c0 => absurd c0 (by decide)⟩
      refine r_iconst (v := 0) C (by decide) d_Mo_read_54 ?_
      exact K
    · have K := K.2 c0
      refine r_aload_n C 0 rfl d_Mo_read_28 ?_
      refine gf_Mo_line (k2 := 11) C rfl rfl k_1033 d_Mo_read_29 ?_
      refine r_iconst (v := 0) C (by decide) d_Mo_read_32 ?_
      obtain ⟨s0, K⟩ := K
      refine r_cald C rfl s0 d_Mo_read_33 ?_
      refine r_bipush (v := 45) C (by decide) d_Mo_read_34 ?_
      refine r_icmp_ne C 43 d_Mo_read_36 (by decide) ⟨fun c0 => ?_, fun c0 => ?_⟩
      · have K := K.1 c0
        refine r_iconst (v := 0) C (by decide) d_Mo_read_43 ?_
        refine r_istore_n (ls2 := [(0, .ref 0), (1, .int v1), (2, .int 0)]) C rfl (by decide) rfl d_Mo_read_44 ?_
        refine r_aload_n C 0 rfl d_Mo_read_45 ?_
        refine r_iload_n C 2 rfl d_Mo_read_46 ?_
        refine r_if_eq C 54 d_Mo_read_47 (by decide) ⟨fun _ => ?_, fun c0 => absurd c0 (by decide)⟩
        refine r_iconst (v := 0) C (by decide) d_Mo_read_54 ?_
        exact K
      · have K := K.2 c0
        refine r_iconst (v := 1) C (by decide) d_Mo_read_39 ?_
        refine r_goto C 44 d_Mo_read_40 (by decide) ?_
        refine r_istore_n (ls2 := [(0, .ref 0), (1, .int v1), (2, .int 1)]) C rfl (by decide) rfl d_Mo_read_44 ?_
        refine r_aload_n C 0 rfl d_Mo_read_45 ?_
        refine r_iload_n C 2 rfl d_Mo_read_46 ?_
        refine r_if_eq C 54 d_Mo_read_47 (by decide) ⟨fun c0 => absurd c0 (by decide), fun _ => ?_⟩
        refine r_iconst (v := 1) C (by decide) d_Mo_read_50 ?_
        refine r_goto C 55 d_Mo_read_51 (by decide) ?_
        exact K
  · have K := K.2 c0
    refine r_iconst (v := 0) C (by decide) d_Mo_read_19 ?_
    exact q_iret C Q d_Mo_read_20 ⟨_, rfl, K⟩
set_option maxRecDepth 20000 in
theorem g_Mo_read_55 {X : CX} {h : HP} {v1 : Int32} {v2 : Int32} {t1 : Int32} {Φ : Int32 → HP → Prop} (C : Cok X b_Mo_read 4 R_Mo ((some .int))) (Rm : xR X = rml 5 0 0) (Q : Qok X 0 0 (fun r h2 => ∃ v, r = some (.int v) ∧ Φ v h2)) 
    (K : K_Mo_readDigits [.ref 0, .int 4] (up h 0 20 t1) (fun r1 h1 => K_Mo_setLong [.ref 0, .int 5, .long 1] h1 (fun h2 => (r1 = 0 → Wg X 0 0 h2 [(0, .ref 0), (1, .int v1), (2, .int v2), (3, .int r1)] [] 115) ∧ (¬ r1 = 0 → (((h2 0 15)) ≤ ((h2 0 20)) → Wg X 0 0 h2 [(0, .ref 0), (1, .int v1), (2, .int v2), (3, .int r1)] [] 115) ∧ (¬ ((h2 0 15)) ≤ ((h2 0 20)) → vp_in (h2 0 20) 200 ∧ ((¬ ((h2 11 (h2 0 20).toNatClampNeg)) = (47 : Int32) → Wg X 0 0 h2 [(0, .ref 0), (1, .int v1), (2, .int v2), (3, .int r1)] [] 115) ∧ (((h2 11 (h2 0 20).toNatClampNeg)) = (47 : Int32) → K_Mo_readDigits [.ref 0, .int 5] (up h2 0 20 ((h2 0 20) + 1)) (fun r3 h3 => Wg X 0 0 h3 [(0, .ref 0), (1, .int v1), (2, .int v2), (3, .int r3)] [] 115)))))))) :
    Wg X 0 0 h [(0, .ref 0), (1, .int v1), (2, .int v2)] [.int t1, .ref 0] 55 := by
  refine pf_Mo_at C rfl k_1039 d_Mo_read_55 ?_
  refine r_aload_n C 0 rfl d_Mo_read_58 ?_
  refine r_iconst (v := 4) C (by decide) d_Mo_read_59 ?_
  refine r_callV (As := [.int 4]) (st := []) (lvc := 0) (mcc := 0) (msc := 0) C Rm M_Mo_readDigits rfl k_1283 rfl (by decide) (Nat.le_of_ble_eq_true rfl) ⟨by decide, by decide⟩ d_Mo_read_60 ?_
  refine Can.mono K (fun _ h1 z => ?_)
  obtain ⟨r1, rfl, K⟩ := z
  show Wg X 0 0 h1 [(0, .ref 0), (1, .int v1), (2, .int v2)] [.int r1] 63
  refine r_istore_n (ls2 := [(0, .ref 0), (1, .int v1), (2, .int v2), (3, .int r1)]) C rfl (by decide) rfl d_Mo_read_63 ?_
  refine r_aload_n C 0 rfl d_Mo_read_64 ?_
  refine r_iconst (v := 5) C (by decide) d_Mo_read_65 ?_
  refine r_lconst (v := 1) C (by decide) d_Mo_read_66 ?_
  refine r_callV (As := [.int 5, .long 1]) (st := []) (lvc := 1) (mcc := 0) (msc := 0) C Rm M_Mo_setLong rfl k_1106 rfl (by decide) (Nat.le_of_ble_eq_true rfl) ⟨by decide, by decide⟩ d_Mo_read_67 ?_
  refine Can.mono K (fun _ h2 z => ?_)
  obtain ⟨rfl, K⟩ := z
  show Wg X 0 0 h2 [(0, .ref 0), (1, .int v1), (2, .int v2), (3, .int r1)] [] 70
  refine r_iload_n C 3 rfl d_Mo_read_70 ?_
  refine r_if_eq C 115 d_Mo_read_71 (by decide) ⟨fun c0 => ?_, fun c0 => ?_⟩
  · have K := K.1 c0
    exact K
  · have K := K.2 c0
    refine r_aload_n C 0 rfl d_Mo_read_74 ?_
    refine gf_Mo_at C rfl k_1039 d_Mo_read_75 ?_
    refine r_aload_n C 0 rfl d_Mo_read_78 ?_
    refine gf_Mo_lineSize C rfl k_1034 d_Mo_read_79 ?_
    refine r_icmp_ge C 115 d_Mo_read_82 (by decide) ⟨fun c0 => ?_, fun c0 => ?_⟩
    · have K := K.1 c0
      exact K
    · have K := K.2 c0
      refine r_aload_n C 0 rfl d_Mo_read_85 ?_
      refine gf_Mo_line (k2 := 11) C rfl rfl k_1033 d_Mo_read_86 ?_
      refine r_aload_n C 0 rfl d_Mo_read_89 ?_
      refine gf_Mo_at C rfl k_1039 d_Mo_read_90 ?_
      obtain ⟨s0, K⟩ := K
      refine r_cald C rfl s0 d_Mo_read_93 ?_
      refine r_bipush (v := 47) C (by decide) d_Mo_read_94 ?_
      refine r_icmp_ne C 115 d_Mo_read_96 (by decide) ⟨fun c0 => ?_, fun c0 => ?_⟩
      · have K := K.1 c0
        exact K
      · have K := K.2 c0
        refine r_aload_n C 0 rfl d_Mo_read_99 ?_
        refine r_dup C rfl d_Mo_read_100 ?_
        refine gf_Mo_at C rfl k_1039 d_Mo_read_101 ?_
        refine r_iconst (v := 1) C (by decide) d_Mo_read_104 ?_
        refine r_iadd C d_Mo_read_105 ?_
        refine pf_Mo_at C rfl k_1039 d_Mo_read_106 ?_
        refine r_aload_n C 0 rfl d_Mo_read_109 ?_
        refine r_iconst (v := 5) C (by decide) d_Mo_read_110 ?_
        refine r_callV (As := [.int 5]) (st := []) (lvc := 0) (mcc := 0) (msc := 0) C Rm M_Mo_readDigits rfl k_1283 rfl (by decide) (Nat.le_of_ble_eq_true rfl) ⟨by decide, by decide⟩ d_Mo_read_111 ?_
        refine Can.mono K (fun _ h3 z => ?_)
        obtain ⟨r3, rfl, K⟩ := z
        show Wg X 0 0 h3 [(0, .ref 0), (1, .int v1), (2, .int v2), (3, .int r1)] [.int r3] 114
        refine r_istore_n (ls2 := [(0, .ref 0), (1, .int v1), (2, .int v2), (3, .int r3)]) C rfl (by decide) rfl d_Mo_read_114 ?_
        exact K
set_option maxRecDepth 20000 in
theorem g_Mo_read_115 {X : CX} {h : HP} {v1 : Int32} {v2 : Int32} {v3 : Int32} {Φ : Int32 → HP → Prop} (C : Cok X b_Mo_read 4 R_Mo ((some .int))) (Rm : xR X = rml 5 0 0) (Q : Qok X 0 0 (fun r h2 => ∃ v, r = some (.int v) ∧ Φ v h2)) 
    (K : (v3 = 0 → Φ ((-7)) h) ∧ (¬ v3 = 0 → (((h 0 15)) ≤ ((h 0 20)) → vp_in 5 218 ∧ ((¬ (h 9 (5 : Int32).toNatClampNeg) = 0 → K_Mo_isLarge [.ref 0, .int 4] h (fun r1 h1 => (¬ r1 = 0 → Φ ((-3)) h1) ∧ (r1 = 0 → K_Mo_isLarge [.ref 0, .int 5] h1 (fun r2 h2 => (r2 = 0 → (v2 = 0 → vp_in 4 218 ∧ (K_Mo_reduce [.ref 0] (up h2 10 (4 : Int32).toNatClampNeg (vp_nar .boolean 0)) (fun h3 => K_Mo_finish [.ref 0, .int v1] h3 (fun r4 h4 => Φ r4 h4)))) ∧ (¬ v2 = 0 → vp_in 4 218 ∧ (((h2 9 (4 : Int32).toNatClampNeg) ≤ 0 → vp_in 4 218 ∧ (K_Mo_reduce [.ref 0] (up h2 10 (4 : Int32).toNatClampNeg (vp_nar .boolean 0)) (fun h5 => K_Mo_finish [.ref 0, .int v1] h5 (fun r6 h6 => Φ r6 h6)))) ∧ (¬ (h2 9 (4 : Int32).toNatClampNeg) ≤ 0 → vp_in 4 218 ∧ (K_Mo_reduce [.ref 0] (up h2 10 (4 : Int32).toNatClampNeg (vp_nar .boolean 1)) (fun h7 => K_Mo_finish [.ref 0, .int v1] h7 (fun r8 h8 => Φ r8 h8))))))) ∧ (¬ r2 = 0 → Φ ((-3)) h2))))) ∧ ((h 9 (5 : Int32).toNatClampNeg) = 0 → Φ ((-5)) h))) ∧ (¬ ((h 0 15)) ≤ ((h 0 20)) → Φ ((-7)) h))) :
    Wg X 0 0 h [(0, .ref 0), (1, .int v1), (2, .int v2), (3, .int v3)] [] 115 := by
  refine r_iload_n C 3 rfl d_Mo_read_115 ?_
  refine r_if_eq C 130 d_Mo_read_116 (by decide) ⟨fun c0 => ?_, fun c0 => ?_⟩
  · have K := K.1 c0
    refine r_bipush (v := (-7)) C (by decide) d_Mo_read_130 ?_
    exact q_iret C Q d_Mo_read_132 ⟨_, rfl, K⟩
  · have K := K.2 c0
    refine r_aload_n C 0 rfl d_Mo_read_119 ?_
    refine gf_Mo_at C rfl k_1039 d_Mo_read_120 ?_
    refine r_aload_n C 0 rfl d_Mo_read_123 ?_
    refine gf_Mo_lineSize C rfl k_1034 d_Mo_read_124 ?_
    refine r_icmp_ge C 133 d_Mo_read_127 (by decide) ⟨fun c0 => ?_, fun c0 => ?_⟩
    · have K := K.1 c0
      refine r_aload_n C 0 rfl d_Mo_read_133 ?_
      refine gf_Mo_length (k2 := 9) C rfl rfl k_1031 d_Mo_read_134 ?_
      refine r_iconst (v := 5) C (by decide) d_Mo_read_137 ?_
      obtain ⟨s0, K⟩ := K
      refine r_iald C rfl s0 d_Mo_read_138 ?_
      refine r_if_ne C 145 d_Mo_read_139 (by decide) ⟨fun c0 => ?_, fun c0 => ?_⟩
      · have K := K.1 c0
        refine r_aload_n C 0 rfl d_Mo_read_145 ?_
        refine r_iconst (v := 4) C (by decide) d_Mo_read_146 ?_
        refine r_callV (As := [.int 4]) (st := []) (lvc := 1) (mcc := 0) (msc := 0) C Rm M_Mo_isLarge rfl k_1120 rfl (by decide) (Nat.le_of_ble_eq_true rfl) ⟨by decide, by decide⟩ d_Mo_read_147 ?_
        refine Can.mono K (fun _ h1 z => ?_)
        obtain ⟨r1, rfl, K⟩ := z
        show Wg X 0 0 h1 [(0, .ref 0), (1, .int v1), (2, .int v2), (3, .int v3)] [.int r1] 150
        refine r_if_ne C 161 d_Mo_read_150 (by decide) ⟨fun c0 => ?_, fun c0 => ?_⟩
        · have K := K.1 c0
          refine r_bipush (v := (-3)) C (by decide) d_Mo_read_161 ?_
          exact q_iret C Q d_Mo_read_163 ⟨_, rfl, K⟩
        · have K := K.2 c0
          refine r_aload_n C 0 rfl d_Mo_read_153 ?_
          refine r_iconst (v := 5) C (by decide) d_Mo_read_154 ?_
          refine r_callV (As := [.int 5]) (st := []) (lvc := 1) (mcc := 0) (msc := 0) C Rm M_Mo_isLarge rfl k_1120 rfl (by decide) (Nat.le_of_ble_eq_true rfl) ⟨by decide, by decide⟩ d_Mo_read_155 ?_
          refine Can.mono K (fun _ h2 z => ?_)
          obtain ⟨r2, rfl, K⟩ := z
          show Wg X 0 0 h2 [(0, .ref 0), (1, .int v1), (2, .int v2), (3, .int v3)] [.int r2] 158
          refine r_if_eq C 164 d_Mo_read_158 (by decide) ⟨fun c0 => ?_, fun c0 => ?_⟩
          · have K := K.1 c0
            refine r_aload_n C 0 rfl d_Mo_read_164 ?_
            refine gf_Mo_isBelow (k2 := 10) C rfl rfl k_1032 d_Mo_read_165 ?_
            refine r_iconst (v := 4) C (by decide) d_Mo_read_168 ?_
            refine r_iload_n C 2 rfl d_Mo_read_169 ?_
            refine r_if_eq C 186 d_Mo_read_170 (by decide) ⟨fun c0 => ?_, fun c0 => ?_⟩
            · have K := K.1 c0
              refine r_iconst (v := 0) C (by decide) d_Mo_read_186 ?_
              obtain ⟨s0, K⟩ := K
              refine r_zast C rfl s0 d_Mo_read_187 ?_
              refine r_aload_n C 0 rfl d_Mo_read_188 ?_
              refine r_callV (As := []) (st := []) (lvc := 3) (mcc := 0) (msc := 0) C Rm M_Mo_reduce rfl k_1255 rfl (by decide) (Nat.le_of_ble_eq_true rfl) ⟨by decide, by decide⟩ d_Mo_read_189 ?_
              refine Can.mono K (fun _ h3 z => ?_)
              obtain ⟨rfl, K⟩ := z
              show Wg X 0 0 h3 [(0, .ref 0), (1, .int v1), (2, .int v2), (3, .int v3)] [] 192
              refine r_aload_n C 0 rfl d_Mo_read_192 ?_
              refine r_iload_n C 1 rfl d_Mo_read_193 ?_
              refine r_callV (As := [.int v1]) (st := []) (lvc := 4) (mcc := 0) (msc := 0) C Rm M_Mo_finish rfl k_1116 rfl (by decide) (Nat.le_of_ble_eq_true rfl) ⟨by decide, by decide⟩ d_Mo_read_194 ?_
              refine Can.mono K (fun _ h4 z => ?_)
              obtain ⟨r4, rfl, K⟩ := z
              show Wg X 0 0 h4 [(0, .ref 0), (1, .int v1), (2, .int v2), (3, .int v3)] [.int r4] 197
              exact q_iret C Q d_Mo_read_197 ⟨_, rfl, K⟩
            · have K := K.2 c0
              refine r_aload_n C 0 rfl d_Mo_read_173 ?_
              refine gf_Mo_length (k2 := 9) C rfl rfl k_1031 d_Mo_read_174 ?_
              refine r_iconst (v := 4) C (by decide) d_Mo_read_177 ?_
              obtain ⟨s0, K⟩ := K
              refine r_iald C rfl s0 d_Mo_read_178 ?_
              refine r_if_le C 186 d_Mo_read_179 (by decide) ⟨fun c0 => ?_, fun c0 => ?_⟩
              · have K := K.1 c0
                refine r_iconst (v := 0) C (by decide) d_Mo_read_186 ?_
                obtain ⟨s0, K⟩ := K
                refine r_zast C rfl s0 d_Mo_read_187 ?_
                refine r_aload_n C 0 rfl d_Mo_read_188 ?_
                refine r_callV (As := []) (st := []) (lvc := 3) (mcc := 0) (msc := 0) C Rm M_Mo_reduce rfl k_1255 rfl (by decide) (Nat.le_of_ble_eq_true rfl) ⟨by decide, by decide⟩ d_Mo_read_189 ?_
                refine Can.mono K (fun _ h5 z => ?_)
                obtain ⟨rfl, K⟩ := z
                show Wg X 0 0 h5 [(0, .ref 0), (1, .int v1), (2, .int v2), (3, .int v3)] [] 192
                refine r_aload_n C 0 rfl d_Mo_read_192 ?_
                refine r_iload_n C 1 rfl d_Mo_read_193 ?_
                refine r_callV (As := [.int v1]) (st := []) (lvc := 4) (mcc := 0) (msc := 0) C Rm M_Mo_finish rfl k_1116 rfl (by decide) (Nat.le_of_ble_eq_true rfl) ⟨by decide, by decide⟩ d_Mo_read_194 ?_
                refine Can.mono K (fun _ h6 z => ?_)
                obtain ⟨r6, rfl, K⟩ := z
                show Wg X 0 0 h6 [(0, .ref 0), (1, .int v1), (2, .int v2), (3, .int v3)] [.int r6] 197
                exact q_iret C Q d_Mo_read_197 ⟨_, rfl, K⟩
              · have K := K.2 c0
                refine r_iconst (v := 1) C (by decide) d_Mo_read_182 ?_
                refine r_goto C 187 d_Mo_read_183 (by decide) ?_
                obtain ⟨s0, K⟩ := K
                refine r_zast C rfl s0 d_Mo_read_187 ?_
                refine r_aload_n C 0 rfl d_Mo_read_188 ?_
                refine r_callV (As := []) (st := []) (lvc := 3) (mcc := 0) (msc := 0) C Rm M_Mo_reduce rfl k_1255 rfl (by decide) (Nat.le_of_ble_eq_true rfl) ⟨by decide, by decide⟩ d_Mo_read_189 ?_
                refine Can.mono K (fun _ h7 z => ?_)
                obtain ⟨rfl, K⟩ := z
                show Wg X 0 0 h7 [(0, .ref 0), (1, .int v1), (2, .int v2), (3, .int v3)] [] 192
                refine r_aload_n C 0 rfl d_Mo_read_192 ?_
                refine r_iload_n C 1 rfl d_Mo_read_193 ?_
                refine r_callV (As := [.int v1]) (st := []) (lvc := 4) (mcc := 0) (msc := 0) C Rm M_Mo_finish rfl k_1116 rfl (by decide) (Nat.le_of_ble_eq_true rfl) ⟨by decide, by decide⟩ d_Mo_read_194 ?_
                refine Can.mono K (fun _ h8 z => ?_)
                obtain ⟨r8, rfl, K⟩ := z
                show Wg X 0 0 h8 [(0, .ref 0), (1, .int v1), (2, .int v2), (3, .int v3)] [.int r8] 197
                exact q_iret C Q d_Mo_read_197 ⟨_, rfl, K⟩
          · have K := K.2 c0
            refine r_bipush (v := (-3)) C (by decide) d_Mo_read_161 ?_
            exact q_iret C Q d_Mo_read_163 ⟨_, rfl, K⟩
      · have K := K.2 c0
        refine r_bipush (v := (-5)) C (by decide) d_Mo_read_142 ?_
        exact q_iret C Q d_Mo_read_144 ⟨_, rfl, K⟩
    · have K := K.2 c0
      refine r_bipush (v := (-7)) C (by decide) d_Mo_read_130 ?_
      exact q_iret C Q d_Mo_read_132 ⟨_, rfl, K⟩
set_option maxRecDepth 20000 in
theorem g_Mo_say_0 {X : CX} {h : HP} {v1 : Int32} {Φ : HP → Prop} (C : Cok X b_Mo_say 2 R_Mo none) (Rm : xR X = rml 0 0 0) (Q : Qok X 0 0 (fun r h2 => r = none ∧ Φ h2)) 
    (K : (¬ ((h 0 17)) = (400 : Int32) → vp_in (h 0 17) 400 ∧ (Φ (up (up h 12 (h 0 17).toNatClampNeg (vp_nar .char v1)) 0 17 (((up h 12 (h 0 17).toNatClampNeg (vp_nar .char v1)) 0 17) + 1)))) ∧ (((h 0 17)) = (400 : Int32) → Φ (up h 0 18 1))) :
    Wg X 0 0 h [(0, .ref 0), (1, .int v1)] [] 0 := by
  refine r_aload_n C 0 rfl d_Mo_say_0 ?_
  refine gf_Mo_outSize C rfl k_1036 d_Mo_say_1 ?_
  refine r_sipush (v := 400) C (by decide) d_Mo_say_4 ?_
  refine r_icmp_ne C 18 d_Mo_say_7 (by decide) ⟨fun c0 => ?_, fun c0 => ?_⟩
  · have K := K.1 c0
    refine r_aload_n C 0 rfl d_Mo_say_18 ?_
    refine gf_Mo_out (k2 := 12) C rfl rfl k_1035 d_Mo_say_19 ?_
    refine r_aload_n C 0 rfl d_Mo_say_22 ?_
    refine gf_Mo_outSize C rfl k_1036 d_Mo_say_23 ?_
    refine r_iload_n C 1 rfl d_Mo_say_26 ?_
    obtain ⟨s0, K⟩ := K
    refine r_cast C rfl s0 d_Mo_say_27 ?_
    refine r_aload_n C 0 rfl d_Mo_say_28 ?_
    refine r_dup C rfl d_Mo_say_29 ?_
    refine gf_Mo_outSize C rfl k_1036 d_Mo_say_30 ?_
    refine r_iconst (v := 1) C (by decide) d_Mo_say_33 ?_
    refine r_iadd C d_Mo_say_34 ?_
    refine pf_Mo_outSize C rfl k_1036 d_Mo_say_35 ?_
    exact q_vret C Q d_Mo_say_38 ⟨rfl, K⟩
  · have K := K.2 c0
    refine r_aload_n C 0 rfl d_Mo_say_10 ?_
    refine r_iconst (v := 1) C (by decide) d_Mo_say_11 ?_
    refine pf_Mo_isFull C rfl (by decide) k_1037 d_Mo_say_12 ?_
    refine r_goto C 38 d_Mo_say_15 (by decide) ?_
    exact q_vret C Q d_Mo_say_38 ⟨rfl, K⟩
set_option maxRecDepth 20000 in
theorem g_Mo_sayWhole_0 {X : CX} {h : HP} {v1 : Int32} {Φ : HP → Prop} (C : Cok X b_Mo_sayWhole 5 R_Mo none) (Rm : xR X = rml 3 0 0) (Q : Qok X 0 0 (fun r h2 => r = none ∧ Φ h2)) 
    (K : K_Mo_takeWhole [.ref 0, .int 6, .int v1] h (fun h1 => vp_in 6 218 ∧ (((h1 10 (6 : Int32).toNatClampNeg) = 0 → vp_in 6 218 ∧ ((¬ (h1 9 (6 : Int32).toNatClampNeg) = 0 → Wg X 0 0 h1 [(0, .ref 0), (1, .int v1), (2, .int 0)] [] 42) ∧ ((h1 9 (6 : Int32).toNatClampNeg) = 0 → K_Mo_say [.ref 0, .int 48] h1 (fun h2 => Φ h2)))) ∧ (¬ (h1 10 (6 : Int32).toNatClampNeg) = 0 → K_Mo_say [.ref 0, .int 45] h1 (fun h3 => vp_in 6 218 ∧ ((¬ (h3 9 (6 : Int32).toNatClampNeg) = 0 → Wg X 0 0 h3 [(0, .ref 0), (1, .int v1), (2, .int 0)] [] 42) ∧ ((h3 9 (6 : Int32).toNatClampNeg) = 0 → K_Mo_say [.ref 0, .int 48] h3 (fun h4 => Φ h4)))))))) :
    Wg X 0 0 h [(0, .ref 0), (1, .int v1)] [] 0 := by
  refine r_aload_n C 0 rfl d_Mo_sayWhole_0 ?_
  refine r_bipush (v := 6) C (by decide) d_Mo_sayWhole_1 ?_
  refine r_iload_n C 1 rfl d_Mo_sayWhole_3 ?_
  refine r_callV (As := [.int 6, .int v1]) (st := []) (lvc := 2) (mcc := 0) (msc := 0) C Rm M_Mo_takeWhole rfl k_1207 rfl (by decide) (Nat.le_of_ble_eq_true rfl) ⟨by decide, by decide⟩ d_Mo_sayWhole_4 ?_
  refine Can.mono K (fun _ h1 z => ?_)
  obtain ⟨rfl, K⟩ := z
  show Wg X 0 0 h1 [(0, .ref 0), (1, .int v1)] [] 7
  refine r_aload_n C 0 rfl d_Mo_sayWhole_7 ?_
  refine gf_Mo_isBelow (k2 := 10) C rfl rfl k_1032 d_Mo_sayWhole_8 ?_
  refine r_bipush (v := 6) C (by decide) d_Mo_sayWhole_11 ?_
  obtain ⟨s0, K⟩ := K
  refine r_zald C rfl s0 d_Mo_sayWhole_13 ?_
  refine r_if_eq C 23 d_Mo_sayWhole_14 (by decide) ⟨fun c0 => ?_, fun c0 => ?_⟩
  · have K := K.1 c0
    refine r_aload_n C 0 rfl d_Mo_sayWhole_23 ?_
    refine gf_Mo_length (k2 := 9) C rfl rfl k_1031 d_Mo_sayWhole_24 ?_
    refine r_bipush (v := 6) C (by decide) d_Mo_sayWhole_27 ?_
    obtain ⟨s0, K⟩ := K
    refine r_iald C rfl s0 d_Mo_sayWhole_29 ?_
    refine r_if_ne C 40 d_Mo_sayWhole_30 (by decide) ⟨fun c0 => ?_, fun c0 => ?_⟩
    · have K := K.1 c0
      refine r_iconst (v := 0) C (by decide) d_Mo_sayWhole_40 ?_
      refine r_istore_n (ls2 := [(0, .ref 0), (1, .int v1), (2, .int 0)]) C rfl (by decide) rfl d_Mo_sayWhole_41 ?_
      exact K
    · have K := K.2 c0
      refine r_aload_n C 0 rfl d_Mo_sayWhole_33 ?_
      refine r_bipush (v := 48) C (by decide) d_Mo_sayWhole_34 ?_
      refine r_callV (As := [.int 48]) (st := []) (lvc := 0) (mcc := 0) (msc := 0) C Rm M_Mo_say rfl k_1291 rfl (by decide) (Nat.le_of_ble_eq_true rfl) ⟨by decide, by decide⟩ d_Mo_sayWhole_36 ?_
      refine Can.mono K (fun _ h2 z => ?_)
      obtain ⟨rfl, K⟩ := z
      show Wg X 0 0 h2 [(0, .ref 0), (1, .int v1)] [] 39
      exact q_vret C Q d_Mo_sayWhole_39 ⟨rfl, K⟩
  · have K := K.2 c0
    refine r_aload_n C 0 rfl d_Mo_sayWhole_17 ?_
    refine r_bipush (v := 45) C (by decide) d_Mo_sayWhole_18 ?_
    refine r_callV (As := [.int 45]) (st := []) (lvc := 0) (mcc := 0) (msc := 0) C Rm M_Mo_say rfl k_1291 rfl (by decide) (Nat.le_of_ble_eq_true rfl) ⟨by decide, by decide⟩ d_Mo_sayWhole_20 ?_
    refine Can.mono K (fun _ h3 z => ?_)
    obtain ⟨rfl, K⟩ := z
    show Wg X 0 0 h3 [(0, .ref 0), (1, .int v1)] [] 23
    refine r_aload_n C 0 rfl d_Mo_sayWhole_23 ?_
    refine gf_Mo_length (k2 := 9) C rfl rfl k_1031 d_Mo_sayWhole_24 ?_
    refine r_bipush (v := 6) C (by decide) d_Mo_sayWhole_27 ?_
    obtain ⟨s0, K⟩ := K
    refine r_iald C rfl s0 d_Mo_sayWhole_29 ?_
    refine r_if_ne C 40 d_Mo_sayWhole_30 (by decide) ⟨fun c0 => ?_, fun c0 => ?_⟩
    · have K := K.1 c0
      refine r_iconst (v := 0) C (by decide) d_Mo_sayWhole_40 ?_
      refine r_istore_n (ls2 := [(0, .ref 0), (1, .int v1), (2, .int 0)]) C rfl (by decide) rfl d_Mo_sayWhole_41 ?_
      exact K
    · have K := K.2 c0
      refine r_aload_n C 0 rfl d_Mo_sayWhole_33 ?_
      refine r_bipush (v := 48) C (by decide) d_Mo_sayWhole_34 ?_
      refine r_callV (As := [.int 48]) (st := []) (lvc := 0) (mcc := 0) (msc := 0) C Rm M_Mo_say rfl k_1291 rfl (by decide) (Nat.le_of_ble_eq_true rfl) ⟨by decide, by decide⟩ d_Mo_sayWhole_36 ?_
      refine Can.mono K (fun _ h4 z => ?_)
      obtain ⟨rfl, K⟩ := z
      show Wg X 0 0 h4 [(0, .ref 0), (1, .int v1)] [] 39
      exact q_vret C Q d_Mo_sayWhole_39 ⟨rfl, K⟩
set_option maxRecDepth 20000 in
theorem g_Mo_sayWhole_42 {X : CX} {h : HP} {v1 : Int32} {v2 : Int32} {Φ : HP → Prop} (C : Cok X b_Mo_sayWhole 5 R_Mo none) (Rm : xR X = rml 3 0 0) (Q : Qok X 0 0 (fun r h2 => r = none ∧ Φ h2)) 
    (K : vp_in 6 218 ∧ (((h 9 (6 : Int32).toNatClampNeg) ≤ 0 → Wg X 0 0 h [(0, .ref 0), (1, .int v1), (2, .int v2), (3, .int (v2 - 1))] [] 77) ∧ (¬ (h 9 (6 : Int32).toNatClampNeg) ≤ 0 → K_Mo_divideSmall [.ref 0, .int 6, .int 10000] h (fun r1 h1 => vp_in v2 60 ∧ (Wg X 0 0 (up h1 13 v2.toNatClampNeg r1) [(0, .ref 0), (1, .int v1), (2, .int (v2 + 1))] [] 42))))) :
    Wg X 0 0 h [(0, .ref 0), (1, .int v1), (2, .int v2)] [] 42 := by
  refine r_aload_n C 0 rfl d_Mo_sayWhole_42 ?_
  refine gf_Mo_length (k2 := 9) C rfl rfl k_1031 d_Mo_sayWhole_43 ?_
  refine r_bipush (v := 6) C (by decide) d_Mo_sayWhole_46 ?_
  obtain ⟨s0, K⟩ := K
  refine r_iald C rfl s0 d_Mo_sayWhole_48 ?_
  refine r_if_le C 73 d_Mo_sayWhole_49 (by decide) ⟨fun c0 => ?_, fun c0 => ?_⟩
  · have K := K.1 c0
    refine r_iload_n C 2 rfl d_Mo_sayWhole_73 ?_
    refine r_iconst (v := 1) C (by decide) d_Mo_sayWhole_74 ?_
    refine r_isub C d_Mo_sayWhole_75 ?_
    refine r_istore_n (ls2 := [(0, .ref 0), (1, .int v1), (2, .int v2), (3, .int (v2 - 1))]) C rfl (by decide) rfl d_Mo_sayWhole_76 ?_
    exact K
  · have K := K.2 c0
    refine r_aload_n C 0 rfl d_Mo_sayWhole_52 ?_
    refine gf_Mo_digits (k2 := 13) C rfl rfl k_1038 d_Mo_sayWhole_53 ?_
    refine r_iload_n C 2 rfl d_Mo_sayWhole_56 ?_
    refine r_aload_n C 0 rfl d_Mo_sayWhole_57 ?_
    refine r_bipush (v := 6) C (by decide) d_Mo_sayWhole_58 ?_
    refine r_sipush (v := 10000) C (by decide) d_Mo_sayWhole_60 ?_
    refine r_callV (As := [.int 6, .int 10000]) (st := [.int v2, .ref 13]) (lvc := 1) (mcc := 0) (msc := 0) C Rm M_Mo_divideSmall rfl k_1243 rfl (by decide) (Nat.le_of_ble_eq_true rfl) ⟨by decide, by decide⟩ d_Mo_sayWhole_63 ?_
    refine Can.mono K (fun _ h1 z => ?_)
    obtain ⟨r1, rfl, K⟩ := z
    show Wg X 0 0 h1 [(0, .ref 0), (1, .int v1), (2, .int v2)] [.int r1, .int v2, .ref 13] 66
    obtain ⟨s0, K⟩ := K
    refine r_iast C rfl s0 d_Mo_sayWhole_66 ?_
    refine r_iinc (ls2 := [(0, .ref 0), (1, .int v1), (2, .int (v2 + 1))]) C 2 (m := 1) rfl (by decide) (by decide) rfl d_Mo_sayWhole_67 ?_
    refine r_goto C 42 d_Mo_sayWhole_70 (by decide) ?_
    exact K
set_option maxRecDepth 20000 in
theorem g_Mo_sayWhole_77 {X : CX} {h : HP} {v1 : Int32} {v2 : Int32} {v3 : Int32} {Φ : HP → Prop} (C : Cok X b_Mo_sayWhole 5 R_Mo none) (Rm : xR X = rml 3 0 0) (Q : Qok X 0 0 (fun r h2 => r = none ∧ Φ h2)) 
    (K : (v3 < 0 → Φ h) ∧ (¬ v3 < 0 → Wg X 0 0 h [(0, .ref 0), (1, .int v1), (2, .int v2), (3, .int v3), (4, .int 1000)] [] 86)) :
    Wg X 0 0 h [(0, .ref 0), (1, .int v1), (2, .int v2), (3, .int v3)] [] 77 := by
  refine r_iload_n C 3 rfl d_Mo_sayWhole_77 ?_
  refine r_if_lt C 145 d_Mo_sayWhole_78 (by decide) ⟨fun c0 => ?_, fun c0 => ?_⟩
  · have K := K.1 c0
    exact q_vret C Q d_Mo_sayWhole_145 ⟨rfl, K⟩
  · have K := K.2 c0
    refine r_sipush (v := 1000) C (by decide) d_Mo_sayWhole_81 ?_
    refine r_istore (ls2 := [(0, .ref 0), (1, .int v1), (2, .int v2), (3, .int v3), (4, .int 1000)]) C (by decide) rfl d_Mo_sayWhole_84 ?_
    exact K
set_option maxRecDepth 20000 in
theorem g_Mo_sayWhole_86 {X : CX} {h : HP} {v1 : Int32} {v2 : Int32} {v3 : Int32} {v4 : Int32} {Φ : HP → Prop} (C : Cok X b_Mo_sayWhole 5 R_Mo none) (Rm : xR X = rml 3 0 0) (Q : Qok X 0 0 (fun r h2 => r = none ∧ Φ h2)) 
    (K : (v4 ≤ 0 → Wg X 0 0 h [(0, .ref 0), (1, .int v1), (2, .int v2), (3, .int (v3 + (-1)))] [] 77) ∧ (¬ v4 ≤ 0 → (v3 < ((v2 - 1)) → Wg X 0 0 h [(0, .ref 0), (1, .int v1), (2, .int v2), (3, .int v3), (4, .int v4)] [] 109) ∧ (¬ v3 < ((v2 - 1)) → vp_in v3 60 ∧ ((((h 13 v3.toNatClampNeg)) < v4 → Wg X 0 0 h [(0, .ref 0), (1, .int v1), (2, .int v2), (3, .int v3), (4, .int (v4 / 10))] [] 86) ∧ (¬ ((h 13 v3.toNatClampNeg)) < v4 → Wg X 0 0 h [(0, .ref 0), (1, .int v1), (2, .int v2), (3, .int v3), (4, .int v4)] [] 109))))) :
    Wg X 0 0 h [(0, .ref 0), (1, .int v1), (2, .int v2), (3, .int v3), (4, .int v4)] [] 86 := by
  refine r_iload C 4 rfl d_Mo_sayWhole_86 ?_
  refine r_if_le C 139 d_Mo_sayWhole_88 (by decide) ⟨fun c0 => ?_, fun c0 => ?_⟩
  · have K := K.1 c0
    refine r_iinc (ls2 := [(0, .ref 0), (1, .int v1), (2, .int v2), (3, .int (v3 + (-1))), (4, .int v4)]) C 3 (m := -1) rfl (by decide) (by decide) rfl d_Mo_sayWhole_139 ?_
    refine r_goto C 77 d_Mo_sayWhole_142 (by decide) ?_
    exact Wg.drop (by simp) K
  · have K := K.2 c0
    refine r_iload_n C 3 rfl d_Mo_sayWhole_91 ?_
    refine r_iload_n C 2 rfl d_Mo_sayWhole_92 ?_
    refine r_iconst (v := 1) C (by decide) d_Mo_sayWhole_93 ?_
    refine r_isub C d_Mo_sayWhole_94 ?_
    refine r_icmp_lt C 109 d_Mo_sayWhole_95 (by decide) ⟨fun c0 => ?_, fun c0 => ?_⟩
    · have K := K.1 c0
      exact K
    · have K := K.2 c0
      refine r_aload_n C 0 rfl d_Mo_sayWhole_98 ?_
      refine gf_Mo_digits (k2 := 13) C rfl rfl k_1038 d_Mo_sayWhole_99 ?_
      refine r_iload_n C 3 rfl d_Mo_sayWhole_102 ?_
      obtain ⟨s0, K⟩ := K
      refine r_iald C rfl s0 d_Mo_sayWhole_103 ?_
      refine r_iload C 4 rfl d_Mo_sayWhole_104 ?_
      refine r_icmp_lt C 129 d_Mo_sayWhole_106 (by decide) ⟨fun c0 => ?_, fun c0 => ?_⟩
      · have K := K.1 c0
        refine r_iload C 4 rfl d_Mo_sayWhole_129 ?_
        refine r_bipush (v := 10) C (by decide) d_Mo_sayWhole_131 ?_
        refine r_idiv C (by decide) d_Mo_sayWhole_133 ?_
        refine r_istore (ls2 := [(0, .ref 0), (1, .int v1), (2, .int v2), (3, .int v3), (4, .int (v4 / 10))]) C (by decide) rfl d_Mo_sayWhole_134 ?_
        refine r_goto C 86 d_Mo_sayWhole_136 (by decide) ?_
        exact K
      · have K := K.2 c0
        exact K
set_option maxRecDepth 20000 in
theorem g_Mo_sayWhole_109 {X : CX} {h : HP} {v1 : Int32} {v2 : Int32} {v3 : Int32} {v4 : Int32} {Φ : HP → Prop} (C : Cok X b_Mo_sayWhole 5 R_Mo none) (Rm : xR X = rml 3 0 0) (Q : Qok X 0 0 (fun r h2 => r = none ∧ Φ h2)) 
    (K : vp_in v3 60 ∧ (¬ v4 = 0 ∧ (K_Mo_say [.ref 0, .int (i2c (48 + (((h 13 v3.toNatClampNeg) / v4) - ((h 13 v3.toNatClampNeg) / v4) / 10 * 10)))] h (fun h1 => Wg X 0 0 h1 [(0, .ref 0), (1, .int v1), (2, .int v2), (3, .int v3), (4, .int (v4 / 10))] [] 86)))) :
    Wg X 0 0 h [(0, .ref 0), (1, .int v1), (2, .int v2), (3, .int v3), (4, .int v4)] [] 109 := by
  refine r_aload_n C 0 rfl d_Mo_sayWhole_109 ?_
  refine r_bipush (v := 48) C (by decide) d_Mo_sayWhole_110 ?_
  refine r_aload_n C 0 rfl d_Mo_sayWhole_112 ?_
  refine gf_Mo_digits (k2 := 13) C rfl rfl k_1038 d_Mo_sayWhole_113 ?_
  refine r_iload_n C 3 rfl d_Mo_sayWhole_116 ?_
  obtain ⟨s0, K⟩ := K
  refine r_iald C rfl s0 d_Mo_sayWhole_117 ?_
  refine r_iload C 4 rfl d_Mo_sayWhole_118 ?_
  obtain ⟨s0, K⟩ := K
  refine r_idiv C s0 d_Mo_sayWhole_120 ?_
  refine r_bipush (v := 10) C (by decide) d_Mo_sayWhole_121 ?_
  refine r_irem C (by decide) d_Mo_sayWhole_123 ?_
  refine r_iadd C d_Mo_sayWhole_124 ?_
  refine r_i2c C d_Mo_sayWhole_125 ?_
  refine r_callV (As := [.int (i2c (48 + (((h 13 v3.toNatClampNeg) / v4) - ((h 13 v3.toNatClampNeg) / v4) / 10 * 10)))]) (st := []) (lvc := 0) (mcc := 0) (msc := 0) C Rm M_Mo_say rfl k_1291 rfl (by decide) (Nat.le_of_ble_eq_true rfl) ⟨by decide, by decide⟩ d_Mo_sayWhole_126 ?_
  refine Can.mono K (fun _ h1 z => ?_)
  obtain ⟨rfl, K⟩ := z
  show Wg X 0 0 h1 [(0, .ref 0), (1, .int v1), (2, .int v2), (3, .int v3), (4, .int v4)] [] 129
  refine r_iload C 4 rfl d_Mo_sayWhole_129 ?_
  refine r_bipush (v := 10) C (by decide) d_Mo_sayWhole_131 ?_
  refine r_idiv C (by decide) d_Mo_sayWhole_133 ?_
  refine r_istore (ls2 := [(0, .ref 0), (1, .int v1), (2, .int v2), (3, .int v3), (4, .int (v4 / 10))]) C (by decide) rfl d_Mo_sayWhole_134 ?_
  refine r_goto C 86 d_Mo_sayWhole_136 (by decide) ?_
  exact K
set_option maxRecDepth 20000 in
theorem g_Mo_sayPlain_0 {X : CX} {h : HP} {v1 : Int32} {Φ : HP → Prop} (C : Cok X b_Mo_sayPlain 2 R_Mo none) (Rm : xR X = rml 4 0 0) (Q : Qok X 0 0 (fun r h2 => r = none ∧ Φ h2)) 
    (K : K_Mo_sortOf [.ref 0, .int v1] h (fun r1 h1 => (¬ r1 = 0 → K_Mo_sortOf [.ref 0, .int v1] h1 (fun r2 h2 => (¬ r2 = (3 : Int32) → K_Mo_sayWhole [.ref 0, .int v1] h2 (fun h3 => Φ h3)) ∧ (r2 = (3 : Int32) → vp_in v1 416 ∧ (K_Mo_slotOf [.int (h2 2 v1.toNatClampNeg), .int 0] h2 (fun r4 h4 => K_Mo_sayWhole [.ref 0, .int r4] h4 (fun h5 => K_Mo_say [.ref 0, .int 47] h5 (fun h6 => vp_in v1 416 ∧ (K_Mo_slotOf [.int (h6 2 v1.toNatClampNeg), .int 1] h6 (fun r7 h7 => K_Mo_sayWhole [.ref 0, .int r7] h7 (fun h8 => Φ h8)))))))))) ∧ (r1 = 0 → K_Mo_say [.ref 0, .int 40] h1 (fun h9 => K_Mo_say [.ref 0, .int 41] h9 (fun h10 => Φ h10))))) :
    Wg X 0 0 h [(0, .ref 0), (1, .int v1)] [] 0 := by
  refine r_aload_n C 0 rfl d_Mo_sayPlain_0 ?_
  refine r_iload_n C 1 rfl d_Mo_sayPlain_1 ?_
  refine r_callV (As := [.int v1]) (st := []) (lvc := 0) (mcc := 0) (msc := 0) C Rm M_Mo_sortOf rfl k_1187 rfl (by decide) (Nat.le_of_ble_eq_true rfl) ⟨by decide, by decide⟩ d_Mo_sayPlain_2 ?_
  refine Can.mono K (fun _ h1 z => ?_)
  obtain ⟨r1, rfl, K⟩ := z
  show Wg X 0 0 h1 [(0, .ref 0), (1, .int v1)] [.int r1] 5
  refine r_if_ne C 23 d_Mo_sayPlain_5 (by decide) ⟨fun c0 => ?_, fun c0 => ?_⟩
  · have K := K.1 c0
    refine r_aload_n C 0 rfl d_Mo_sayPlain_23 ?_
    refine r_iload_n C 1 rfl d_Mo_sayPlain_24 ?_
    refine r_callV (As := [.int v1]) (st := []) (lvc := 0) (mcc := 0) (msc := 0) C Rm M_Mo_sortOf rfl k_1187 rfl (by decide) (Nat.le_of_ble_eq_true rfl) ⟨by decide, by decide⟩ d_Mo_sayPlain_25 ?_
    refine Can.mono K (fun _ h2 z => ?_)
    obtain ⟨r2, rfl, K⟩ := z
    show Wg X 0 0 h2 [(0, .ref 0), (1, .int v1)] [.int r2] 28
    refine r_iconst (v := 3) C (by decide) d_Mo_sayPlain_28 ?_
    refine r_icmp_ne C 69 d_Mo_sayPlain_29 (by decide) ⟨fun c0 => ?_, fun c0 => ?_⟩
    · have K := K.1 c0
      refine r_aload_n C 0 rfl d_Mo_sayPlain_69 ?_
      refine r_iload_n C 1 rfl d_Mo_sayPlain_70 ?_
      refine r_callV (As := [.int v1]) (st := []) (lvc := 3) (mcc := 0) (msc := 0) C Rm M_Mo_sayWhole rfl k_1299 rfl (by decide) (Nat.le_of_ble_eq_true rfl) ⟨by decide, by decide⟩ d_Mo_sayPlain_71 ?_
      refine Can.mono K (fun _ h3 z => ?_)
      obtain ⟨rfl, K⟩ := z
      show Wg X 0 0 h3 [(0, .ref 0), (1, .int v1)] [] 74
      exact q_vret C Q d_Mo_sayPlain_74 ⟨rfl, K⟩
    · have K := K.2 c0
      refine r_aload_n C 0 rfl d_Mo_sayPlain_32 ?_
      refine r_aload_n C 0 rfl d_Mo_sayPlain_33 ?_
      refine gf_Mo_valueOf (k2 := 2) C rfl rfl k_1021 d_Mo_sayPlain_34 ?_
      refine r_iload_n C 1 rfl d_Mo_sayPlain_37 ?_
      obtain ⟨s0, K⟩ := K
      refine r_iald C rfl s0 d_Mo_sayPlain_38 ?_
      refine r_iconst (v := 0) C (by decide) d_Mo_sayPlain_39 ?_
      refine r_callS (As := [.int (h2 2 v1.toNatClampNeg), .int 0]) (st := [.ref 0]) (lvc := 0) (mcc := 0) (msc := 0) C Rm M_Mo_slotOf rfl k_1153 (by decide) (Nat.le_of_ble_eq_true rfl) ⟨by decide, by decide⟩ d_Mo_sayPlain_40 ?_
      refine Can.mono K (fun _ h4 z => ?_)
      obtain ⟨r4, rfl, K⟩ := z
      show Wg X 0 0 h4 [(0, .ref 0), (1, .int v1)] [.int r4, .ref 0] 43
      refine r_callV (As := [.int r4]) (st := []) (lvc := 3) (mcc := 0) (msc := 0) C Rm M_Mo_sayWhole rfl k_1299 rfl (by decide) (Nat.le_of_ble_eq_true rfl) ⟨by decide, by decide⟩ d_Mo_sayPlain_43 ?_
      refine Can.mono K (fun _ h5 z => ?_)
      obtain ⟨rfl, K⟩ := z
      show Wg X 0 0 h5 [(0, .ref 0), (1, .int v1)] [] 46
      refine r_aload_n C 0 rfl d_Mo_sayPlain_46 ?_
      refine r_bipush (v := 47) C (by decide) d_Mo_sayPlain_47 ?_
      refine r_callV (As := [.int 47]) (st := []) (lvc := 0) (mcc := 0) (msc := 0) C Rm M_Mo_say rfl k_1291 rfl (by decide) (Nat.le_of_ble_eq_true rfl) ⟨by decide, by decide⟩ d_Mo_sayPlain_49 ?_
      refine Can.mono K (fun _ h6 z => ?_)
      obtain ⟨rfl, K⟩ := z
      show Wg X 0 0 h6 [(0, .ref 0), (1, .int v1)] [] 52
      refine r_aload_n C 0 rfl d_Mo_sayPlain_52 ?_
      refine r_aload_n C 0 rfl d_Mo_sayPlain_53 ?_
      refine gf_Mo_valueOf (k2 := 2) C rfl rfl k_1021 d_Mo_sayPlain_54 ?_
      refine r_iload_n C 1 rfl d_Mo_sayPlain_57 ?_
      obtain ⟨s0, K⟩ := K
      refine r_iald C rfl s0 d_Mo_sayPlain_58 ?_
      refine r_iconst (v := 1) C (by decide) d_Mo_sayPlain_59 ?_
      refine r_callS (As := [.int (h6 2 v1.toNatClampNeg), .int 1]) (st := [.ref 0]) (lvc := 0) (mcc := 0) (msc := 0) C Rm M_Mo_slotOf rfl k_1153 (by decide) (Nat.le_of_ble_eq_true rfl) ⟨by decide, by decide⟩ d_Mo_sayPlain_60 ?_
      refine Can.mono K (fun _ h7 z => ?_)
      obtain ⟨r7, rfl, K⟩ := z
      show Wg X 0 0 h7 [(0, .ref 0), (1, .int v1)] [.int r7, .ref 0] 63
      refine r_callV (As := [.int r7]) (st := []) (lvc := 3) (mcc := 0) (msc := 0) C Rm M_Mo_sayWhole rfl k_1299 rfl (by decide) (Nat.le_of_ble_eq_true rfl) ⟨by decide, by decide⟩ d_Mo_sayPlain_63 ?_
      refine Can.mono K (fun _ h8 z => ?_)
      obtain ⟨rfl, K⟩ := z
      show Wg X 0 0 h8 [(0, .ref 0), (1, .int v1)] [] 66
      refine r_goto C 74 d_Mo_sayPlain_66 (by decide) ?_
      exact q_vret C Q d_Mo_sayPlain_74 ⟨rfl, K⟩
  · have K := K.2 c0
    refine r_aload_n C 0 rfl d_Mo_sayPlain_8 ?_
    refine r_bipush (v := 40) C (by decide) d_Mo_sayPlain_9 ?_
    refine r_callV (As := [.int 40]) (st := []) (lvc := 0) (mcc := 0) (msc := 0) C Rm M_Mo_say rfl k_1291 rfl (by decide) (Nat.le_of_ble_eq_true rfl) ⟨by decide, by decide⟩ d_Mo_sayPlain_11 ?_
    refine Can.mono K (fun _ h9 z => ?_)
    obtain ⟨rfl, K⟩ := z
    show Wg X 0 0 h9 [(0, .ref 0), (1, .int v1)] [] 14
    refine r_aload_n C 0 rfl d_Mo_sayPlain_14 ?_
    refine r_bipush (v := 41) C (by decide) d_Mo_sayPlain_15 ?_
    refine r_callV (As := [.int 41]) (st := []) (lvc := 0) (mcc := 0) (msc := 0) C Rm M_Mo_say rfl k_1291 rfl (by decide) (Nat.le_of_ble_eq_true rfl) ⟨by decide, by decide⟩ d_Mo_sayPlain_17 ?_
    refine Can.mono K (fun _ h10 z => ?_)
    obtain ⟨rfl, K⟩ := z
    show Wg X 0 0 h10 [(0, .ref 0), (1, .int v1)] [] 20
    refine r_goto C 74 d_Mo_sayPlain_20 (by decide) ?_
    exact q_vret C Q d_Mo_sayPlain_74 ⟨rfl, K⟩
set_option maxRecDepth 20000 in
theorem g_Mo_write_0 {X : CX} {h : HP} {v1 : Int32} {Φ : Int32 → HP → Prop} (C : Cok X b_Mo_write 7 R_Mo ((some .int))) (Rm : xR X = rml 5 0 0) (Q : Qok X 0 0 (fun r h2 => ∃ v, r = some (.int v) ∧ Φ v h2)) 
    (K : K_Mo_isRegister [.int v1] h (fun r1 h1 => (r1 = 0 → Wg X 0 0 h1 [(0, .ref 0), (1, .int v1)] [.int 1, .ref 0] 13) ∧ (¬ r1 = 0 → Wg X 0 0 h1 [(0, .ref 0), (1, .int v1)] [.int 0, .ref 0] 13))) :
    Wg X 0 0 h [(0, .ref 0), (1, .int v1)] [] 0 := by
  refine r_aload_n C 0 rfl d_Mo_write_0 ?_
  refine r_iload_n C 1 rfl d_Mo_write_1 ?_
  refine r_callS (As := [.int v1]) (st := [.ref 0]) (lvc := 0) (mcc := 0) (msc := 0) C Rm M_Mo_isRegister rfl k_1091 (by decide) (Nat.le_of_ble_eq_true rfl) ⟨by decide, by decide⟩ d_Mo_write_2 ?_
  refine Can.mono K (fun _ h1 z => ?_)
  obtain ⟨r1, rfl, K⟩ := z
  show Wg X 0 0 h1 [(0, .ref 0), (1, .int v1)] [.int r1, .ref 0] 5
  refine r_if_eq C 12 d_Mo_write_5 (by decide) ⟨fun c0 => ?_, fun c0 => ?_⟩
  · have K := K.1 c0
    refine r_iconst (v := 1) C (by decide) d_Mo_write_12 ?_
    exact K
  · have K := K.2 c0
    refine r_iconst (v := 0) C (by decide) d_Mo_write_8 ?_
    refine r_goto C 13 d_Mo_write_9 (by decide) ?_
    exact K
set_option maxRecDepth 20000 in
theorem g_Mo_write_13 {X : CX} {h : HP} {v1 : Int32} {t1 : Int32} {Φ : Int32 → HP → Prop} (C : Cok X b_Mo_write 7 R_Mo ((some .int))) (Rm : xR X = rml 5 0 0) (Q : Qok X 0 0 (fun r h2 => ∃ v, r = some (.int v) ∧ Φ v h2)) 
    (K : K_Mo_refused [.ref 0, .int t1] h (fun r1 h1 => (r1 = 0 → Wg X 0 0 (up (up h1 0 17 0) 0 18 0) [(0, .ref 0), (1, .int v1), (2, .int 0), (3, .int v1), (4, .int 1)] [] 38) ∧ (¬ r1 = 0 → Φ 0 h1))) :
    Wg X 0 0 h [(0, .ref 0), (1, .int v1)] [.int t1, .ref 0] 13 := by
  refine r_callV (As := [.int t1]) (st := []) (lvc := 0) (mcc := 0) (msc := 0) C Rm M_Mo_refused rfl k_1094 rfl (by decide) (Nat.le_of_ble_eq_true rfl) ⟨by decide, by decide⟩ d_Mo_write_13 ?_
  refine Can.mono K (fun _ h1 z => ?_)
  obtain ⟨r1, rfl, K⟩ := z
  show Wg X 0 0 h1 [(0, .ref 0), (1, .int v1)] [.int r1] 16
  refine r_if_eq C 21 d_Mo_write_16 (by decide) ⟨fun c0 => ?_, fun c0 => ?_⟩
  · have K := K.1 c0
    refine r_aload_n C 0 rfl d_Mo_write_21 ?_
    refine r_iconst (v := 0) C (by decide) d_Mo_write_22 ?_
    refine pf_Mo_outSize C rfl k_1036 d_Mo_write_23 ?_
    refine r_aload_n C 0 rfl d_Mo_write_26 ?_
    refine r_iconst (v := 0) C (by decide) d_Mo_write_27 ?_
    refine pf_Mo_isFull C rfl (by decide) k_1037 d_Mo_write_28 ?_
    refine r_iconst (v := 0) C (by decide) d_Mo_write_31 ?_
    refine r_istore_n (ls2 := [(0, .ref 0), (1, .int v1), (2, .int 0)]) C rfl (by decide) rfl d_Mo_write_32 ?_
    refine r_iload_n C 1 rfl d_Mo_write_33 ?_
    refine r_istore_n (ls2 := [(0, .ref 0), (1, .int v1), (2, .int 0), (3, .int v1)]) C rfl (by decide) rfl d_Mo_write_34 ?_
    refine r_iconst (v := 1) C (by decide) d_Mo_write_35 ?_
    refine r_istore (ls2 := [(0, .ref 0), (1, .int v1), (2, .int 0), (3, .int v1), (4, .int 1)]) C (by decide) rfl d_Mo_write_36 ?_
    exact K
  · have K := K.2 c0
    refine r_iconst (v := 0) C (by decide) d_Mo_write_19 ?_
    exact q_iret C Q d_Mo_write_20 ⟨_, rfl, K⟩
set_option maxRecDepth 20000 in
theorem g_Mo_write_38 {X : CX} {h : HP} {v1 : Int32} {v2 : Int32} {v3 : Int32} {v4 : Int32} {Φ : Int32 → HP → Prop} (C : Cok X b_Mo_write 7 R_Mo ((some .int))) (Rm : xR X = rml 5 0 0) (Q : Qok X 0 0 (fun r h2 => ∃ v, r = some (.int v) ∧ Φ v h2)) 
    (K : (v4 = 0 → ((h 0 18) = 0 → Φ (h 0 17) h) ∧ (¬ (h 0 18) = 0 → Φ ((-6)) (up h 0 17 0))) ∧ (¬ v4 = 0 → (¬ (h 0 18) = 0 → ((h 0 18) = 0 → Φ (h 0 17) h) ∧ (¬ (h 0 18) = 0 → Φ ((-6)) (up h 0 17 0))) ∧ ((h 0 18) = 0 → Wg X 0 0 h [(0, .ref 0), (1, .int v1), (2, .int v2), (3, .int v3), (4, .int v4)] [] 50))) :
    Wg X 0 0 h [(0, .ref 0), (1, .int v1), (2, .int v2), (3, .int v3), (4, .int v4)] [] 38 := by
  refine r_iload C 4 rfl d_Mo_write_38 ?_
  refine r_if_eq C 247 d_Mo_write_40 (by decide) ⟨fun c0 => ?_, fun c0 => ?_⟩
  · have K := K.1 c0
    refine r_aload_n C 0 rfl d_Mo_write_247 ?_
    refine gf_Mo_isFull C rfl k_1037 d_Mo_write_248 ?_
    refine r_if_eq C 262 d_Mo_write_251 (by decide) ⟨fun c0 => ?_, fun c0 => ?_⟩
    · have K := K.1 c0
      refine r_aload_n C 0 rfl d_Mo_write_262 ?_
      refine gf_Mo_outSize C rfl k_1036 d_Mo_write_263 ?_
      exact q_iret C Q d_Mo_write_266 ⟨_, rfl, K⟩
    · have K := K.2 c0
      refine r_aload_n C 0 rfl d_Mo_write_254 ?_
      refine r_iconst (v := 0) C (by decide) d_Mo_write_255 ?_
      refine pf_Mo_outSize C rfl k_1036 d_Mo_write_256 ?_
      refine r_bipush (v := (-6)) C (by decide) d_Mo_write_259 ?_
      exact q_iret C Q d_Mo_write_261 ⟨_, rfl, K⟩
  · have K := K.2 c0
    refine r_aload_n C 0 rfl d_Mo_write_43 ?_
    refine gf_Mo_isFull C rfl k_1037 d_Mo_write_44 ?_
    refine r_if_ne C 247 d_Mo_write_47 (by decide) ⟨fun c0 => ?_, fun c0 => ?_⟩
    · have K := K.1 c0
      refine r_aload_n C 0 rfl d_Mo_write_247 ?_
      refine gf_Mo_isFull C rfl k_1037 d_Mo_write_248 ?_
      refine r_if_eq C 262 d_Mo_write_251 (by decide) ⟨fun c0 => ?_, fun c0 => ?_⟩
      · have K := K.1 c0
        refine r_aload_n C 0 rfl d_Mo_write_262 ?_
        refine gf_Mo_outSize C rfl k_1036 d_Mo_write_263 ?_
        exact q_iret C Q d_Mo_write_266 ⟨_, rfl, K⟩
      · have K := K.2 c0
        refine r_aload_n C 0 rfl d_Mo_write_254 ?_
        refine r_iconst (v := 0) C (by decide) d_Mo_write_255 ?_
        refine pf_Mo_outSize C rfl k_1036 d_Mo_write_256 ?_
        refine r_bipush (v := (-6)) C (by decide) d_Mo_write_259 ?_
        exact q_iret C Q d_Mo_write_261 ⟨_, rfl, K⟩
    · have K := K.2 c0
      exact K
set_option maxRecDepth 20000 in
theorem g_Mo_write_50 {X : CX} {h : HP} {v1 : Int32} {v2 : Int32} {v3 : Int32} {v4 : Int32} {Φ : Int32 → HP → Prop} (C : Cok X b_Mo_write 7 R_Mo ((some .int))) (Rm : xR X = rml 5 0 0) (Q : Qok X 0 0 (fun r h2 => ∃ v, r = some (.int v) ∧ Φ v h2)) 
    (K : K_Mo_sortOf [.ref 0, .int v3] h (fun r1 h1 => (¬ r1 = (4 : Int32) → (¬ (h1 0 18) = 0 → Wg X 0 0 h1 [(0, .ref 0), (1, .int v1), (2, .int v2), (3, .int v3), (4, .int v4), (5, .int 0)] [] 116) ∧ ((h1 0 18) = 0 → K_Mo_sayPlain [.ref 0, .int v3] h1 (fun h2 => Wg X 0 0 h2 [(0, .ref 0), (1, .int v1), (2, .int v2), (3, .int v3), (4, .int v4), (5, .int 0)] [] 116))) ∧ (r1 = (4 : Int32) → (¬ (h1 0 18) = 0 → (¬ (h1 0 18) = 0 → Wg X 0 0 h1 [(0, .ref 0), (1, .int v1), (2, .int v2), (3, .int v3), (4, .int v4), (5, .int 0)] [] 116) ∧ ((h1 0 18) = 0 → K_Mo_sayPlain [.ref 0, .int v3] h1 (fun h3 => Wg X 0 0 h3 [(0, .ref 0), (1, .int v1), (2, .int v2), (3, .int v3), (4, .int v4), (5, .int 0)] [] 116))) ∧ ((h1 0 18) = 0 → K_Mo_say [.ref 0, .int 40] h1 (fun h4 => vp_in v3 416 ∧ (vp_in v2 600 ∧ (vp_in v3 416 ∧ (K_Mo_slotOf [.int ((up h4 7 v2.toNatClampNeg (h4 2 v3.toNatClampNeg)) 2 v3.toNatClampNeg), .int 0] (up h4 7 v2.toNatClampNeg (h4 2 v3.toNatClampNeg)) (fun r5 h5 => Wg X 0 0 h5 [(0, .ref 0), (1, .int v1), (2, .int (v2 + 1)), (3, .int r5), (4, .int v4)] [] 50))))))))) :
    Wg X 0 0 h [(0, .ref 0), (1, .int v1), (2, .int v2), (3, .int v3), (4, .int v4)] [] 50 := by
  refine r_aload_n C 0 rfl d_Mo_write_50 ?_
  refine r_iload_n C 3 rfl d_Mo_write_51 ?_
  refine r_callV (As := [.int v3]) (st := []) (lvc := 0) (mcc := 0) (msc := 0) C Rm M_Mo_sortOf rfl k_1187 rfl (by decide) (Nat.le_of_ble_eq_true rfl) ⟨by decide, by decide⟩ d_Mo_write_52 ?_
  refine Can.mono K (fun _ h1 z => ?_)
  obtain ⟨r1, rfl, K⟩ := z
  show Wg X 0 0 h1 [(0, .ref 0), (1, .int v1), (2, .int v2), (3, .int v3), (4, .int v4)] [.int r1] 55
  refine r_iconst (v := 4) C (by decide) d_Mo_write_55 ?_
  refine r_icmp_ne C 101 d_Mo_write_56 (by decide) ⟨fun c0 => ?_, fun c0 => ?_⟩
  · have K := K.1 c0
    refine r_aload_n C 0 rfl d_Mo_write_101 ?_
    refine gf_Mo_isFull C rfl k_1037 d_Mo_write_102 ?_
    refine r_if_ne C 113 d_Mo_write_105 (by decide) ⟨fun c0 => ?_, fun c0 => ?_⟩
    · have K := K.1 c0
      refine r_iconst (v := 0) C (by decide) d_Mo_write_113 ?_
      refine r_istore (ls2 := [(0, .ref 0), (1, .int v1), (2, .int v2), (3, .int v3), (4, .int v4), (5, .int 0)]) C (by decide) rfl d_Mo_write_114 ?_
      exact K
    · have K := K.2 c0
      refine r_aload_n C 0 rfl d_Mo_write_108 ?_
      refine r_iload_n C 3 rfl d_Mo_write_109 ?_
      refine r_callV (As := [.int v3]) (st := []) (lvc := 4) (mcc := 0) (msc := 0) C Rm M_Mo_sayPlain rfl k_1295 rfl (by decide) (Nat.le_of_ble_eq_true rfl) ⟨by decide, by decide⟩ d_Mo_write_110 ?_
      refine Can.mono K (fun _ h2 z => ?_)
      obtain ⟨rfl, K⟩ := z
      show Wg X 0 0 h2 [(0, .ref 0), (1, .int v1), (2, .int v2), (3, .int v3), (4, .int v4)] [] 113
      refine r_iconst (v := 0) C (by decide) d_Mo_write_113 ?_
      refine r_istore (ls2 := [(0, .ref 0), (1, .int v1), (2, .int v2), (3, .int v3), (4, .int v4), (5, .int 0)]) C (by decide) rfl d_Mo_write_114 ?_
      exact K
  · have K := K.2 c0
    refine r_aload_n C 0 rfl d_Mo_write_59 ?_
    refine gf_Mo_isFull C rfl k_1037 d_Mo_write_60 ?_
    refine r_if_ne C 101 d_Mo_write_63 (by decide) ⟨fun c0 => ?_, fun c0 => ?_⟩
    · have K := K.1 c0
      refine r_aload_n C 0 rfl d_Mo_write_101 ?_
      refine gf_Mo_isFull C rfl k_1037 d_Mo_write_102 ?_
      refine r_if_ne C 113 d_Mo_write_105 (by decide) ⟨fun c0 => ?_, fun c0 => ?_⟩
      · have K := K.1 c0
        refine r_iconst (v := 0) C (by decide) d_Mo_write_113 ?_
        refine r_istore (ls2 := [(0, .ref 0), (1, .int v1), (2, .int v2), (3, .int v3), (4, .int v4), (5, .int 0)]) C (by decide) rfl d_Mo_write_114 ?_
        exact K
      · have K := K.2 c0
        refine r_aload_n C 0 rfl d_Mo_write_108 ?_
        refine r_iload_n C 3 rfl d_Mo_write_109 ?_
        refine r_callV (As := [.int v3]) (st := []) (lvc := 4) (mcc := 0) (msc := 0) C Rm M_Mo_sayPlain rfl k_1295 rfl (by decide) (Nat.le_of_ble_eq_true rfl) ⟨by decide, by decide⟩ d_Mo_write_110 ?_
        refine Can.mono K (fun _ h3 z => ?_)
        obtain ⟨rfl, K⟩ := z
        show Wg X 0 0 h3 [(0, .ref 0), (1, .int v1), (2, .int v2), (3, .int v3), (4, .int v4)] [] 113
        refine r_iconst (v := 0) C (by decide) d_Mo_write_113 ?_
        refine r_istore (ls2 := [(0, .ref 0), (1, .int v1), (2, .int v2), (3, .int v3), (4, .int v4), (5, .int 0)]) C (by decide) rfl d_Mo_write_114 ?_
        exact K
    · have K := K.2 c0
      refine r_aload_n C 0 rfl d_Mo_write_66 ?_
      refine r_bipush (v := 40) C (by decide) d_Mo_write_67 ?_
      refine r_callV (As := [.int 40]) (st := []) (lvc := 0) (mcc := 0) (msc := 0) C Rm M_Mo_say rfl k_1291 rfl (by decide) (Nat.le_of_ble_eq_true rfl) ⟨by decide, by decide⟩ d_Mo_write_69 ?_
      refine Can.mono K (fun _ h4 z => ?_)
      obtain ⟨rfl, K⟩ := z
      show Wg X 0 0 h4 [(0, .ref 0), (1, .int v1), (2, .int v2), (3, .int v3), (4, .int v4)] [] 72
      refine r_aload_n C 0 rfl d_Mo_write_72 ?_
      refine gf_Mo_pile (k2 := 7) C rfl rfl k_1027 d_Mo_write_73 ?_
      refine r_iload_n C 2 rfl d_Mo_write_76 ?_
      refine r_aload_n C 0 rfl d_Mo_write_77 ?_
      refine gf_Mo_valueOf (k2 := 2) C rfl rfl k_1021 d_Mo_write_78 ?_
      refine r_iload_n C 3 rfl d_Mo_write_81 ?_
      obtain ⟨s0, K⟩ := K
      refine r_iald C rfl s0 d_Mo_write_82 ?_
      obtain ⟨s0, K⟩ := K
      refine r_iast C rfl s0 d_Mo_write_83 ?_
      refine r_iinc (ls2 := [(0, .ref 0), (1, .int v1), (2, .int (v2 + 1)), (3, .int v3), (4, .int v4)]) C 2 (m := 1) rfl (by decide) (by decide) rfl d_Mo_write_84 ?_
      refine r_aload_n C 0 rfl d_Mo_write_87 ?_
      refine gf_Mo_valueOf (k2 := 2) C rfl rfl k_1021 d_Mo_write_88 ?_
      refine r_iload_n C 3 rfl d_Mo_write_91 ?_
      obtain ⟨s0, K⟩ := K
      refine r_iald C rfl s0 d_Mo_write_92 ?_
      refine r_iconst (v := 0) C (by decide) d_Mo_write_93 ?_
      refine r_callS (As := [.int ((up h4 7 v2.toNatClampNeg (h4 2 v3.toNatClampNeg)) 2 v3.toNatClampNeg), .int 0]) (st := []) (lvc := 0) (mcc := 0) (msc := 0) C Rm M_Mo_slotOf rfl k_1153 (by decide) (Nat.le_of_ble_eq_true rfl) ⟨by decide, by decide⟩ d_Mo_write_94 ?_
      refine Can.mono K (fun _ h5 z => ?_)
      obtain ⟨r5, rfl, K⟩ := z
      show Wg X 0 0 h5 [(0, .ref 0), (1, .int v1), (2, .int (v2 + 1)), (3, .int v3), (4, .int v4)] [.int r5] 97
      refine r_istore_n (ls2 := [(0, .ref 0), (1, .int v1), (2, .int (v2 + 1)), (3, .int r5), (4, .int v4)]) C rfl (by decide) rfl d_Mo_write_97 ?_
      refine r_goto C 50 d_Mo_write_98 (by decide) ?_
      exact K
set_option maxRecDepth 20000 in
theorem g_Mo_write_116 {X : CX} {h : HP} {v1 : Int32} {v2 : Int32} {v3 : Int32} {v4 : Int32} {v5 : Int32} {Φ : Int32 → HP → Prop} (C : Cok X b_Mo_write 7 R_Mo ((some .int))) (Rm : xR X = rml 5 0 0) (Q : Qok X 0 0 (fun r h2 => ∃ v, r = some (.int v) ∧ Φ v h2)) 
    (K : (v2 ≤ 0 → Wg X 0 0 h [(0, .ref 0), (1, .int v1), (2, .int v2), (3, .int v3), (4, .int v5)] [] 38) ∧ (¬ v2 ≤ 0 → (¬ v5 = 0 → Wg X 0 0 h [(0, .ref 0), (1, .int v1), (2, .int v2), (3, .int v3), (4, .int v5)] [] 38) ∧ (v5 = 0 → (¬ (h 0 18) = 0 → Wg X 0 0 h [(0, .ref 0), (1, .int v1), (2, .int v2), (3, .int v3), (4, .int v5)] [] 38) ∧ ((h 0 18) = 0 → vp_in (v2 - 1) 600 ∧ (K_Mo_slotOf [.int (h 7 (v2 - 1).toNatClampNeg), .int 1] h (fun r1 h1 => K_Mo_sortOf [.ref 0, .int r1] h1 (fun r2 h2 => (¬ r2 = (4 : Int32) → K_Mo_sortOf [.ref 0, .int r1] h2 (fun r3 h3 => (r3 = 0 → K_Mo_say [.ref 0, .int 41] h3 (fun h4 => Wg X 0 0 h4 [(0, .ref 0), (1, .int v1), (2, .int (v2 + (-1))), (3, .int v3), (4, .int v4), (5, .int v5)] [] 116)) ∧ (¬ r3 = 0 → K_Mo_say [.ref 0, .int 32] h3 (fun h5 => K_Mo_say [.ref 0, .int 46] h5 (fun h6 => K_Mo_say [.ref 0, .int 32] h6 (fun h7 => K_Mo_sayPlain [.ref 0, .int r1] h7 (fun h8 => K_Mo_say [.ref 0, .int 41] h8 (fun h9 => Wg X 0 0 h9 [(0, .ref 0), (1, .int v1), (2, .int (v2 + (-1))), (3, .int v3), (4, .int v4), (5, .int v5)] [] 116)))))))) ∧ (r2 = (4 : Int32) → K_Mo_say [.ref 0, .int 32] h2 (fun h10 => vp_in r1 416 ∧ (vp_in (v2 - 1) 600 ∧ (vp_in r1 416 ∧ (K_Mo_slotOf [.int ((up h10 7 (v2 - 1).toNatClampNeg (h10 2 r1.toNatClampNeg)) 2 r1.toNatClampNeg), .int 0] (up h10 7 (v2 - 1).toNatClampNeg (h10 2 r1.toNatClampNeg)) (fun r11 h11 => Wg X 0 0 h11 [(0, .ref 0), (1, .int v1), (2, .int v2), (3, .int r11), (4, .int v4), (5, .int 1)] [] 116))))))))))))) :
    Wg X 0 0 h [(0, .ref 0), (1, .int v1), (2, .int v2), (3, .int v3), (4, .int v4), (5, .int v5)] [] 116 := by
  refine r_iload_n C 2 rfl d_Mo_write_116 ?_
  refine r_if_le C 240 d_Mo_write_117 (by decide) ⟨fun c0 => ?_, fun c0 => ?_⟩
  · have K := K.1 c0
    refine r_iload C 5 rfl d_Mo_write_240 ?_
    refine r_istore (ls2 := [(0, .ref 0), (1, .int v1), (2, .int v2), (3, .int v3), (4, .int v5), (5, .int v5)]) C (by decide) rfl d_Mo_write_242 ?_
    refine r_goto C 38 d_Mo_write_244 (by decide) ?_
    exact Wg.drop (by simp) K
  · have K := K.2 c0
    refine r_iload C 5 rfl d_Mo_write_120 ?_
    refine r_if_ne C 240 d_Mo_write_122 (by decide) ⟨fun c0 => ?_, fun c0 => ?_⟩
    · have K := K.1 c0
      refine r_iload C 5 rfl d_Mo_write_240 ?_
      refine r_istore (ls2 := [(0, .ref 0), (1, .int v1), (2, .int v2), (3, .int v3), (4, .int v5), (5, .int v5)]) C (by decide) rfl d_Mo_write_242 ?_
      refine r_goto C 38 d_Mo_write_244 (by decide) ?_
      exact Wg.drop (by simp) K
    · have K := K.2 c0
      refine r_aload_n C 0 rfl d_Mo_write_125 ?_
      refine gf_Mo_isFull C rfl k_1037 d_Mo_write_126 ?_
      refine r_if_ne C 240 d_Mo_write_129 (by decide) ⟨fun c0 => ?_, fun c0 => ?_⟩
      · have K := K.1 c0
        refine r_iload C 5 rfl d_Mo_write_240 ?_
        refine r_istore (ls2 := [(0, .ref 0), (1, .int v1), (2, .int v2), (3, .int v3), (4, .int v5), (5, .int v5)]) C (by decide) rfl d_Mo_write_242 ?_
        refine r_goto C 38 d_Mo_write_244 (by decide) ?_
        exact Wg.drop (by simp) K
      · have K := K.2 c0
        refine r_aload_n C 0 rfl d_Mo_write_132 ?_
        refine gf_Mo_pile (k2 := 7) C rfl rfl k_1027 d_Mo_write_133 ?_
        refine r_iload_n C 2 rfl d_Mo_write_136 ?_
        refine r_iconst (v := 1) C (by decide) d_Mo_write_137 ?_
        refine r_isub C d_Mo_write_138 ?_
        obtain ⟨s0, K⟩ := K
        refine r_iald C rfl s0 d_Mo_write_139 ?_
        refine r_iconst (v := 1) C (by decide) d_Mo_write_140 ?_
        refine r_callS (As := [.int (h 7 (v2 - 1).toNatClampNeg), .int 1]) (st := []) (lvc := 0) (mcc := 0) (msc := 0) C Rm M_Mo_slotOf rfl k_1153 (by decide) (Nat.le_of_ble_eq_true rfl) ⟨by decide, by decide⟩ d_Mo_write_141 ?_
        refine Can.mono K (fun _ h1 z => ?_)
        obtain ⟨r1, rfl, K⟩ := z
        show Wg X 0 0 h1 [(0, .ref 0), (1, .int v1), (2, .int v2), (3, .int v3), (4, .int v4), (5, .int v5)] [.int r1] 144
        refine r_istore (ls2 := [(0, .ref 0), (1, .int v1), (2, .int v2), (3, .int v3), (4, .int v4), (5, .int v5), (6, .int r1)]) C (by decide) rfl d_Mo_write_144 ?_
        refine r_aload_n C 0 rfl d_Mo_write_146 ?_
        refine r_iload C 6 rfl d_Mo_write_147 ?_
        refine r_callV (As := [.int r1]) (st := []) (lvc := 0) (mcc := 0) (msc := 0) C Rm M_Mo_sortOf rfl k_1187 rfl (by decide) (Nat.le_of_ble_eq_true rfl) ⟨by decide, by decide⟩ d_Mo_write_149 ?_
        refine Can.mono K (fun _ h2 z => ?_)
        obtain ⟨r2, rfl, K⟩ := z
        show Wg X 0 0 h2 [(0, .ref 0), (1, .int v1), (2, .int v2), (3, .int v3), (4, .int v4), (5, .int v5), (6, .int r1)] [.int r2] 152
        refine r_iconst (v := 4) C (by decide) d_Mo_write_152 ?_
        refine r_icmp_ne C 195 d_Mo_write_153 (by decide) ⟨fun c0 => ?_, fun c0 => ?_⟩
        · have K := K.1 c0
          refine r_aload_n C 0 rfl d_Mo_write_195 ?_
          refine r_iload C 6 rfl d_Mo_write_196 ?_
          refine r_callV (As := [.int r1]) (st := []) (lvc := 0) (mcc := 0) (msc := 0) C Rm M_Mo_sortOf rfl k_1187 rfl (by decide) (Nat.le_of_ble_eq_true rfl) ⟨by decide, by decide⟩ d_Mo_write_198 ?_
          refine Can.mono K (fun _ h3 z => ?_)
          obtain ⟨r3, rfl, K⟩ := z
          show Wg X 0 0 h3 [(0, .ref 0), (1, .int v1), (2, .int v2), (3, .int v3), (4, .int v4), (5, .int v5), (6, .int r1)] [.int r3] 201
          refine r_if_eq C 228 d_Mo_write_201 (by decide) ⟨fun c0 => ?_, fun c0 => ?_⟩
          · have K := K.1 c0
            refine r_aload_n C 0 rfl d_Mo_write_228 ?_
            refine r_bipush (v := 41) C (by decide) d_Mo_write_229 ?_
            refine r_callV (As := [.int 41]) (st := []) (lvc := 0) (mcc := 0) (msc := 0) C Rm M_Mo_say rfl k_1291 rfl (by decide) (Nat.le_of_ble_eq_true rfl) ⟨by decide, by decide⟩ d_Mo_write_231 ?_
            refine Can.mono K (fun _ h4 z => ?_)
            obtain ⟨rfl, K⟩ := z
            show Wg X 0 0 h4 [(0, .ref 0), (1, .int v1), (2, .int v2), (3, .int v3), (4, .int v4), (5, .int v5), (6, .int r1)] [] 234
            refine r_iinc (ls2 := [(0, .ref 0), (1, .int v1), (2, .int (v2 + (-1))), (3, .int v3), (4, .int v4), (5, .int v5), (6, .int r1)]) C 2 (m := -1) rfl (by decide) (by decide) rfl d_Mo_write_234 ?_
            refine r_goto C 116 d_Mo_write_237 (by decide) ?_
            exact Wg.drop (by simp) K
          · have K := K.2 c0
            refine r_aload_n C 0 rfl d_Mo_write_204 ?_
            refine r_bipush (v := 32) C (by decide) d_Mo_write_205 ?_
            refine r_callV (As := [.int 32]) (st := []) (lvc := 0) (mcc := 0) (msc := 0) C Rm M_Mo_say rfl k_1291 rfl (by decide) (Nat.le_of_ble_eq_true rfl) ⟨by decide, by decide⟩ d_Mo_write_207 ?_
            refine Can.mono K (fun _ h5 z => ?_)
            obtain ⟨rfl, K⟩ := z
            show Wg X 0 0 h5 [(0, .ref 0), (1, .int v1), (2, .int v2), (3, .int v3), (4, .int v4), (5, .int v5), (6, .int r1)] [] 210
            refine r_aload_n C 0 rfl d_Mo_write_210 ?_
            refine r_bipush (v := 46) C (by decide) d_Mo_write_211 ?_
            refine r_callV (As := [.int 46]) (st := []) (lvc := 0) (mcc := 0) (msc := 0) C Rm M_Mo_say rfl k_1291 rfl (by decide) (Nat.le_of_ble_eq_true rfl) ⟨by decide, by decide⟩ d_Mo_write_213 ?_
            refine Can.mono K (fun _ h6 z => ?_)
            obtain ⟨rfl, K⟩ := z
            show Wg X 0 0 h6 [(0, .ref 0), (1, .int v1), (2, .int v2), (3, .int v3), (4, .int v4), (5, .int v5), (6, .int r1)] [] 216
            refine r_aload_n C 0 rfl d_Mo_write_216 ?_
            refine r_bipush (v := 32) C (by decide) d_Mo_write_217 ?_
            refine r_callV (As := [.int 32]) (st := []) (lvc := 0) (mcc := 0) (msc := 0) C Rm M_Mo_say rfl k_1291 rfl (by decide) (Nat.le_of_ble_eq_true rfl) ⟨by decide, by decide⟩ d_Mo_write_219 ?_
            refine Can.mono K (fun _ h7 z => ?_)
            obtain ⟨rfl, K⟩ := z
            show Wg X 0 0 h7 [(0, .ref 0), (1, .int v1), (2, .int v2), (3, .int v3), (4, .int v4), (5, .int v5), (6, .int r1)] [] 222
            refine r_aload_n C 0 rfl d_Mo_write_222 ?_
            refine r_iload C 6 rfl d_Mo_write_223 ?_
            refine r_callV (As := [.int r1]) (st := []) (lvc := 4) (mcc := 0) (msc := 0) C Rm M_Mo_sayPlain rfl k_1295 rfl (by decide) (Nat.le_of_ble_eq_true rfl) ⟨by decide, by decide⟩ d_Mo_write_225 ?_
            refine Can.mono K (fun _ h8 z => ?_)
            obtain ⟨rfl, K⟩ := z
            show Wg X 0 0 h8 [(0, .ref 0), (1, .int v1), (2, .int v2), (3, .int v3), (4, .int v4), (5, .int v5), (6, .int r1)] [] 228
            refine r_aload_n C 0 rfl d_Mo_write_228 ?_
            refine r_bipush (v := 41) C (by decide) d_Mo_write_229 ?_
            refine r_callV (As := [.int 41]) (st := []) (lvc := 0) (mcc := 0) (msc := 0) C Rm M_Mo_say rfl k_1291 rfl (by decide) (Nat.le_of_ble_eq_true rfl) ⟨by decide, by decide⟩ d_Mo_write_231 ?_
            refine Can.mono K (fun _ h9 z => ?_)
            obtain ⟨rfl, K⟩ := z
            show Wg X 0 0 h9 [(0, .ref 0), (1, .int v1), (2, .int v2), (3, .int v3), (4, .int v4), (5, .int v5), (6, .int r1)] [] 234
            refine r_iinc (ls2 := [(0, .ref 0), (1, .int v1), (2, .int (v2 + (-1))), (3, .int v3), (4, .int v4), (5, .int v5), (6, .int r1)]) C 2 (m := -1) rfl (by decide) (by decide) rfl d_Mo_write_234 ?_
            refine r_goto C 116 d_Mo_write_237 (by decide) ?_
            exact Wg.drop (by simp) K
        · have K := K.2 c0
          refine r_aload_n C 0 rfl d_Mo_write_156 ?_
          refine r_bipush (v := 32) C (by decide) d_Mo_write_157 ?_
          refine r_callV (As := [.int 32]) (st := []) (lvc := 0) (mcc := 0) (msc := 0) C Rm M_Mo_say rfl k_1291 rfl (by decide) (Nat.le_of_ble_eq_true rfl) ⟨by decide, by decide⟩ d_Mo_write_159 ?_
          refine Can.mono K (fun _ h10 z => ?_)
          obtain ⟨rfl, K⟩ := z
          show Wg X 0 0 h10 [(0, .ref 0), (1, .int v1), (2, .int v2), (3, .int v3), (4, .int v4), (5, .int v5), (6, .int r1)] [] 162
          refine r_aload_n C 0 rfl d_Mo_write_162 ?_
          refine gf_Mo_pile (k2 := 7) C rfl rfl k_1027 d_Mo_write_163 ?_
          refine r_iload_n C 2 rfl d_Mo_write_166 ?_
          refine r_iconst (v := 1) C (by decide) d_Mo_write_167 ?_
          refine r_isub C d_Mo_write_168 ?_
          refine r_aload_n C 0 rfl d_Mo_write_169 ?_
          refine gf_Mo_valueOf (k2 := 2) C rfl rfl k_1021 d_Mo_write_170 ?_
          refine r_iload C 6 rfl d_Mo_write_173 ?_
          obtain ⟨s0, K⟩ := K
          refine r_iald C rfl s0 d_Mo_write_175 ?_
          obtain ⟨s0, K⟩ := K
          refine r_iast C rfl s0 d_Mo_write_176 ?_
          refine r_aload_n C 0 rfl d_Mo_write_177 ?_
          refine gf_Mo_valueOf (k2 := 2) C rfl rfl k_1021 d_Mo_write_178 ?_
          refine r_iload C 6 rfl d_Mo_write_181 ?_
          obtain ⟨s0, K⟩ := K
          refine r_iald C rfl s0 d_Mo_write_183 ?_
          refine r_iconst (v := 0) C (by decide) d_Mo_write_184 ?_
          refine r_callS (As := [.int ((up h10 7 (v2 - 1).toNatClampNeg (h10 2 r1.toNatClampNeg)) 2 r1.toNatClampNeg), .int 0]) (st := []) (lvc := 0) (mcc := 0) (msc := 0) C Rm M_Mo_slotOf rfl k_1153 (by decide) (Nat.le_of_ble_eq_true rfl) ⟨by decide, by decide⟩ d_Mo_write_185 ?_
          refine Can.mono K (fun _ h11 z => ?_)
          obtain ⟨r11, rfl, K⟩ := z
          show Wg X 0 0 h11 [(0, .ref 0), (1, .int v1), (2, .int v2), (3, .int v3), (4, .int v4), (5, .int v5), (6, .int r1)] [.int r11] 188
          refine r_istore_n (ls2 := [(0, .ref 0), (1, .int v1), (2, .int v2), (3, .int r11), (4, .int v4), (5, .int v5), (6, .int r1)]) C rfl (by decide) rfl d_Mo_write_188 ?_
          refine r_iconst (v := 1) C (by decide) d_Mo_write_189 ?_
          refine r_istore (ls2 := [(0, .ref 0), (1, .int v1), (2, .int v2), (3, .int r11), (4, .int v4), (5, .int 1), (6, .int r1)]) C (by decide) rfl d_Mo_write_190 ?_
          refine r_goto C 237 d_Mo_write_192 (by decide) ?_
          refine r_goto C 116 d_Mo_write_237 (by decide) ?_
          exact Wg.drop (by simp) K
set_option maxRecDepth 20000 in
theorem g_Mo_output_0 {X : CX} {h : HP} {v1 : Int32} {Φ : Int32 → HP → Prop} (C : Cok X b_Mo_output 2 R_Mo ((some .char))) (Rm : xR X = rml 0 0 0) (Q : Qok X 0 0 (fun r h2 => ∃ v, r = some (.int v) ∧ Φ v h2)) 
    (K : (v1 < 0 → (vp_nar .char 32 = 32 ∧ Φ 32 (up h 0 0 0))) ∧ (¬ v1 < 0 → ((((up h 0 0 0) 0 17)) ≤ v1 → (vp_nar .char 32 = 32 ∧ Φ 32 (up h 0 0 0))) ∧ (¬ (((up h 0 0 0) 0 17)) ≤ v1 → vp_in v1 400 ∧ ((vp_nar .char ((up h 0 0 0) 12 v1.toNatClampNeg) = ((up h 0 0 0) 12 v1.toNatClampNeg) ∧ Φ ((up h 0 0 0) 12 v1.toNatClampNeg) (up h 0 0 0)))))) :
    Wg X 0 0 h [(0, .ref 0), (1, .int v1)] [] 0 := by
  refine r_aload_n C 0 rfl d_Mo_output_0 ?_
  refine r_iconst (v := 0) C (by decide) d_Mo_output_1 ?_
  refine pf_Mo_refusal C rfl k_1019 d_Mo_output_2 ?_
  refine r_iload_n C 1 rfl d_Mo_output_5 ?_
  refine r_if_lt C 26 d_Mo_output_6 (by decide) ⟨fun c0 => ?_, fun c0 => ?_⟩
  · have K := K.1 c0
    refine r_bipush (v := 32) C (by decide) d_Mo_output_26 ?_
    exact q_cret C Q K.1 d_Mo_output_28 ⟨_, rfl, K.2⟩
  · have K := K.2 c0
    refine r_iload_n C 1 rfl d_Mo_output_9 ?_
    refine r_aload_n C 0 rfl d_Mo_output_10 ?_
    refine gf_Mo_outSize C rfl k_1036 d_Mo_output_11 ?_
    refine r_icmp_ge C 26 d_Mo_output_14 (by decide) ⟨fun c0 => ?_, fun c0 => ?_⟩
    · have K := K.1 c0
      refine r_bipush (v := 32) C (by decide) d_Mo_output_26 ?_
      exact q_cret C Q K.1 d_Mo_output_28 ⟨_, rfl, K.2⟩
    · have K := K.2 c0
      refine r_aload_n C 0 rfl d_Mo_output_17 ?_
      refine gf_Mo_out (k2 := 12) C rfl rfl k_1035 d_Mo_output_18 ?_
      refine r_iload_n C 1 rfl d_Mo_output_21 ?_
      obtain ⟨s0, K⟩ := K
      refine r_cald C rfl s0 d_Mo_output_22 ?_
      refine r_goto C 28 d_Mo_output_23 (by decide) ?_
      exact q_cret C Q K.1 d_Mo_output_28 ⟨_, rfl, K.2⟩
set_option maxRecDepth 20000 in
theorem g_Mo_collect_0 {X : CX} {h : HP}  {Φ : Int32 → HP → Prop} (C : Cok X b_Mo_collect 1 R_Mo ((some .int))) (Rm : xR X = rml 3 0 0) (Q : Qok X 0 0 (fun r h2 => ∃ v, r = some (.int v) ∧ Φ v h2)) 
    (K : K_Mo_clean [.ref 0] (up h 0 0 0) (fun r1 h1 => Φ r1 h1)) :
    Wg X 0 0 h [(0, .ref 0)] [] 0 := by
  refine r_aload_n C 0 rfl d_Mo_collect_0 ?_
  refine r_iconst (v := 0) C (by decide) d_Mo_collect_1 ?_
  refine pf_Mo_refusal C rfl k_1019 d_Mo_collect_2 ?_
  refine r_aload_n C 0 rfl d_Mo_collect_5 ?_
  refine r_callV (As := []) (st := []) (lvc := 2) (mcc := 0) (msc := 0) C Rm M_Mo_clean rfl k_1145 rfl (by decide) (Nat.le_of_ble_eq_true rfl) ⟨by decide, by decide⟩ d_Mo_collect_6 ?_
  refine Can.mono K (fun _ h1 z => ?_)
  obtain ⟨r1, rfl, K⟩ := z
  show Wg X 0 0 h1 [(0, .ref 0)] [.int r1] 9
  exact q_iret C Q d_Mo_collect_9 ⟨_, rfl, K⟩
set_option maxRecDepth 20000 in
theorem g_Mo_value_0 {X : CX} {h : HP} {v1 : Int32} {v2 : Int32} {Φ : Int32 → HP → Prop} (C : Cok X b_Mo_value 4 R_Mo ((some .int))) (Rm : xR X = rml 1 0 0) (Q : Qok X 0 0 (fun r h2 => ∃ v, r = some (.int v) ∧ Φ v h2)) 
    (K : K_Mo_isRegister [.int v1] h (fun r1 h1 => (r1 = 0 → K_Mo_refused [.ref 0, .int 1] h1 (fun r2 h2 => (r2 = 0 → vp_in v1 416 ∧ ((¬ ((h2 1 v1.toNatClampNeg)) = (2 : Int32) → Wg X 0 0 h2 [(0, .ref 0), (1, .int v1), (2, .int v2)] [.int 0] 45) ∧ (((h2 1 v1.toNatClampNeg)) = (2 : Int32) → Wg X 0 0 h2 [(0, .ref 0), (1, .int v1), (2, .int v2)] [.int 1] 45))) ∧ (¬ r2 = 0 → Φ 0 h2))) ∧ (¬ r1 = 0 → (v2 < 0 → K_Mo_refused [.ref 0, .int 1] h1 (fun r3 h3 => (r3 = 0 → vp_in v1 416 ∧ ((¬ ((h3 1 v1.toNatClampNeg)) = (2 : Int32) → Wg X 0 0 h3 [(0, .ref 0), (1, .int v1), (2, .int v2)] [.int 0] 45) ∧ (((h3 1 v1.toNatClampNeg)) = (2 : Int32) → Wg X 0 0 h3 [(0, .ref 0), (1, .int v1), (2, .int v2)] [.int 1] 45))) ∧ (¬ r3 = 0 → Φ 0 h3))) ∧ (¬ v2 < 0 → ((3 : Int32) < v2 → K_Mo_refused [.ref 0, .int 1] h1 (fun r4 h4 => (r4 = 0 → vp_in v1 416 ∧ ((¬ ((h4 1 v1.toNatClampNeg)) = (2 : Int32) → Wg X 0 0 h4 [(0, .ref 0), (1, .int v1), (2, .int v2)] [.int 0] 45) ∧ (((h4 1 v1.toNatClampNeg)) = (2 : Int32) → Wg X 0 0 h4 [(0, .ref 0), (1, .int v1), (2, .int v2)] [.int 1] 45))) ∧ (¬ r4 = 0 → Φ 0 h4))) ∧ (¬ (3 : Int32) < v2 → K_Mo_refused [.ref 0, .int 0] h1 (fun r5 h5 => (r5 = 0 → vp_in v1 416 ∧ ((¬ ((h5 1 v1.toNatClampNeg)) = (2 : Int32) → Wg X 0 0 h5 [(0, .ref 0), (1, .int v1), (2, .int v2)] [.int 0] 45) ∧ (((h5 1 v1.toNatClampNeg)) = (2 : Int32) → Wg X 0 0 h5 [(0, .ref 0), (1, .int v1), (2, .int v2)] [.int 1] 45))) ∧ (¬ r5 = 0 → Φ 0 h5))))))) :
    Wg X 0 0 h [(0, .ref 0), (1, .int v1), (2, .int v2)] [] 0 := by
  refine r_aload_n C 0 rfl d_Mo_value_0 ?_
  refine r_iload_n C 1 rfl d_Mo_value_1 ?_
  refine r_callS (As := [.int v1]) (st := [.ref 0]) (lvc := 0) (mcc := 0) (msc := 0) C Rm M_Mo_isRegister rfl k_1091 (by decide) (Nat.le_of_ble_eq_true rfl) ⟨by decide, by decide⟩ d_Mo_value_2 ?_
  refine Can.mono K (fun _ h1 z => ?_)
  obtain ⟨r1, rfl, K⟩ := z
  show Wg X 0 0 h1 [(0, .ref 0), (1, .int v1), (2, .int v2)] [.int r1, .ref 0] 5
  refine r_if_eq C 21 d_Mo_value_5 (by decide) ⟨fun c0 => ?_, fun c0 => ?_⟩
  · have K := K.1 c0
    refine r_iconst (v := 1) C (by decide) d_Mo_value_21 ?_
    refine r_callV (As := [.int 1]) (st := []) (lvc := 0) (mcc := 0) (msc := 0) C Rm M_Mo_refused rfl k_1094 rfl (by decide) (Nat.le_of_ble_eq_true rfl) ⟨by decide, by decide⟩ d_Mo_value_22 ?_
    refine Can.mono K (fun _ h2 z => ?_)
    obtain ⟨r2, rfl, K⟩ := z
    show Wg X 0 0 h2 [(0, .ref 0), (1, .int v1), (2, .int v2)] [.int r2] 25
    refine r_if_eq C 30 d_Mo_value_25 (by decide) ⟨fun c0 => ?_, fun c0 => ?_⟩
    · have K := K.1 c0
      refine r_aload_n C 0 rfl d_Mo_value_30 ?_
      refine gf_Mo_valueSort (k2 := 1) C rfl rfl k_1020 d_Mo_value_31 ?_
      refine r_iload_n C 1 rfl d_Mo_value_34 ?_
      obtain ⟨s0, K⟩ := K
      refine r_iald C rfl s0 d_Mo_value_35 ?_
      refine r_iconst (v := 2) C (by decide) d_Mo_value_36 ?_
      refine r_icmp_ne C 44 d_Mo_value_37 (by decide) ⟨fun c0 => ?_, fun c0 => ?_⟩
      · have K := K.1 c0
        refine r_iconst (v := 0) C (by decide) d_Mo_value_44 ?_
        exact K
      · have K := K.2 c0
        refine r_iconst (v := 1) C (by decide) d_Mo_value_40 ?_
        refine r_goto C 45 d_Mo_value_41 (by decide) ?_
        exact K
    · have K := K.2 c0
      refine r_iconst (v := 0) C (by decide) d_Mo_value_28 ?_
      exact q_iret C Q d_Mo_value_29 ⟨_, rfl, K⟩
  · have K := K.2 c0
    refine r_iload_n C 2 rfl d_Mo_value_8 ?_
    refine r_if_lt C 21 d_Mo_value_9 (by decide) ⟨fun c0 => ?_, fun c0 => ?_⟩
    · have K := K.1 c0
      refine r_iconst (v := 1) C (by decide) d_Mo_value_21 ?_
      refine r_callV (As := [.int 1]) (st := []) (lvc := 0) (mcc := 0) (msc := 0) C Rm M_Mo_refused rfl k_1094 rfl (by decide) (Nat.le_of_ble_eq_true rfl) ⟨by decide, by decide⟩ d_Mo_value_22 ?_
      refine Can.mono K (fun _ h3 z => ?_)
      obtain ⟨r3, rfl, K⟩ := z
      show Wg X 0 0 h3 [(0, .ref 0), (1, .int v1), (2, .int v2)] [.int r3] 25
      refine r_if_eq C 30 d_Mo_value_25 (by decide) ⟨fun c0 => ?_, fun c0 => ?_⟩
      · have K := K.1 c0
        refine r_aload_n C 0 rfl d_Mo_value_30 ?_
        refine gf_Mo_valueSort (k2 := 1) C rfl rfl k_1020 d_Mo_value_31 ?_
        refine r_iload_n C 1 rfl d_Mo_value_34 ?_
        obtain ⟨s0, K⟩ := K
        refine r_iald C rfl s0 d_Mo_value_35 ?_
        refine r_iconst (v := 2) C (by decide) d_Mo_value_36 ?_
        refine r_icmp_ne C 44 d_Mo_value_37 (by decide) ⟨fun c0 => ?_, fun c0 => ?_⟩
        · have K := K.1 c0
          refine r_iconst (v := 0) C (by decide) d_Mo_value_44 ?_
          exact K
        · have K := K.2 c0
          refine r_iconst (v := 1) C (by decide) d_Mo_value_40 ?_
          refine r_goto C 45 d_Mo_value_41 (by decide) ?_
          exact K
      · have K := K.2 c0
        refine r_iconst (v := 0) C (by decide) d_Mo_value_28 ?_
        exact q_iret C Q d_Mo_value_29 ⟨_, rfl, K⟩
    · have K := K.2 c0
      refine r_iload_n C 2 rfl d_Mo_value_12 ?_
      refine r_iconst (v := 3) C (by decide) d_Mo_value_13 ?_
      refine r_icmp_gt C 21 d_Mo_value_14 (by decide) ⟨fun c0 => ?_, fun c0 => ?_⟩
      · have K := K.1 c0
        refine r_iconst (v := 1) C (by decide) d_Mo_value_21 ?_
        refine r_callV (As := [.int 1]) (st := []) (lvc := 0) (mcc := 0) (msc := 0) C Rm M_Mo_refused rfl k_1094 rfl (by decide) (Nat.le_of_ble_eq_true rfl) ⟨by decide, by decide⟩ d_Mo_value_22 ?_
        refine Can.mono K (fun _ h4 z => ?_)
        obtain ⟨r4, rfl, K⟩ := z
        show Wg X 0 0 h4 [(0, .ref 0), (1, .int v1), (2, .int v2)] [.int r4] 25
        refine r_if_eq C 30 d_Mo_value_25 (by decide) ⟨fun c0 => ?_, fun c0 => ?_⟩
        · have K := K.1 c0
          refine r_aload_n C 0 rfl d_Mo_value_30 ?_
          refine gf_Mo_valueSort (k2 := 1) C rfl rfl k_1020 d_Mo_value_31 ?_
          refine r_iload_n C 1 rfl d_Mo_value_34 ?_
          obtain ⟨s0, K⟩ := K
          refine r_iald C rfl s0 d_Mo_value_35 ?_
          refine r_iconst (v := 2) C (by decide) d_Mo_value_36 ?_
          refine r_icmp_ne C 44 d_Mo_value_37 (by decide) ⟨fun c0 => ?_, fun c0 => ?_⟩
          · have K := K.1 c0
            refine r_iconst (v := 0) C (by decide) d_Mo_value_44 ?_
            exact K
          · have K := K.2 c0
            refine r_iconst (v := 1) C (by decide) d_Mo_value_40 ?_
            refine r_goto C 45 d_Mo_value_41 (by decide) ?_
            exact K
        · have K := K.2 c0
          refine r_iconst (v := 0) C (by decide) d_Mo_value_28 ?_
          exact q_iret C Q d_Mo_value_29 ⟨_, rfl, K⟩
      · have K := K.2 c0
        refine r_iconst (v := 0) C (by decide) d_Mo_value_17 ?_
        refine r_goto C 22 d_Mo_value_18 (by decide) ?_
        refine r_callV (As := [.int 0]) (st := []) (lvc := 0) (mcc := 0) (msc := 0) C Rm M_Mo_refused rfl k_1094 rfl (by decide) (Nat.le_of_ble_eq_true rfl) ⟨by decide, by decide⟩ d_Mo_value_22 ?_
        refine Can.mono K (fun _ h5 z => ?_)
        obtain ⟨r5, rfl, K⟩ := z
        show Wg X 0 0 h5 [(0, .ref 0), (1, .int v1), (2, .int v2)] [.int r5] 25
        refine r_if_eq C 30 d_Mo_value_25 (by decide) ⟨fun c0 => ?_, fun c0 => ?_⟩
        · have K := K.1 c0
          refine r_aload_n C 0 rfl d_Mo_value_30 ?_
          refine gf_Mo_valueSort (k2 := 1) C rfl rfl k_1020 d_Mo_value_31 ?_
          refine r_iload_n C 1 rfl d_Mo_value_34 ?_
          obtain ⟨s0, K⟩ := K
          refine r_iald C rfl s0 d_Mo_value_35 ?_
          refine r_iconst (v := 2) C (by decide) d_Mo_value_36 ?_
          refine r_icmp_ne C 44 d_Mo_value_37 (by decide) ⟨fun c0 => ?_, fun c0 => ?_⟩
          · have K := K.1 c0
            refine r_iconst (v := 0) C (by decide) d_Mo_value_44 ?_
            exact K
          · have K := K.2 c0
            refine r_iconst (v := 1) C (by decide) d_Mo_value_40 ?_
            refine r_goto C 45 d_Mo_value_41 (by decide) ?_
            exact K
        · have K := K.2 c0
          refine r_iconst (v := 0) C (by decide) d_Mo_value_28 ?_
          exact q_iret C Q d_Mo_value_29 ⟨_, rfl, K⟩
set_option maxRecDepth 20000 in
theorem g_Mo_value_45 {X : CX} {h : HP} {v1 : Int32} {v2 : Int32} {t0 : Int32} {Φ : Int32 → HP → Prop} (C : Cok X b_Mo_value 4 R_Mo ((some .int))) (Rm : xR X = rml 1 0 0) (Q : Qok X 0 0 (fun r h2 => ∃ v, r = some (.int v) ∧ Φ v h2)) 
    (K : (¬ v2 = 0 → (¬ v2 = (1 : Int32) → (¬ v2 = (2 : Int32) → vp_in v1 416 ∧ ((¬ ((h 1 v1.toNatClampNeg)) = (1 : Int32) → Φ 0 h) ∧ (((h 1 v1.toNatClampNeg)) = (1 : Int32) → vp_in v1 416 ∧ (Φ (h 2 v1.toNatClampNeg) h)))) ∧ (v2 = (2 : Int32) → (t0 = 0 → Φ 0 h) ∧ (¬ t0 = 0 → vp_in v1 416 ∧ (vp_in (h 2 v1.toNatClampNeg) 204 ∧ (Φ (h 5 (h 2 v1.toNatClampNeg).toNatClampNeg) h))))) ∧ (v2 = (1 : Int32) → (t0 = 0 → Φ ((-1)) h) ∧ (¬ t0 = 0 → vp_in v1 416 ∧ (K_Mo_cellOf [.ref 0, .int (h 2 v1.toNatClampNeg)] h (fun r1 h1 => Φ r1 h1))))) ∧ (v2 = 0 → K_Mo_sortOf [.ref 0, .int v1] h (fun r2 h2 => Φ r2 h2))) :
    Wg X 0 0 h [(0, .ref 0), (1, .int v1), (2, .int v2)] [.int t0] 45 := by
  refine r_istore_n (ls2 := [(0, .ref 0), (1, .int v1), (2, .int v2), (3, .int t0)]) C rfl (by decide) rfl d_Mo_value_45 ?_
  refine r_iload_n C 2 rfl d_Mo_value_46 ?_
  refine r_if_ne C 56 d_Mo_value_47 (by decide) ⟨fun c0 => ?_, fun c0 => ?_⟩
  · have K := K.1 c0
    refine r_iload_n C 2 rfl d_Mo_value_56 ?_
    refine r_iconst (v := 1) C (by decide) d_Mo_value_57 ?_
    refine r_icmp_ne C 80 d_Mo_value_58 (by decide) ⟨fun c0 => ?_, fun c0 => ?_⟩
    · have K := K.1 c0
      refine r_iload_n C 2 rfl d_Mo_value_80 ?_
      refine r_iconst (v := 2) C (by decide) d_Mo_value_81 ?_
      refine r_icmp_ne C 107 d_Mo_value_82 (by decide) ⟨fun c0 => ?_, fun c0 => ?_⟩
      · have K := K.1 c0
        refine r_aload_n C 0 rfl d_Mo_value_107 ?_
        refine gf_Mo_valueSort (k2 := 1) C rfl rfl k_1020 d_Mo_value_108 ?_
        refine r_iload_n C 1 rfl d_Mo_value_111 ?_
        obtain ⟨s0, K⟩ := K
        refine r_iald C rfl s0 d_Mo_value_112 ?_
        refine r_iconst (v := 1) C (by decide) d_Mo_value_113 ?_
        refine r_icmp_ne C 126 d_Mo_value_114 (by decide) ⟨fun c0 => ?_, fun c0 => ?_⟩
        · have K := K.1 c0
          refine r_iconst (v := 0) C (by decide) d_Mo_value_126 ?_
          exact q_iret C Q d_Mo_value_127 ⟨_, rfl, K⟩
        · have K := K.2 c0
          refine r_aload_n C 0 rfl d_Mo_value_117 ?_
          refine gf_Mo_valueOf (k2 := 2) C rfl rfl k_1021 d_Mo_value_118 ?_
          refine r_iload_n C 1 rfl d_Mo_value_121 ?_
          obtain ⟨s0, K⟩ := K
          refine r_iald C rfl s0 d_Mo_value_122 ?_
          refine r_goto C 127 d_Mo_value_123 (by decide) ?_
          exact q_iret C Q d_Mo_value_127 ⟨_, rfl, K⟩
      · have K := K.2 c0
        refine r_iload_n C 3 rfl d_Mo_value_85 ?_
        refine r_if_eq C 103 d_Mo_value_86 (by decide) ⟨fun c0 => ?_, fun c0 => ?_⟩
        · have K := K.1 c0
          refine r_iconst (v := 0) C (by decide) d_Mo_value_103 ?_
          refine r_goto C 127 d_Mo_value_104 (by decide) ?_
          exact q_iret C Q d_Mo_value_127 ⟨_, rfl, K⟩
        · have K := K.2 c0
          refine r_aload_n C 0 rfl d_Mo_value_89 ?_
          refine gf_Mo_cells (k2 := 5) C rfl rfl k_1025 d_Mo_value_90 ?_
          refine r_aload_n C 0 rfl d_Mo_value_93 ?_
          refine gf_Mo_valueOf (k2 := 2) C rfl rfl k_1021 d_Mo_value_94 ?_
          refine r_iload_n C 1 rfl d_Mo_value_97 ?_
          obtain ⟨s0, K⟩ := K
          refine r_iald C rfl s0 d_Mo_value_98 ?_
          obtain ⟨s0, K⟩ := K
          refine r_iald C rfl s0 d_Mo_value_99 ?_
          refine r_goto C 127 d_Mo_value_100 (by decide) ?_
          exact q_iret C Q d_Mo_value_127 ⟨_, rfl, K⟩
    · have K := K.2 c0
      refine r_iload_n C 3 rfl d_Mo_value_61 ?_
      refine r_if_eq C 78 d_Mo_value_62 (by decide) ⟨fun c0 => ?_, fun c0 => ?_⟩
      · have K := K.1 c0
        refine r_iconst (v := (-1)) C (by decide) d_Mo_value_78 ?_
        exact q_iret C Q d_Mo_value_79 ⟨_, rfl, K⟩
      · have K := K.2 c0
        refine r_aload_n C 0 rfl d_Mo_value_65 ?_
        refine r_aload_n C 0 rfl d_Mo_value_66 ?_
        refine gf_Mo_valueOf (k2 := 2) C rfl rfl k_1021 d_Mo_value_67 ?_
        refine r_iload_n C 1 rfl d_Mo_value_70 ?_
        obtain ⟨s0, K⟩ := K
        refine r_iald C rfl s0 d_Mo_value_71 ?_
        refine r_callV (As := [.int (h 2 v1.toNatClampNeg)]) (st := []) (lvc := 0) (mcc := 0) (msc := 0) C Rm M_Mo_cellOf rfl k_1315 rfl (by decide) (Nat.le_of_ble_eq_true rfl) ⟨by decide, by decide⟩ d_Mo_value_72 ?_
        refine Can.mono K (fun _ h1 z => ?_)
        obtain ⟨r1, rfl, K⟩ := z
        show Wg X 0 0 h1 [(0, .ref 0), (1, .int v1), (2, .int v2), (3, .int t0)] [.int r1] 75
        refine r_goto C 79 d_Mo_value_75 (by decide) ?_
        exact q_iret C Q d_Mo_value_79 ⟨_, rfl, K⟩
  · have K := K.2 c0
    refine r_aload_n C 0 rfl d_Mo_value_50 ?_
    refine r_iload_n C 1 rfl d_Mo_value_51 ?_
    refine r_callV (As := [.int v1]) (st := []) (lvc := 0) (mcc := 0) (msc := 0) C Rm M_Mo_sortOf rfl k_1187 rfl (by decide) (Nat.le_of_ble_eq_true rfl) ⟨by decide, by decide⟩ d_Mo_value_52 ?_
    refine Can.mono K (fun _ h2 z => ?_)
    obtain ⟨r2, rfl, K⟩ := z
    show Wg X 0 0 h2 [(0, .ref 0), (1, .int v1), (2, .int v2), (3, .int t0)] [.int r2] 55
    exact q_iret C Q d_Mo_value_55 ⟨_, rfl, K⟩
set_option maxRecDepth 20000 in
theorem g_Mo_count_0 {X : CX} {h : HP} {v1 : Int32} {Φ : Int32 → HP → Prop} (C : Cok X b_Mo_count 2 R_Mo ((some .int))) (Rm : xR X = rml 2 0 0) (Q : Qok X 0 0 (fun r h2 => ∃ v, r = some (.int v) ∧ Φ v h2)) 
    (K : (v1 < 0 → Wg X 0 0 h [(0, .ref 0), (1, .int v1)] [.int 1, .ref 0] 15) ∧ (¬ v1 < 0 → ((3 : Int32) < v1 → Wg X 0 0 h [(0, .ref 0), (1, .int v1)] [.int 1, .ref 0] 15) ∧ (¬ (3 : Int32) < v1 → Wg X 0 0 h [(0, .ref 0), (1, .int v1)] [.int 0, .ref 0] 15))) :
    Wg X 0 0 h [(0, .ref 0), (1, .int v1)] [] 0 := by
  refine r_aload_n C 0 rfl d_Mo_count_0 ?_
  refine r_iload_n C 1 rfl d_Mo_count_1 ?_
  refine r_if_lt C 14 d_Mo_count_2 (by decide) ⟨fun c0 => ?_, fun c0 => ?_⟩
  · have K := K.1 c0
    refine r_iconst (v := 1) C (by decide) d_Mo_count_14 ?_
    exact K
  · have K := K.2 c0
    refine r_iload_n C 1 rfl d_Mo_count_5 ?_
    refine r_iconst (v := 3) C (by decide) d_Mo_count_6 ?_
    refine r_icmp_gt C 14 d_Mo_count_7 (by decide) ⟨fun c0 => ?_, fun c0 => ?_⟩
    · have K := K.1 c0
      refine r_iconst (v := 1) C (by decide) d_Mo_count_14 ?_
      exact K
    · have K := K.2 c0
      refine r_iconst (v := 0) C (by decide) d_Mo_count_10 ?_
      refine r_goto C 15 d_Mo_count_11 (by decide) ?_
      exact K
set_option maxRecDepth 20000 in
theorem g_Mo_count_15 {X : CX} {h : HP} {v1 : Int32} {t1 : Int32} {Φ : Int32 → HP → Prop} (C : Cok X b_Mo_count 2 R_Mo ((some .int))) (Rm : xR X = rml 2 0 0) (Q : Qok X 0 0 (fun r h2 => ∃ v, r = some (.int v) ∧ Φ v h2)) 
    (K : K_Mo_refused [.ref 0, .int t1] h (fun r1 h1 => (r1 = 0 → (¬ v1 = 0 → (¬ v1 = (1 : Int32) → (¬ v1 = (2 : Int32) → K_Mo_mark [.ref 0] h1 (fun r2 h2 => Φ r2 h2)) ∧ (v1 = (2 : Int32) → Φ (h1 0 3) h1)) ∧ (v1 = (1 : Int32) → Φ (h1 0 10) h1)) ∧ (v1 = 0 → Φ (h1 0 9) h1)) ∧ (¬ r1 = 0 → Φ 0 h1))) :
    Wg X 0 0 h [(0, .ref 0), (1, .int v1)] [.int t1, .ref 0] 15 := by
  refine r_callV (As := [.int t1]) (st := []) (lvc := 0) (mcc := 0) (msc := 0) C Rm M_Mo_refused rfl k_1094 rfl (by decide) (Nat.le_of_ble_eq_true rfl) ⟨by decide, by decide⟩ d_Mo_count_15 ?_
  refine Can.mono K (fun _ h1 z => ?_)
  obtain ⟨r1, rfl, K⟩ := z
  show Wg X 0 0 h1 [(0, .ref 0), (1, .int v1)] [.int r1] 18
  refine r_if_eq C 23 d_Mo_count_18 (by decide) ⟨fun c0 => ?_, fun c0 => ?_⟩
  · have K := K.1 c0
    refine r_iload_n C 1 rfl d_Mo_count_23 ?_
    refine r_if_ne C 34 d_Mo_count_24 (by decide) ⟨fun c0 => ?_, fun c0 => ?_⟩
    · have K := K.1 c0
      refine r_iload_n C 1 rfl d_Mo_count_34 ?_
      refine r_iconst (v := 1) C (by decide) d_Mo_count_35 ?_
      refine r_icmp_ne C 46 d_Mo_count_36 (by decide) ⟨fun c0 => ?_, fun c0 => ?_⟩
      · have K := K.1 c0
        refine r_iload_n C 1 rfl d_Mo_count_46 ?_
        refine r_iconst (v := 2) C (by decide) d_Mo_count_47 ?_
        refine r_icmp_ne C 58 d_Mo_count_48 (by decide) ⟨fun c0 => ?_, fun c0 => ?_⟩
        · have K := K.1 c0
          refine r_aload_n C 0 rfl d_Mo_count_58 ?_
          refine r_callV (As := []) (st := []) (lvc := 1) (mcc := 0) (msc := 0) C Rm M_Mo_mark rfl k_1149 rfl (by decide) (Nat.le_of_ble_eq_true rfl) ⟨by decide, by decide⟩ d_Mo_count_59 ?_
          refine Can.mono K (fun _ h2 z => ?_)
          obtain ⟨r2, rfl, K⟩ := z
          show Wg X 0 0 h2 [(0, .ref 0), (1, .int v1)] [.int r2] 62
          exact q_iret C Q d_Mo_count_62 ⟨_, rfl, K⟩
        · have K := K.2 c0
          refine r_aload_n C 0 rfl d_Mo_count_51 ?_
          refine gf_Mo_many C rfl k_1022 d_Mo_count_52 ?_
          refine r_goto C 62 d_Mo_count_55 (by decide) ?_
          exact q_iret C Q d_Mo_count_62 ⟨_, rfl, K⟩
      · have K := K.2 c0
        refine r_aload_n C 0 rfl d_Mo_count_39 ?_
        refine gf_Mo_collections C rfl k_1029 d_Mo_count_40 ?_
        refine r_goto C 62 d_Mo_count_43 (by decide) ?_
        exact q_iret C Q d_Mo_count_62 ⟨_, rfl, K⟩
    · have K := K.2 c0
      refine r_aload_n C 0 rfl d_Mo_count_27 ?_
      refine gf_Mo_top C rfl k_1028 d_Mo_count_28 ?_
      refine r_goto C 62 d_Mo_count_31 (by decide) ?_
      exact q_iret C Q d_Mo_count_62 ⟨_, rfl, K⟩
  · have K := K.2 c0
    refine r_iconst (v := 0) C (by decide) d_Mo_count_21 ?_
    exact q_iret C Q d_Mo_count_22 ⟨_, rfl, K⟩
