/-! The law's cases, one after another. -/
/-- the script: a cell of before, with L ints -/
def SC (X : CX) (L : Nat) (sx : Nat → Int32) : Prop := va_X ((xG X).2.1 59) L sx (xs X) (xs X).heap ∧ (xG X).2.1 59 < (xs X).heap.size ∧ ¬ Ga (xG X) ((xG X).2.1 59)
section LAWR
variable {X : CX} {ce sl : Nat} {h : HP} {ls : List (Nat × Value)} {st : List Value} {pc nL L : Nat} {cc : ByteArray} {own : String} {ret' : Option FieldType} {sx : Nat → Int32}
theorem r_sld (C : Cok X cc nL own ret') (S : SC X L sx) {i : Int32} (hin : vp_in i L) (d : decode cc pc = .ok (.iaload, 1)) (kk : Wg X ce sl h ls (.int (sx i.toNatClampNeg) :: st) (pc + 1)) : Wg X ce sl h ls (.int i :: .ref 59 :: st) pc :=
  fun q1 q2 H L' la a b c => va_sld C.1 C.2.1 S.1 S.2.1 S.2.2 b hin d (kk q1 q2 H L' la a b c)
theorem r_slen (C : Cok X cc nL own ret') (S : SC X L sx) (d : decode cc pc = .ok (.arraylength, 1)) (kk : Wg X ce sl h ls (.int (Int32.ofNat L) :: st) (pc + 1)) : Wg X ce sl h ls (.ref 59 :: st) pc :=
  fun q1 q2 H L' la a b c => va_slen C.1 C.2.1 S.1 S.2.1 S.2.2 b d (kk q1 q2 H L' la a b c)
theorem r_tabIn (C : Cok X cc nL own ret') {dflt lo hi : Int} {offs : Array Int} {len : Nat} {x : Int32} {off : Int} (tgt : Nat) (d : decode cc pc = .ok (.tableswitch dflt lo hi offs, len)) (h1 : ¬ x.toInt < lo) (h2 : ¬ hi < x.toInt) (ho : offs[(x.toInt - lo).toNat]? = some off) (ht : (pc : Int) + off = (tgt : Int)) (kk : Wg X ce sl h ls st tgt) : Wg X ce sl h ls (.int x :: st) pc :=
  fun q1 q2 H L' la a b c => lv_tableIn C.1 C.2.1 d h1 h2 ho ht (kk q1 q2 H L' la a b c)
theorem r_tabOut (C : Cok X cc nL own ret') {dflt lo hi : Int} {offs : Array Int} {len : Nat} {x : Int32} (tgt : Nat) (d : decode cc pc = .ok (.tableswitch dflt lo hi offs, len)) (h1 : x.toInt < lo ∨ hi < x.toInt) (ht : (pc : Int) + dflt = (tgt : Int)) (kk : Wg X ce sl h ls st tgt) : Wg X ce sl h ls (.int x :: st) pc :=
  fun q1 q2 H L' la a b c => lv_tableOut C.1 C.2.1 d h1 ht (kk q1 q2 H L' la a b c)
theorem r_callVL {y : MethodName} {yb : ByteArray} {ynL lvc mcc msc n ci b : Nat} {yret : Option FieldType} {As : List Value} (C : Cok X cc nL own ret') (hRf : lvc + 1 ≤ (xR X).frames ∧ 8 + (ynL + 11) + 40 * lvc ≤ (xR X).locals) (M : Mv y yb ynL yret n ci) (hn : As.length = n) {ix : Nat} (hlk : Cond.methodLink own ix y ∈ wx_tbl) (hk : kd b = (ci, 0)) (hst : (st.map fun v => v.category).sum ≤ 8) (hmc : ce + mcc ≤ (xR X).cells ∧ sl + msc ≤ (xR X).slots) (d : decode cc pc = .ok (.invokevirtual ix, 3))
    (hM : Can y yb ynL yret lvc mcc msc (.ref b :: As) h (fun r h2 => Wg X (ce + mcc) (sl + msc) h2 ls (r.toList ++ st) (pc + 3))) : Wg X ce sl h ls (As.reverse ++ .ref b :: st) pc := by
  intro q1 q2 H L la a b2 c
  obtain ⟨m1, m2, m3, m4, m5, m6, m7, T, N, m8⟩ := M
  have hcw : CallW (xR X) (xs X) (xa X) own y.cls ix y yb ynL yret (.code y yb ynL yret :: wx_tbl) (rml lvc mcc msc) mcc msc n := cwV n C.hts (wx_goodIn (fun w hw => by
    unfold wsV at hw
    simp only [List.cons_append, List.nil_append, List.mem_cons] at hw
    rcases hw with rfl | rfl | rfl | rfl | rfl | hw <;> assumption)) rfl rfl rfl ⟨rfl, m5⟩ hRf
  have hPre : PreV (xs X) H y.cls ((xG X).2.1 b) (va_Pc (smap (xG X) (.ref b :: As)) (Ws (xG X) h)) (smap (xG X) As) := ⟨Ws_blind _ _ _, w_recv C a hk m7 m8, fun U hU hW => ⟨rfl, Ws_at C a b2 U hU hW⟩⟩
  rw [smap_rev]
  refine w_call (va_runV (As := smap (xG X) As) (rest := smap (xG X) st) ⟨C.exec, C.code, C.nloc, C.own, C.hts⟩ (hM _ _ C.flags C.gok) hcw hPre rfl (by simp [smap, hn]) (by rw [← C.nloc]; exact c.1) rfl (lv_room (by rw [smap_cat]; exact hst)) d hmc) b2 (fun r h2 H1 L1 z1 z2 z3 => ?_)
  rw [smap_opt]
  exact z1 hmc.1 hmc.2 H1 L1 la z2 z3 c
end LAWR
theorem k_234 : (Jvm.Cond.methodLink "CellHeapLaw" (117 : Nat) ({ cls := "CellHeap", name := "erase", desc := "()I" } : Jvm.MethodName)) ∈ wx_tbl := wx_in 298 (by decide +kernel) rfl
theorem k_238 : (Jvm.Cond.methodLink "CellHeapLaw" (128 : Nat) ({ cls := "CellHeap", name := "output", desc := "(I)C" } : Jvm.MethodName)) ∈ wx_tbl := wx_in 302 (by decide +kernel) rfl
theorem k_242 : (Jvm.Cond.methodLink "CellHeapLaw" (133 : Nat) ({ cls := "CellHeap", name := "collect", desc := "()I" } : Jvm.MethodName)) ∈ wx_tbl := wx_in 306 (by decide +kernel) rfl
theorem k_290 : (Jvm.Cond.methodLink "CellHeapLaw" (70 : Nat) ({ cls := "CellHeapLaw", name := "nil", desc := "(LCellHeap;I)I" } : Jvm.MethodName)) ∈ wx_tbl := wx_in 354 (by decide +kernel) rfl
theorem k_367 : (Jvm.Cond.methodLink "CellHeapLaw" (82 : Nat) ({ cls := "CellHeapLaw", name := "load", desc := "(LCellHeap;IJ[J)I" } : Jvm.MethodName)) ∈ wx_tbl := wx_in 431 (by decide +kernel) rfl
theorem k_435 : (Jvm.Cond.methodLink "CellHeapLaw" (86 : Nat) ({ cls := "CellHeapLaw", name := "copy", desc := "(LCellHeap;II)I" } : Jvm.MethodName)) ∈ wx_tbl := wx_in 499 (by decide +kernel) rfl
theorem k_442 : (Jvm.Cond.methodLink "CellHeapLaw" (90 : Nat) ({ cls := "CellHeapLaw", name := "cons", desc := "(LCellHeap;III[J)I" } : Jvm.MethodName)) ∈ wx_tbl := wx_in 506 (by decide +kernel) rfl
theorem k_451 : (Jvm.Cond.methodLink "CellHeapLaw" (94 : Nat) ({ cls := "CellHeapLaw", name := "part", desc := "(LCellHeap;IIZ[J)I" } : Jvm.MethodName)) ∈ wx_tbl := wx_in 515 (by decide +kernel) rfl
theorem k_470 : (Jvm.Cond.methodLink "CellHeapLaw" (98 : Nat) ({ cls := "CellHeapLaw", name := "change", desc := "(LCellHeap;IZI[J)I" } : Jvm.MethodName)) ∈ wx_tbl := wx_in 534 (by decide +kernel) rfl
theorem k_477 : (Jvm.Cond.methodLink "CellHeapLaw" (102 : Nat) ({ cls := "CellHeapLaw", name := "work", desc := "(LCellHeap;IIII[J)I" } : Jvm.MethodName)) ∈ wx_tbl := wx_in 541 (by decide +kernel) rfl
theorem k_868 : (Jvm.Cond.methodLink "CellHeapLaw" (106 : Nat) ({ cls := "CellHeapLaw", name := "compare", desc := "(LCellHeap;II[J)I" } : Jvm.MethodName)) ∈ wx_tbl := wx_in 932 (by decide +kernel) rfl
theorem k_883 : (Jvm.Cond.methodLink "CellHeapLaw" (110 : Nat) ({ cls := "CellHeapLaw", name := "same", desc := "(LCellHeap;II[J)I" } : Jvm.MethodName)) ∈ wx_tbl := wx_in 947 (by decide +kernel) rfl
theorem k_890 : (Jvm.Cond.methodLink "CellHeapLaw" (113 : Nat) ({ cls := "CellHeapLaw", name := "type", desc := "(LCellHeap;IIIII[J)I" } : Jvm.MethodName)) ∈ wx_tbl := wx_in 954 (by decide +kernel) rfl
theorem k_920 : (Jvm.Cond.methodLink "CellHeapLaw" (121 : Nat) ({ cls := "CellHeapLaw", name := "read", desc := "(LCellHeap;I[J)I" } : Jvm.MethodName)) ∈ wx_tbl := wx_in 984 (by decide +kernel) rfl
theorem k_950 : (Jvm.Cond.methodLink "CellHeapLaw" (125 : Nat) ({ cls := "CellHeapLaw", name := "write", desc := "(LCellHeap;I[J)I" } : Jvm.MethodName)) ∈ wx_tbl := wx_in 1014 (by decide +kernel) rfl
theorem k_992 : (Jvm.Cond.methodLink "CellHeapLaw" (137 : Nat) ({ cls := "CellHeapLaw", name := "value", desc := "(LCellHeap;II[J)I" } : Jvm.MethodName)) ∈ wx_tbl := wx_in 1056 (by decide +kernel) rfl
theorem k_1001 : (Jvm.Cond.methodLink "CellHeapLaw" (140 : Nat) ({ cls := "CellHeapLaw", name := "count", desc := "(LCellHeap;I[J)I" } : Jvm.MethodName)) ∈ wx_tbl := wx_in 1065 (by decide +kernel) rfl
theorem k_1083 : (Jvm.Cond.methodLink "CellHeapLaw" (76 : Nat) ({ cls := "CellHeapModel", name := "thrown", desc := "()I" } : Jvm.MethodName)) ∈ wx_tbl := wx_in 1147 (by decide +kernel) rfl
theorem k_1087 : (Jvm.Cond.methodLink "CellHeapLaw" (75 : Nat) ({ cls := "CellHeapModel", name := "nil", desc := "(I)V" } : Jvm.MethodName)) ∈ wx_tbl := wx_in 1151 (by decide +kernel) rfl
theorem k_1102 : (Jvm.Cond.methodLink "CellHeapLaw" (85 : Nat) ({ cls := "CellHeapModel", name := "load", desc := "(IJ)I" } : Jvm.MethodName)) ∈ wx_tbl := wx_in 1166 (by decide +kernel) rfl
theorem k_1175 : (Jvm.Cond.methodLink "CellHeapLaw" (89 : Nat) ({ cls := "CellHeapModel", name := "copy", desc := "(II)V" } : Jvm.MethodName)) ∈ wx_tbl := wx_in 1239 (by decide +kernel) rfl
theorem k_1179 : (Jvm.Cond.methodLink "CellHeapLaw" (93 : Nat) ({ cls := "CellHeapModel", name := "cons", desc := "(III)I" } : Jvm.MethodName)) ∈ wx_tbl := wx_in 1243 (by decide +kernel) rfl
theorem k_1183 : (Jvm.Cond.methodLink "CellHeapLaw" (97 : Nat) ({ cls := "CellHeapModel", name := "part", desc := "(IIZ)I" } : Jvm.MethodName)) ∈ wx_tbl := wx_in 1247 (by decide +kernel) rfl
theorem k_1191 : (Jvm.Cond.methodLink "CellHeapLaw" (101 : Nat) ({ cls := "CellHeapModel", name := "change", desc := "(IZI)I" } : Jvm.MethodName)) ∈ wx_tbl := wx_in 1255 (by decide +kernel) rfl
theorem k_1195 : (Jvm.Cond.methodLink "CellHeapLaw" (105 : Nat) ({ cls := "CellHeapModel", name := "work", desc := "(IIII)I" } : Jvm.MethodName)) ∈ wx_tbl := wx_in 1259 (by decide +kernel) rfl
theorem k_1259 : (Jvm.Cond.methodLink "CellHeapLaw" (109 : Nat) ({ cls := "CellHeapModel", name := "compare", desc := "(II)I" } : Jvm.MethodName)) ∈ wx_tbl := wx_in 1323 (by decide +kernel) rfl
theorem k_1263 : (Jvm.Cond.methodLink "CellHeapLaw" (112 : Nat) ({ cls := "CellHeapModel", name := "same", desc := "(II)Z" } : Jvm.MethodName)) ∈ wx_tbl := wx_in 1327 (by decide +kernel) rfl
theorem k_1267 : (Jvm.Cond.methodLink "CellHeapLaw" (116 : Nat) ({ cls := "CellHeapModel", name := "type", desc := "(IIIII)I" } : Jvm.MethodName)) ∈ wx_tbl := wx_in 1331 (by decide +kernel) rfl
theorem k_1275 : (Jvm.Cond.methodLink "CellHeapLaw" (120 : Nat) ({ cls := "CellHeapModel", name := "erase", desc := "()I" } : Jvm.MethodName)) ∈ wx_tbl := wx_in 1339 (by decide +kernel) rfl
theorem k_1279 : (Jvm.Cond.methodLink "CellHeapLaw" (124 : Nat) ({ cls := "CellHeapModel", name := "read", desc := "(I)I" } : Jvm.MethodName)) ∈ wx_tbl := wx_in 1343 (by decide +kernel) rfl
theorem k_1287 : (Jvm.Cond.methodLink "CellHeapLaw" (127 : Nat) ({ cls := "CellHeapModel", name := "write", desc := "(I)I" } : Jvm.MethodName)) ∈ wx_tbl := wx_in 1351 (by decide +kernel) rfl
theorem k_1303 : (Jvm.Cond.methodLink "CellHeapLaw" (132 : Nat) ({ cls := "CellHeapModel", name := "output", desc := "(I)C" } : Jvm.MethodName)) ∈ wx_tbl := wx_in 1367 (by decide +kernel) rfl
theorem k_1307 : (Jvm.Cond.methodLink "CellHeapLaw" (136 : Nat) ({ cls := "CellHeapModel", name := "collect", desc := "()I" } : Jvm.MethodName)) ∈ wx_tbl := wx_in 1371 (by decide +kernel) rfl
theorem k_1311 : (Jvm.Cond.methodLink "CellHeapLaw" (139 : Nat) ({ cls := "CellHeapModel", name := "value", desc := "(II)I" } : Jvm.MethodName)) ∈ wx_tbl := wx_in 1375 (by decide +kernel) rfl
theorem k_1319 : (Jvm.Cond.methodLink "CellHeapLaw" (142 : Nat) ({ cls := "CellHeapModel", name := "count", desc := "(I)I" } : Jvm.MethodName)) ∈ wx_tbl := wx_in 1383 (by decide +kernel) rfl
theorem k_1323 : (Jvm.Cond.constantLong "CellHeapLaw" (80 : Nat) (4294967295 : Int64)) ∈ wx_tbl := wx_in 1387 (by decide +kernel) rfl
theorem d_La_law_23 : decode code 23 = .ok (.iload 4, 2) := by decide +kernel
theorem d_La_law_25 : decode code 25 = .ok (.aload_n 0, 1) := by decide +kernel
theorem d_La_law_26 : decode code 26 = .ok (.arraylength, 1) := by decide +kernel
theorem d_La_law_27 : decode code 27 = .ok (.bipush 6, 2) := by decide +kernel
theorem d_La_law_29 : decode code 29 = .ok (.isub, 1) := by decide +kernel
theorem d_La_law_30 : decode code 30 = .ok (.if_icmp .gt 1182, 3) := by decide +kernel
theorem d_La_law_33 : decode code 33 = .ok (.aload_n 0, 1) := by decide +kernel
theorem d_La_law_34 : decode code 34 = .ok (.iload 4, 2) := by decide +kernel
theorem d_La_law_36 : decode code 36 = .ok (.iaload, 1) := by decide +kernel
theorem d_La_law_37 : decode code 37 = .ok (.bipush 31, 2) := by decide +kernel
theorem d_La_law_39 : decode code 39 = .ok (.iand, 1) := by decide +kernel
theorem d_La_law_40 : decode code 40 = .ok (.tableswitch 1166 0 16 #[84, 120, 220, 268, 348, 444, 540, 632, 700, 775, 879, 892, 948, 1004, 1029, 1042, 1110], 84) := by decide +kernel
theorem d_La_law_124 : decode code 124 = .ok (.aload_n 1, 1) := by decide +kernel
theorem d_La_law_125 : decode code 125 = .ok (.aload_n 0, 1) := by decide +kernel
theorem d_La_law_126 : decode code 126 = .ok (.iload 4, 2) := by decide +kernel
theorem d_La_law_128 : decode code 128 = .ok (.iconst 1, 1) := by decide +kernel
theorem d_La_law_129 : decode code 129 = .ok (.iadd, 1) := by decide +kernel
theorem d_La_law_130 : decode code 130 = .ok (.iaload, 1) := by decide +kernel
theorem d_La_law_131 : decode code 131 = .ok (.invokestatic 70, 3) := by decide +kernel
theorem d_La_law_134 : decode code 134 = .ok (.istore 5, 2) := by decide +kernel
theorem d_La_law_136 : decode code 136 = .ok (.aload_n 2, 1) := by decide +kernel
theorem d_La_law_137 : decode code 137 = .ok (.aload_n 0, 1) := by decide +kernel
theorem d_La_law_138 : decode code 138 = .ok (.iload 4, 2) := by decide +kernel
theorem d_La_law_140 : decode code 140 = .ok (.iconst 1, 1) := by decide +kernel
theorem d_La_law_141 : decode code 141 = .ok (.iadd, 1) := by decide +kernel
theorem d_La_law_142 : decode code 142 = .ok (.iaload, 1) := by decide +kernel
theorem d_La_law_143 : decode code 143 = .ok (.invokevirtual 75, 3) := by decide +kernel
theorem d_La_law_146 : decode code 146 = .ok (.aload_n 2, 1) := by decide +kernel
theorem d_La_law_147 : decode code 147 = .ok (.invokevirtual 76, 3) := by decide +kernel
theorem d_La_law_150 : decode code 150 = .ok (.iload 5, 2) := by decide +kernel
theorem d_La_law_152 : decode code 152 = .ok (.if_icmp .eq 5, 3) := by decide +kernel
theorem d_La_law_155 : decode code 155 = .ok (.iconst 0, 1) := by decide +kernel
theorem d_La_law_157 : decode code 157 = .ok (.goto 1049, 3) := by decide +kernel
theorem d_La_law_160 : decode code 160 = .ok (.aload_n 1, 1) := by decide +kernel
theorem d_La_law_161 : decode code 161 = .ok (.aload_n 0, 1) := by decide +kernel
theorem d_La_law_162 : decode code 162 = .ok (.iload 4, 2) := by decide +kernel
theorem d_La_law_164 : decode code 164 = .ok (.iconst 1, 1) := by decide +kernel
theorem d_La_law_165 : decode code 165 = .ok (.iadd, 1) := by decide +kernel
theorem d_La_law_166 : decode code 166 = .ok (.iaload, 1) := by decide +kernel
theorem d_La_law_167 : decode code 167 = .ok (.aload_n 0, 1) := by decide +kernel
theorem d_La_law_168 : decode code 168 = .ok (.iload 4, 2) := by decide +kernel
theorem d_La_law_170 : decode code 170 = .ok (.iconst 2, 1) := by decide +kernel
theorem d_La_law_171 : decode code 171 = .ok (.iadd, 1) := by decide +kernel
theorem d_La_law_172 : decode code 172 = .ok (.iaload, 1) := by decide +kernel
theorem d_La_law_173 : decode code 173 = .ok (.i2l, 1) := by decide +kernel
theorem d_La_law_174 : decode code 174 = .ok (.bipush 32, 2) := by decide +kernel
theorem d_La_law_176 : decode code 176 = .ok (.lshl, 1) := by decide +kernel
theorem d_La_law_177 : decode code 177 = .ok (.aload_n 0, 1) := by decide +kernel
theorem d_La_law_178 : decode code 178 = .ok (.iload 4, 2) := by decide +kernel
theorem d_La_law_180 : decode code 180 = .ok (.iconst 3, 1) := by decide +kernel
theorem d_La_law_181 : decode code 181 = .ok (.iadd, 1) := by decide +kernel
theorem d_La_law_182 : decode code 182 = .ok (.iaload, 1) := by decide +kernel
theorem d_La_law_183 : decode code 183 = .ok (.i2l, 1) := by decide +kernel
theorem d_La_law_184 : decode code 184 = .ok (.ldc2_w 80, 3) := by decide +kernel
theorem d_La_law_187 : decode code 187 = .ok (.land, 1) := by decide +kernel
theorem d_La_law_188 : decode code 188 = .ok (.lor, 1) := by decide +kernel
theorem d_La_law_189 : decode code 189 = .ok (.aload_n 3, 1) := by decide +kernel
theorem d_La_law_190 : decode code 190 = .ok (.invokestatic 82, 3) := by decide +kernel
theorem d_La_law_193 : decode code 193 = .ok (.istore 5, 2) := by decide +kernel
theorem d_La_law_195 : decode code 195 = .ok (.aload_n 2, 1) := by decide +kernel
theorem d_La_law_196 : decode code 196 = .ok (.aload_n 0, 1) := by decide +kernel
theorem d_La_law_197 : decode code 197 = .ok (.iload 4, 2) := by decide +kernel
theorem d_La_law_199 : decode code 199 = .ok (.iconst 1, 1) := by decide +kernel
theorem d_La_law_200 : decode code 200 = .ok (.iadd, 1) := by decide +kernel
theorem d_La_law_201 : decode code 201 = .ok (.iaload, 1) := by decide +kernel
theorem d_La_law_202 : decode code 202 = .ok (.aload_n 0, 1) := by decide +kernel
theorem d_La_law_203 : decode code 203 = .ok (.iload 4, 2) := by decide +kernel
theorem d_La_law_205 : decode code 205 = .ok (.iconst 2, 1) := by decide +kernel
theorem d_La_law_206 : decode code 206 = .ok (.iadd, 1) := by decide +kernel
theorem d_La_law_207 : decode code 207 = .ok (.iaload, 1) := by decide +kernel
theorem d_La_law_208 : decode code 208 = .ok (.i2l, 1) := by decide +kernel
theorem d_La_law_209 : decode code 209 = .ok (.bipush 32, 2) := by decide +kernel
theorem d_La_law_211 : decode code 211 = .ok (.lshl, 1) := by decide +kernel
theorem d_La_law_212 : decode code 212 = .ok (.aload_n 0, 1) := by decide +kernel
theorem d_La_law_213 : decode code 213 = .ok (.iload 4, 2) := by decide +kernel
theorem d_La_law_215 : decode code 215 = .ok (.iconst 3, 1) := by decide +kernel
theorem d_La_law_216 : decode code 216 = .ok (.iadd, 1) := by decide +kernel
theorem d_La_law_217 : decode code 217 = .ok (.iaload, 1) := by decide +kernel
theorem d_La_law_218 : decode code 218 = .ok (.i2l, 1) := by decide +kernel
theorem d_La_law_219 : decode code 219 = .ok (.ldc2_w 80, 3) := by decide +kernel
theorem d_La_law_222 : decode code 222 = .ok (.land, 1) := by decide +kernel
theorem d_La_law_223 : decode code 223 = .ok (.lor, 1) := by decide +kernel
theorem d_La_law_224 : decode code 224 = .ok (.invokevirtual 85, 3) := by decide +kernel
theorem d_La_law_227 : decode code 227 = .ok (.istore 6, 2) := by decide +kernel
theorem d_La_law_229 : decode code 229 = .ok (.aload_n 2, 1) := by decide +kernel
theorem d_La_law_230 : decode code 230 = .ok (.invokevirtual 76, 3) := by decide +kernel
theorem d_La_law_233 : decode code 233 = .ok (.iload 5, 2) := by decide +kernel
theorem d_La_law_235 : decode code 235 = .ok (.if_icmp .eq 5, 3) := by decide +kernel
theorem d_La_law_238 : decode code 238 = .ok (.iconst 0, 1) := by decide +kernel
theorem d_La_law_240 : decode code 240 = .ok (.iload 5, 2) := by decide +kernel
theorem d_La_law_242 : decode code 242 = .ok (.ifCond .ne 15, 3) := by decide +kernel
theorem d_La_law_245 : decode code 245 = .ok (.aload_n 3, 1) := by decide +kernel
theorem d_La_law_246 : decode code 246 = .ok (.iconst 0, 1) := by decide +kernel
theorem d_La_law_247 : decode code 247 = .ok (.laload, 1) := by decide +kernel
theorem d_La_law_248 : decode code 248 = .ok (.iload 6, 2) := by decide +kernel
theorem d_La_law_250 : decode code 250 = .ok (.i2l, 1) := by decide +kernel
theorem d_La_law_251 : decode code 251 = .ok (.lcmp, 1) := by decide +kernel
theorem d_La_law_252 : decode code 252 = .ok (.ifCond .eq 5, 3) := by decide +kernel
theorem d_La_law_255 : decode code 255 = .ok (.iconst 0, 1) := by decide +kernel
theorem d_La_law_257 : decode code 257 = .ok (.goto 949, 3) := by decide +kernel
theorem d_La_law_260 : decode code 260 = .ok (.aload_n 1, 1) := by decide +kernel
theorem d_La_law_261 : decode code 261 = .ok (.aload_n 0, 1) := by decide +kernel
theorem d_La_law_262 : decode code 262 = .ok (.iload 4, 2) := by decide +kernel
theorem d_La_law_264 : decode code 264 = .ok (.iconst 1, 1) := by decide +kernel
theorem d_La_law_265 : decode code 265 = .ok (.iadd, 1) := by decide +kernel
theorem d_La_law_266 : decode code 266 = .ok (.iaload, 1) := by decide +kernel
theorem d_La_law_267 : decode code 267 = .ok (.aload_n 0, 1) := by decide +kernel
theorem d_La_law_268 : decode code 268 = .ok (.iload 4, 2) := by decide +kernel
theorem d_La_law_270 : decode code 270 = .ok (.iconst 2, 1) := by decide +kernel
theorem d_La_law_271 : decode code 271 = .ok (.iadd, 1) := by decide +kernel
theorem d_La_law_272 : decode code 272 = .ok (.iaload, 1) := by decide +kernel
theorem d_La_law_273 : decode code 273 = .ok (.invokestatic 86, 3) := by decide +kernel
theorem d_La_law_276 : decode code 276 = .ok (.istore 5, 2) := by decide +kernel
theorem d_La_law_278 : decode code 278 = .ok (.aload_n 2, 1) := by decide +kernel
theorem d_La_law_279 : decode code 279 = .ok (.aload_n 0, 1) := by decide +kernel
theorem d_La_law_280 : decode code 280 = .ok (.iload 4, 2) := by decide +kernel
theorem d_La_law_282 : decode code 282 = .ok (.iconst 1, 1) := by decide +kernel
theorem d_La_law_283 : decode code 283 = .ok (.iadd, 1) := by decide +kernel
theorem d_La_law_284 : decode code 284 = .ok (.iaload, 1) := by decide +kernel
theorem d_La_law_285 : decode code 285 = .ok (.aload_n 0, 1) := by decide +kernel
theorem d_La_law_286 : decode code 286 = .ok (.iload 4, 2) := by decide +kernel
theorem d_La_law_288 : decode code 288 = .ok (.iconst 2, 1) := by decide +kernel
theorem d_La_law_289 : decode code 289 = .ok (.iadd, 1) := by decide +kernel
theorem d_La_law_290 : decode code 290 = .ok (.iaload, 1) := by decide +kernel
theorem d_La_law_291 : decode code 291 = .ok (.invokevirtual 89, 3) := by decide +kernel
theorem d_La_law_294 : decode code 294 = .ok (.aload_n 2, 1) := by decide +kernel
theorem d_La_law_295 : decode code 295 = .ok (.invokevirtual 76, 3) := by decide +kernel
theorem d_La_law_298 : decode code 298 = .ok (.iload 5, 2) := by decide +kernel
theorem d_La_law_300 : decode code 300 = .ok (.if_icmp .eq 5, 3) := by decide +kernel
theorem d_La_law_303 : decode code 303 = .ok (.iconst 0, 1) := by decide +kernel
theorem d_La_law_305 : decode code 305 = .ok (.goto 901, 3) := by decide +kernel
theorem d_La_law_308 : decode code 308 = .ok (.aload_n 1, 1) := by decide +kernel
theorem d_La_law_309 : decode code 309 = .ok (.aload_n 0, 1) := by decide +kernel
theorem d_La_law_310 : decode code 310 = .ok (.iload 4, 2) := by decide +kernel
theorem d_La_law_312 : decode code 312 = .ok (.iconst 1, 1) := by decide +kernel
theorem d_La_law_313 : decode code 313 = .ok (.iadd, 1) := by decide +kernel
theorem d_La_law_314 : decode code 314 = .ok (.iaload, 1) := by decide +kernel
theorem d_La_law_315 : decode code 315 = .ok (.aload_n 0, 1) := by decide +kernel
theorem d_La_law_316 : decode code 316 = .ok (.iload 4, 2) := by decide +kernel
theorem d_La_law_318 : decode code 318 = .ok (.iconst 2, 1) := by decide +kernel
theorem d_La_law_319 : decode code 319 = .ok (.iadd, 1) := by decide +kernel
theorem d_La_law_320 : decode code 320 = .ok (.iaload, 1) := by decide +kernel
theorem d_La_law_321 : decode code 321 = .ok (.aload_n 0, 1) := by decide +kernel
theorem d_La_law_322 : decode code 322 = .ok (.iload 4, 2) := by decide +kernel
theorem d_La_law_324 : decode code 324 = .ok (.iconst 3, 1) := by decide +kernel
theorem d_La_law_325 : decode code 325 = .ok (.iadd, 1) := by decide +kernel
theorem d_La_law_326 : decode code 326 = .ok (.iaload, 1) := by decide +kernel
theorem d_La_law_327 : decode code 327 = .ok (.aload_n 3, 1) := by decide +kernel
theorem d_La_law_328 : decode code 328 = .ok (.invokestatic 90, 3) := by decide +kernel
theorem d_La_law_331 : decode code 331 = .ok (.istore 5, 2) := by decide +kernel
theorem d_La_law_333 : decode code 333 = .ok (.aload_n 2, 1) := by decide +kernel
theorem d_La_law_334 : decode code 334 = .ok (.aload_n 0, 1) := by decide +kernel
theorem d_La_law_335 : decode code 335 = .ok (.iload 4, 2) := by decide +kernel
theorem d_La_law_337 : decode code 337 = .ok (.iconst 1, 1) := by decide +kernel
theorem d_La_law_338 : decode code 338 = .ok (.iadd, 1) := by decide +kernel
theorem d_La_law_339 : decode code 339 = .ok (.iaload, 1) := by decide +kernel
theorem d_La_law_340 : decode code 340 = .ok (.aload_n 0, 1) := by decide +kernel
theorem d_La_law_341 : decode code 341 = .ok (.iload 4, 2) := by decide +kernel
theorem d_La_law_343 : decode code 343 = .ok (.iconst 2, 1) := by decide +kernel
theorem d_La_law_344 : decode code 344 = .ok (.iadd, 1) := by decide +kernel
theorem d_La_law_345 : decode code 345 = .ok (.iaload, 1) := by decide +kernel
theorem d_La_law_346 : decode code 346 = .ok (.aload_n 0, 1) := by decide +kernel
theorem d_La_law_347 : decode code 347 = .ok (.iload 4, 2) := by decide +kernel
theorem d_La_law_349 : decode code 349 = .ok (.iconst 3, 1) := by decide +kernel
theorem d_La_law_350 : decode code 350 = .ok (.iadd, 1) := by decide +kernel
theorem d_La_law_351 : decode code 351 = .ok (.iaload, 1) := by decide +kernel
theorem d_La_law_352 : decode code 352 = .ok (.invokevirtual 93, 3) := by decide +kernel
theorem d_La_law_355 : decode code 355 = .ok (.istore 6, 2) := by decide +kernel
theorem d_La_law_357 : decode code 357 = .ok (.aload_n 2, 1) := by decide +kernel
theorem d_La_law_358 : decode code 358 = .ok (.invokevirtual 76, 3) := by decide +kernel
theorem d_La_law_361 : decode code 361 = .ok (.iload 5, 2) := by decide +kernel
theorem d_La_law_363 : decode code 363 = .ok (.if_icmp .eq 5, 3) := by decide +kernel
theorem d_La_law_366 : decode code 366 = .ok (.iconst 0, 1) := by decide +kernel
theorem d_La_law_368 : decode code 368 = .ok (.iload 5, 2) := by decide +kernel
theorem d_La_law_370 : decode code 370 = .ok (.ifCond .ne 15, 3) := by decide +kernel
theorem d_La_law_373 : decode code 373 = .ok (.aload_n 3, 1) := by decide +kernel
theorem d_La_law_374 : decode code 374 = .ok (.iconst 0, 1) := by decide +kernel
theorem d_La_law_375 : decode code 375 = .ok (.laload, 1) := by decide +kernel
theorem d_La_law_376 : decode code 376 = .ok (.iload 6, 2) := by decide +kernel
theorem d_La_law_378 : decode code 378 = .ok (.i2l, 1) := by decide +kernel
theorem d_La_law_379 : decode code 379 = .ok (.lcmp, 1) := by decide +kernel
theorem d_La_law_380 : decode code 380 = .ok (.ifCond .eq 5, 3) := by decide +kernel
theorem d_La_law_383 : decode code 383 = .ok (.iconst 0, 1) := by decide +kernel
theorem d_La_law_385 : decode code 385 = .ok (.goto 821, 3) := by decide +kernel
theorem d_La_law_388 : decode code 388 = .ok (.aload_n 1, 1) := by decide +kernel
theorem d_La_law_389 : decode code 389 = .ok (.aload_n 0, 1) := by decide +kernel
theorem d_La_law_390 : decode code 390 = .ok (.iload 4, 2) := by decide +kernel
theorem d_La_law_392 : decode code 392 = .ok (.iconst 1, 1) := by decide +kernel
theorem d_La_law_393 : decode code 393 = .ok (.iadd, 1) := by decide +kernel
theorem d_La_law_394 : decode code 394 = .ok (.iaload, 1) := by decide +kernel
theorem d_La_law_395 : decode code 395 = .ok (.aload_n 0, 1) := by decide +kernel
theorem d_La_law_396 : decode code 396 = .ok (.iload 4, 2) := by decide +kernel
theorem d_La_law_398 : decode code 398 = .ok (.iconst 2, 1) := by decide +kernel
theorem d_La_law_399 : decode code 399 = .ok (.iadd, 1) := by decide +kernel
theorem d_La_law_400 : decode code 400 = .ok (.iaload, 1) := by decide +kernel
theorem d_La_law_401 : decode code 401 = .ok (.aload_n 0, 1) := by decide +kernel
theorem d_La_law_402 : decode code 402 = .ok (.iload 4, 2) := by decide +kernel
theorem d_La_law_404 : decode code 404 = .ok (.iconst 3, 1) := by decide +kernel
theorem d_La_law_405 : decode code 405 = .ok (.iadd, 1) := by decide +kernel
theorem d_La_law_406 : decode code 406 = .ok (.iaload, 1) := by decide +kernel
theorem d_La_law_407 : decode code 407 = .ok (.ifCond .eq 7, 3) := by decide +kernel
theorem d_La_law_410 : decode code 410 = .ok (.iconst 1, 1) := by decide +kernel
theorem d_La_law_411 : decode code 411 = .ok (.goto 4, 3) := by decide +kernel
theorem d_La_law_414 : decode code 414 = .ok (.iconst 0, 1) := by decide +kernel
theorem d_La_law_415 : decode code 415 = .ok (.aload_n 3, 1) := by decide +kernel
theorem d_La_law_416 : decode code 416 = .ok (.invokestatic 94, 3) := by decide +kernel
theorem d_La_law_419 : decode code 419 = .ok (.istore 5, 2) := by decide +kernel
theorem d_La_law_421 : decode code 421 = .ok (.aload_n 2, 1) := by decide +kernel
theorem d_La_law_422 : decode code 422 = .ok (.aload_n 0, 1) := by decide +kernel
theorem d_La_law_423 : decode code 423 = .ok (.iload 4, 2) := by decide +kernel
theorem d_La_law_425 : decode code 425 = .ok (.iconst 1, 1) := by decide +kernel
theorem d_La_law_426 : decode code 426 = .ok (.iadd, 1) := by decide +kernel
theorem d_La_law_427 : decode code 427 = .ok (.iaload, 1) := by decide +kernel
theorem d_La_law_428 : decode code 428 = .ok (.aload_n 0, 1) := by decide +kernel
theorem d_La_law_429 : decode code 429 = .ok (.iload 4, 2) := by decide +kernel
theorem d_La_law_431 : decode code 431 = .ok (.iconst 2, 1) := by decide +kernel
theorem d_La_law_432 : decode code 432 = .ok (.iadd, 1) := by decide +kernel
theorem d_La_law_433 : decode code 433 = .ok (.iaload, 1) := by decide +kernel
theorem d_La_law_434 : decode code 434 = .ok (.aload_n 0, 1) := by decide +kernel
theorem d_La_law_435 : decode code 435 = .ok (.iload 4, 2) := by decide +kernel
theorem d_La_law_437 : decode code 437 = .ok (.iconst 3, 1) := by decide +kernel
theorem d_La_law_438 : decode code 438 = .ok (.iadd, 1) := by decide +kernel
theorem d_La_law_439 : decode code 439 = .ok (.iaload, 1) := by decide +kernel
theorem d_La_law_440 : decode code 440 = .ok (.ifCond .eq 7, 3) := by decide +kernel
theorem d_La_law_443 : decode code 443 = .ok (.iconst 1, 1) := by decide +kernel
theorem d_La_law_444 : decode code 444 = .ok (.goto 4, 3) := by decide +kernel
theorem d_La_law_447 : decode code 447 = .ok (.iconst 0, 1) := by decide +kernel
theorem d_La_law_448 : decode code 448 = .ok (.invokevirtual 97, 3) := by decide +kernel
theorem d_La_law_451 : decode code 451 = .ok (.istore 6, 2) := by decide +kernel
theorem d_La_law_453 : decode code 453 = .ok (.aload_n 2, 1) := by decide +kernel
theorem d_La_law_454 : decode code 454 = .ok (.invokevirtual 76, 3) := by decide +kernel
theorem d_La_law_457 : decode code 457 = .ok (.iload 5, 2) := by decide +kernel
theorem d_La_law_459 : decode code 459 = .ok (.if_icmp .eq 5, 3) := by decide +kernel
theorem d_La_law_462 : decode code 462 = .ok (.iconst 0, 1) := by decide +kernel
theorem d_La_law_464 : decode code 464 = .ok (.iload 5, 2) := by decide +kernel
theorem d_La_law_466 : decode code 466 = .ok (.ifCond .ne 15, 3) := by decide +kernel
theorem d_La_law_469 : decode code 469 = .ok (.aload_n 3, 1) := by decide +kernel
theorem d_La_law_470 : decode code 470 = .ok (.iconst 0, 1) := by decide +kernel
theorem d_La_law_471 : decode code 471 = .ok (.laload, 1) := by decide +kernel
theorem d_La_law_472 : decode code 472 = .ok (.iload 6, 2) := by decide +kernel
theorem d_La_law_474 : decode code 474 = .ok (.i2l, 1) := by decide +kernel
theorem d_La_law_475 : decode code 475 = .ok (.lcmp, 1) := by decide +kernel
theorem d_La_law_476 : decode code 476 = .ok (.ifCond .eq 5, 3) := by decide +kernel
theorem d_La_law_479 : decode code 479 = .ok (.iconst 0, 1) := by decide +kernel
theorem d_La_law_481 : decode code 481 = .ok (.goto 725, 3) := by decide +kernel
theorem d_La_law_484 : decode code 484 = .ok (.aload_n 1, 1) := by decide +kernel
theorem d_La_law_485 : decode code 485 = .ok (.aload_n 0, 1) := by decide +kernel
theorem d_La_law_486 : decode code 486 = .ok (.iload 4, 2) := by decide +kernel
theorem d_La_law_488 : decode code 488 = .ok (.iconst 1, 1) := by decide +kernel
theorem d_La_law_489 : decode code 489 = .ok (.iadd, 1) := by decide +kernel
theorem d_La_law_490 : decode code 490 = .ok (.iaload, 1) := by decide +kernel
theorem d_La_law_491 : decode code 491 = .ok (.aload_n 0, 1) := by decide +kernel
theorem d_La_law_492 : decode code 492 = .ok (.iload 4, 2) := by decide +kernel
theorem d_La_law_494 : decode code 494 = .ok (.iconst 2, 1) := by decide +kernel
theorem d_La_law_495 : decode code 495 = .ok (.iadd, 1) := by decide +kernel
theorem d_La_law_496 : decode code 496 = .ok (.iaload, 1) := by decide +kernel
theorem d_La_law_497 : decode code 497 = .ok (.ifCond .eq 7, 3) := by decide +kernel
theorem d_La_law_500 : decode code 500 = .ok (.iconst 1, 1) := by decide +kernel
theorem d_La_law_501 : decode code 501 = .ok (.goto 4, 3) := by decide +kernel
theorem d_La_law_504 : decode code 504 = .ok (.iconst 0, 1) := by decide +kernel
theorem d_La_law_505 : decode code 505 = .ok (.aload_n 0, 1) := by decide +kernel
theorem d_La_law_506 : decode code 506 = .ok (.iload 4, 2) := by decide +kernel
theorem d_La_law_508 : decode code 508 = .ok (.iconst 3, 1) := by decide +kernel
theorem d_La_law_509 : decode code 509 = .ok (.iadd, 1) := by decide +kernel
theorem d_La_law_510 : decode code 510 = .ok (.iaload, 1) := by decide +kernel
theorem d_La_law_511 : decode code 511 = .ok (.aload_n 3, 1) := by decide +kernel
theorem d_La_law_512 : decode code 512 = .ok (.invokestatic 98, 3) := by decide +kernel
theorem d_La_law_515 : decode code 515 = .ok (.istore 5, 2) := by decide +kernel
theorem d_La_law_517 : decode code 517 = .ok (.aload_n 2, 1) := by decide +kernel
theorem d_La_law_518 : decode code 518 = .ok (.aload_n 0, 1) := by decide +kernel
theorem d_La_law_519 : decode code 519 = .ok (.iload 4, 2) := by decide +kernel
theorem d_La_law_521 : decode code 521 = .ok (.iconst 1, 1) := by decide +kernel
theorem d_La_law_522 : decode code 522 = .ok (.iadd, 1) := by decide +kernel
theorem d_La_law_523 : decode code 523 = .ok (.iaload, 1) := by decide +kernel
theorem d_La_law_524 : decode code 524 = .ok (.aload_n 0, 1) := by decide +kernel
theorem d_La_law_525 : decode code 525 = .ok (.iload 4, 2) := by decide +kernel
theorem d_La_law_527 : decode code 527 = .ok (.iconst 2, 1) := by decide +kernel
theorem d_La_law_528 : decode code 528 = .ok (.iadd, 1) := by decide +kernel
theorem d_La_law_529 : decode code 529 = .ok (.iaload, 1) := by decide +kernel
theorem d_La_law_530 : decode code 530 = .ok (.ifCond .eq 7, 3) := by decide +kernel
theorem d_La_law_533 : decode code 533 = .ok (.iconst 1, 1) := by decide +kernel
theorem d_La_law_534 : decode code 534 = .ok (.goto 4, 3) := by decide +kernel
theorem d_La_law_537 : decode code 537 = .ok (.iconst 0, 1) := by decide +kernel
theorem d_La_law_538 : decode code 538 = .ok (.aload_n 0, 1) := by decide +kernel
theorem d_La_law_539 : decode code 539 = .ok (.iload 4, 2) := by decide +kernel
theorem d_La_law_541 : decode code 541 = .ok (.iconst 3, 1) := by decide +kernel
theorem d_La_law_542 : decode code 542 = .ok (.iadd, 1) := by decide +kernel
theorem d_La_law_543 : decode code 543 = .ok (.iaload, 1) := by decide +kernel
theorem d_La_law_544 : decode code 544 = .ok (.invokevirtual 101, 3) := by decide +kernel
theorem d_La_law_547 : decode code 547 = .ok (.istore 6, 2) := by decide +kernel
theorem d_La_law_549 : decode code 549 = .ok (.aload_n 2, 1) := by decide +kernel
theorem d_La_law_550 : decode code 550 = .ok (.invokevirtual 76, 3) := by decide +kernel
theorem d_La_law_553 : decode code 553 = .ok (.iload 5, 2) := by decide +kernel
theorem d_La_law_555 : decode code 555 = .ok (.if_icmp .eq 5, 3) := by decide +kernel
theorem d_La_law_558 : decode code 558 = .ok (.iconst 0, 1) := by decide +kernel
theorem d_La_law_560 : decode code 560 = .ok (.iload 5, 2) := by decide +kernel
theorem d_La_law_562 : decode code 562 = .ok (.ifCond .ne 15, 3) := by decide +kernel
theorem d_La_law_565 : decode code 565 = .ok (.aload_n 3, 1) := by decide +kernel
theorem d_La_law_566 : decode code 566 = .ok (.iconst 0, 1) := by decide +kernel
theorem d_La_law_567 : decode code 567 = .ok (.laload, 1) := by decide +kernel
theorem d_La_law_568 : decode code 568 = .ok (.iload 6, 2) := by decide +kernel
theorem d_La_law_570 : decode code 570 = .ok (.i2l, 1) := by decide +kernel
theorem d_La_law_571 : decode code 571 = .ok (.lcmp, 1) := by decide +kernel
theorem d_La_law_572 : decode code 572 = .ok (.ifCond .eq 5, 3) := by decide +kernel
theorem d_La_law_575 : decode code 575 = .ok (.iconst 0, 1) := by decide +kernel
theorem d_La_law_577 : decode code 577 = .ok (.goto 629, 3) := by decide +kernel
theorem d_La_law_580 : decode code 580 = .ok (.aload_n 1, 1) := by decide +kernel
theorem d_La_law_581 : decode code 581 = .ok (.aload_n 0, 1) := by decide +kernel
theorem d_La_law_582 : decode code 582 = .ok (.iload 4, 2) := by decide +kernel
theorem d_La_law_584 : decode code 584 = .ok (.iconst 1, 1) := by decide +kernel
theorem d_La_law_585 : decode code 585 = .ok (.iadd, 1) := by decide +kernel
theorem d_La_law_586 : decode code 586 = .ok (.iaload, 1) := by decide +kernel
theorem d_La_law_587 : decode code 587 = .ok (.aload_n 0, 1) := by decide +kernel
theorem d_La_law_588 : decode code 588 = .ok (.iload 4, 2) := by decide +kernel
theorem d_La_law_590 : decode code 590 = .ok (.iconst 2, 1) := by decide +kernel
theorem d_La_law_591 : decode code 591 = .ok (.iadd, 1) := by decide +kernel
theorem d_La_law_592 : decode code 592 = .ok (.iaload, 1) := by decide +kernel
theorem d_La_law_593 : decode code 593 = .ok (.aload_n 0, 1) := by decide +kernel
theorem d_La_law_594 : decode code 594 = .ok (.iload 4, 2) := by decide +kernel
theorem d_La_law_596 : decode code 596 = .ok (.iconst 3, 1) := by decide +kernel
theorem d_La_law_597 : decode code 597 = .ok (.iadd, 1) := by decide +kernel
theorem d_La_law_598 : decode code 598 = .ok (.iaload, 1) := by decide +kernel
theorem d_La_law_599 : decode code 599 = .ok (.aload_n 0, 1) := by decide +kernel
theorem d_La_law_600 : decode code 600 = .ok (.iload 4, 2) := by decide +kernel
theorem d_La_law_602 : decode code 602 = .ok (.iconst 4, 1) := by decide +kernel
theorem d_La_law_603 : decode code 603 = .ok (.iadd, 1) := by decide +kernel
theorem d_La_law_604 : decode code 604 = .ok (.iaload, 1) := by decide +kernel
theorem d_La_law_605 : decode code 605 = .ok (.aload_n 3, 1) := by decide +kernel
theorem d_La_law_606 : decode code 606 = .ok (.invokestatic 102, 3) := by decide +kernel
theorem d_La_law_609 : decode code 609 = .ok (.istore 5, 2) := by decide +kernel
theorem d_La_law_611 : decode code 611 = .ok (.aload_n 2, 1) := by decide +kernel
theorem d_La_law_612 : decode code 612 = .ok (.aload_n 0, 1) := by decide +kernel
theorem d_La_law_613 : decode code 613 = .ok (.iload 4, 2) := by decide +kernel
theorem d_La_law_615 : decode code 615 = .ok (.iconst 1, 1) := by decide +kernel
theorem d_La_law_616 : decode code 616 = .ok (.iadd, 1) := by decide +kernel
theorem d_La_law_617 : decode code 617 = .ok (.iaload, 1) := by decide +kernel
theorem d_La_law_618 : decode code 618 = .ok (.aload_n 0, 1) := by decide +kernel
theorem d_La_law_619 : decode code 619 = .ok (.iload 4, 2) := by decide +kernel
theorem d_La_law_621 : decode code 621 = .ok (.iconst 2, 1) := by decide +kernel
theorem d_La_law_622 : decode code 622 = .ok (.iadd, 1) := by decide +kernel
theorem d_La_law_623 : decode code 623 = .ok (.iaload, 1) := by decide +kernel
theorem d_La_law_624 : decode code 624 = .ok (.aload_n 0, 1) := by decide +kernel
theorem d_La_law_625 : decode code 625 = .ok (.iload 4, 2) := by decide +kernel
theorem d_La_law_627 : decode code 627 = .ok (.iconst 3, 1) := by decide +kernel
theorem d_La_law_628 : decode code 628 = .ok (.iadd, 1) := by decide +kernel
theorem d_La_law_629 : decode code 629 = .ok (.iaload, 1) := by decide +kernel
theorem d_La_law_630 : decode code 630 = .ok (.aload_n 0, 1) := by decide +kernel
theorem d_La_law_631 : decode code 631 = .ok (.iload 4, 2) := by decide +kernel
theorem d_La_law_633 : decode code 633 = .ok (.iconst 4, 1) := by decide +kernel
theorem d_La_law_634 : decode code 634 = .ok (.iadd, 1) := by decide +kernel
theorem d_La_law_635 : decode code 635 = .ok (.iaload, 1) := by decide +kernel
theorem d_La_law_636 : decode code 636 = .ok (.invokevirtual 105, 3) := by decide +kernel
theorem d_La_law_639 : decode code 639 = .ok (.istore 6, 2) := by decide +kernel
theorem d_La_law_641 : decode code 641 = .ok (.aload_n 2, 1) := by decide +kernel
theorem d_La_law_642 : decode code 642 = .ok (.invokevirtual 76, 3) := by decide +kernel
theorem d_La_law_645 : decode code 645 = .ok (.iload 5, 2) := by decide +kernel
theorem d_La_law_647 : decode code 647 = .ok (.if_icmp .eq 5, 3) := by decide +kernel
theorem d_La_law_650 : decode code 650 = .ok (.iconst 0, 1) := by decide +kernel
theorem d_La_law_652 : decode code 652 = .ok (.iload 5, 2) := by decide +kernel
theorem d_La_law_654 : decode code 654 = .ok (.ifCond .ne 15, 3) := by decide +kernel
theorem d_La_law_657 : decode code 657 = .ok (.aload_n 3, 1) := by decide +kernel
theorem d_La_law_658 : decode code 658 = .ok (.iconst 0, 1) := by decide +kernel
theorem d_La_law_659 : decode code 659 = .ok (.laload, 1) := by decide +kernel
theorem d_La_law_660 : decode code 660 = .ok (.iload 6, 2) := by decide +kernel
theorem d_La_law_662 : decode code 662 = .ok (.i2l, 1) := by decide +kernel
theorem d_La_law_663 : decode code 663 = .ok (.lcmp, 1) := by decide +kernel
theorem d_La_law_664 : decode code 664 = .ok (.ifCond .eq 5, 3) := by decide +kernel
theorem d_La_law_667 : decode code 667 = .ok (.iconst 0, 1) := by decide +kernel
theorem d_La_law_669 : decode code 669 = .ok (.goto 537, 3) := by decide +kernel
theorem d_La_law_672 : decode code 672 = .ok (.aload_n 1, 1) := by decide +kernel
theorem d_La_law_673 : decode code 673 = .ok (.aload_n 0, 1) := by decide +kernel
theorem d_La_law_674 : decode code 674 = .ok (.iload 4, 2) := by decide +kernel
theorem d_La_law_676 : decode code 676 = .ok (.iconst 1, 1) := by decide +kernel
theorem d_La_law_677 : decode code 677 = .ok (.iadd, 1) := by decide +kernel
theorem d_La_law_678 : decode code 678 = .ok (.iaload, 1) := by decide +kernel
theorem d_La_law_679 : decode code 679 = .ok (.aload_n 0, 1) := by decide +kernel
theorem d_La_law_680 : decode code 680 = .ok (.iload 4, 2) := by decide +kernel
theorem d_La_law_682 : decode code 682 = .ok (.iconst 2, 1) := by decide +kernel
theorem d_La_law_683 : decode code 683 = .ok (.iadd, 1) := by decide +kernel
theorem d_La_law_684 : decode code 684 = .ok (.iaload, 1) := by decide +kernel
theorem d_La_law_685 : decode code 685 = .ok (.aload_n 3, 1) := by decide +kernel
theorem d_La_law_686 : decode code 686 = .ok (.invokestatic 106, 3) := by decide +kernel
theorem d_La_law_689 : decode code 689 = .ok (.istore 5, 2) := by decide +kernel
theorem d_La_law_691 : decode code 691 = .ok (.aload_n 2, 1) := by decide +kernel
theorem d_La_law_692 : decode code 692 = .ok (.aload_n 0, 1) := by decide +kernel
theorem d_La_law_693 : decode code 693 = .ok (.iload 4, 2) := by decide +kernel
theorem d_La_law_695 : decode code 695 = .ok (.iconst 1, 1) := by decide +kernel
theorem d_La_law_696 : decode code 696 = .ok (.iadd, 1) := by decide +kernel
theorem d_La_law_697 : decode code 697 = .ok (.iaload, 1) := by decide +kernel
theorem d_La_law_698 : decode code 698 = .ok (.aload_n 0, 1) := by decide +kernel
theorem d_La_law_699 : decode code 699 = .ok (.iload 4, 2) := by decide +kernel
theorem d_La_law_701 : decode code 701 = .ok (.iconst 2, 1) := by decide +kernel
theorem d_La_law_702 : decode code 702 = .ok (.iadd, 1) := by decide +kernel
theorem d_La_law_703 : decode code 703 = .ok (.iaload, 1) := by decide +kernel
theorem d_La_law_704 : decode code 704 = .ok (.invokevirtual 109, 3) := by decide +kernel
theorem d_La_law_707 : decode code 707 = .ok (.istore 6, 2) := by decide +kernel
theorem d_La_law_709 : decode code 709 = .ok (.aload_n 2, 1) := by decide +kernel
theorem d_La_law_710 : decode code 710 = .ok (.invokevirtual 76, 3) := by decide +kernel
theorem d_La_law_713 : decode code 713 = .ok (.iload 5, 2) := by decide +kernel
theorem d_La_law_715 : decode code 715 = .ok (.if_icmp .eq 5, 3) := by decide +kernel
theorem d_La_law_718 : decode code 718 = .ok (.iconst 0, 1) := by decide +kernel
theorem d_La_law_720 : decode code 720 = .ok (.iload 5, 2) := by decide +kernel
theorem d_La_law_722 : decode code 722 = .ok (.ifCond .ne 15, 3) := by decide +kernel
theorem d_La_law_725 : decode code 725 = .ok (.aload_n 3, 1) := by decide +kernel
theorem d_La_law_726 : decode code 726 = .ok (.iconst 0, 1) := by decide +kernel
theorem d_La_law_727 : decode code 727 = .ok (.laload, 1) := by decide +kernel
theorem d_La_law_728 : decode code 728 = .ok (.iload 6, 2) := by decide +kernel
theorem d_La_law_730 : decode code 730 = .ok (.i2l, 1) := by decide +kernel
theorem d_La_law_731 : decode code 731 = .ok (.lcmp, 1) := by decide +kernel
theorem d_La_law_732 : decode code 732 = .ok (.ifCond .eq 5, 3) := by decide +kernel
theorem d_La_law_735 : decode code 735 = .ok (.iconst 0, 1) := by decide +kernel
theorem d_La_law_737 : decode code 737 = .ok (.goto 469, 3) := by decide +kernel
theorem d_La_law_740 : decode code 740 = .ok (.aload_n 1, 1) := by decide +kernel
theorem d_La_law_741 : decode code 741 = .ok (.aload_n 0, 1) := by decide +kernel
theorem d_La_law_742 : decode code 742 = .ok (.iload 4, 2) := by decide +kernel
theorem d_La_law_744 : decode code 744 = .ok (.iconst 1, 1) := by decide +kernel
theorem d_La_law_745 : decode code 745 = .ok (.iadd, 1) := by decide +kernel
theorem d_La_law_746 : decode code 746 = .ok (.iaload, 1) := by decide +kernel
theorem d_La_law_747 : decode code 747 = .ok (.aload_n 0, 1) := by decide +kernel
theorem d_La_law_748 : decode code 748 = .ok (.iload 4, 2) := by decide +kernel
theorem d_La_law_750 : decode code 750 = .ok (.iconst 2, 1) := by decide +kernel
theorem d_La_law_751 : decode code 751 = .ok (.iadd, 1) := by decide +kernel
theorem d_La_law_752 : decode code 752 = .ok (.iaload, 1) := by decide +kernel
theorem d_La_law_753 : decode code 753 = .ok (.aload_n 3, 1) := by decide +kernel
theorem d_La_law_754 : decode code 754 = .ok (.invokestatic 110, 3) := by decide +kernel
theorem d_La_law_757 : decode code 757 = .ok (.istore 5, 2) := by decide +kernel
theorem d_La_law_759 : decode code 759 = .ok (.aload_n 2, 1) := by decide +kernel
theorem d_La_law_760 : decode code 760 = .ok (.aload_n 0, 1) := by decide +kernel
theorem d_La_law_761 : decode code 761 = .ok (.iload 4, 2) := by decide +kernel
theorem d_La_law_763 : decode code 763 = .ok (.iconst 1, 1) := by decide +kernel
theorem d_La_law_764 : decode code 764 = .ok (.iadd, 1) := by decide +kernel
theorem d_La_law_765 : decode code 765 = .ok (.iaload, 1) := by decide +kernel
theorem d_La_law_766 : decode code 766 = .ok (.aload_n 0, 1) := by decide +kernel
theorem d_La_law_767 : decode code 767 = .ok (.iload 4, 2) := by decide +kernel
theorem d_La_law_769 : decode code 769 = .ok (.iconst 2, 1) := by decide +kernel
theorem d_La_law_770 : decode code 770 = .ok (.iadd, 1) := by decide +kernel
theorem d_La_law_771 : decode code 771 = .ok (.iaload, 1) := by decide +kernel
theorem d_La_law_772 : decode code 772 = .ok (.invokevirtual 112, 3) := by decide +kernel
theorem d_La_law_775 : decode code 775 = .ok (.istore 6, 2) := by decide +kernel
theorem d_La_law_777 : decode code 777 = .ok (.aload_n 2, 1) := by decide +kernel
theorem d_La_law_778 : decode code 778 = .ok (.invokevirtual 76, 3) := by decide +kernel
theorem d_La_law_781 : decode code 781 = .ok (.iload 5, 2) := by decide +kernel
theorem d_La_law_783 : decode code 783 = .ok (.if_icmp .eq 5, 3) := by decide +kernel
theorem d_La_law_786 : decode code 786 = .ok (.iconst 0, 1) := by decide +kernel
theorem d_La_law_788 : decode code 788 = .ok (.iload 5, 2) := by decide +kernel
theorem d_La_law_790 : decode code 790 = .ok (.ifCond .ne 22, 3) := by decide +kernel
theorem d_La_law_793 : decode code 793 = .ok (.aload_n 3, 1) := by decide +kernel
theorem d_La_law_794 : decode code 794 = .ok (.iconst 0, 1) := by decide +kernel
theorem d_La_law_795 : decode code 795 = .ok (.laload, 1) := by decide +kernel
theorem d_La_law_796 : decode code 796 = .ok (.iload 6, 2) := by decide +kernel
theorem d_La_law_798 : decode code 798 = .ok (.ifCond .eq 7, 3) := by decide +kernel
theorem d_La_law_801 : decode code 801 = .ok (.lconst 1, 1) := by decide +kernel
theorem d_La_law_802 : decode code 802 = .ok (.goto 4, 3) := by decide +kernel
theorem d_La_law_805 : decode code 805 = .ok (.lconst 0, 1) := by decide +kernel
theorem d_La_law_806 : decode code 806 = .ok (.lcmp, 1) := by decide +kernel
theorem d_La_law_807 : decode code 807 = .ok (.ifCond .eq 5, 3) := by decide +kernel
theorem d_La_law_810 : decode code 810 = .ok (.iconst 0, 1) := by decide +kernel
theorem d_La_law_812 : decode code 812 = .ok (.goto 394, 3) := by decide +kernel
theorem d_La_law_815 : decode code 815 = .ok (.aload_n 1, 1) := by decide +kernel
theorem d_La_law_816 : decode code 816 = .ok (.aload_n 0, 1) := by decide +kernel
theorem d_La_law_817 : decode code 817 = .ok (.iload 4, 2) := by decide +kernel
theorem d_La_law_819 : decode code 819 = .ok (.iconst 1, 1) := by decide +kernel
theorem d_La_law_820 : decode code 820 = .ok (.iadd, 1) := by decide +kernel
theorem d_La_law_821 : decode code 821 = .ok (.iaload, 1) := by decide +kernel
theorem d_La_law_822 : decode code 822 = .ok (.aload_n 0, 1) := by decide +kernel
theorem d_La_law_823 : decode code 823 = .ok (.iload 4, 2) := by decide +kernel
theorem d_La_law_825 : decode code 825 = .ok (.iconst 2, 1) := by decide +kernel
theorem d_La_law_826 : decode code 826 = .ok (.iadd, 1) := by decide +kernel
theorem d_La_law_827 : decode code 827 = .ok (.iaload, 1) := by decide +kernel
theorem d_La_law_828 : decode code 828 = .ok (.aload_n 0, 1) := by decide +kernel
theorem d_La_law_829 : decode code 829 = .ok (.iload 4, 2) := by decide +kernel
theorem d_La_law_831 : decode code 831 = .ok (.iconst 3, 1) := by decide +kernel
theorem d_La_law_832 : decode code 832 = .ok (.iadd, 1) := by decide +kernel
theorem d_La_law_833 : decode code 833 = .ok (.iaload, 1) := by decide +kernel
theorem d_La_law_834 : decode code 834 = .ok (.aload_n 0, 1) := by decide +kernel
theorem d_La_law_835 : decode code 835 = .ok (.iload 4, 2) := by decide +kernel
theorem d_La_law_837 : decode code 837 = .ok (.iconst 4, 1) := by decide +kernel
theorem d_La_law_838 : decode code 838 = .ok (.iadd, 1) := by decide +kernel
theorem d_La_law_839 : decode code 839 = .ok (.iaload, 1) := by decide +kernel
theorem d_La_law_840 : decode code 840 = .ok (.aload_n 0, 1) := by decide +kernel
theorem d_La_law_841 : decode code 841 = .ok (.iload 4, 2) := by decide +kernel
theorem d_La_law_843 : decode code 843 = .ok (.iconst 5, 1) := by decide +kernel
theorem d_La_law_844 : decode code 844 = .ok (.iadd, 1) := by decide +kernel
theorem d_La_law_845 : decode code 845 = .ok (.iaload, 1) := by decide +kernel
theorem d_La_law_846 : decode code 846 = .ok (.aload_n 3, 1) := by decide +kernel
theorem d_La_law_847 : decode code 847 = .ok (.invokestatic 113, 3) := by decide +kernel
theorem d_La_law_850 : decode code 850 = .ok (.istore 5, 2) := by decide +kernel
theorem d_La_law_852 : decode code 852 = .ok (.aload_n 2, 1) := by decide +kernel
theorem d_La_law_853 : decode code 853 = .ok (.aload_n 0, 1) := by decide +kernel
theorem d_La_law_854 : decode code 854 = .ok (.iload 4, 2) := by decide +kernel
theorem d_La_law_856 : decode code 856 = .ok (.iconst 1, 1) := by decide +kernel
theorem d_La_law_857 : decode code 857 = .ok (.iadd, 1) := by decide +kernel
theorem d_La_law_858 : decode code 858 = .ok (.iaload, 1) := by decide +kernel
theorem d_La_law_859 : decode code 859 = .ok (.aload_n 0, 1) := by decide +kernel
theorem d_La_law_860 : decode code 860 = .ok (.iload 4, 2) := by decide +kernel
theorem d_La_law_862 : decode code 862 = .ok (.iconst 2, 1) := by decide +kernel
theorem d_La_law_863 : decode code 863 = .ok (.iadd, 1) := by decide +kernel
theorem d_La_law_864 : decode code 864 = .ok (.iaload, 1) := by decide +kernel
theorem d_La_law_865 : decode code 865 = .ok (.aload_n 0, 1) := by decide +kernel
theorem d_La_law_866 : decode code 866 = .ok (.iload 4, 2) := by decide +kernel
theorem d_La_law_868 : decode code 868 = .ok (.iconst 3, 1) := by decide +kernel
theorem d_La_law_869 : decode code 869 = .ok (.iadd, 1) := by decide +kernel
theorem d_La_law_870 : decode code 870 = .ok (.iaload, 1) := by decide +kernel
theorem d_La_law_871 : decode code 871 = .ok (.aload_n 0, 1) := by decide +kernel
theorem d_La_law_872 : decode code 872 = .ok (.iload 4, 2) := by decide +kernel
theorem d_La_law_874 : decode code 874 = .ok (.iconst 4, 1) := by decide +kernel
theorem d_La_law_875 : decode code 875 = .ok (.iadd, 1) := by decide +kernel
theorem d_La_law_876 : decode code 876 = .ok (.iaload, 1) := by decide +kernel
theorem d_La_law_877 : decode code 877 = .ok (.aload_n 0, 1) := by decide +kernel
theorem d_La_law_878 : decode code 878 = .ok (.iload 4, 2) := by decide +kernel
theorem d_La_law_880 : decode code 880 = .ok (.iconst 5, 1) := by decide +kernel
theorem d_La_law_881 : decode code 881 = .ok (.iadd, 1) := by decide +kernel
theorem d_La_law_882 : decode code 882 = .ok (.iaload, 1) := by decide +kernel
theorem d_La_law_883 : decode code 883 = .ok (.invokevirtual 116, 3) := by decide +kernel
theorem d_La_law_886 : decode code 886 = .ok (.istore 6, 2) := by decide +kernel
theorem d_La_law_888 : decode code 888 = .ok (.aload_n 2, 1) := by decide +kernel
theorem d_La_law_889 : decode code 889 = .ok (.invokevirtual 76, 3) := by decide +kernel
theorem d_La_law_892 : decode code 892 = .ok (.iload 5, 2) := by decide +kernel
theorem d_La_law_894 : decode code 894 = .ok (.if_icmp .eq 5, 3) := by decide +kernel
theorem d_La_law_897 : decode code 897 = .ok (.iconst 0, 1) := by decide +kernel
theorem d_La_law_899 : decode code 899 = .ok (.iload 5, 2) := by decide +kernel
theorem d_La_law_901 : decode code 901 = .ok (.ifCond .ne 15, 3) := by decide +kernel
theorem d_La_law_904 : decode code 904 = .ok (.aload_n 3, 1) := by decide +kernel
theorem d_La_law_905 : decode code 905 = .ok (.iconst 0, 1) := by decide +kernel
theorem d_La_law_906 : decode code 906 = .ok (.laload, 1) := by decide +kernel
theorem d_La_law_907 : decode code 907 = .ok (.iload 6, 2) := by decide +kernel
theorem d_La_law_909 : decode code 909 = .ok (.i2l, 1) := by decide +kernel
theorem d_La_law_910 : decode code 910 = .ok (.lcmp, 1) := by decide +kernel
theorem d_La_law_911 : decode code 911 = .ok (.ifCond .eq 5, 3) := by decide +kernel
theorem d_La_law_914 : decode code 914 = .ok (.iconst 0, 1) := by decide +kernel
theorem d_La_law_916 : decode code 916 = .ok (.goto 290, 3) := by decide +kernel
theorem d_La_law_919 : decode code 919 = .ok (.aload_n 1, 1) := by decide +kernel
theorem d_La_law_920 : decode code 920 = .ok (.invokevirtual 117, 3) := by decide +kernel
theorem d_La_law_923 : decode code 923 = .ok (.aload_n 2, 1) := by decide +kernel
theorem d_La_law_924 : decode code 924 = .ok (.invokevirtual 120, 3) := by decide +kernel
theorem d_La_law_927 : decode code 927 = .ok (.if_icmp .eq 279, 3) := by decide +kernel
theorem d_La_law_930 : decode code 930 = .ok (.iconst 0, 1) := by decide +kernel
theorem d_La_law_932 : decode code 932 = .ok (.aload_n 1, 1) := by decide +kernel
theorem d_La_law_933 : decode code 933 = .ok (.aload_n 0, 1) := by decide +kernel
theorem d_La_law_934 : decode code 934 = .ok (.iload 4, 2) := by decide +kernel
theorem d_La_law_936 : decode code 936 = .ok (.iconst 1, 1) := by decide +kernel
theorem d_La_law_937 : decode code 937 = .ok (.iadd, 1) := by decide +kernel
theorem d_La_law_938 : decode code 938 = .ok (.iaload, 1) := by decide +kernel
theorem d_La_law_939 : decode code 939 = .ok (.aload_n 3, 1) := by decide +kernel
theorem d_La_law_940 : decode code 940 = .ok (.invokestatic 121, 3) := by decide +kernel
theorem d_La_law_943 : decode code 943 = .ok (.istore 5, 2) := by decide +kernel
theorem d_La_law_945 : decode code 945 = .ok (.aload_n 2, 1) := by decide +kernel
theorem d_La_law_946 : decode code 946 = .ok (.aload_n 0, 1) := by decide +kernel
theorem d_La_law_947 : decode code 947 = .ok (.iload 4, 2) := by decide +kernel
theorem d_La_law_949 : decode code 949 = .ok (.iconst 1, 1) := by decide +kernel
theorem d_La_law_950 : decode code 950 = .ok (.iadd, 1) := by decide +kernel
theorem d_La_law_951 : decode code 951 = .ok (.iaload, 1) := by decide +kernel
theorem d_La_law_952 : decode code 952 = .ok (.invokevirtual 124, 3) := by decide +kernel
theorem d_La_law_955 : decode code 955 = .ok (.istore 6, 2) := by decide +kernel
theorem d_La_law_957 : decode code 957 = .ok (.aload_n 2, 1) := by decide +kernel
theorem d_La_law_958 : decode code 958 = .ok (.invokevirtual 76, 3) := by decide +kernel
theorem d_La_law_961 : decode code 961 = .ok (.iload 5, 2) := by decide +kernel
theorem d_La_law_963 : decode code 963 = .ok (.if_icmp .eq 5, 3) := by decide +kernel
theorem d_La_law_966 : decode code 966 = .ok (.iconst 0, 1) := by decide +kernel
theorem d_La_law_968 : decode code 968 = .ok (.iload 5, 2) := by decide +kernel
theorem d_La_law_970 : decode code 970 = .ok (.ifCond .ne 15, 3) := by decide +kernel
theorem d_La_law_973 : decode code 973 = .ok (.aload_n 3, 1) := by decide +kernel
theorem d_La_law_974 : decode code 974 = .ok (.iconst 0, 1) := by decide +kernel
theorem d_La_law_975 : decode code 975 = .ok (.laload, 1) := by decide +kernel
theorem d_La_law_976 : decode code 976 = .ok (.iload 6, 2) := by decide +kernel
theorem d_La_law_978 : decode code 978 = .ok (.i2l, 1) := by decide +kernel
theorem d_La_law_979 : decode code 979 = .ok (.lcmp, 1) := by decide +kernel
theorem d_La_law_980 : decode code 980 = .ok (.ifCond .eq 5, 3) := by decide +kernel
theorem d_La_law_983 : decode code 983 = .ok (.iconst 0, 1) := by decide +kernel
theorem d_La_law_985 : decode code 985 = .ok (.goto 221, 3) := by decide +kernel
theorem d_La_law_988 : decode code 988 = .ok (.aload_n 1, 1) := by decide +kernel
theorem d_La_law_989 : decode code 989 = .ok (.aload_n 0, 1) := by decide +kernel
theorem d_La_law_990 : decode code 990 = .ok (.iload 4, 2) := by decide +kernel
theorem d_La_law_992 : decode code 992 = .ok (.iconst 1, 1) := by decide +kernel
theorem d_La_law_993 : decode code 993 = .ok (.iadd, 1) := by decide +kernel
theorem d_La_law_994 : decode code 994 = .ok (.iaload, 1) := by decide +kernel
theorem d_La_law_995 : decode code 995 = .ok (.aload_n 3, 1) := by decide +kernel
theorem d_La_law_996 : decode code 996 = .ok (.invokestatic 125, 3) := by decide +kernel
theorem d_La_law_999 : decode code 999 = .ok (.istore 5, 2) := by decide +kernel
theorem d_La_law_1001 : decode code 1001 = .ok (.aload_n 2, 1) := by decide +kernel
theorem d_La_law_1002 : decode code 1002 = .ok (.aload_n 0, 1) := by decide +kernel
theorem d_La_law_1003 : decode code 1003 = .ok (.iload 4, 2) := by decide +kernel
theorem d_La_law_1005 : decode code 1005 = .ok (.iconst 1, 1) := by decide +kernel
theorem d_La_law_1006 : decode code 1006 = .ok (.iadd, 1) := by decide +kernel
theorem d_La_law_1007 : decode code 1007 = .ok (.iaload, 1) := by decide +kernel
theorem d_La_law_1008 : decode code 1008 = .ok (.invokevirtual 127, 3) := by decide +kernel
theorem d_La_law_1011 : decode code 1011 = .ok (.istore 6, 2) := by decide +kernel
theorem d_La_law_1013 : decode code 1013 = .ok (.aload_n 2, 1) := by decide +kernel
theorem d_La_law_1014 : decode code 1014 = .ok (.invokevirtual 76, 3) := by decide +kernel
theorem d_La_law_1017 : decode code 1017 = .ok (.iload 5, 2) := by decide +kernel
theorem d_La_law_1019 : decode code 1019 = .ok (.if_icmp .eq 5, 3) := by decide +kernel
theorem d_La_law_1022 : decode code 1022 = .ok (.iconst 0, 1) := by decide +kernel
theorem d_La_law_1024 : decode code 1024 = .ok (.iload 5, 2) := by decide +kernel
theorem d_La_law_1026 : decode code 1026 = .ok (.ifCond .ne 15, 3) := by decide +kernel
theorem d_La_law_1029 : decode code 1029 = .ok (.aload_n 3, 1) := by decide +kernel
theorem d_La_law_1030 : decode code 1030 = .ok (.iconst 0, 1) := by decide +kernel
theorem d_La_law_1031 : decode code 1031 = .ok (.laload, 1) := by decide +kernel
theorem d_La_law_1032 : decode code 1032 = .ok (.iload 6, 2) := by decide +kernel
theorem d_La_law_1034 : decode code 1034 = .ok (.i2l, 1) := by decide +kernel
theorem d_La_law_1035 : decode code 1035 = .ok (.lcmp, 1) := by decide +kernel
theorem d_La_law_1036 : decode code 1036 = .ok (.ifCond .eq 5, 3) := by decide +kernel
theorem d_La_law_1039 : decode code 1039 = .ok (.iconst 0, 1) := by decide +kernel
theorem d_La_law_1041 : decode code 1041 = .ok (.goto 165, 3) := by decide +kernel
theorem d_La_law_1044 : decode code 1044 = .ok (.aload_n 1, 1) := by decide +kernel
theorem d_La_law_1045 : decode code 1045 = .ok (.aload_n 0, 1) := by decide +kernel
theorem d_La_law_1046 : decode code 1046 = .ok (.iload 4, 2) := by decide +kernel
theorem d_La_law_1048 : decode code 1048 = .ok (.iconst 1, 1) := by decide +kernel
theorem d_La_law_1049 : decode code 1049 = .ok (.iadd, 1) := by decide +kernel
theorem d_La_law_1050 : decode code 1050 = .ok (.iaload, 1) := by decide +kernel
theorem d_La_law_1051 : decode code 1051 = .ok (.invokevirtual 128, 3) := by decide +kernel
theorem d_La_law_1054 : decode code 1054 = .ok (.aload_n 2, 1) := by decide +kernel
theorem d_La_law_1055 : decode code 1055 = .ok (.aload_n 0, 1) := by decide +kernel
theorem d_La_law_1056 : decode code 1056 = .ok (.iload 4, 2) := by decide +kernel
theorem d_La_law_1058 : decode code 1058 = .ok (.iconst 1, 1) := by decide +kernel
theorem d_La_law_1059 : decode code 1059 = .ok (.iadd, 1) := by decide +kernel
theorem d_La_law_1060 : decode code 1060 = .ok (.iaload, 1) := by decide +kernel
theorem d_La_law_1061 : decode code 1061 = .ok (.invokevirtual 132, 3) := by decide +kernel
theorem d_La_law_1064 : decode code 1064 = .ok (.if_icmp .eq 142, 3) := by decide +kernel
theorem d_La_law_1067 : decode code 1067 = .ok (.iconst 0, 1) := by decide +kernel
theorem d_La_law_1069 : decode code 1069 = .ok (.aload_n 1, 1) := by decide +kernel
theorem d_La_law_1070 : decode code 1070 = .ok (.invokevirtual 133, 3) := by decide +kernel
theorem d_La_law_1073 : decode code 1073 = .ok (.aload_n 2, 1) := by decide +kernel
theorem d_La_law_1074 : decode code 1074 = .ok (.invokevirtual 136, 3) := by decide +kernel
theorem d_La_law_1077 : decode code 1077 = .ok (.if_icmp .eq 129, 3) := by decide +kernel
theorem d_La_law_1080 : decode code 1080 = .ok (.iconst 0, 1) := by decide +kernel
theorem d_La_law_1082 : decode code 1082 = .ok (.aload_n 1, 1) := by decide +kernel
theorem d_La_law_1083 : decode code 1083 = .ok (.aload_n 0, 1) := by decide +kernel
theorem d_La_law_1084 : decode code 1084 = .ok (.iload 4, 2) := by decide +kernel
theorem d_La_law_1086 : decode code 1086 = .ok (.iconst 1, 1) := by decide +kernel
theorem d_La_law_1087 : decode code 1087 = .ok (.iadd, 1) := by decide +kernel
theorem d_La_law_1088 : decode code 1088 = .ok (.iaload, 1) := by decide +kernel
theorem d_La_law_1089 : decode code 1089 = .ok (.aload_n 0, 1) := by decide +kernel
theorem d_La_law_1090 : decode code 1090 = .ok (.iload 4, 2) := by decide +kernel
theorem d_La_law_1092 : decode code 1092 = .ok (.iconst 2, 1) := by decide +kernel
theorem d_La_law_1093 : decode code 1093 = .ok (.iadd, 1) := by decide +kernel
theorem d_La_law_1094 : decode code 1094 = .ok (.iaload, 1) := by decide +kernel
theorem d_La_law_1095 : decode code 1095 = .ok (.aload_n 3, 1) := by decide +kernel
theorem d_La_law_1096 : decode code 1096 = .ok (.invokestatic 137, 3) := by decide +kernel
theorem d_La_law_1099 : decode code 1099 = .ok (.istore 5, 2) := by decide +kernel
theorem d_La_law_1101 : decode code 1101 = .ok (.aload_n 2, 1) := by decide +kernel
theorem d_La_law_1102 : decode code 1102 = .ok (.aload_n 0, 1) := by decide +kernel
theorem d_La_law_1103 : decode code 1103 = .ok (.iload 4, 2) := by decide +kernel
theorem d_La_law_1105 : decode code 1105 = .ok (.iconst 1, 1) := by decide +kernel
theorem d_La_law_1106 : decode code 1106 = .ok (.iadd, 1) := by decide +kernel
theorem d_La_law_1107 : decode code 1107 = .ok (.iaload, 1) := by decide +kernel
theorem d_La_law_1108 : decode code 1108 = .ok (.aload_n 0, 1) := by decide +kernel
theorem d_La_law_1109 : decode code 1109 = .ok (.iload 4, 2) := by decide +kernel
theorem d_La_law_1111 : decode code 1111 = .ok (.iconst 2, 1) := by decide +kernel
theorem d_La_law_1112 : decode code 1112 = .ok (.iadd, 1) := by decide +kernel
theorem d_La_law_1113 : decode code 1113 = .ok (.iaload, 1) := by decide +kernel
theorem d_La_law_1114 : decode code 1114 = .ok (.invokevirtual 139, 3) := by decide +kernel
theorem d_La_law_1117 : decode code 1117 = .ok (.istore 6, 2) := by decide +kernel
theorem d_La_law_1119 : decode code 1119 = .ok (.aload_n 2, 1) := by decide +kernel
theorem d_La_law_1120 : decode code 1120 = .ok (.invokevirtual 76, 3) := by decide +kernel
theorem d_La_law_1123 : decode code 1123 = .ok (.iload 5, 2) := by decide +kernel
theorem d_La_law_1125 : decode code 1125 = .ok (.if_icmp .eq 5, 3) := by decide +kernel
theorem d_La_law_1128 : decode code 1128 = .ok (.iconst 0, 1) := by decide +kernel
theorem d_La_law_1130 : decode code 1130 = .ok (.iload 5, 2) := by decide +kernel
theorem d_La_law_1132 : decode code 1132 = .ok (.ifCond .ne 15, 3) := by decide +kernel
theorem d_La_law_1135 : decode code 1135 = .ok (.aload_n 3, 1) := by decide +kernel
theorem d_La_law_1136 : decode code 1136 = .ok (.iconst 0, 1) := by decide +kernel
theorem d_La_law_1137 : decode code 1137 = .ok (.laload, 1) := by decide +kernel
theorem d_La_law_1138 : decode code 1138 = .ok (.iload 6, 2) := by decide +kernel
theorem d_La_law_1140 : decode code 1140 = .ok (.i2l, 1) := by decide +kernel
theorem d_La_law_1141 : decode code 1141 = .ok (.lcmp, 1) := by decide +kernel
theorem d_La_law_1142 : decode code 1142 = .ok (.ifCond .eq 5, 3) := by decide +kernel
theorem d_La_law_1145 : decode code 1145 = .ok (.iconst 0, 1) := by decide +kernel
theorem d_La_law_1147 : decode code 1147 = .ok (.goto 59, 3) := by decide +kernel
theorem d_La_law_1150 : decode code 1150 = .ok (.aload_n 1, 1) := by decide +kernel
theorem d_La_law_1151 : decode code 1151 = .ok (.aload_n 0, 1) := by decide +kernel
theorem d_La_law_1152 : decode code 1152 = .ok (.iload 4, 2) := by decide +kernel
theorem d_La_law_1154 : decode code 1154 = .ok (.iconst 1, 1) := by decide +kernel
theorem d_La_law_1155 : decode code 1155 = .ok (.iadd, 1) := by decide +kernel
theorem d_La_law_1156 : decode code 1156 = .ok (.iaload, 1) := by decide +kernel
theorem d_La_law_1157 : decode code 1157 = .ok (.aload_n 3, 1) := by decide +kernel
theorem d_La_law_1158 : decode code 1158 = .ok (.invokestatic 140, 3) := by decide +kernel
theorem d_La_law_1161 : decode code 1161 = .ok (.istore 5, 2) := by decide +kernel
theorem d_La_law_1163 : decode code 1163 = .ok (.aload_n 2, 1) := by decide +kernel
theorem d_La_law_1164 : decode code 1164 = .ok (.aload_n 0, 1) := by decide +kernel
theorem d_La_law_1165 : decode code 1165 = .ok (.iload 4, 2) := by decide +kernel
theorem d_La_law_1167 : decode code 1167 = .ok (.iconst 1, 1) := by decide +kernel
theorem d_La_law_1168 : decode code 1168 = .ok (.iadd, 1) := by decide +kernel
theorem d_La_law_1169 : decode code 1169 = .ok (.iaload, 1) := by decide +kernel
theorem d_La_law_1170 : decode code 1170 = .ok (.invokevirtual 142, 3) := by decide +kernel
theorem d_La_law_1173 : decode code 1173 = .ok (.istore 6, 2) := by decide +kernel
theorem d_La_law_1175 : decode code 1175 = .ok (.aload_n 2, 1) := by decide +kernel
theorem d_La_law_1176 : decode code 1176 = .ok (.invokevirtual 76, 3) := by decide +kernel
theorem d_La_law_1179 : decode code 1179 = .ok (.iload 5, 2) := by decide +kernel
theorem d_La_law_1181 : decode code 1181 = .ok (.if_icmp .eq 5, 3) := by decide +kernel
theorem d_La_law_1184 : decode code 1184 = .ok (.iconst 0, 1) := by decide +kernel
theorem d_La_law_1186 : decode code 1186 = .ok (.iload 5, 2) := by decide +kernel
theorem d_La_law_1188 : decode code 1188 = .ok (.ifCond .ne 15, 3) := by decide +kernel
theorem d_La_law_1191 : decode code 1191 = .ok (.aload_n 3, 1) := by decide +kernel
theorem d_La_law_1192 : decode code 1192 = .ok (.iconst 0, 1) := by decide +kernel
theorem d_La_law_1193 : decode code 1193 = .ok (.laload, 1) := by decide +kernel
theorem d_La_law_1194 : decode code 1194 = .ok (.iload 6, 2) := by decide +kernel
theorem d_La_law_1196 : decode code 1196 = .ok (.i2l, 1) := by decide +kernel
theorem d_La_law_1197 : decode code 1197 = .ok (.lcmp, 1) := by decide +kernel
theorem d_La_law_1198 : decode code 1198 = .ok (.ifCond .eq 5, 3) := by decide +kernel
theorem d_La_law_1201 : decode code 1201 = .ok (.iconst 0, 1) := by decide +kernel
theorem d_La_law_1203 : decode code 1203 = .ok (.goto 3, 3) := by decide +kernel
theorem d_La_law_1206 : decode code 1206 = .ok (.iinc 4 6, 3) := by decide +kernel
theorem d_La_law_1209 : decode code 1209 = .ok (.goto (-1186), 3) := by decide +kernel
theorem d_La_law_1212 : decode code 1212 = .ok (.iconst 1, 1) := by decide +kernel
theorem d_La_law_1213 : decode code 1213 = .ok (.ireturn, 1) := by decide +kernel
