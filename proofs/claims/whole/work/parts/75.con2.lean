/-! The constructors. -/
theorem k_2 : (Jvm.Cond.initialized "CellHeap$Heap") ∈ wx_tbl := wx_in 66 (by decide +kernel) rfl
theorem k_3 : (Jvm.Cond.initialized "CellHeap$Line") ∈ wx_tbl := wx_in 67 (by decide +kernel) rfl
theorem k_4 : (Jvm.Cond.initialized "CellHeap$Reckoner") ∈ wx_tbl := wx_in 68 (by decide +kernel) rfl
theorem k_5 : (Jvm.Cond.initialized "CellHeap$Ratio") ∈ wx_tbl := wx_in 69 (by decide +kernel) rfl
theorem k_6 : (Jvm.Cond.initialized "CellHeap$Whole") ∈ wx_tbl := wx_in 70 (by decide +kernel) rfl
theorem k_7 : (Jvm.Cond.initialized "CellHeap$Division") ∈ wx_tbl := wx_in 71 (by decide +kernel) rfl
theorem k_8 : (Jvm.Cond.initialized "CellHeap$Printer") ∈ wx_tbl := wx_in 72 (by decide +kernel) rfl
theorem k_32 : (Jvm.Cond.methodLink "CellHeap" (1 : Nat) ({ cls := "java/lang/Object", name := "<init>", desc := "()V" } : Jvm.MethodName)) ∈ wx_tbl := wx_in 96 (by decide +kernel) rfl
theorem k_35 : (Jvm.Cond.classLink "CellHeap" (7 : Nat) "CellHeap$Heap") ∈ wx_tbl := wx_in 99 (by decide +kernel) rfl
theorem k_38 : (Jvm.Cond.instanceMethod ({ cls := "CellHeap$Heap", name := "<init>", desc := "()V" } : Jvm.MethodName)) ∈ wx_tbl := wx_in 102 (by decide +kernel) rfl
theorem k_39 : (Jvm.Cond.code ({ cls := "CellHeap$Heap", name := "<init>", desc := "()V" } : Jvm.MethodName) prog_3_method_1_code (1 : Nat) (Option.none : Option Jvm.ClassFile.FieldType)) ∈ wx_tbl := wx_in 103 (by decide +kernel) rfl
theorem k_40 : (Jvm.Cond.methodLink "CellHeap$Heap" (3 : Nat) ({ cls := "java/lang/Object", name := "<init>", desc := "()V" } : Jvm.MethodName)) ∈ wx_tbl := wx_in 104 (by decide +kernel) rfl
theorem k_72 : (Jvm.Cond.classLink "CellHeap" (16 : Nat) "CellHeap$Line") ∈ wx_tbl := wx_in 136 (by decide +kernel) rfl
theorem k_75 : (Jvm.Cond.instanceMethod ({ cls := "CellHeap$Line", name := "<init>", desc := "()V" } : Jvm.MethodName)) ∈ wx_tbl := wx_in 139 (by decide +kernel) rfl
theorem k_76 : (Jvm.Cond.code ({ cls := "CellHeap$Line", name := "<init>", desc := "()V" } : Jvm.MethodName) prog_4_method_1_code (1 : Nat) (Option.none : Option Jvm.ClassFile.FieldType)) ∈ wx_tbl := wx_in 140 (by decide +kernel) rfl
theorem k_77 : (Jvm.Cond.methodLink "CellHeap$Line" (3 : Nat) ({ cls := "java/lang/Object", name := "<init>", desc := "()V" } : Jvm.MethodName)) ∈ wx_tbl := wx_in 141 (by decide +kernel) rfl
theorem k_87 : (Jvm.Cond.classLink "CellHeap" (23 : Nat) "CellHeap$Reckoner") ∈ wx_tbl := wx_in 151 (by decide +kernel) rfl
theorem k_90 : (Jvm.Cond.instanceMethod ({ cls := "CellHeap$Reckoner", name := "<init>", desc := "()V" } : Jvm.MethodName)) ∈ wx_tbl := wx_in 154 (by decide +kernel) rfl
theorem k_91 : (Jvm.Cond.code ({ cls := "CellHeap$Reckoner", name := "<init>", desc := "()V" } : Jvm.MethodName) prog_7_method_1_code (1 : Nat) (Option.none : Option Jvm.ClassFile.FieldType)) ∈ wx_tbl := wx_in 155 (by decide +kernel) rfl
theorem k_92 : (Jvm.Cond.methodLink "CellHeap$Reckoner" (3 : Nat) ({ cls := "java/lang/Object", name := "<init>", desc := "()V" } : Jvm.MethodName)) ∈ wx_tbl := wx_in 156 (by decide +kernel) rfl
theorem k_93 : (Jvm.Cond.classLink "CellHeap$Reckoner" (9 : Nat) "CellHeap$Ratio") ∈ wx_tbl := wx_in 157 (by decide +kernel) rfl
theorem k_96 : (Jvm.Cond.instanceMethod ({ cls := "CellHeap$Ratio", name := "<init>", desc := "()V" } : Jvm.MethodName)) ∈ wx_tbl := wx_in 160 (by decide +kernel) rfl
theorem k_97 : (Jvm.Cond.code ({ cls := "CellHeap$Ratio", name := "<init>", desc := "()V" } : Jvm.MethodName) prog_6_method_1_code (1 : Nat) (Option.none : Option Jvm.ClassFile.FieldType)) ∈ wx_tbl := wx_in 161 (by decide +kernel) rfl
theorem k_98 : (Jvm.Cond.methodLink "CellHeap$Ratio" (3 : Nat) ({ cls := "java/lang/Object", name := "<init>", desc := "()V" } : Jvm.MethodName)) ∈ wx_tbl := wx_in 162 (by decide +kernel) rfl
theorem k_99 : (Jvm.Cond.classLink "CellHeap$Ratio" (9 : Nat) "CellHeap$Whole") ∈ wx_tbl := wx_in 163 (by decide +kernel) rfl
theorem k_102 : (Jvm.Cond.instanceMethod ({ cls := "CellHeap$Whole", name := "<init>", desc := "()V" } : Jvm.MethodName)) ∈ wx_tbl := wx_in 166 (by decide +kernel) rfl
theorem k_103 : (Jvm.Cond.code ({ cls := "CellHeap$Whole", name := "<init>", desc := "()V" } : Jvm.MethodName) prog_8_method_1_code (1 : Nat) (Option.none : Option Jvm.ClassFile.FieldType)) ∈ wx_tbl := wx_in 167 (by decide +kernel) rfl
theorem k_104 : (Jvm.Cond.methodLink "CellHeap$Whole" (3 : Nat) ({ cls := "java/lang/Object", name := "<init>", desc := "()V" } : Jvm.MethodName)) ∈ wx_tbl := wx_in 168 (by decide +kernel) rfl
theorem k_139 : (Jvm.Cond.classLink "CellHeap$Reckoner" (24 : Nat) "CellHeap$Whole") ∈ wx_tbl := wx_in 203 (by decide +kernel) rfl
theorem k_141 : (Jvm.Cond.classLink "CellHeap$Reckoner" (37 : Nat) "CellHeap$Division") ∈ wx_tbl := wx_in 205 (by decide +kernel) rfl
theorem k_144 : (Jvm.Cond.instanceMethod ({ cls := "CellHeap$Division", name := "<init>", desc := "()V" } : Jvm.MethodName)) ∈ wx_tbl := wx_in 208 (by decide +kernel) rfl
theorem k_145 : (Jvm.Cond.code ({ cls := "CellHeap$Division", name := "<init>", desc := "()V" } : Jvm.MethodName) prog_2_method_1_code (1 : Nat) (Option.none : Option Jvm.ClassFile.FieldType)) ∈ wx_tbl := wx_in 209 (by decide +kernel) rfl
theorem k_146 : (Jvm.Cond.methodLink "CellHeap$Division" (3 : Nat) ({ cls := "java/lang/Object", name := "<init>", desc := "()V" } : Jvm.MethodName)) ∈ wx_tbl := wx_in 210 (by decide +kernel) rfl
theorem k_147 : (Jvm.Cond.classLink "CellHeap$Division" (9 : Nat) "CellHeap$Whole") ∈ wx_tbl := wx_in 211 (by decide +kernel) rfl
theorem k_189 : (Jvm.Cond.classLink "CellHeap" (30 : Nat) "CellHeap$Printer") ∈ wx_tbl := wx_in 253 (by decide +kernel) rfl
theorem k_192 : (Jvm.Cond.instanceMethod ({ cls := "CellHeap$Printer", name := "<init>", desc := "()V" } : Jvm.MethodName)) ∈ wx_tbl := wx_in 256 (by decide +kernel) rfl
theorem k_193 : (Jvm.Cond.code ({ cls := "CellHeap$Printer", name := "<init>", desc := "()V" } : Jvm.MethodName) prog_5_method_1_code (1 : Nat) (Option.none : Option Jvm.ClassFile.FieldType)) ∈ wx_tbl := wx_in 257 (by decide +kernel) rfl
theorem k_194 : (Jvm.Cond.methodLink "CellHeap$Printer" (5 : Nat) ({ cls := "java/lang/Object", name := "<init>", desc := "()V" } : Jvm.MethodName)) ∈ wx_tbl := wx_in 258 (by decide +kernel) rfl
theorem k_195 : (Jvm.Cond.classLink "CellHeap$Printer" (19 : Nat) "CellHeap$Whole") ∈ wx_tbl := wx_in 259 (by decide +kernel) rfl
theorem k_1018 : (Jvm.Cond.methodLink "CellHeapModel" (1 : Nat) ({ cls := "java/lang/Object", name := "<init>", desc := "()V" } : Jvm.MethodName)) ∈ wx_tbl := wx_in 1082 (by decide +kernel) rfl
/-! Wh() -/
abbrev b_Wh_init : ByteArray := prog_8_method_1_code
abbrev y_Wh_init : MethodName := ⟨R_Wh, "<init>", "()V"⟩
def S_Wh (G : WG) (am : Nat → Nat) : va_W := [(am 0, .inr (0, [.ref (am 1), .int 0, .int 0])), (am 1, .inl (G.2.2.1 0, (44, .inl (fun _ => 0))))]
theorem d_Wh_init_0 : decode b_Wh_init 0 = .ok (.aload_n 0, 1) := by decide +kernel
theorem d_Wh_init_1 : decode b_Wh_init 1 = .ok (.invokespecial 3, 3) := by decide +kernel
theorem d_Wh_init_4 : decode b_Wh_init 4 = .ok (.aload_n 0, 1) := by decide +kernel
theorem d_Wh_init_5 : decode b_Wh_init 5 = .ok (.bipush 44, 2) := by decide +kernel
theorem d_Wh_init_7 : decode b_Wh_init 7 = .ok (.newarray .int, 2) := by decide +kernel
theorem d_Wh_init_9 : decode b_Wh_init 9 = .ok (.putfield 9, 3) := by decide +kernel
theorem d_Wh_init_12 : decode b_Wh_init 12 = .ok (.return_, 1) := by decide +kernel
/-! Ra() -/
abbrev b_Ra_init : ByteArray := prog_6_method_1_code
abbrev y_Ra_init : MethodName := ⟨R_Ra, "<init>", "()V"⟩
def S_Ra (G : WG) (am : Nat → Nat) : va_W := [(am 0, .inr (1, [.ref (am 1), .ref (am 3)])), (am 1, .inr (0, [.ref (am 2), .int 0, .int 0])), (am 2, .inl (G.2.2.1 0, (44, .inl (fun _ => 0)))), (am 3, .inr (0, [.ref (am 4), .int 0, .int 0])), (am 4, .inl (G.2.2.1 0, (44, .inl (fun _ => 0))))]
theorem d_Ra_init_0 : decode b_Ra_init 0 = .ok (.aload_n 0, 1) := by decide +kernel
theorem d_Ra_init_1 : decode b_Ra_init 1 = .ok (.invokespecial 3, 3) := by decide +kernel
theorem d_Ra_init_4 : decode b_Ra_init 4 = .ok (.aload_n 0, 1) := by decide +kernel
theorem d_Ra_init_5 : decode b_Ra_init 5 = .ok (.new 9, 3) := by decide +kernel
theorem d_Ra_init_8 : decode b_Ra_init 8 = .ok (.dup, 1) := by decide +kernel
theorem d_Ra_init_9 : decode b_Ra_init 9 = .ok (.invokespecial 11, 3) := by decide +kernel
theorem d_Ra_init_12 : decode b_Ra_init 12 = .ok (.putfield 12, 3) := by decide +kernel
theorem d_Ra_init_15 : decode b_Ra_init 15 = .ok (.aload_n 0, 1) := by decide +kernel
theorem d_Ra_init_16 : decode b_Ra_init 16 = .ok (.new 9, 3) := by decide +kernel
theorem d_Ra_init_19 : decode b_Ra_init 19 = .ok (.dup, 1) := by decide +kernel
theorem d_Ra_init_20 : decode b_Ra_init 20 = .ok (.invokespecial 11, 3) := by decide +kernel
theorem d_Ra_init_23 : decode b_Ra_init 23 = .ok (.putfield 18, 3) := by decide +kernel
theorem d_Ra_init_26 : decode b_Ra_init 26 = .ok (.return_, 1) := by decide +kernel
/-! Di() -/
abbrev b_Di_init : ByteArray := prog_2_method_1_code
abbrev y_Di_init : MethodName := ⟨R_Di, "<init>", "()V"⟩
def S_Di (G : WG) (am : Nat → Nat) : va_W := [(am 0, .inr (2, [.ref (am 1), .ref (am 3), .ref (am 5), .ref (am 6)])), (am 1, .inr (0, [.ref (am 2), .int 0, .int 0])), (am 2, .inl (G.2.2.1 0, (44, .inl (fun _ => 0)))), (am 3, .inr (0, [.ref (am 4), .int 0, .int 0])), (am 4, .inl (G.2.2.1 0, (44, .inl (fun _ => 0)))), (am 5, .inl (G.2.2.1 0, (44, .inl (fun _ => 0)))), (am 6, .inl (G.2.2.1 0, (44, .inl (fun _ => 0))))]
theorem d_Di_init_0 : decode b_Di_init 0 = .ok (.aload_n 0, 1) := by decide +kernel
theorem d_Di_init_1 : decode b_Di_init 1 = .ok (.invokespecial 3, 3) := by decide +kernel
theorem d_Di_init_4 : decode b_Di_init 4 = .ok (.aload_n 0, 1) := by decide +kernel
theorem d_Di_init_5 : decode b_Di_init 5 = .ok (.new 9, 3) := by decide +kernel
theorem d_Di_init_8 : decode b_Di_init 8 = .ok (.dup, 1) := by decide +kernel
theorem d_Di_init_9 : decode b_Di_init 9 = .ok (.invokespecial 11, 3) := by decide +kernel
theorem d_Di_init_12 : decode b_Di_init 12 = .ok (.putfield 12, 3) := by decide +kernel
theorem d_Di_init_15 : decode b_Di_init 15 = .ok (.aload_n 0, 1) := by decide +kernel
theorem d_Di_init_16 : decode b_Di_init 16 = .ok (.new 9, 3) := by decide +kernel
theorem d_Di_init_19 : decode b_Di_init 19 = .ok (.dup, 1) := by decide +kernel
theorem d_Di_init_20 : decode b_Di_init 20 = .ok (.invokespecial 11, 3) := by decide +kernel
theorem d_Di_init_23 : decode b_Di_init 23 = .ok (.putfield 18, 3) := by decide +kernel
theorem d_Di_init_26 : decode b_Di_init 26 = .ok (.aload_n 0, 1) := by decide +kernel
theorem d_Di_init_27 : decode b_Di_init 27 = .ok (.bipush 44, 2) := by decide +kernel
theorem d_Di_init_29 : decode b_Di_init 29 = .ok (.newarray .int, 2) := by decide +kernel
theorem d_Di_init_31 : decode b_Di_init 31 = .ok (.putfield 21, 3) := by decide +kernel
theorem d_Di_init_34 : decode b_Di_init 34 = .ok (.aload_n 0, 1) := by decide +kernel
theorem d_Di_init_35 : decode b_Di_init 35 = .ok (.bipush 44, 2) := by decide +kernel
theorem d_Di_init_37 : decode b_Di_init 37 = .ok (.newarray .int, 2) := by decide +kernel
theorem d_Di_init_39 : decode b_Di_init 39 = .ok (.putfield 25, 3) := by decide +kernel
theorem d_Di_init_42 : decode b_Di_init 42 = .ok (.return_, 1) := by decide +kernel
/-! Re() -/
abbrev b_Re_init : ByteArray := prog_7_method_1_code
abbrev y_Re_init : MethodName := ⟨R_Re, "<init>", "()V"⟩
def S_Re (G : WG) (am : Nat → Nat) : va_W := [(am 0, .inr (3, [.ref (am 1), .ref (am 6), .ref (am 11), .ref (am 16), .ref (am 18), .ref (am 20), .ref (am 22)])), (am 1, .inr (1, [.ref (am 2), .ref (am 4)])), (am 2, .inr (0, [.ref (am 3), .int 0, .int 0])), (am 3, .inl (G.2.2.1 0, (44, .inl (fun _ => 0)))), (am 4, .inr (0, [.ref (am 5), .int 0, .int 0])), (am 5, .inl (G.2.2.1 0, (44, .inl (fun _ => 0)))), (am 6, .inr (1, [.ref (am 7), .ref (am 9)])), (am 7, .inr (0, [.ref (am 8), .int 0, .int 0])), (am 8, .inl (G.2.2.1 0, (44, .inl (fun _ => 0)))), (am 9, .inr (0, [.ref (am 10), .int 0, .int 0])), (am 10, .inl (G.2.2.1 0, (44, .inl (fun _ => 0)))), (am 11, .inr (1, [.ref (am 12), .ref (am 14)])), (am 12, .inr (0, [.ref (am 13), .int 0, .int 0])), (am 13, .inl (G.2.2.1 0, (44, .inl (fun _ => 0)))), (am 14, .inr (0, [.ref (am 15), .int 0, .int 0])), (am 15, .inl (G.2.2.1 0, (44, .inl (fun _ => 0)))), (am 16, .inr (0, [.ref (am 17), .int 0, .int 0])), (am 17, .inl (G.2.2.1 0, (44, .inl (fun _ => 0)))), (am 18, .inr (0, [.ref (am 19), .int 0, .int 0])), (am 19, .inl (G.2.2.1 0, (44, .inl (fun _ => 0)))), (am 20, .inr (0, [.ref (am 21), .int 0, .int 0])), (am 21, .inl (G.2.2.1 0, (44, .inl (fun _ => 0)))), (am 22, .inr (2, [.ref (am 23), .ref (am 25), .ref (am 27), .ref (am 28)])), (am 23, .inr (0, [.ref (am 24), .int 0, .int 0])), (am 24, .inl (G.2.2.1 0, (44, .inl (fun _ => 0)))), (am 25, .inr (0, [.ref (am 26), .int 0, .int 0])), (am 26, .inl (G.2.2.1 0, (44, .inl (fun _ => 0)))), (am 27, .inl (G.2.2.1 0, (44, .inl (fun _ => 0)))), (am 28, .inl (G.2.2.1 0, (44, .inl (fun _ => 0))))]
theorem d_Re_init_0 : decode b_Re_init 0 = .ok (.aload_n 0, 1) := by decide +kernel
theorem d_Re_init_1 : decode b_Re_init 1 = .ok (.invokespecial 3, 3) := by decide +kernel
theorem d_Re_init_4 : decode b_Re_init 4 = .ok (.aload_n 0, 1) := by decide +kernel
theorem d_Re_init_5 : decode b_Re_init 5 = .ok (.new 9, 3) := by decide +kernel
theorem d_Re_init_8 : decode b_Re_init 8 = .ok (.dup, 1) := by decide +kernel
theorem d_Re_init_9 : decode b_Re_init 9 = .ok (.invokespecial 11, 3) := by decide +kernel
theorem d_Re_init_12 : decode b_Re_init 12 = .ok (.putfield 12, 3) := by decide +kernel
theorem d_Re_init_15 : decode b_Re_init 15 = .ok (.aload_n 0, 1) := by decide +kernel
theorem d_Re_init_16 : decode b_Re_init 16 = .ok (.new 9, 3) := by decide +kernel
theorem d_Re_init_19 : decode b_Re_init 19 = .ok (.dup, 1) := by decide +kernel
theorem d_Re_init_20 : decode b_Re_init 20 = .ok (.invokespecial 11, 3) := by decide +kernel
theorem d_Re_init_23 : decode b_Re_init 23 = .ok (.putfield 18, 3) := by decide +kernel
theorem d_Re_init_26 : decode b_Re_init 26 = .ok (.aload_n 0, 1) := by decide +kernel
theorem d_Re_init_27 : decode b_Re_init 27 = .ok (.new 9, 3) := by decide +kernel
theorem d_Re_init_30 : decode b_Re_init 30 = .ok (.dup, 1) := by decide +kernel
theorem d_Re_init_31 : decode b_Re_init 31 = .ok (.invokespecial 11, 3) := by decide +kernel
theorem d_Re_init_34 : decode b_Re_init 34 = .ok (.putfield 21, 3) := by decide +kernel
theorem d_Re_init_37 : decode b_Re_init 37 = .ok (.aload_n 0, 1) := by decide +kernel
theorem d_Re_init_38 : decode b_Re_init 38 = .ok (.new 24, 3) := by decide +kernel
theorem d_Re_init_41 : decode b_Re_init 41 = .ok (.dup, 1) := by decide +kernel
theorem d_Re_init_42 : decode b_Re_init 42 = .ok (.invokespecial 26, 3) := by decide +kernel
theorem d_Re_init_45 : decode b_Re_init 45 = .ok (.putfield 27, 3) := by decide +kernel
theorem d_Re_init_48 : decode b_Re_init 48 = .ok (.aload_n 0, 1) := by decide +kernel
theorem d_Re_init_49 : decode b_Re_init 49 = .ok (.new 24, 3) := by decide +kernel
theorem d_Re_init_52 : decode b_Re_init 52 = .ok (.dup, 1) := by decide +kernel
theorem d_Re_init_53 : decode b_Re_init 53 = .ok (.invokespecial 26, 3) := by decide +kernel
theorem d_Re_init_56 : decode b_Re_init 56 = .ok (.putfield 31, 3) := by decide +kernel
theorem d_Re_init_59 : decode b_Re_init 59 = .ok (.aload_n 0, 1) := by decide +kernel
theorem d_Re_init_60 : decode b_Re_init 60 = .ok (.new 24, 3) := by decide +kernel
theorem d_Re_init_63 : decode b_Re_init 63 = .ok (.dup, 1) := by decide +kernel
theorem d_Re_init_64 : decode b_Re_init 64 = .ok (.invokespecial 26, 3) := by decide +kernel
theorem d_Re_init_67 : decode b_Re_init 67 = .ok (.putfield 34, 3) := by decide +kernel
theorem d_Re_init_70 : decode b_Re_init 70 = .ok (.aload_n 0, 1) := by decide +kernel
theorem d_Re_init_71 : decode b_Re_init 71 = .ok (.new 37, 3) := by decide +kernel
theorem d_Re_init_74 : decode b_Re_init 74 = .ok (.dup, 1) := by decide +kernel
theorem d_Re_init_75 : decode b_Re_init 75 = .ok (.invokespecial 39, 3) := by decide +kernel
theorem d_Re_init_78 : decode b_Re_init 78 = .ok (.putfield 40, 3) := by decide +kernel
theorem d_Re_init_81 : decode b_Re_init 81 = .ok (.return_, 1) := by decide +kernel
/-! He() -/
abbrev b_He_init : ByteArray := prog_3_method_1_code
abbrev y_He_init : MethodName := ⟨R_He, "<init>", "()V"⟩
def S_He (G : WG) (am : Nat → Nat) : va_W := [(am 0, .inr (4, [.ref (am 1), .ref (am 2), .int 0, .int 0, .ref (am 3), .ref (am 4), .ref (am 5), .int 0])), (am 1, .inl (G.2.2.1 0, (400, .inl (fun _ => 0)))), (am 2, .inl (G.2.2.1 0, (8, .inl (fun _ => 0)))), (am 3, .inl (G.2.2.1 2, (400, .inl (fun _ => 0)))), (am 4, .inl (G.2.2.1 0, (400, .inl (fun _ => 0)))), (am 5, .inl (G.2.2.1 0, (400, .inl (fun _ => 0))))]
theorem d_He_init_0 : decode b_He_init 0 = .ok (.aload_n 0, 1) := by decide +kernel
theorem d_He_init_1 : decode b_He_init 1 = .ok (.invokespecial 3, 3) := by decide +kernel
theorem d_He_init_4 : decode b_He_init 4 = .ok (.aload_n 0, 1) := by decide +kernel
theorem d_He_init_5 : decode b_He_init 5 = .ok (.sipush 400, 3) := by decide +kernel
theorem d_He_init_8 : decode b_He_init 8 = .ok (.newarray .int, 2) := by decide +kernel
theorem d_He_init_10 : decode b_He_init 10 = .ok (.putfield 9, 3) := by decide +kernel
theorem d_He_init_13 : decode b_He_init 13 = .ok (.aload_n 0, 1) := by decide +kernel
theorem d_He_init_14 : decode b_He_init 14 = .ok (.bipush 8, 2) := by decide +kernel
theorem d_He_init_16 : decode b_He_init 16 = .ok (.newarray .int, 2) := by decide +kernel
theorem d_He_init_18 : decode b_He_init 18 = .ok (.putfield 15, 3) := by decide +kernel
theorem d_He_init_21 : decode b_He_init 21 = .ok (.aload_n 0, 1) := by decide +kernel
theorem d_He_init_22 : decode b_He_init 22 = .ok (.sipush 400, 3) := by decide +kernel
theorem d_He_init_25 : decode b_He_init 25 = .ok (.newarray .boolean, 2) := by decide +kernel
theorem d_He_init_27 : decode b_He_init 27 = .ok (.putfield 18, 3) := by decide +kernel
theorem d_He_init_30 : decode b_He_init 30 = .ok (.aload_n 0, 1) := by decide +kernel
theorem d_He_init_31 : decode b_He_init 31 = .ok (.sipush 400, 3) := by decide +kernel
theorem d_He_init_34 : decode b_He_init 34 = .ok (.newarray .int, 2) := by decide +kernel
theorem d_He_init_36 : decode b_He_init 36 = .ok (.putfield 22, 3) := by decide +kernel
theorem d_He_init_39 : decode b_He_init 39 = .ok (.aload_n 0, 1) := by decide +kernel
theorem d_He_init_40 : decode b_He_init 40 = .ok (.sipush 400, 3) := by decide +kernel
theorem d_He_init_43 : decode b_He_init 43 = .ok (.newarray .int, 2) := by decide +kernel
theorem d_He_init_45 : decode b_He_init 45 = .ok (.putfield 25, 3) := by decide +kernel
theorem d_He_init_48 : decode b_He_init 48 = .ok (.return_, 1) := by decide +kernel
/-! Li() -/
abbrev b_Li_init : ByteArray := prog_4_method_1_code
abbrev y_Li_init : MethodName := ⟨R_Li, "<init>", "()V"⟩
def S_Li (G : WG) (am : Nat → Nat) : va_W := [(am 0, .inr (5, [.ref (am 1), .int 0])), (am 1, .inl (G.2.2.1 1, (200, .inl (fun _ => 0))))]
theorem d_Li_init_0 : decode b_Li_init 0 = .ok (.aload_n 0, 1) := by decide +kernel
theorem d_Li_init_1 : decode b_Li_init 1 = .ok (.invokespecial 3, 3) := by decide +kernel
theorem d_Li_init_4 : decode b_Li_init 4 = .ok (.aload_n 0, 1) := by decide +kernel
theorem d_Li_init_5 : decode b_Li_init 5 = .ok (.sipush 200, 3) := by decide +kernel
theorem d_Li_init_8 : decode b_Li_init 8 = .ok (.newarray .char, 2) := by decide +kernel
theorem d_Li_init_10 : decode b_Li_init 10 = .ok (.putfield 9, 3) := by decide +kernel
theorem d_Li_init_13 : decode b_Li_init 13 = .ok (.return_, 1) := by decide +kernel
/-! Pr() -/
abbrev b_Pr_init : ByteArray := prog_5_method_1_code
abbrev y_Pr_init : MethodName := ⟨R_Pr, "<init>", "()V"⟩
def S_Pr (G : WG) (am : Nat → Nat) : va_W := [(am 0, .inr (6, [.ref (am 1), .int 0, .int 0, .ref (am 2), .int 0, .ref (am 3), .ref (am 5)])), (am 1, .inl (G.2.2.1 1, (400, .inl (fun _ => 0)))), (am 2, .inl (G.2.2.1 0, (401, .inl (fun _ => 0)))), (am 3, .inr (0, [.ref (am 4), .int 0, .int 0])), (am 4, .inl (G.2.2.1 0, (44, .inl (fun _ => 0)))), (am 5, .inl (G.2.2.1 1, (198, .inl (fun _ => 0))))]
theorem d_Pr_init_0 : decode b_Pr_init 0 = .ok (.aload_n 0, 1) := by decide +kernel
theorem d_Pr_init_1 : decode b_Pr_init 1 = .ok (.invokespecial 5, 3) := by decide +kernel
theorem d_Pr_init_4 : decode b_Pr_init 4 = .ok (.aload_n 0, 1) := by decide +kernel
theorem d_Pr_init_5 : decode b_Pr_init 5 = .ok (.sipush 400, 3) := by decide +kernel
theorem d_Pr_init_8 : decode b_Pr_init 8 = .ok (.newarray .char, 2) := by decide +kernel
theorem d_Pr_init_10 : decode b_Pr_init 10 = .ok (.putfield 11, 3) := by decide +kernel
theorem d_Pr_init_13 : decode b_Pr_init 13 = .ok (.aload_n 0, 1) := by decide +kernel
theorem d_Pr_init_14 : decode b_Pr_init 14 = .ok (.sipush 401, 3) := by decide +kernel
theorem d_Pr_init_17 : decode b_Pr_init 17 = .ok (.newarray .int, 2) := by decide +kernel
theorem d_Pr_init_19 : decode b_Pr_init 19 = .ok (.putfield 15, 3) := by decide +kernel
theorem d_Pr_init_22 : decode b_Pr_init 22 = .ok (.aload_n 0, 1) := by decide +kernel
theorem d_Pr_init_23 : decode b_Pr_init 23 = .ok (.new 19, 3) := by decide +kernel
theorem d_Pr_init_26 : decode b_Pr_init 26 = .ok (.dup, 1) := by decide +kernel
theorem d_Pr_init_27 : decode b_Pr_init 27 = .ok (.invokespecial 21, 3) := by decide +kernel
theorem d_Pr_init_30 : decode b_Pr_init 30 = .ok (.putfield 22, 3) := by decide +kernel
theorem d_Pr_init_33 : decode b_Pr_init 33 = .ok (.aload_n 0, 1) := by decide +kernel
theorem d_Pr_init_34 : decode b_Pr_init 34 = .ok (.sipush 198, 3) := by decide +kernel
theorem d_Pr_init_37 : decode b_Pr_init 37 = .ok (.newarray .char, 2) := by decide +kernel
theorem d_Pr_init_39 : decode b_Pr_init 39 = .ok (.putfield 26, 3) := by decide +kernel
theorem d_Pr_init_42 : decode b_Pr_init 42 = .ok (.return_, 1) := by decide +kernel
/-! Ce() -/
abbrev b_Ce_init : ByteArray := prog_1_method_1_code
abbrev y_Ce_init : MethodName := ⟨R_Ce, "<init>", "()V"⟩
def S_Ce (G : WG) (am : Nat → Nat) : va_W := [(am 0, .inr (7, [.ref (am 1), .ref (am 7), .ref (am 9), .ref (am 38)])), (am 1, .inr (4, [.ref (am 2), .ref (am 3), .int 0, .int 0, .ref (am 4), .ref (am 5), .ref (am 6), .int 0])), (am 2, .inl (G.2.2.1 0, (400, .inl (fun _ => 0)))), (am 3, .inl (G.2.2.1 0, (8, .inl (fun _ => 0)))), (am 4, .inl (G.2.2.1 2, (400, .inl (fun _ => 0)))), (am 5, .inl (G.2.2.1 0, (400, .inl (fun _ => 0)))), (am 6, .inl (G.2.2.1 0, (400, .inl (fun _ => 0)))), (am 7, .inr (5, [.ref (am 8), .int 0])), (am 8, .inl (G.2.2.1 1, (200, .inl (fun _ => 0)))), (am 9, .inr (3, [.ref (am 10), .ref (am 15), .ref (am 20), .ref (am 25), .ref (am 27), .ref (am 29), .ref (am 31)])), (am 10, .inr (1, [.ref (am 11), .ref (am 13)])), (am 11, .inr (0, [.ref (am 12), .int 0, .int 0])), (am 12, .inl (G.2.2.1 0, (44, .inl (fun _ => 0)))), (am 13, .inr (0, [.ref (am 14), .int 0, .int 0])), (am 14, .inl (G.2.2.1 0, (44, .inl (fun _ => 0)))), (am 15, .inr (1, [.ref (am 16), .ref (am 18)])), (am 16, .inr (0, [.ref (am 17), .int 0, .int 0])), (am 17, .inl (G.2.2.1 0, (44, .inl (fun _ => 0)))), (am 18, .inr (0, [.ref (am 19), .int 0, .int 0])), (am 19, .inl (G.2.2.1 0, (44, .inl (fun _ => 0)))), (am 20, .inr (1, [.ref (am 21), .ref (am 23)])), (am 21, .inr (0, [.ref (am 22), .int 0, .int 0])), (am 22, .inl (G.2.2.1 0, (44, .inl (fun _ => 0)))), (am 23, .inr (0, [.ref (am 24), .int 0, .int 0])), (am 24, .inl (G.2.2.1 0, (44, .inl (fun _ => 0)))), (am 25, .inr (0, [.ref (am 26), .int 0, .int 0])), (am 26, .inl (G.2.2.1 0, (44, .inl (fun _ => 0)))), (am 27, .inr (0, [.ref (am 28), .int 0, .int 0])), (am 28, .inl (G.2.2.1 0, (44, .inl (fun _ => 0)))), (am 29, .inr (0, [.ref (am 30), .int 0, .int 0])), (am 30, .inl (G.2.2.1 0, (44, .inl (fun _ => 0)))), (am 31, .inr (2, [.ref (am 32), .ref (am 34), .ref (am 36), .ref (am 37)])), (am 32, .inr (0, [.ref (am 33), .int 0, .int 0])), (am 33, .inl (G.2.2.1 0, (44, .inl (fun _ => 0)))), (am 34, .inr (0, [.ref (am 35), .int 0, .int 0])), (am 35, .inl (G.2.2.1 0, (44, .inl (fun _ => 0)))), (am 36, .inl (G.2.2.1 0, (44, .inl (fun _ => 0)))), (am 37, .inl (G.2.2.1 0, (44, .inl (fun _ => 0)))), (am 38, .inr (6, [.ref (am 39), .int 0, .int 0, .ref (am 40), .int 0, .ref (am 41), .ref (am 43)])), (am 39, .inl (G.2.2.1 1, (400, .inl (fun _ => 0)))), (am 40, .inl (G.2.2.1 0, (401, .inl (fun _ => 0)))), (am 41, .inr (0, [.ref (am 42), .int 0, .int 0])), (am 42, .inl (G.2.2.1 0, (44, .inl (fun _ => 0)))), (am 43, .inl (G.2.2.1 1, (198, .inl (fun _ => 0))))]
theorem d_Ce_init_0 : decode b_Ce_init 0 = .ok (.aload_n 0, 1) := by decide +kernel
theorem d_Ce_init_1 : decode b_Ce_init 1 = .ok (.invokespecial 1, 3) := by decide +kernel
theorem d_Ce_init_4 : decode b_Ce_init 4 = .ok (.aload_n 0, 1) := by decide +kernel
theorem d_Ce_init_5 : decode b_Ce_init 5 = .ok (.new 7, 3) := by decide +kernel
theorem d_Ce_init_8 : decode b_Ce_init 8 = .ok (.dup, 1) := by decide +kernel
theorem d_Ce_init_9 : decode b_Ce_init 9 = .ok (.invokespecial 9, 3) := by decide +kernel
theorem d_Ce_init_12 : decode b_Ce_init 12 = .ok (.putfield 10, 3) := by decide +kernel
theorem d_Ce_init_15 : decode b_Ce_init 15 = .ok (.aload_n 0, 1) := by decide +kernel
theorem d_Ce_init_16 : decode b_Ce_init 16 = .ok (.new 16, 3) := by decide +kernel
theorem d_Ce_init_19 : decode b_Ce_init 19 = .ok (.dup, 1) := by decide +kernel
theorem d_Ce_init_20 : decode b_Ce_init 20 = .ok (.invokespecial 18, 3) := by decide +kernel
theorem d_Ce_init_23 : decode b_Ce_init 23 = .ok (.putfield 19, 3) := by decide +kernel
theorem d_Ce_init_26 : decode b_Ce_init 26 = .ok (.aload_n 0, 1) := by decide +kernel
theorem d_Ce_init_27 : decode b_Ce_init 27 = .ok (.new 23, 3) := by decide +kernel
theorem d_Ce_init_30 : decode b_Ce_init 30 = .ok (.dup, 1) := by decide +kernel
theorem d_Ce_init_31 : decode b_Ce_init 31 = .ok (.invokespecial 25, 3) := by decide +kernel
theorem d_Ce_init_34 : decode b_Ce_init 34 = .ok (.putfield 26, 3) := by decide +kernel
theorem d_Ce_init_37 : decode b_Ce_init 37 = .ok (.aload_n 0, 1) := by decide +kernel
theorem d_Ce_init_38 : decode b_Ce_init 38 = .ok (.new 30, 3) := by decide +kernel
theorem d_Ce_init_41 : decode b_Ce_init 41 = .ok (.dup, 1) := by decide +kernel
theorem d_Ce_init_42 : decode b_Ce_init 42 = .ok (.invokespecial 32, 3) := by decide +kernel
theorem d_Ce_init_45 : decode b_Ce_init 45 = .ok (.putfield 33, 3) := by decide +kernel
theorem d_Ce_init_48 : decode b_Ce_init 48 = .ok (.return_, 1) := by decide +kernel
/-! Mo() -/
abbrev b_Mo_init : ByteArray := prog_10_method_1_code
abbrev y_Mo_init : MethodName := ⟨R_Mo, "<init>", "()V"⟩
def S_Mo (G : WG) (am : Nat → Nat) : va_W := [(am 0, .inr (8, [.int 0, .ref (am 1), .ref (am 2), .int 0, .ref (am 3), .ref (am 4), .ref (am 5), .ref (am 6), .ref (am 7), .int 0, .int 0, .ref (am 8), .ref (am 9), .ref (am 10), .ref (am 11), .int 0, .ref (am 12), .int 0, .int 0, .ref (am 13), .int 0])), (am 1, .inl (G.2.2.1 0, (416, .inl (fun _ => 0)))), (am 2, .inl (G.2.2.1 0, (416, .inl (fun _ => 0)))), (am 3, .inl (G.2.2.1 0, (204, .inl (fun _ => 0)))), (am 4, .inl (G.2.2.1 0, (204, .inl (fun _ => 0)))), (am 5, .inl (G.2.2.1 0, (204, .inl (fun _ => 0)))), (am 6, .inl (G.2.2.1 2, (204, .inl (fun _ => 0)))), (am 7, .inl (G.2.2.1 0, (600, .inl (fun _ => 0)))), (am 8, .inl (G.2.2.1 0, (21800, .inl (fun _ => 0)))), (am 9, .inl (G.2.2.1 0, (218, .inl (fun _ => 0)))), (am 10, .inl (G.2.2.1 2, (218, .inl (fun _ => 0)))), (am 11, .inl (G.2.2.1 1, (200, .inl (fun _ => 0)))), (am 12, .inl (G.2.2.1 1, (400, .inl (fun _ => 0)))), (am 13, .inl (G.2.2.1 0, (60, .inl (fun _ => 0))))]
theorem d_Mo_init_0 : decode b_Mo_init 0 = .ok (.aload_n 0, 1) := by decide +kernel
theorem d_Mo_init_1 : decode b_Mo_init 1 = .ok (.invokespecial 1, 3) := by decide +kernel
theorem d_Mo_init_4 : decode b_Mo_init 4 = .ok (.aload_n 0, 1) := by decide +kernel
theorem d_Mo_init_5 : decode b_Mo_init 5 = .ok (.sipush 416, 3) := by decide +kernel
theorem d_Mo_init_8 : decode b_Mo_init 8 = .ok (.newarray .int, 2) := by decide +kernel
theorem d_Mo_init_10 : decode b_Mo_init 10 = .ok (.putfield 7, 3) := by decide +kernel
theorem d_Mo_init_13 : decode b_Mo_init 13 = .ok (.aload_n 0, 1) := by decide +kernel
theorem d_Mo_init_14 : decode b_Mo_init 14 = .ok (.sipush 416, 3) := by decide +kernel
theorem d_Mo_init_17 : decode b_Mo_init 17 = .ok (.newarray .int, 2) := by decide +kernel
theorem d_Mo_init_19 : decode b_Mo_init 19 = .ok (.putfield 13, 3) := by decide +kernel
theorem d_Mo_init_22 : decode b_Mo_init 22 = .ok (.aload_n 0, 1) := by decide +kernel
theorem d_Mo_init_23 : decode b_Mo_init 23 = .ok (.sipush 204, 3) := by decide +kernel
theorem d_Mo_init_26 : decode b_Mo_init 26 = .ok (.newarray .int, 2) := by decide +kernel
theorem d_Mo_init_28 : decode b_Mo_init 28 = .ok (.putfield 16, 3) := by decide +kernel
theorem d_Mo_init_31 : decode b_Mo_init 31 = .ok (.aload_n 0, 1) := by decide +kernel
theorem d_Mo_init_32 : decode b_Mo_init 32 = .ok (.sipush 204, 3) := by decide +kernel
theorem d_Mo_init_35 : decode b_Mo_init 35 = .ok (.newarray .int, 2) := by decide +kernel
theorem d_Mo_init_37 : decode b_Mo_init 37 = .ok (.putfield 19, 3) := by decide +kernel
theorem d_Mo_init_40 : decode b_Mo_init 40 = .ok (.aload_n 0, 1) := by decide +kernel
theorem d_Mo_init_41 : decode b_Mo_init 41 = .ok (.sipush 204, 3) := by decide +kernel
theorem d_Mo_init_44 : decode b_Mo_init 44 = .ok (.newarray .int, 2) := by decide +kernel
theorem d_Mo_init_46 : decode b_Mo_init 46 = .ok (.putfield 22, 3) := by decide +kernel
theorem d_Mo_init_49 : decode b_Mo_init 49 = .ok (.aload_n 0, 1) := by decide +kernel
theorem d_Mo_init_50 : decode b_Mo_init 50 = .ok (.sipush 204, 3) := by decide +kernel
theorem d_Mo_init_53 : decode b_Mo_init 53 = .ok (.newarray .boolean, 2) := by decide +kernel
theorem d_Mo_init_55 : decode b_Mo_init 55 = .ok (.putfield 25, 3) := by decide +kernel
theorem d_Mo_init_58 : decode b_Mo_init 58 = .ok (.aload_n 0, 1) := by decide +kernel
theorem d_Mo_init_59 : decode b_Mo_init 59 = .ok (.sipush 600, 3) := by decide +kernel
theorem d_Mo_init_62 : decode b_Mo_init 62 = .ok (.newarray .int, 2) := by decide +kernel
theorem d_Mo_init_64 : decode b_Mo_init 64 = .ok (.putfield 29, 3) := by decide +kernel
theorem d_Mo_init_67 : decode b_Mo_init 67 = .ok (.aload_n 0, 1) := by decide +kernel
theorem d_Mo_init_68 : decode b_Mo_init 68 = .ok (.sipush 21800, 3) := by decide +kernel
theorem d_Mo_init_71 : decode b_Mo_init 71 = .ok (.newarray .int, 2) := by decide +kernel
theorem d_Mo_init_73 : decode b_Mo_init 73 = .ok (.putfield 32, 3) := by decide +kernel
theorem d_Mo_init_76 : decode b_Mo_init 76 = .ok (.aload_n 0, 1) := by decide +kernel
theorem d_Mo_init_77 : decode b_Mo_init 77 = .ok (.sipush 218, 3) := by decide +kernel
theorem d_Mo_init_80 : decode b_Mo_init 80 = .ok (.newarray .int, 2) := by decide +kernel
theorem d_Mo_init_82 : decode b_Mo_init 82 = .ok (.putfield 35, 3) := by decide +kernel
theorem d_Mo_init_85 : decode b_Mo_init 85 = .ok (.aload_n 0, 1) := by decide +kernel
theorem d_Mo_init_86 : decode b_Mo_init 86 = .ok (.sipush 218, 3) := by decide +kernel
theorem d_Mo_init_89 : decode b_Mo_init 89 = .ok (.newarray .boolean, 2) := by decide +kernel
theorem d_Mo_init_91 : decode b_Mo_init 91 = .ok (.putfield 38, 3) := by decide +kernel
theorem d_Mo_init_94 : decode b_Mo_init 94 = .ok (.aload_n 0, 1) := by decide +kernel
theorem d_Mo_init_95 : decode b_Mo_init 95 = .ok (.sipush 200, 3) := by decide +kernel
theorem d_Mo_init_98 : decode b_Mo_init 98 = .ok (.newarray .char, 2) := by decide +kernel
theorem d_Mo_init_100 : decode b_Mo_init 100 = .ok (.putfield 41, 3) := by decide +kernel
theorem d_Mo_init_103 : decode b_Mo_init 103 = .ok (.aload_n 0, 1) := by decide +kernel
theorem d_Mo_init_104 : decode b_Mo_init 104 = .ok (.sipush 400, 3) := by decide +kernel
theorem d_Mo_init_107 : decode b_Mo_init 107 = .ok (.newarray .char, 2) := by decide +kernel
theorem d_Mo_init_109 : decode b_Mo_init 109 = .ok (.putfield 45, 3) := by decide +kernel
theorem d_Mo_init_112 : decode b_Mo_init 112 = .ok (.aload_n 0, 1) := by decide +kernel
theorem d_Mo_init_113 : decode b_Mo_init 113 = .ok (.bipush 60, 2) := by decide +kernel
theorem d_Mo_init_115 : decode b_Mo_init 115 = .ok (.newarray .int, 2) := by decide +kernel
theorem d_Mo_init_117 : decode b_Mo_init 117 = .ok (.putfield 48, 3) := by decide +kernel
theorem d_Mo_init_120 : decode b_Mo_init 120 = .ok (.return_, 1) := by decide +kernel
set_option maxHeartbeats 4000000 in
set_option maxRecDepth 100000 in
theorem c_Wh : Kc y_Wh_init b_Wh_init ({ frames := 1, cells := 1, slots := 44, locals := 12 } : Room) 1 44 0 [.null, .int 0, .int 0] S_Wh := by
  refine Kc.intro (by decide) rfl (fun X A h0 C Rm fin => ?_)
  refine k_al C d_Wh_init_0 ?_
  refine k_obj C k_104 (by rw [Rm]; exact ⟨Nat.le_of_ble_eq_true rfl, Nat.le_of_ble_eq_true rfl⟩) d_Wh_init_1 ?_
  refine k_al C d_Wh_init_4 ?_
  refine k_bip (v := 44) C (by decide) d_Wh_init_5 ?_
  refine k_newa (ty := .int) (t := 0) (N := 44) (a0 := (44, .inl (fun _ => 0))) C (by decide +kernel) rfl rfl (fun _ h => h) (fun _ => rfl) (by decide) (by decide) (Nat.le_of_ble_eq_true rfl) (by rw [Rm]; exact Nat.le_of_ble_eq_true rfl) (by rw [Rm]; exact Nat.le_of_ble_eq_true rfl) d_Wh_init_7 (fun q1 => ?_)
  refine k_put (k := 0) C i_Wh p_Wh n_Wh rfl rfl (by decide) k_105 rfl rfl rfl (p_Wh 0 (by decide)) rfl rfl (Nat.le_of_ble_eq_true rfl) d_Wh_init_9 ?_
  exact fin (fun i => match i with | 0 => h0 | 1 => q1 | _ => 0) _ 12 d_Wh_init_12 rfl rfl
set_option maxHeartbeats 4000000 in
set_option maxRecDepth 100000 in
theorem c_Ra : Kc y_Ra_init b_Ra_init ({ frames := 2, cells := 4, slots := 94, locals := 32 } : Room) 4 94 1 [.null, .null] S_Ra := by
  refine Kc.intro (by decide) rfl (fun X A h0 C Rm fin => ?_)
  refine k_al C d_Ra_init_0 ?_
  refine k_obj C k_98 (by rw [Rm]; exact ⟨Nat.le_of_ble_eq_true rfl, Nat.le_of_ble_eq_true rfl⟩) d_Ra_init_1 ?_
  refine k_al C d_Ra_init_4 ?_
  refine k_new (ci := 0) (fs := [.null, .int 0, .int 0]) C i_Wh p_Wh k_99 (by decide +kernel) (by decide +kernel) rfl (fun j hj => by rcases (show j = 0 ∨ j = 1 ∨ j = 2 by omega) with rfl | rfl | rfl <;> rfl) (by rw [Rm]; exact Nat.le_of_ble_eq_true rfl) (by rw [Rm]; exact Nat.le_of_ble_eq_true rfl) d_Ra_init_5 (fun q1 => ?_)
  refine k_dup C rfl d_Ra_init_8 ?_
  refine k_callN (host := "CellHeap") (n := 1) C c_Wh ⟨rfl, rfl⟩ k_103 k_6 (by decide +kernel) k_102 rfl (by decide +kernel) (by rw [Rm]; exact ⟨Nat.le_of_ble_eq_true rfl, Nat.le_of_ble_eq_true rfl⟩) (Nat.le_of_ble_eq_true rfl) (by rw [Rm]; exact ⟨Nat.le_of_ble_eq_true rfl, Nat.le_of_ble_eq_true rfl⟩) rfl [0] rfl (by decide) (by decide) d_Ra_init_9 (fun am1 e1 => ?_)
  subst e1
  refine k_put (k := 0) C i_Ra p_Ra n_Ra rfl rfl (by decide) k_124 rfl rfl rfl (p_Ra 0 (by decide)) rfl rfl (Nat.le_of_ble_eq_true rfl) d_Ra_init_12 ?_
  refine k_al C d_Ra_init_15 ?_
  refine k_new (ci := 0) (fs := [.null, .int 0, .int 0]) C i_Wh p_Wh k_99 (by decide +kernel) (by decide +kernel) rfl (fun j hj => by rcases (show j = 0 ∨ j = 1 ∨ j = 2 by omega) with rfl | rfl | rfl <;> rfl) (by rw [Rm]; exact Nat.le_of_ble_eq_true rfl) (by rw [Rm]; exact Nat.le_of_ble_eq_true rfl) d_Ra_init_16 (fun q2 => ?_)
  refine k_dup C rfl d_Ra_init_19 ?_
  refine k_callN (host := "CellHeap") (n := 3) C c_Wh ⟨rfl, rfl⟩ k_103 k_6 (by decide +kernel) k_102 rfl (by decide +kernel) (by rw [Rm]; exact ⟨Nat.le_of_ble_eq_true rfl, Nat.le_of_ble_eq_true rfl⟩) (Nat.le_of_ble_eq_true rfl) (by rw [Rm]; exact ⟨Nat.le_of_ble_eq_true rfl, Nat.le_of_ble_eq_true rfl⟩) rfl [0, 1, 2] rfl (by decide) (by decide) d_Ra_init_20 (fun am2 e2 => ?_)
  subst e2
  refine k_put (k := 1) C i_Ra p_Ra n_Ra rfl rfl (by decide) k_129 rfl rfl rfl (p_Ra 1 (by decide)) rfl rfl (Nat.le_of_ble_eq_true rfl) d_Ra_init_23 ?_
  exact fin (fun i => match i with | 0 => h0 | 1 => am1 0 | 2 => am1 1 | 3 => am2 0 | 4 => am2 1 | _ => 0) _ 26 d_Ra_init_26 rfl rfl
set_option maxHeartbeats 4000000 in
set_option maxRecDepth 100000 in
theorem c_Di : Kc y_Di_init b_Di_init ({ frames := 2, cells := 6, slots := 182, locals := 32 } : Room) 6 182 2 [.null, .null, .null, .null] S_Di := by
  refine Kc.intro (by decide) rfl (fun X A h0 C Rm fin => ?_)
  refine k_al C d_Di_init_0 ?_
  refine k_obj C k_146 (by rw [Rm]; exact ⟨Nat.le_of_ble_eq_true rfl, Nat.le_of_ble_eq_true rfl⟩) d_Di_init_1 ?_
  refine k_al C d_Di_init_4 ?_
  refine k_new (ci := 0) (fs := [.null, .int 0, .int 0]) C i_Wh p_Wh k_147 (by decide +kernel) (by decide +kernel) rfl (fun j hj => by rcases (show j = 0 ∨ j = 1 ∨ j = 2 by omega) with rfl | rfl | rfl <;> rfl) (by rw [Rm]; exact Nat.le_of_ble_eq_true rfl) (by rw [Rm]; exact Nat.le_of_ble_eq_true rfl) d_Di_init_5 (fun q1 => ?_)
  refine k_dup C rfl d_Di_init_8 ?_
  refine k_callN (host := "CellHeap") (n := 1) C c_Wh ⟨rfl, rfl⟩ k_103 k_6 (by decide +kernel) k_102 rfl (by decide +kernel) (by rw [Rm]; exact ⟨Nat.le_of_ble_eq_true rfl, Nat.le_of_ble_eq_true rfl⟩) (Nat.le_of_ble_eq_true rfl) (by rw [Rm]; exact ⟨Nat.le_of_ble_eq_true rfl, Nat.le_of_ble_eq_true rfl⟩) rfl [0] rfl (by decide) (by decide) d_Di_init_9 (fun am1 e1 => ?_)
  subst e1
  refine k_put (k := 0) C i_Di p_Di n_Di rfl rfl (by decide) k_149 rfl rfl rfl (p_Di 0 (by decide)) rfl rfl (Nat.le_of_ble_eq_true rfl) d_Di_init_12 ?_
  refine k_al C d_Di_init_15 ?_
  refine k_new (ci := 0) (fs := [.null, .int 0, .int 0]) C i_Wh p_Wh k_147 (by decide +kernel) (by decide +kernel) rfl (fun j hj => by rcases (show j = 0 ∨ j = 1 ∨ j = 2 by omega) with rfl | rfl | rfl <;> rfl) (by rw [Rm]; exact Nat.le_of_ble_eq_true rfl) (by rw [Rm]; exact Nat.le_of_ble_eq_true rfl) d_Di_init_16 (fun q2 => ?_)
  refine k_dup C rfl d_Di_init_19 ?_
  refine k_callN (host := "CellHeap") (n := 3) C c_Wh ⟨rfl, rfl⟩ k_103 k_6 (by decide +kernel) k_102 rfl (by decide +kernel) (by rw [Rm]; exact ⟨Nat.le_of_ble_eq_true rfl, Nat.le_of_ble_eq_true rfl⟩) (Nat.le_of_ble_eq_true rfl) (by rw [Rm]; exact ⟨Nat.le_of_ble_eq_true rfl, Nat.le_of_ble_eq_true rfl⟩) rfl [0, 1, 2] rfl (by decide) (by decide) d_Di_init_20 (fun am2 e2 => ?_)
  subst e2
  refine k_put (k := 1) C i_Di p_Di n_Di rfl rfl (by decide) k_151 rfl rfl rfl (p_Di 1 (by decide)) rfl rfl (Nat.le_of_ble_eq_true rfl) d_Di_init_23 ?_
  refine k_al C d_Di_init_26 ?_
  refine k_bip (v := 44) C (by decide) d_Di_init_27 ?_
  refine k_newa (ty := .int) (t := 0) (N := 44) (a0 := (44, .inl (fun _ => 0))) C (by decide +kernel) rfl rfl (fun _ h => h) (fun _ => rfl) (by decide) (by decide) (Nat.le_of_ble_eq_true rfl) (by rw [Rm]; exact Nat.le_of_ble_eq_true rfl) (by rw [Rm]; exact Nat.le_of_ble_eq_true rfl) d_Di_init_29 (fun q3 => ?_)
  refine k_put (k := 2) C i_Di p_Di n_Di rfl rfl (by decide) k_153 rfl rfl rfl (p_Di 2 (by decide)) rfl rfl (Nat.le_of_ble_eq_true rfl) d_Di_init_31 ?_
  refine k_al C d_Di_init_34 ?_
  refine k_bip (v := 44) C (by decide) d_Di_init_35 ?_
  refine k_newa (ty := .int) (t := 0) (N := 44) (a0 := (44, .inl (fun _ => 0))) C (by decide +kernel) rfl rfl (fun _ h => h) (fun _ => rfl) (by decide) (by decide) (Nat.le_of_ble_eq_true rfl) (by rw [Rm]; exact Nat.le_of_ble_eq_true rfl) (by rw [Rm]; exact Nat.le_of_ble_eq_true rfl) d_Di_init_37 (fun q4 => ?_)
  refine k_put (k := 3) C i_Di p_Di n_Di rfl rfl (by decide) k_154 rfl rfl rfl (p_Di 3 (by decide)) rfl rfl (Nat.le_of_ble_eq_true rfl) d_Di_init_39 ?_
  exact fin (fun i => match i with | 0 => h0 | 1 => am1 0 | 2 => am1 1 | 3 => am2 0 | 4 => am2 1 | 5 => q3 | 6 => q4 | _ => 0) _ 42 d_Di_init_42 rfl rfl
set_option maxHeartbeats 4000000 in
set_option maxRecDepth 100000 in
theorem c_He : Kc y_He_init b_He_init ({ frames := 1, cells := 5, slots := 1608, locals := 12 } : Room) 5 1608 4 [.null, .null, .int 0, .int 0, .null, .null, .null, .int 0] S_He := by
  refine Kc.intro (by decide) rfl (fun X A h0 C Rm fin => ?_)
  refine k_al C d_He_init_0 ?_
  refine k_obj C k_40 (by rw [Rm]; exact ⟨Nat.le_of_ble_eq_true rfl, Nat.le_of_ble_eq_true rfl⟩) d_He_init_1 ?_
  refine k_al C d_He_init_4 ?_
  refine k_sip (v := 400) C (by decide) d_He_init_5 ?_
  refine k_newa (ty := .int) (t := 0) (N := 400) (a0 := (400, .inl (fun _ => 0))) C (by decide +kernel) rfl rfl (fun _ h => h) (fun _ => rfl) (by decide) (by decide) (Nat.le_of_ble_eq_true rfl) (by rw [Rm]; exact Nat.le_of_ble_eq_true rfl) (by rw [Rm]; exact Nat.le_of_ble_eq_true rfl) d_He_init_8 (fun q1 => ?_)
  refine k_put (k := 0) C i_He p_He n_He rfl rfl (by decide) k_41 rfl rfl rfl (p_He 0 (by decide)) rfl rfl (Nat.le_of_ble_eq_true rfl) d_He_init_10 ?_
  refine k_al C d_He_init_13 ?_
  refine k_bip (v := 8) C (by decide) d_He_init_14 ?_
  refine k_newa (ty := .int) (t := 0) (N := 8) (a0 := (8, .inl (fun _ => 0))) C (by decide +kernel) rfl rfl (fun _ h => h) (fun _ => rfl) (by decide) (by decide) (Nat.le_of_ble_eq_true rfl) (by rw [Rm]; exact Nat.le_of_ble_eq_true rfl) (by rw [Rm]; exact Nat.le_of_ble_eq_true rfl) d_He_init_16 (fun q2 => ?_)
  refine k_put (k := 1) C i_He p_He n_He rfl rfl (by decide) k_43 rfl rfl rfl (p_He 1 (by decide)) rfl rfl (Nat.le_of_ble_eq_true rfl) d_He_init_18 ?_
  refine k_al C d_He_init_21 ?_
  refine k_sip (v := 400) C (by decide) d_He_init_22 ?_
  refine k_newa (ty := .boolean) (t := 2) (N := 400) (a0 := (400, .inl (fun _ => 0))) C (by decide +kernel) rfl rfl (fun _ h => h) (fun _ => rfl) (by decide) (by decide) (Nat.le_of_ble_eq_true rfl) (by rw [Rm]; exact Nat.le_of_ble_eq_true rfl) (by rw [Rm]; exact Nat.le_of_ble_eq_true rfl) d_He_init_25 (fun q3 => ?_)
  refine k_put (k := 4) C i_He p_He n_He rfl rfl (by decide) k_49 rfl rfl rfl (p_He 4 (by decide)) rfl rfl (Nat.le_of_ble_eq_true rfl) d_He_init_27 ?_
  refine k_al C d_He_init_30 ?_
  refine k_sip (v := 400) C (by decide) d_He_init_31 ?_
  refine k_newa (ty := .int) (t := 0) (N := 400) (a0 := (400, .inl (fun _ => 0))) C (by decide +kernel) rfl rfl (fun _ h => h) (fun _ => rfl) (by decide) (by decide) (Nat.le_of_ble_eq_true rfl) (by rw [Rm]; exact Nat.le_of_ble_eq_true rfl) (by rw [Rm]; exact Nat.le_of_ble_eq_true rfl) d_He_init_34 (fun q4 => ?_)
  refine k_put (k := 5) C i_He p_He n_He rfl rfl (by decide) k_50 rfl rfl rfl (p_He 5 (by decide)) rfl rfl (Nat.le_of_ble_eq_true rfl) d_He_init_36 ?_
  refine k_al C d_He_init_39 ?_
  refine k_sip (v := 400) C (by decide) d_He_init_40 ?_
  refine k_newa (ty := .int) (t := 0) (N := 400) (a0 := (400, .inl (fun _ => 0))) C (by decide +kernel) rfl rfl (fun _ h => h) (fun _ => rfl) (by decide) (by decide) (Nat.le_of_ble_eq_true rfl) (by rw [Rm]; exact Nat.le_of_ble_eq_true rfl) (by rw [Rm]; exact Nat.le_of_ble_eq_true rfl) d_He_init_43 (fun q5 => ?_)
  refine k_put (k := 6) C i_He p_He n_He rfl rfl (by decide) k_51 rfl rfl rfl (p_He 6 (by decide)) rfl rfl (Nat.le_of_ble_eq_true rfl) d_He_init_45 ?_
  exact fin (fun i => match i with | 0 => h0 | 1 => q1 | 2 => q2 | 3 => q3 | 4 => q4 | 5 => q5 | _ => 0) _ 48 d_He_init_48 rfl rfl
set_option maxHeartbeats 4000000 in
set_option maxRecDepth 100000 in
theorem c_Li : Kc y_Li_init b_Li_init ({ frames := 1, cells := 1, slots := 200, locals := 12 } : Room) 1 200 5 [.null, .int 0] S_Li := by
  refine Kc.intro (by decide) rfl (fun X A h0 C Rm fin => ?_)
  refine k_al C d_Li_init_0 ?_
  refine k_obj C k_77 (by rw [Rm]; exact ⟨Nat.le_of_ble_eq_true rfl, Nat.le_of_ble_eq_true rfl⟩) d_Li_init_1 ?_
  refine k_al C d_Li_init_4 ?_
  refine k_sip (v := 200) C (by decide) d_Li_init_5 ?_
  refine k_newa (ty := .char) (t := 1) (N := 200) (a0 := (200, .inl (fun _ => 0))) C (by decide +kernel) rfl rfl (fun _ h => h) (fun _ => rfl) (by decide) (by decide) (Nat.le_of_ble_eq_true rfl) (by rw [Rm]; exact Nat.le_of_ble_eq_true rfl) (by rw [Rm]; exact Nat.le_of_ble_eq_true rfl) d_Li_init_8 (fun q1 => ?_)
  refine k_put (k := 0) C i_Li p_Li n_Li rfl rfl (by decide) k_78 rfl rfl rfl (p_Li 0 (by decide)) rfl rfl (Nat.le_of_ble_eq_true rfl) d_Li_init_10 ?_
  exact fin (fun i => match i with | 0 => h0 | 1 => q1 | _ => 0) _ 13 d_Li_init_13 rfl rfl
set_option maxHeartbeats 4000000 in
set_option maxRecDepth 100000 in
theorem c_Pr : Kc y_Pr_init b_Pr_init ({ frames := 2, cells := 5, slots := 1046, locals := 32 } : Room) 5 1046 6 [.null, .int 0, .int 0, .null, .int 0, .null, .null] S_Pr := by
  refine Kc.intro (by decide) rfl (fun X A h0 C Rm fin => ?_)
  refine k_al C d_Pr_init_0 ?_
  refine k_obj C k_194 (by rw [Rm]; exact ⟨Nat.le_of_ble_eq_true rfl, Nat.le_of_ble_eq_true rfl⟩) d_Pr_init_1 ?_
  refine k_al C d_Pr_init_4 ?_
  refine k_sip (v := 400) C (by decide) d_Pr_init_5 ?_
  refine k_newa (ty := .char) (t := 1) (N := 400) (a0 := (400, .inl (fun _ => 0))) C (by decide +kernel) rfl rfl (fun _ h => h) (fun _ => rfl) (by decide) (by decide) (Nat.le_of_ble_eq_true rfl) (by rw [Rm]; exact Nat.le_of_ble_eq_true rfl) (by rw [Rm]; exact Nat.le_of_ble_eq_true rfl) d_Pr_init_8 (fun q1 => ?_)
  refine k_put (k := 0) C i_Pr p_Pr n_Pr rfl rfl (by decide) k_197 rfl rfl rfl (p_Pr 0 (by decide)) rfl rfl (Nat.le_of_ble_eq_true rfl) d_Pr_init_10 ?_
  refine k_al C d_Pr_init_13 ?_
  refine k_sip (v := 401) C (by decide) d_Pr_init_14 ?_
  refine k_newa (ty := .int) (t := 0) (N := 401) (a0 := (401, .inl (fun _ => 0))) C (by decide +kernel) rfl rfl (fun _ h => h) (fun _ => rfl) (by decide) (by decide) (Nat.le_of_ble_eq_true rfl) (by rw [Rm]; exact Nat.le_of_ble_eq_true rfl) (by rw [Rm]; exact Nat.le_of_ble_eq_true rfl) d_Pr_init_17 (fun q2 => ?_)
  refine k_put (k := 3) C i_Pr p_Pr n_Pr rfl rfl (by decide) k_202 rfl rfl rfl (p_Pr 3 (by decide)) rfl rfl (Nat.le_of_ble_eq_true rfl) d_Pr_init_19 ?_
  refine k_al C d_Pr_init_22 ?_
  refine k_new (ci := 0) (fs := [.null, .int 0, .int 0]) C i_Wh p_Wh k_195 (by decide +kernel) (by decide +kernel) rfl (fun j hj => by rcases (show j = 0 ∨ j = 1 ∨ j = 2 by omega) with rfl | rfl | rfl <;> rfl) (by rw [Rm]; exact Nat.le_of_ble_eq_true rfl) (by rw [Rm]; exact Nat.le_of_ble_eq_true rfl) d_Pr_init_23 (fun q3 => ?_)
  refine k_dup C rfl d_Pr_init_26 ?_
  refine k_callN (host := "CellHeap") (n := 3) C c_Wh ⟨rfl, rfl⟩ k_103 k_6 (by decide +kernel) k_102 rfl (by decide +kernel) (by rw [Rm]; exact ⟨Nat.le_of_ble_eq_true rfl, Nat.le_of_ble_eq_true rfl⟩) (Nat.le_of_ble_eq_true rfl) (by rw [Rm]; exact ⟨Nat.le_of_ble_eq_true rfl, Nat.le_of_ble_eq_true rfl⟩) rfl [0, 1, 2] rfl (by decide) (by decide) d_Pr_init_27 (fun am3 e3 => ?_)
  subst e3
  refine k_put (k := 5) C i_Pr p_Pr n_Pr rfl rfl (by decide) k_204 rfl rfl rfl (p_Pr 5 (by decide)) rfl rfl (Nat.le_of_ble_eq_true rfl) d_Pr_init_30 ?_
  refine k_al C d_Pr_init_33 ?_
  refine k_sip (v := 198) C (by decide) d_Pr_init_34 ?_
  refine k_newa (ty := .char) (t := 1) (N := 198) (a0 := (198, .inl (fun _ => 0))) C (by decide +kernel) rfl rfl (fun _ h => h) (fun _ => rfl) (by decide) (by decide) (Nat.le_of_ble_eq_true rfl) (by rw [Rm]; exact Nat.le_of_ble_eq_true rfl) (by rw [Rm]; exact Nat.le_of_ble_eq_true rfl) d_Pr_init_37 (fun q4 => ?_)
  refine k_put (k := 6) C i_Pr p_Pr n_Pr rfl rfl (by decide) k_205 rfl rfl rfl (p_Pr 6 (by decide)) rfl rfl (Nat.le_of_ble_eq_true rfl) d_Pr_init_39 ?_
  exact fin (fun i => match i with | 0 => h0 | 1 => q1 | 2 => q2 | 3 => am3 0 | 4 => am3 1 | 5 => q4 | _ => 0) _ 42 d_Pr_init_42 rfl rfl
