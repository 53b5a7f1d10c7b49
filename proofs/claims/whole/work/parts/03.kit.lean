/-! The world: objects by number, all that they hold in one function of numbers; the machine's state seen as pure values. -/
def R_Wh : String := "CellHeap$Whole"
def T_Wh : u_T := fun k => match k with
  | 0 => ("CellHeap$Whole", "words", "[I", true)
  | 1 => ("CellHeap$Whole", "length", "I", false)
  | _ => ("CellHeap$Whole", "below", "Z", false)
def t_Wh : Nat → FieldType := fun k => match k with
  | 0 => .array .int
  | 1 => .int
  | _ => .boolean
theorem n_Wh : ∀ a, a < 3 → ∀ b, b < 3 → a ≠ b → (T_Wh a).2.1 ≠ (T_Wh b).2.1 := by decide +kernel
theorem p_Wh : ∀ k, k < 3 → parseFieldDescriptor (T_Wh k).2.2.1 = some (t_Wh k) := by decide +kernel
theorem i_Wh : ∀ w ∈ u_ws R_Wh T_Wh 3, w ∈ wx_tbl := by decide +kernel
def R_Ra : String := "CellHeap$Ratio"
def T_Ra : u_T := fun k => match k with
  | 0 => ("CellHeap$Ratio", "upper", "LCellHeap$Whole;", true)
  | _ => ("CellHeap$Ratio", "lower", "LCellHeap$Whole;", true)
def t_Ra : Nat → FieldType := fun k => match k with
  | 0 => .object "CellHeap$Whole"
  | _ => .object "CellHeap$Whole"
theorem n_Ra : ∀ a, a < 2 → ∀ b, b < 2 → a ≠ b → (T_Ra a).2.1 ≠ (T_Ra b).2.1 := by decide +kernel
theorem p_Ra : ∀ k, k < 2 → parseFieldDescriptor (T_Ra k).2.2.1 = some (t_Ra k) := by decide +kernel
theorem i_Ra : ∀ w ∈ u_ws R_Ra T_Ra 2, w ∈ wx_tbl := by decide +kernel
def R_Di : String := "CellHeap$Division"
def T_Di : u_T := fun k => match k with
  | 0 => ("CellHeap$Division", "quotient", "LCellHeap$Whole;", true)
  | 1 => ("CellHeap$Division", "remainder", "LCellHeap$Whole;", true)
  | 2 => ("CellHeap$Division", "rest", "[I", true)
  | _ => ("CellHeap$Division", "by", "[I", true)
def t_Di : Nat → FieldType := fun k => match k with
  | 0 => .object "CellHeap$Whole"
  | 1 => .object "CellHeap$Whole"
  | 2 => .array .int
  | _ => .array .int
theorem n_Di : ∀ a, a < 4 → ∀ b, b < 4 → a ≠ b → (T_Di a).2.1 ≠ (T_Di b).2.1 := by decide +kernel
theorem p_Di : ∀ k, k < 4 → parseFieldDescriptor (T_Di k).2.2.1 = some (t_Di k) := by decide +kernel
theorem i_Di : ∀ w ∈ u_ws R_Di T_Di 4, w ∈ wx_tbl := by decide +kernel
def R_Re : String := "CellHeap$Reckoner"
def T_Re : u_T := fun k => match k with
  | 0 => ("CellHeap$Reckoner", "left", "LCellHeap$Ratio;", true)
  | 1 => ("CellHeap$Reckoner", "right", "LCellHeap$Ratio;", true)
  | 2 => ("CellHeap$Reckoner", "result", "LCellHeap$Ratio;", true)
  | 3 => ("CellHeap$Reckoner", "other", "LCellHeap$Whole;", true)
  | 4 => ("CellHeap$Reckoner", "divisor", "LCellHeap$Whole;", true)
  | 5 => ("CellHeap$Reckoner", "next", "LCellHeap$Whole;", true)
  | _ => ("CellHeap$Reckoner", "division", "LCellHeap$Division;", true)
def t_Re : Nat → FieldType := fun k => match k with
  | 0 => .object "CellHeap$Ratio"
  | 1 => .object "CellHeap$Ratio"
  | 2 => .object "CellHeap$Ratio"
  | 3 => .object "CellHeap$Whole"
  | 4 => .object "CellHeap$Whole"
  | 5 => .object "CellHeap$Whole"
  | _ => .object "CellHeap$Division"
theorem n_Re : ∀ a, a < 7 → ∀ b, b < 7 → a ≠ b → (T_Re a).2.1 ≠ (T_Re b).2.1 := by decide +kernel
theorem p_Re : ∀ k, k < 7 → parseFieldDescriptor (T_Re k).2.2.1 = some (t_Re k) := by decide +kernel
theorem i_Re : ∀ w ∈ u_ws R_Re T_Re 7, w ∈ wx_tbl := by decide +kernel
def R_He : String := "CellHeap$Heap"
def T_He : u_T := fun k => match k with
  | 0 => ("CellHeap$Heap", "cells", "[I", true)
  | 1 => ("CellHeap$Heap", "registers", "[I", true)
  | 2 => ("CellHeap$Heap", "top", "I", false)
  | 3 => ("CellHeap$Heap", "collections", "I", false)
  | 4 => ("CellHeap$Heap", "lives", "[Z", true)
  | 5 => ("CellHeap$Heap", "newPlace", "[I", true)
  | 6 => ("CellHeap$Heap", "found", "[I", true)
  | _ => ("CellHeap$Heap", "foundCount", "I", false)
def t_He : Nat → FieldType := fun k => match k with
  | 0 => .array .int
  | 1 => .array .int
  | 2 => .int
  | 3 => .int
  | 4 => .array .boolean
  | 5 => .array .int
  | 6 => .array .int
  | _ => .int
theorem n_He : ∀ a, a < 8 → ∀ b, b < 8 → a ≠ b → (T_He a).2.1 ≠ (T_He b).2.1 := by decide +kernel
theorem p_He : ∀ k, k < 8 → parseFieldDescriptor (T_He k).2.2.1 = some (t_He k) := by decide +kernel
theorem i_He : ∀ w ∈ u_ws R_He T_He 8, w ∈ wx_tbl := by decide +kernel
def R_Li : String := "CellHeap$Line"
def T_Li : u_T := fun k => match k with
  | 0 => ("CellHeap$Line", "text", "[C", true)
  | _ => ("CellHeap$Line", "length", "I", false)
def t_Li : Nat → FieldType := fun k => match k with
  | 0 => .array .char
  | _ => .int
theorem n_Li : ∀ a, a < 2 → ∀ b, b < 2 → a ≠ b → (T_Li a).2.1 ≠ (T_Li b).2.1 := by decide +kernel
theorem p_Li : ∀ k, k < 2 → parseFieldDescriptor (T_Li k).2.2.1 = some (t_Li k) := by decide +kernel
theorem i_Li : ∀ w ∈ u_ws R_Li T_Li 2, w ∈ wx_tbl := by decide +kernel
def R_Pr : String := "CellHeap$Printer"
def T_Pr : u_T := fun k => match k with
  | 0 => ("CellHeap$Printer", "text", "[C", true)
  | 1 => ("CellHeap$Printer", "length", "I", false)
  | 2 => ("CellHeap$Printer", "overran", "Z", false)
  | 3 => ("CellHeap$Printer", "rests", "[I", true)
  | 4 => ("CellHeap$Printer", "open", "I", false)
  | 5 => ("CellHeap$Printer", "shrinking", "LCellHeap$Whole;", true)
  | _ => ("CellHeap$Printer", "digits", "[C", true)
def t_Pr : Nat → FieldType := fun k => match k with
  | 0 => .array .char
  | 1 => .int
  | 2 => .boolean
  | 3 => .array .int
  | 4 => .int
  | 5 => .object "CellHeap$Whole"
  | _ => .array .char
theorem n_Pr : ∀ a, a < 7 → ∀ b, b < 7 → a ≠ b → (T_Pr a).2.1 ≠ (T_Pr b).2.1 := by decide +kernel
theorem p_Pr : ∀ k, k < 7 → parseFieldDescriptor (T_Pr k).2.2.1 = some (t_Pr k) := by decide +kernel
theorem i_Pr : ∀ w ∈ u_ws R_Pr T_Pr 7, w ∈ wx_tbl := by decide +kernel
def R_Ce : String := "CellHeap"
def T_Ce : u_T := fun k => match k with
  | 0 => ("CellHeap", "heap", "LCellHeap$Heap;", true)
  | 1 => ("CellHeap", "line", "LCellHeap$Line;", true)
  | 2 => ("CellHeap", "reckoner", "LCellHeap$Reckoner;", true)
  | _ => ("CellHeap", "printer", "LCellHeap$Printer;", true)
def t_Ce : Nat → FieldType := fun k => match k with
  | 0 => .object "CellHeap$Heap"
  | 1 => .object "CellHeap$Line"
  | 2 => .object "CellHeap$Reckoner"
  | _ => .object "CellHeap$Printer"
theorem n_Ce : ∀ a, a < 4 → ∀ b, b < 4 → a ≠ b → (T_Ce a).2.1 ≠ (T_Ce b).2.1 := by decide +kernel
theorem p_Ce : ∀ k, k < 4 → parseFieldDescriptor (T_Ce k).2.2.1 = some (t_Ce k) := by decide +kernel
theorem i_Ce : ∀ w ∈ u_ws R_Ce T_Ce 4, w ∈ wx_tbl := by decide +kernel
def R_Mo : String := "CellHeapModel"
def T_Mo : u_T := fun k => match k with
  | 0 => ("CellHeapModel", "refusal", "I", false)
  | 1 => ("CellHeapModel", "valueSort", "[I", true)
  | 2 => ("CellHeapModel", "valueOf", "[I", true)
  | 3 => ("CellHeapModel", "many", "I", false)
  | 4 => ("CellHeapModel", "order", "[I", true)
  | 5 => ("CellHeapModel", "sort", "[I", true)
  | 6 => ("CellHeapModel", "cells", "[I", true)
  | 7 => ("CellHeapModel", "isMarked", "[Z", true)
  | 8 => ("CellHeapModel", "pile", "[I", true)
  | 9 => ("CellHeapModel", "top", "I", false)
  | 10 => ("CellHeapModel", "collections", "I", false)
  | 11 => ("CellHeapModel", "limb", "[I", true)
  | 12 => ("CellHeapModel", "length", "[I", true)
  | 13 => ("CellHeapModel", "isBelow", "[Z", true)
  | 14 => ("CellHeapModel", "line", "[C", true)
  | 15 => ("CellHeapModel", "lineSize", "I", false)
  | 16 => ("CellHeapModel", "out", "[C", true)
  | 17 => ("CellHeapModel", "outSize", "I", false)
  | 18 => ("CellHeapModel", "isFull", "Z", false)
  | 19 => ("CellHeapModel", "digits", "[I", true)
  | _ => ("CellHeapModel", "at", "I", false)
def t_Mo : Nat → FieldType := fun k => match k with
  | 0 => .int
  | 1 => .array .int
  | 2 => .array .int
  | 3 => .int
  | 4 => .array .int
  | 5 => .array .int
  | 6 => .array .int
  | 7 => .array .boolean
  | 8 => .array .int
  | 9 => .int
  | 10 => .int
  | 11 => .array .int
  | 12 => .array .int
  | 13 => .array .boolean
  | 14 => .array .char
  | 15 => .int
  | 16 => .array .char
  | 17 => .int
  | 18 => .boolean
  | 19 => .array .int
  | _ => .int
theorem n_Mo : ∀ a, a < 21 → ∀ b, b < 21 → a ≠ b → (T_Mo a).2.1 ≠ (T_Mo b).2.1 := by decide +kernel
theorem p_Mo : ∀ k, k < 21 → parseFieldDescriptor (T_Mo k).2.2.1 = some (t_Mo k) := by decide +kernel
theorem i_Mo : ∀ w ∈ u_ws R_Mo T_Mo 21, w ∈ wx_tbl := by decide +kernel
abbrev wcl : List vw_C := [(R_Wh, T_Wh, 3), (R_Ra, T_Ra, 2), (R_Di, T_Di, 4), (R_Re, T_Re, 7), (R_He, T_He, 8), (R_Li, T_Li, 2), (R_Pr, T_Pr, 7), (R_Ce, T_Ce, 4), (R_Mo, T_Mo, 21)]
abbrev HP : Type := Nat → Nat → Int32
def hs (h : HP) (k : Nat) (f : Nat → Int32) : HP := fun k2 => if k2 = k then f else h k2
def up (h : HP) (k i : Nat) (v : Int32) : HP := hs h k (upd (h k) i v)
theorem hs_self (h : HP) (k : Nat) (f : Nat → Int32) : hs h k f k = f := by simp [hs]
theorem hs_ne {h : HP} {k j : Nat} {f : Nat → Int32} (hj : j ≠ k) : hs h k f j = h j := by simp [hs, hj]
/-- the kinds of the objects by their numbers: a class and 0, or what an array holds (10 int, 11 char, 12 boolean, 13 long) and its length -/
def kd (k : Nat) : Nat × Nat := match k with
  | 0 => (8, 0)
  | 1 => (10, 416)
  | 2 => (10, 416)
  | 3 => (10, 204)
  | 4 => (10, 204)
  | 5 => (10, 204)
  | 6 => (12, 204)
  | 7 => (10, 600)
  | 8 => (10, 21800)
  | 9 => (10, 218)
  | 10 => (12, 218)
  | 11 => (11, 200)
  | 12 => (11, 400)
  | 13 => (10, 60)
  | 14 => (7, 0)
  | 15 => (4, 0)
  | 16 => (10, 400)
  | 17 => (10, 8)
  | 18 => (12, 400)
  | 19 => (10, 400)
  | 20 => (10, 400)
  | 21 => (5, 0)
  | 22 => (11, 200)
  | 23 => (3, 0)
  | 24 => (1, 0)
  | 25 => (0, 0)
  | 26 => (10, 44)
  | 27 => (0, 0)
  | 28 => (10, 44)
  | 29 => (1, 0)
  | 30 => (0, 0)
  | 31 => (10, 44)
  | 32 => (0, 0)
  | 33 => (10, 44)
  | 34 => (1, 0)
  | 35 => (0, 0)
  | 36 => (10, 44)
  | 37 => (0, 0)
  | 38 => (10, 44)
  | 39 => (0, 0)
  | 40 => (10, 44)
  | 41 => (0, 0)
  | 42 => (10, 44)
  | 43 => (0, 0)
  | 44 => (10, 44)
  | 45 => (2, 0)
  | 46 => (0, 0)
  | 47 => (10, 44)
  | 48 => (0, 0)
  | 49 => (10, 44)
  | 50 => (10, 44)
  | 51 => (10, 44)
  | 52 => (6, 0)
  | 53 => (11, 400)
  | 54 => (10, 401)
  | 55 => (0, 0)
  | 56 => (10, 44)
  | 57 => (11, 198)
  | 58 => (13, 1)
  | _ => (99, 0)
/-- what an object holds, references by number -/
def w_pur (h : Nat → Int32) (k : Nat) : (Nat × Nat) ⊕ (Nat × List Value) := match (kd k).1 with
  | 0 => .inr (0, [.ref (k+1), .int (h 1), .int (h 2)])
  | 1 => .inr (1, [.ref (k+1), .ref (k+3)])
  | 2 => .inr (2, [.ref (k+1), .ref (k+3), .ref (k+5), .ref (k+6)])
  | 3 => .inr (3, [.ref (k+1), .ref (k+6), .ref (k+11), .ref (k+16), .ref (k+18), .ref (k+20), .ref (k+22)])
  | 4 => .inr (4, [.ref (k+1), .ref (k+2), .int (h 2), .int (h 3), .ref (k+3), .ref (k+4), .ref (k+5), .int (h 7)])
  | 5 => .inr (5, [.ref (k+1), .int (h 1)])
  | 6 => .inr (6, [.ref (k+1), .int (h 1), .int (h 2), .ref (k+2), .int (h 4), .ref (k+3), .ref (k+5)])
  | 7 => .inr (7, [.ref (k+1), .ref (k+7), .ref (k+9), .ref (k+38)])
  | 8 => .inr (8, [.int (h 0), .ref (k+1), .ref (k+2), .int (h 3), .ref (k+3), .ref (k+4), .ref (k+5), .ref (k+6), .ref (k+7), .int (h 9), .int (h 10), .ref (k+8), .ref (k+9), .ref (k+10), .ref (k+11), .int (h 15), .ref (k+12), .int (h 17), .int (h 18), .ref (k+13), .int (h 20)])
  | 10 => .inl (0, (kd k).2)
  | 11 => .inl (1, (kd k).2)
  | 12 => .inl (2, (kd k).2)
  | 13 => .inl (3, (kd k).2)
  | _ => .inr (99, [])
/-- where the objects are: what the tables say of the classes, the addresses, the classes of arrays, the first address that may be written -/
abbrev WG : Type := va_G × (Nat → Nat) × (Nat → ClassId) × Nat
def vv (G : WG) : Value → Value := fun v => match v with
  | .ref k => .ref (G.2.1 k)
  | v => v
def smap (G : WG) (st : List Value) : List Value := st.map (vv G)
def lmap (G : WG) (ls : List (Nat × Value)) : List (Nat × Value) := ls.map (fun q => (q.1, vv G q.2))
def w_arr (h : Nat → Int32) (t n : Nat) : vp_A := if t = 3 then (n, .inr (.inl (fun i => (h i).toInt64))) else (n, .inl h)
def w_ent (G : WG) (h : Nat → Int32) (k : Nat) : va_E := match w_pur h k with
  | .inl q => .inl (G.2.2.1 q.1, w_arr h q.1 q.2)
  | .inr q => .inr (q.1, smap G q.2)
def wl (G : WG) (h : HP) : va_W := (List.range 59).map (fun k => (G.2.1 k, w_ent G (h k) k))
def Wo (G : WG) (h : HP) (H : Heap) : Prop := va_P G.1 wcl (wl G h) H
def Gok (G : WG) : Prop := (∀ i j, i < 59 → j < 59 → G.2.1 i = G.2.1 j → i = j) ∧ ∀ k, k < 59 → G.2.2.2 ≤ G.2.1 k
def Ga (G : WG) : Nat → Prop := fun q => G.2.2.2 ≤ q
def w_tys (G : WG) : List (ClassId × FieldType) := [(G.2.2.1 0, .int), (G.2.2.1 1, .char), (G.2.2.1 2, .boolean), (G.2.2.1 3, .long)]
def Zq (G : WG) (U : State) (H : Heap) : Prop := vx_Zq Bundle.tN "UNASSIGNED_STACK" Bundle.steD (Ga G) U H ∧ vx_Zq Bundle.tN "SUPPRESSED_SENTINEL" Bundle.listD (Ga G) U H
def Kn (G : WG) (U : State) : Prop := va_K G.1 wcl (w_tys G) U
def Ws (G : WG) (h : HP) (U : State) : Prop := Wo G h U.heap ∧ Kn G U ∧ G.2.2.2 ≤ U.heap.size ∧ Zq G U U.heap
/-- a method's frame: program, launch, environment, room, entry state, method, arguments, frames below, the method and its code, what is owed, the world's places -/
abbrev CX : Type := Program × Launch × Env × Room × State × MethodId × Array Value × List Frame × Method × Code × (State → Prop) × WG
abbrev xp (X : CX) : Program := X.1
abbrev xl (X : CX) : Launch := X.2.1
abbrev xe (X : CX) : Env := X.2.2.1
abbrev xR (X : CX) : Room := X.2.2.2.1
abbrev xs (X : CX) : State := X.2.2.2.2.1
abbrev xm (X : CX) : MethodId := X.2.2.2.2.2.1
abbrev xa (X : CX) : Array Value := X.2.2.2.2.2.2.1
abbrev xb (X : CX) : List Frame := X.2.2.2.2.2.2.2.1
abbrev xt (X : CX) : Method := X.2.2.2.2.2.2.2.2.1
abbrev xc (X : CX) : Code := X.2.2.2.2.2.2.2.2.2.1
abbrev xQ (X : CX) : State → Prop := X.2.2.2.2.2.2.2.2.2.2.1
abbrev xG (X : CX) : WG := X.2.2.2.2.2.2.2.2.2.2.2
/-- from every machine state that looks so, the machine comes to what is owed -/
def Wg (X : CX) (ce sl : Nat) (h : HP) (ls : List (Nat × Value)) (st : List Value) (pc : Nat) : Prop :=
  ce ≤ (xR X).cells → sl ≤ (xR X).slots → ∀ (H : Heap) (L : List Loc) (la : Array Slot), Wo (xG X) h H → va_S (Ga (xG X)) (xs X).heap H L → lv_has la (xc X).maxLocals (lmap (xG X) ls) → W (xp X) (xl X) (xe X) (xR X) (xs X) (xm X) (xa X) (xb X) (xt X) (xc X) H L ce sl (xQ X) (F0 (xm X) pc la (smap (xG X) st))
/-- what holds in a method's frame -/
def Cok (X : CX) (cc : ByteArray) (nL : Nat) (own : String) (ret : Option FieldType) : Prop :=
  (xp X).tables.exec = Jvm.exec ∧ (xc X).code = cc ∧ (xc X).maxLocals = nL ∧ (xs X).vm.findClass own = some (xm X).cls ∧ (∀ w ∈ wx_tbl, w.before (xa X) (xs X) = true) ∧ (xt X).locks = false ∧ (xt X).sig.returnType = ret ∧ (xl X).flags = flags0 ∧ Gok (xG X) ∧ Kn (xG X) (xs X) ∧ (xG X).2.2.2 ≤ (xs X).heap.size ∧ Zq (xG X) (xs X) (xs X).heap
theorem Cok.exec {X : CX} {cc : ByteArray} {nL : Nat} {own : String} {ret : Option FieldType} (C : Cok X cc nL own ret) : (xp X).tables.exec = Jvm.exec := C.1
theorem Cok.code {X : CX} {cc : ByteArray} {nL : Nat} {own : String} {ret : Option FieldType} (C : Cok X cc nL own ret) : (xc X).code = cc := C.2.1
theorem Cok.nloc {X : CX} {cc : ByteArray} {nL : Nat} {own : String} {ret : Option FieldType} (C : Cok X cc nL own ret) : (xc X).maxLocals = nL := C.2.2.1
theorem Cok.own {X : CX} {cc : ByteArray} {nL : Nat} {own : String} {ret : Option FieldType} (C : Cok X cc nL own ret) : (xs X).vm.findClass own = some (xm X).cls := C.2.2.2.1
theorem Cok.hts {X : CX} {cc : ByteArray} {nL : Nat} {own : String} {ret : Option FieldType} (C : Cok X cc nL own ret) : ∀ w ∈ wx_tbl, w.before (xa X) (xs X) = true := C.2.2.2.2.1
theorem Cok.locks {X : CX} {cc : ByteArray} {nL : Nat} {own : String} {ret : Option FieldType} (C : Cok X cc nL own ret) : (xt X).locks = false := C.2.2.2.2.2.1
theorem Cok.ret {X : CX} {cc : ByteArray} {nL : Nat} {own : String} {ret : Option FieldType} (C : Cok X cc nL own ret) : (xt X).sig.returnType = ret := C.2.2.2.2.2.2.1
theorem Cok.flags {X : CX} {cc : ByteArray} {nL : Nat} {own : String} {ret : Option FieldType} (C : Cok X cc nL own ret) : (xl X).flags = flags0 := C.2.2.2.2.2.2.2.1
theorem Cok.gok {X : CX} {cc : ByteArray} {nL : Nat} {own : String} {ret : Option FieldType} (C : Cok X cc nL own ret) : Gok (xG X) := C.2.2.2.2.2.2.2.2.1
theorem Cok.kn {X : CX} {cc : ByteArray} {nL : Nat} {own : String} {ret : Option FieldType} (C : Cok X cc nL own ret) : Kn (xG X) (xs X) := C.2.2.2.2.2.2.2.2.2.1
theorem Cok.base {X : CX} {cc : ByteArray} {nL : Nat} {own : String} {ret : Option FieldType} (C : Cok X cc nL own ret) : (xG X).2.2.2 ≤ (xs X).heap.size := C.2.2.2.2.2.2.2.2.2.2.1
theorem Cok.zq {X : CX} {cc : ByteArray} {nL : Nat} {own : String} {ret : Option FieldType} (C : Cok X cc nL own ret) : Zq (xG X) (xs X) (xs X).heap := C.2.2.2.2.2.2.2.2.2.2.2
theorem vv_cat (G : WG) (v : Value) : (vv G v).category = v.category := by cases v <;> rfl
theorem smap_cat (G : WG) (st : List Value) : ((smap G st).map fun v => v.category).sum = (st.map fun v => v.category).sum := by
  unfold smap
  rw [List.map_map]
  congr 1
  exact List.map_congr_left (fun v _ => vv_cat G v)
theorem lg_at {G : WG} {la : Array Slot} {n : Nat} {ls : List (Nat × Value)} (hl : lv_has la n (lmap G ls)) (j : Nat) {i : Nat} {v : Value} (hj : ls[j]? = some (i, v)) : la[i]? = some (.val (vv G v)) := by
  refine lv_at hl j ?_
  unfold lmap
  rw [List.getElem?_map, hj]
  rfl
/-- the locals behind a store -/
def lset (ls : List (Nat × Value)) (i : Nat) (v : Value) : List (Nat × Value) :=
  (ls.filter fun q => Nat.blt q.1 i && !(Nat.beq (q.1 + 1) i && Nat.beq q.2.category 2)) ++ (i, v) :: (ls.filter fun q => Nat.blt i q.1 && !(Nat.beq q.1 (i + 1) && Nat.beq v.category 2))
theorem lset_in {ls : List (Nat × Value)} {i : Nat} {v : Value} {q : Nat × Value} (h : q ∈ lset ls i v) : q = (i, v) ∨ (q ∈ ls ∧ q.1 ≠ i ∧ ¬ (q.1 + 1 = i ∧ q.2.category = 2) ∧ ¬ (q.1 = i + 1 ∧ v.category = 2)) := by
  unfold lset at h
  rcases List.mem_append.mp h with h | h
  · obtain ⟨h1, h2⟩ := List.mem_filter.mp h
    simp only [Bool.and_eq_true, Bool.not_eq_true', Nat.blt_eq] at h2
    refine Or.inr ⟨h1, by omega, fun z => ?_, by omega⟩
    rw [show Nat.beq (q.1 + 1) i = true from Nat.beq_eq.symm ▸ z.1, show Nat.beq q.2.category 2 = true from Nat.beq_eq.symm ▸ z.2] at h2
    simp at h2
  · rcases List.mem_cons.mp h with h | h
    · exact Or.inl h
    · obtain ⟨h1, h2⟩ := List.mem_filter.mp h
      simp only [Bool.and_eq_true, Bool.not_eq_true', Nat.blt_eq] at h2
      refine Or.inr ⟨h1, by omega, by omega, fun z => ?_⟩
      rw [show Nat.beq q.1 (i + 1) = true from Nat.beq_eq.symm ▸ z.1, show Nat.beq v.category 2 = true from Nat.beq_eq.symm ▸ z.2] at h2
      simp at h2
theorem lset_map {G : WG} {ls : List (Nat × Value)} {i : Nat} {v : Value} {la : Array Slot} {n : Nat} {l2 : List (Nat × Value)} (h : lv_has la n l2) (hq : ∀ q, (q = (i, vv G v) ∨ (q ∈ lmap G ls ∧ q.1 ≠ i ∧ ¬ (q.1 + 1 = i ∧ q.2.category = 2) ∧ ¬ (q.1 = i + 1 ∧ v.category = 2))) → q ∈ l2) : lv_has la n (lmap G (lset ls i v)) := by
  refine ⟨h.1, h.2.1, fun q hqm => h.2.2 q (hq q ?_)⟩
  obtain ⟨q0, h1, rfl⟩ := List.mem_map.mp hqm
  rcases lset_in h1 with rfl | ⟨h2, h3, h4, h5⟩
  · exact Or.inl rfl
  · exact Or.inr ⟨List.mem_map.mpr ⟨q0, h2, rfl⟩, h3, fun z => h4 ⟨z.1, by rw [← vv_cat G]; exact z.2⟩, h5⟩
theorem lset1 {G : WG} {ls : List (Nat × Value)} {i : Nat} {v : Value} {la : Array Slot} {n : Nat} (hc : v.category = 1) (h : lv_has la n ((i, vv G v) :: (lmap G ls).filter (fun q => !(q.1 == i) && !(q.1 + 1 == i && q.2.category == 2)))) : lv_has la n (lmap G (lset ls i v)) := by
  refine lset_map h (fun q hq => ?_)
  rcases hq with rfl | ⟨h1, h2, h3, -⟩
  · exact List.mem_cons_self
  · refine List.mem_cons_of_mem _ (List.mem_filter.mpr ⟨h1, ?_⟩)
    simp only [Bool.and_eq_true, Bool.not_eq_true', beq_eq_false_iff_ne, Bool.and_eq_false_iff]
    refine ⟨h2, ?_⟩
    by_cases hz : q.1 + 1 = i
    · exact Or.inr (fun z => h3 ⟨hz, z⟩)
    · exact Or.inl hz
theorem lset2 {G : WG} {ls : List (Nat × Value)} {i : Nat} {v : Value} {la : Array Slot} {n : Nat} (hc : v.category = 2) (h : lv_has la n ((i, vv G v) :: (lmap G ls).filter (fun q => !(q.1 == i) && (!(q.1 == i + 1) && !(q.1 + 1 == i && q.2.category == 2))))) : lv_has la n (lmap G (lset ls i v)) := by
  refine lset_map h (fun q hq => ?_)
  rcases hq with rfl | ⟨h1, h2, h3, h4⟩
  · exact List.mem_cons_self
  · refine List.mem_cons_of_mem _ (List.mem_filter.mpr ⟨h1, ?_⟩)
    simp only [Bool.and_eq_true, Bool.not_eq_true', beq_eq_false_iff_ne, Bool.and_eq_false_iff]
    refine ⟨h2, fun z => h4 ⟨z, hc⟩, ?_⟩
    by_cases hz : q.1 + 1 = i
    · exact Or.inr (fun z => h3 ⟨hz, z⟩)
    · exact Or.inl hz
/-- fewer locals are known -/
theorem Wg.drop {X : CX} {ce sl : Nat} {h : HP} {ls ls' : List (Nat × Value)} {st : List Value} {pc : Nat} (hs : ∀ q ∈ ls', q ∈ ls) (k : Wg X ce sl h ls' st pc) : Wg X ce sl h ls st pc := fun q1 q2 H L la a b c => k q1 q2 H L la a b ⟨c.1, c.2.1, fun q hq => by
  obtain ⟨q0, h1, rfl⟩ := List.mem_map.mp hq
  exact c.2.2 _ (List.mem_map.mpr ⟨q0, hs q0 h1, rfl⟩)⟩
theorem Wg.widen {X : CX} {ce sl ce2 sl2 : Nat} {h : HP} {ls : List (Nat × Value)} {st : List Value} {pc : Nat} (h1 : ce ≤ ce2) (h2 : sl ≤ sl2) (q3 : ce2 ≤ (xR X).cells) (q4 : sl2 ≤ (xR X).slots) (k : Wg X ce2 sl2 h ls st pc) : Wg X ce sl h ls st pc := fun _ _ H L la a b c => W.widen h1 h2 (k q3 q4 H L la a b c)
section ROWS
variable {X : CX} {ce sl : Nat} {h : HP} {ls ls2 : List (Nat × Value)} {st : List Value} {pc nL : Nat} {cc : ByteArray} {own : String} {ret : Option FieldType}
theorem r_iadd (C : Cok X cc nL own ret) {x y : Int32} (d : decode cc pc = .ok (.iadd, 1)) (k : Wg X ce sl h ls (.int (x + y) :: st) (pc + 1)) : Wg X ce sl h ls (.int y :: .int x :: st) pc := fun q1 q2 H L la a b c => lv_iadd C.1 C.2.1 d  (k q1 q2 H L la a b c)
theorem r_isub (C : Cok X cc nL own ret) {x y : Int32} (d : decode cc pc = .ok (.isub, 1)) (k : Wg X ce sl h ls (.int (x - y) :: st) (pc + 1)) : Wg X ce sl h ls (.int y :: .int x :: st) pc := fun q1 q2 H L la a b c => lv_isub C.1 C.2.1 d  (k q1 q2 H L la a b c)
theorem r_imul (C : Cok X cc nL own ret) {x y : Int32} (d : decode cc pc = .ok (.imul, 1)) (k : Wg X ce sl h ls (.int (x * y) :: st) (pc + 1)) : Wg X ce sl h ls (.int y :: .int x :: st) pc := fun q1 q2 H L la a b c => lv_imul C.1 C.2.1 d  (k q1 q2 H L la a b c)
theorem r_iand (C : Cok X cc nL own ret) {x y : Int32} (d : decode cc pc = .ok (.iand, 1)) (k : Wg X ce sl h ls (.int (x &&& y) :: st) (pc + 1)) : Wg X ce sl h ls (.int y :: .int x :: st) pc := fun q1 q2 H L la a b c => lv_iand C.1 C.2.1 d  (k q1 q2 H L la a b c)
theorem r_ior (C : Cok X cc nL own ret) {x y : Int32} (d : decode cc pc = .ok (.ior, 1)) (k : Wg X ce sl h ls (.int (x ||| y) :: st) (pc + 1)) : Wg X ce sl h ls (.int y :: .int x :: st) pc := fun q1 q2 H L la a b c => lv_ior C.1 C.2.1 d  (k q1 q2 H L la a b c)
theorem r_ixor (C : Cok X cc nL own ret) {x y : Int32} (d : decode cc pc = .ok (.ixor, 1)) (k : Wg X ce sl h ls (.int (x ^^^ y) :: st) (pc + 1)) : Wg X ce sl h ls (.int y :: .int x :: st) pc := fun q1 q2 H L la a b c => lv_ixor C.1 C.2.1 d  (k q1 q2 H L la a b c)
theorem r_ishl (C : Cok X cc nL own ret) {x y : Int32} (d : decode cc pc = .ok (.ishl, 1)) (k : Wg X ce sl h ls (.int (x <<< (y &&& 31)) :: st) (pc + 1)) : Wg X ce sl h ls (.int y :: .int x :: st) pc := fun q1 q2 H L la a b c => lv_ishl C.1 C.2.1 d  (k q1 q2 H L la a b c)
theorem r_ishr (C : Cok X cc nL own ret) {x y : Int32} (d : decode cc pc = .ok (.ishr, 1)) (k : Wg X ce sl h ls (.int (x >>> (y &&& 31)) :: st) (pc + 1)) : Wg X ce sl h ls (.int y :: .int x :: st) pc := fun q1 q2 H L la a b c => lv_ishr C.1 C.2.1 d  (k q1 q2 H L la a b c)
theorem r_ladd (C : Cok X cc nL own ret) {x y : Int64} (d : decode cc pc = .ok (.ladd, 1)) (k : Wg X ce sl h ls (.long (x + y) :: st) (pc + 1)) : Wg X ce sl h ls (.long y :: .long x :: st) pc := fun q1 q2 H L la a b c => lv_ladd C.1 C.2.1 d  (k q1 q2 H L la a b c)
theorem r_lsub (C : Cok X cc nL own ret) {x y : Int64} (d : decode cc pc = .ok (.lsub, 1)) (k : Wg X ce sl h ls (.long (x - y) :: st) (pc + 1)) : Wg X ce sl h ls (.long y :: .long x :: st) pc := fun q1 q2 H L la a b c => lv_lsub C.1 C.2.1 d  (k q1 q2 H L la a b c)
theorem r_lmul (C : Cok X cc nL own ret) {x y : Int64} (d : decode cc pc = .ok (.lmul, 1)) (k : Wg X ce sl h ls (.long (x * y) :: st) (pc + 1)) : Wg X ce sl h ls (.long y :: .long x :: st) pc := fun q1 q2 H L la a b c => lv_lmul C.1 C.2.1 d  (k q1 q2 H L la a b c)
theorem r_land (C : Cok X cc nL own ret) {x y : Int64} (d : decode cc pc = .ok (.land, 1)) (k : Wg X ce sl h ls (.long (x &&& y) :: st) (pc + 1)) : Wg X ce sl h ls (.long y :: .long x :: st) pc := fun q1 q2 H L la a b c => lv_land C.1 C.2.1 d  (k q1 q2 H L la a b c)
theorem r_lor (C : Cok X cc nL own ret) {x y : Int64} (d : decode cc pc = .ok (.lor, 1)) (k : Wg X ce sl h ls (.long (x ||| y) :: st) (pc + 1)) : Wg X ce sl h ls (.long y :: .long x :: st) pc := fun q1 q2 H L la a b c => lv_lor C.1 C.2.1 d  (k q1 q2 H L la a b c)
theorem r_lxor (C : Cok X cc nL own ret) {x y : Int64} (d : decode cc pc = .ok (.lxor, 1)) (k : Wg X ce sl h ls (.long (x ^^^ y) :: st) (pc + 1)) : Wg X ce sl h ls (.long y :: .long x :: st) pc := fun q1 q2 H L la a b c => lv_lxor C.1 C.2.1 d  (k q1 q2 H L la a b c)
def iushr (x y : Int32) : Int32 := (x.toUInt32 >>> (y.toUInt32 &&& Int32.toUInt32 31)).toInt32
def lushr (x : Int64) (y : Int32) : Int64 := (x.toUInt64 >>> (y.toInt64.toUInt64 &&& Int64.toUInt64 63)).toInt64
def lshl (x : Int64) (y : Int32) : Int64 := x <<< (y.toInt64 &&& 63)
def lshr (x : Int64) (y : Int32) : Int64 := x >>> (y.toInt64 &&& 63)
def i2c (x : Int32) : Int32 := (x.toUInt32 % 65536).toInt32
theorem r_iushr (C : Cok X cc nL own ret) {x y : Int32} (d : decode cc pc = .ok (.iushr, 1)) (k : Wg X ce sl h ls (.int (iushr x y) :: st) (pc + 1)) : Wg X ce sl h ls (.int y :: .int x :: st) pc := fun q1 q2 H L la a b c => lv_iushr C.1 C.2.1 d rfl (k q1 q2 H L la a b c)
theorem r_lushr (C : Cok X cc nL own ret) {x : Int64} {y : Int32} (d : decode cc pc = .ok (.lushr, 1)) (k : Wg X ce sl h ls (.long (lushr x y) :: st) (pc + 1)) : Wg X ce sl h ls (.int y :: .long x :: st) pc := fun q1 q2 H L la a b c => lv_lushr C.1 C.2.1 d rfl (k q1 q2 H L la a b c)
theorem r_lshl (C : Cok X cc nL own ret) {x : Int64} {y : Int32} (d : decode cc pc = .ok (.lshl, 1)) (k : Wg X ce sl h ls (.long (lshl x y) :: st) (pc + 1)) : Wg X ce sl h ls (.int y :: .long x :: st) pc := fun q1 q2 H L la a b c => lv_lshl C.1 C.2.1 d rfl (k q1 q2 H L la a b c)
theorem r_lshr (C : Cok X cc nL own ret) {x : Int64} {y : Int32} (d : decode cc pc = .ok (.lshr, 1)) (k : Wg X ce sl h ls (.long (lshr x y) :: st) (pc + 1)) : Wg X ce sl h ls (.int y :: .long x :: st) pc := fun q1 q2 H L la a b c => lv_lshr C.1 C.2.1 d rfl (k q1 q2 H L la a b c)
theorem r_i2l (C : Cok X cc nL own ret) {x : Int32} (d : decode cc pc = .ok (.i2l, 1)) (k : Wg X ce sl h ls (.long x.toInt64 :: st) (pc + 1)) : Wg X ce sl h ls (.int x :: st) pc := fun q1 q2 H L la a b c => lv_i2l C.1 C.2.1 d rfl (k q1 q2 H L la a b c)
theorem r_l2i (C : Cok X cc nL own ret) {x : Int64} (d : decode cc pc = .ok (.l2i, 1)) (k : Wg X ce sl h ls (.int x.toInt32 :: st) (pc + 1)) : Wg X ce sl h ls (.long x :: st) pc := fun q1 q2 H L la a b c => lv_l2i C.1 C.2.1 d rfl (k q1 q2 H L la a b c)
theorem r_i2c (C : Cok X cc nL own ret) {x : Int32} (d : decode cc pc = .ok (.i2c, 1)) (k : Wg X ce sl h ls (.int (i2c x) :: st) (pc + 1)) : Wg X ce sl h ls (.int x :: st) pc := fun q1 q2 H L la a b c => lv_i2c C.1 C.2.1 d rfl (k q1 q2 H L la a b c)
theorem r_ineg (C : Cok X cc nL own ret) {x : Int32} (d : decode cc pc = .ok (.ineg, 1)) (k : Wg X ce sl h ls (.int (-x) :: st) (pc + 1)) : Wg X ce sl h ls (.int x :: st) pc := fun q1 q2 H L la a b c => lv_ineg C.1 C.2.1 d  (k q1 q2 H L la a b c)
theorem r_lneg (C : Cok X cc nL own ret) {x : Int64} (d : decode cc pc = .ok (.lneg, 1)) (k : Wg X ce sl h ls (.long (-x) :: st) (pc + 1)) : Wg X ce sl h ls (.long x :: st) pc := fun q1 q2 H L la a b c => lv_lneg C.1 C.2.1 d  (k q1 q2 H L la a b c)
theorem r_idiv (C : Cok X cc nL own ret) {x y : Int32} (hne : ¬ y = 0) (d : decode cc pc = .ok (.idiv, 1)) (k : Wg X ce sl h ls (.int (x / y) :: st) (pc + 1)) : Wg X ce sl h ls (.int y :: .int x :: st) pc := fun q1 q2 H L la a b c => lv_idiv C.1 C.2.1 d hne (k q1 q2 H L la a b c)
theorem r_irem (C : Cok X cc nL own ret) {x y : Int32} (hne : ¬ y = 0) (d : decode cc pc = .ok (.irem, 1)) (k : Wg X ce sl h ls (.int (x - x / y * y) :: st) (pc + 1)) : Wg X ce sl h ls (.int y :: .int x :: st) pc := fun q1 q2 H L la a b c => lv_irem C.1 C.2.1 d hne (k q1 q2 H L la a b c)
theorem r_ldiv (C : Cok X cc nL own ret) {x y : Int64} (hne : ¬ y = 0) (d : decode cc pc = .ok (.ldiv, 1)) (k : Wg X ce sl h ls (.long (x / y) :: st) (pc + 1)) : Wg X ce sl h ls (.long y :: .long x :: st) pc := fun q1 q2 H L la a b c => lv_ldiv C.1 C.2.1 d hne (k q1 q2 H L la a b c)
theorem r_lrem (C : Cok X cc nL own ret) {x y : Int64} (hne : ¬ y = 0) (d : decode cc pc = .ok (.lrem, 1)) (k : Wg X ce sl h ls (.long (x - x / y * y) :: st) (pc + 1)) : Wg X ce sl h ls (.long y :: .long x :: st) pc := fun q1 q2 H L la a b c => lv_lrem C.1 C.2.1 d hne (k q1 q2 H L la a b c)
theorem r_lcmp (C : Cok X cc nL own ret) {x y : Int64} (d : decode cc pc = .ok (.lcmp, 1)) (k : Wg X ce sl h ls (.int (lg_cmp x y) :: st) (pc + 1)) : Wg X ce sl h ls (.long y :: .long x :: st) pc := fun q1 q2 H L la a b c => W.lcmp C.1 C.2.1 d (k q1 q2 H L la a b c)
theorem r_dup (C : Cok X cc nL own ret) {v : Value} (hv : v.category = 1) (d : decode cc pc = .ok (.dup, 1)) (k : Wg X ce sl h ls (v :: v :: st) (pc + 1)) : Wg X ce sl h ls (v :: st) pc := fun q1 q2 H L la a b c => lv_dup C.1 C.2.1 d ((vv_cat _ v).trans hv) (k q1 q2 H L la a b c)
theorem r_pop (C : Cok X cc nL own ret) {v : Value} (hv : v.category = 1) (d : decode cc pc = .ok (.pop, 1)) (k : Wg X ce sl h ls (st) (pc + 1)) : Wg X ce sl h ls (v :: st) pc := fun q1 q2 H L la a b c => lv_pop C.1 C.2.1 d ((vv_cat _ v).trans hv) (k q1 q2 H L la a b c)
theorem r_dup2_2 (C : Cok X cc nL own ret) {v : Value} (hv : v.category = 2) (d : decode cc pc = .ok (.dup2, 1)) (k : Wg X ce sl h ls (v :: v :: st) (pc + 1)) : Wg X ce sl h ls (v :: st) pc := fun q1 q2 H L la a b c => lv_dup2_2 C.1 C.2.1 d ((vv_cat _ v).trans hv) (k q1 q2 H L la a b c)
theorem r_dup_x1 (C : Cok X cc nL own ret) {v u : Value} (hv : v.category = 1) (hu : u.category = 1) (d : decode cc pc = .ok (.dup_x1, 1)) (k : Wg X ce sl h ls (v :: u :: v :: st) (pc + 1)) : Wg X ce sl h ls (v :: u :: st) pc := fun q1 q2 H L la a b c => lv_dup_x1 C.1 C.2.1 d ((vv_cat _ v).trans hv) ((vv_cat _ u).trans hu) (k q1 q2 H L la a b c)
theorem r_dup_x2 (C : Cok X cc nL own ret) {v u z : Value} (hv : v.category = 1) (hu : u.category = 1) (hz : z.category = 1) (d : decode cc pc = .ok (.dup_x2, 1)) (k : Wg X ce sl h ls (v :: u :: z :: v :: st) (pc + 1)) : Wg X ce sl h ls (v :: u :: z :: st) pc := fun q1 q2 H L la a b c => lv_dup_x2 C.1 C.2.1 d ((vv_cat _ v).trans hv) ((vv_cat _ u).trans hu) ((vv_cat _ z).trans hz) (k q1 q2 H L la a b c)
theorem r_dup2 (C : Cok X cc nL own ret) {v u : Value} (hv : v.category = 1) (hu : u.category = 1) (d : decode cc pc = .ok (.dup2, 1)) (k : Wg X ce sl h ls (v :: u :: v :: u :: st) (pc + 1)) : Wg X ce sl h ls (v :: u :: st) pc := fun q1 q2 H L la a b c => lv_dup2_11 C.1 C.2.1 d ((vv_cat _ v).trans hv) ((vv_cat _ u).trans hu) (k q1 q2 H L la a b c)
theorem r_iconst (C : Cok X cc nL own ret) {n : Int} {v : Int32} (hv : Int32.ofInt n = v) (d : decode cc pc = .ok (.iconst n, 1)) (k : Wg X ce sl h ls (.int v :: st) (pc + 1)) : Wg X ce sl h ls (st) pc := fun q1 q2 H L la a b c => lv_iconst C.1 C.2.1 d hv (k q1 q2 H L la a b c)
theorem r_bipush (C : Cok X cc nL own ret) {n : Int} {v : Int32} (hv : (Int8.ofInt n).toInt32 = v) (d : decode cc pc = .ok (.bipush n, 2)) (k : Wg X ce sl h ls (.int v :: st) (pc + 2)) : Wg X ce sl h ls (st) pc := fun q1 q2 H L la a b c => lv_bipush C.1 C.2.1 d hv (k q1 q2 H L la a b c)
theorem r_sipush (C : Cok X cc nL own ret) {n : Int} {v : Int32} (hv : (Int16.ofInt n).toInt32 = v) (d : decode cc pc = .ok (.sipush n, 3)) (k : Wg X ce sl h ls (.int v :: st) (pc + 3)) : Wg X ce sl h ls (st) pc := fun q1 q2 H L la a b c => lv_sipush C.1 C.2.1 d hv (k q1 q2 H L la a b c)
theorem r_lconst (C : Cok X cc nL own ret) {n : Fin 2} {v : Int64} (hv : Int64.ofNat (n : Nat) = v) (d : decode cc pc = .ok (.lconst n, 1)) (k : Wg X ce sl h ls (.long v :: st) (pc + 1)) : Wg X ce sl h ls (st) pc := fun q1 q2 H L la a b c => lv_lconst C.1 C.2.1 d hv (k q1 q2 H L la a b c)
theorem r_ldc (C : Cok X cc nL own ret) {ix : Nat} {v : Int32} (hc : Jvm.Cond.constant own ix v ∈ wx_tbl) (d : decode cc pc = .ok (.ldc ix, 2)) (k : Wg X ce sl h ls (.int v :: st) (pc + 2)) : Wg X ce sl h ls st pc := fun q1 q2 H L la a b c => lv_ldc C.1 C.2.1 C.own (C.hts _ hc) d (k q1 q2 H L la a b c)
theorem r_ldc2 (C : Cok X cc nL own ret) {ix : Nat} {v : Int64} (hc : Jvm.Cond.constantLong own ix v ∈ wx_tbl) (d : decode cc pc = .ok (.ldc2_w ix, 3)) (k : Wg X ce sl h ls (.long v :: st) (pc + 3)) : Wg X ce sl h ls st pc := fun q1 q2 H L la a b c => lv_ldc2 C.1 C.2.1 C.own (C.hts _ hc) d (k q1 q2 H L la a b c)
theorem r_ldc_w (C : Cok X cc nL own ret) {ix : Nat} {v : Int32} (hc : Jvm.Cond.constant own ix v ∈ wx_tbl) (d : decode cc pc = .ok (.ldc_w ix, 3)) (k : Wg X ce sl h ls (.int v :: st) (pc + 3)) : Wg X ce sl h ls st pc := fun q1 q2 H L la a b c => lv_ldcw C.1 C.2.1 C.own (C.hts _ hc) d (k q1 q2 H L la a b c)
theorem r_iload_n (C : Cok X cc nL own ret) (j : Nat) {n : Fin 4} {x : Int32} (hj : ls[j]? = some ((n : Nat), .int x)) (d : decode cc pc = .ok (.iload_n n, 1)) (k : Wg X ce sl h ls (.int x :: st) (pc + 1)) : Wg X ce sl h ls st pc := fun q1 q2 H L la a b c => lv_iload_n C.1 C.2.1 d rfl (lg_at c j hj) (k q1 q2 H L la a b c)
theorem r_iload (C : Cok X cc nL own ret) (j : Nat) {i : Nat} {x : Int32} (hj : ls[j]? = some (i, .int x)) (d : decode cc pc = .ok (.iload i, 2)) (k : Wg X ce sl h ls (.int x :: st) (pc + 2)) : Wg X ce sl h ls st pc := fun q1 q2 H L la a b c => lv_iload C.1 C.2.1 d (lg_at c j hj) (k q1 q2 H L la a b c)
theorem r_lload_n (C : Cok X cc nL own ret) (j : Nat) {n : Fin 4} {x : Int64} (hj : ls[j]? = some ((n : Nat), .long x)) (d : decode cc pc = .ok (.lload_n n, 1)) (k : Wg X ce sl h ls (.long x :: st) (pc + 1)) : Wg X ce sl h ls st pc := fun q1 q2 H L la a b c => lv_lload_n C.1 C.2.1 d rfl (lg_at c j hj) (k q1 q2 H L la a b c)
theorem r_lload (C : Cok X cc nL own ret) (j : Nat) {i : Nat} {x : Int64} (hj : ls[j]? = some (i, .long x)) (d : decode cc pc = .ok (.lload i, 2)) (k : Wg X ce sl h ls (.long x :: st) (pc + 2)) : Wg X ce sl h ls st pc := fun q1 q2 H L la a b c => lv_lload C.1 C.2.1 d (lg_at c j hj) (k q1 q2 H L la a b c)
theorem r_aload_n (C : Cok X cc nL own ret) (j : Nat) {n : Fin 4} {x : Nat} (hj : ls[j]? = some ((n : Nat), .ref x)) (d : decode cc pc = .ok (.aload_n n, 1)) (k : Wg X ce sl h ls (.ref x :: st) (pc + 1)) : Wg X ce sl h ls st pc := fun q1 q2 H L la a b c => lv_aload_n C.1 C.2.1 d rfl (lg_at c j hj) (k q1 q2 H L la a b c)
theorem r_aload (C : Cok X cc nL own ret) (j : Nat) {i : Nat} {x : Nat} (hj : ls[j]? = some (i, .ref x)) (d : decode cc pc = .ok (.aload i, 2)) (k : Wg X ce sl h ls (.ref x :: st) (pc + 2)) : Wg X ce sl h ls st pc := fun q1 q2 H L la a b c => lv_aload C.1 C.2.1 d (lg_at c j hj) (k q1 q2 H L la a b c)
theorem r_istore_n (C : Cok X cc nL own ret) {n : Fin 4} {i : Nat} {x : Int32} (hi : (n : Nat) = i) (hn : i < nL) (hl : lset ls i (.int x) = ls2) (d : decode cc pc = .ok (.istore_n n, 1)) (k : Wg X ce sl h ls2 st (pc + 1)) : Wg X ce sl h ls (.int x :: st) pc := fun q1 q2 H L la a b c => lv_istore_n C.1 C.2.1 d hi c (by rw [C.nloc]; exact hn) rfl (fun la2 c2 => k q1 q2 H L la2 a b (hl ▸ lset1 (v := .int x) rfl c2))
theorem r_istore (C : Cok X cc nL own ret) {i : Nat} {x : Int32} (hn : i < nL) (hl : lset ls i (.int x) = ls2) (d : decode cc pc = .ok (.istore i, 2)) (k : Wg X ce sl h ls2 st (pc + 2)) : Wg X ce sl h ls (.int x :: st) pc := fun q1 q2 H L la a b c => lv_istore C.1 C.2.1 d c (by rw [C.nloc]; exact hn) rfl (fun la2 c2 => k q1 q2 H L la2 a b (hl ▸ lset1 (v := .int x) rfl c2))
theorem r_astore_n (C : Cok X cc nL own ret) {n : Fin 4} {i : Nat} {x : Nat} (hi : (n : Nat) = i) (hn : i < nL) (hl : lset ls i (.ref x) = ls2) (d : decode cc pc = .ok (.astore_n n, 1)) (k : Wg X ce sl h ls2 st (pc + 1)) : Wg X ce sl h ls (.ref x :: st) pc := fun q1 q2 H L la a b c => lv_astore_n C.1 C.2.1 d hi c (by rw [C.nloc]; exact hn) rfl (fun la2 c2 => k q1 q2 H L la2 a b (hl ▸ lset1 (v := .ref x) rfl c2))
theorem r_astore (C : Cok X cc nL own ret) {i : Nat} {x : Nat} (hn : i < nL) (hl : lset ls i (.ref x) = ls2) (d : decode cc pc = .ok (.astore i, 2)) (k : Wg X ce sl h ls2 st (pc + 2)) : Wg X ce sl h ls (.ref x :: st) pc := fun q1 q2 H L la a b c => lv_astore C.1 C.2.1 d c (by rw [C.nloc]; exact hn) rfl (fun la2 c2 => k q1 q2 H L la2 a b (hl ▸ lset1 (v := .ref x) rfl c2))
theorem r_lstore_n (C : Cok X cc nL own ret) {n : Fin 4} {i : Nat} {x : Int64} (hi : (n : Nat) = i) (hn : i + 1 < nL) (hl : lset ls i (.long x) = ls2) (d : decode cc pc = .ok (.lstore_n n, 1)) (k : Wg X ce sl h ls2 st (pc + 1)) : Wg X ce sl h ls (.long x :: st) pc := fun q1 q2 H L la a b c => lv_lstore_n C.1 C.2.1 d hi c (by rw [C.nloc]; exact hn) rfl (fun la2 c2 => k q1 q2 H L la2 a b (hl ▸ lset2 (v := .long x) rfl c2))
theorem r_lstore (C : Cok X cc nL own ret) {i : Nat} {x : Int64} (hn : i + 1 < nL) (hl : lset ls i (.long x) = ls2) (d : decode cc pc = .ok (.lstore i, 2)) (k : Wg X ce sl h ls2 st (pc + 2)) : Wg X ce sl h ls (.long x :: st) pc := fun q1 q2 H L la a b c => lv_lstore C.1 C.2.1 d c (by rw [C.nloc]; exact hn) rfl (fun la2 c2 => k q1 q2 H L la2 a b (hl ▸ lset2 (v := .long x) rfl c2))
theorem r_iinc (C : Cok X cc nL own ret) (j : Nat) {i : Nat} {n : Int} {x m : Int32} (hj : ls[j]? = some (i, .int x)) (hm : Int32.ofInt n = m) (hn : i < nL) (hl : lset ls i (.int (x + m)) = ls2) (d : decode cc pc = .ok (.iinc i n, 3)) (k : Wg X ce sl h ls2 st (pc + 3)) : Wg X ce sl h ls st pc := fun q1 q2 H L la a b c => lv_iinc (k := j) C.1 C.2.1 d c (by unfold lmap; rw [List.getElem?_map, hj]; rfl) (by rw [hm]) (by rw [C.nloc]; exact hn) rfl (fun la2 c2 => k q1 q2 H L la2 a b (hl ▸ lset1 (v := .int (x + m)) rfl c2))
theorem r_goto (C : Cok X cc nL own ret) (tgt : Nat) {off : Int} (d : decode cc pc = .ok (.goto off, 3)) (ht : (pc : Int) + off = (tgt : Int)) (k : Wg X ce sl h ls st tgt) : Wg X ce sl h ls st pc := fun q1 q2 H L la a b c => lv_goto C.1 C.2.1 d ht (k q1 q2 H L la a b c)
theorem r_if_eq (C : Cok X cc nL own ret) (tgt : Nat) {x : Int32} {off : Int} (d : decode cc pc = .ok (.ifCond .eq off, 3)) (ht : (pc : Int) + off = (tgt : Int)) (k : (x = 0 → Wg X ce sl h ls st tgt) ∧ (¬ x = 0 → Wg X ce sl h ls st (pc + 3))) : Wg X ce sl h ls (.int x :: st) pc := fun q1 q2 H L la a b c => lv_if_eq C.1 C.2.1 d ht (fun z => k.1 z q1 q2 H L la a b c) (fun z => k.2 z q1 q2 H L la a b c)
theorem r_if_ne (C : Cok X cc nL own ret) (tgt : Nat) {x : Int32} {off : Int} (d : decode cc pc = .ok (.ifCond .ne off, 3)) (ht : (pc : Int) + off = (tgt : Int)) (k : (¬ x = 0 → Wg X ce sl h ls st tgt) ∧ (x = 0 → Wg X ce sl h ls st (pc + 3))) : Wg X ce sl h ls (.int x :: st) pc := fun q1 q2 H L la a b c => lv_if_ne C.1 C.2.1 d ht (fun z => k.1 z q1 q2 H L la a b c) (fun z => k.2 z q1 q2 H L la a b c)
theorem r_if_lt (C : Cok X cc nL own ret) (tgt : Nat) {x : Int32} {off : Int} (d : decode cc pc = .ok (.ifCond .lt off, 3)) (ht : (pc : Int) + off = (tgt : Int)) (k : (x < 0 → Wg X ce sl h ls st tgt) ∧ (¬ x < 0 → Wg X ce sl h ls st (pc + 3))) : Wg X ce sl h ls (.int x :: st) pc := fun q1 q2 H L la a b c => lv_if_lt C.1 C.2.1 d ht (fun z => k.1 z q1 q2 H L la a b c) (fun z => k.2 z q1 q2 H L la a b c)
theorem r_if_ge (C : Cok X cc nL own ret) (tgt : Nat) {x : Int32} {off : Int} (d : decode cc pc = .ok (.ifCond .ge off, 3)) (ht : (pc : Int) + off = (tgt : Int)) (k : (0 ≤ x → Wg X ce sl h ls st tgt) ∧ (¬ 0 ≤ x → Wg X ce sl h ls st (pc + 3))) : Wg X ce sl h ls (.int x :: st) pc := fun q1 q2 H L la a b c => lv_if_ge C.1 C.2.1 d ht (fun z => k.1 z q1 q2 H L la a b c) (fun z => k.2 z q1 q2 H L la a b c)
theorem r_if_gt (C : Cok X cc nL own ret) (tgt : Nat) {x : Int32} {off : Int} (d : decode cc pc = .ok (.ifCond .gt off, 3)) (ht : (pc : Int) + off = (tgt : Int)) (k : (0 < x → Wg X ce sl h ls st tgt) ∧ (¬ 0 < x → Wg X ce sl h ls st (pc + 3))) : Wg X ce sl h ls (.int x :: st) pc := fun q1 q2 H L la a b c => lv_if_gt C.1 C.2.1 d ht (fun z => k.1 z q1 q2 H L la a b c) (fun z => k.2 z q1 q2 H L la a b c)
theorem r_if_le (C : Cok X cc nL own ret) (tgt : Nat) {x : Int32} {off : Int} (d : decode cc pc = .ok (.ifCond .le off, 3)) (ht : (pc : Int) + off = (tgt : Int)) (k : (x ≤ 0 → Wg X ce sl h ls st tgt) ∧ (¬ x ≤ 0 → Wg X ce sl h ls st (pc + 3))) : Wg X ce sl h ls (.int x :: st) pc := fun q1 q2 H L la a b c => lv_if_le C.1 C.2.1 d ht (fun z => k.1 z q1 q2 H L la a b c) (fun z => k.2 z q1 q2 H L la a b c)
theorem r_icmp_eq (C : Cok X cc nL own ret) (tgt : Nat) {x y : Int32} {off : Int} (d : decode cc pc = .ok (.if_icmp .eq off, 3)) (ht : (pc : Int) + off = (tgt : Int)) (k : (x = y → Wg X ce sl h ls st tgt) ∧ (¬ x = y → Wg X ce sl h ls st (pc + 3))) : Wg X ce sl h ls (.int y :: .int x :: st) pc := fun q1 q2 H L la a b c => lv_icmp_eq C.1 C.2.1 d ht (fun z => k.1 z q1 q2 H L la a b c) (fun z => k.2 z q1 q2 H L la a b c)
theorem r_icmp_ne (C : Cok X cc nL own ret) (tgt : Nat) {x y : Int32} {off : Int} (d : decode cc pc = .ok (.if_icmp .ne off, 3)) (ht : (pc : Int) + off = (tgt : Int)) (k : (¬ x = y → Wg X ce sl h ls st tgt) ∧ (x = y → Wg X ce sl h ls st (pc + 3))) : Wg X ce sl h ls (.int y :: .int x :: st) pc := fun q1 q2 H L la a b c => lv_icmp_ne C.1 C.2.1 d ht (fun z => k.1 z q1 q2 H L la a b c) (fun z => k.2 z q1 q2 H L la a b c)
theorem r_icmp_lt (C : Cok X cc nL own ret) (tgt : Nat) {x y : Int32} {off : Int} (d : decode cc pc = .ok (.if_icmp .lt off, 3)) (ht : (pc : Int) + off = (tgt : Int)) (k : (x < y → Wg X ce sl h ls st tgt) ∧ (¬ x < y → Wg X ce sl h ls st (pc + 3))) : Wg X ce sl h ls (.int y :: .int x :: st) pc := fun q1 q2 H L la a b c => lv_icmp_lt C.1 C.2.1 d ht (fun z => k.1 z q1 q2 H L la a b c) (fun z => k.2 z q1 q2 H L la a b c)
theorem r_icmp_ge (C : Cok X cc nL own ret) (tgt : Nat) {x y : Int32} {off : Int} (d : decode cc pc = .ok (.if_icmp .ge off, 3)) (ht : (pc : Int) + off = (tgt : Int)) (k : (y ≤ x → Wg X ce sl h ls st tgt) ∧ (¬ y ≤ x → Wg X ce sl h ls st (pc + 3))) : Wg X ce sl h ls (.int y :: .int x :: st) pc := fun q1 q2 H L la a b c => lv_icmp_ge C.1 C.2.1 d ht (fun z => k.1 z q1 q2 H L la a b c) (fun z => k.2 z q1 q2 H L la a b c)
theorem r_icmp_gt (C : Cok X cc nL own ret) (tgt : Nat) {x y : Int32} {off : Int} (d : decode cc pc = .ok (.if_icmp .gt off, 3)) (ht : (pc : Int) + off = (tgt : Int)) (k : (y < x → Wg X ce sl h ls st tgt) ∧ (¬ y < x → Wg X ce sl h ls st (pc + 3))) : Wg X ce sl h ls (.int y :: .int x :: st) pc := fun q1 q2 H L la a b c => lv_icmp_gt C.1 C.2.1 d ht (fun z => k.1 z q1 q2 H L la a b c) (fun z => k.2 z q1 q2 H L la a b c)
theorem r_icmp_le (C : Cok X cc nL own ret) (tgt : Nat) {x y : Int32} {off : Int} (d : decode cc pc = .ok (.if_icmp .le off, 3)) (ht : (pc : Int) + off = (tgt : Int)) (k : (x ≤ y → Wg X ce sl h ls st tgt) ∧ (¬ x ≤ y → Wg X ce sl h ls st (pc + 3))) : Wg X ce sl h ls (.int y :: .int x :: st) pc := fun q1 q2 H L la a b c => lv_icmp_le C.1 C.2.1 d ht (fun z => k.1 z q1 q2 H L la a b c) (fun z => k.2 z q1 q2 H L la a b c)
end ROWS
theorem wl_get (G : WG) (h : HP) {k : Nat} (hk : k < 59) : (wl G h)[k]? = some (G.2.1 k, w_ent G (h k) k) := by
  unfold wl
  rw [List.getElem?_map, List.getElem?_range hk]
  rfl
theorem wl_set (G : WG) (h : HP) {k : Nat} (f : Nat → Int32) {e : va_E} (he : w_ent G f k = e) : (wl G h).set k (G.2.1 k, e) = wl G (hs h k f) := by
  apply List.ext_getElem?
  intro j
  by_cases hj : j = k
  · subst hj
    by_cases hk : j < 59
    · rw [wl_get G _ hk, List.getElem?_set_self (by unfold wl; simpa using hk), hs_self, he]
    · rw [List.getElem?_eq_none (by unfold wl; simp; omega), List.getElem?_eq_none (by unfold wl; simp; omega)]
  · rw [List.getElem?_set_ne (Ne.symm hj)]
    unfold wl
    rw [List.getElem?_map, List.getElem?_map]
    by_cases hk : j < 59
    · rw [List.getElem?_range hk]
      simp [hs_ne hj]
    · rw [List.getElem?_eq_none (by simpa using hk)]
      rfl
theorem wl_D {G : WG} (g : Gok G) (h : HP) : va_D (Ga G) (wl G h) := by
  have key : ∀ (k : Nat) (q : Nat × va_E), (wl G h)[k]? = some q → k < 59 ∧ q.1 = G.2.1 k := by
    intro k q hq
    by_cases hk : k < 59
    · rw [wl_get G h hk] at hq
      cases hq
      exact ⟨hk, rfl⟩
    · rw [List.getElem?_eq_none (by unfold wl; simp; omega)] at hq
      cases hq
  refine ⟨fun i j p q hi hj hpq => ?_, fun k q hk => ?_⟩
  · obtain ⟨a1, a2⟩ := key i p hi
    obtain ⟨b1, b2⟩ := key j q hj
    exact g.1 i j a1 b1 (by rw [← a2, ← b2]; exact hpq)
  · obtain ⟨a1, a2⟩ := key k q hk
    show G.2.2.2 ≤ q.1
    rw [a2]
    exact g.2 k a1
theorem kd_lt {k a n : Nat} (h : kd k = (a, n)) (ha : a < 99) : k < 59 := by
  refine Nat.lt_of_not_le (fun q => ?_)
  obtain ⟨m, rfl⟩ := Nat.exists_eq_add_of_le q
  have : kd (59 + m) = (99, 0) := by rw [Nat.add_comm]; rfl
  rw [this] at h
  cases h
  omega
theorem kd_arr {k a n : Nat} (h : kd k = (10 + a, n)) (ha : a < 4) (G : WG) (f : Nat → Int32) : w_ent G f k = .inl (G.2.2.1 a, w_arr f a n) := by
  have : w_pur f k = .inl (a, n) := by
    unfold w_pur
    rw [h]
    match a, ha with
    | 0, _ => rfl
    | 1, _ => rfl
    | 2, _ => rfl
    | 3, _ => rfl
  unfold w_ent
  rw [this]
theorem e_Wh {k : Nat} (hk : kd k = (0, 0)) (G : WG) (f : Nat → Int32) : w_ent G f k = .inr (0, smap G [.ref (k+1), .int (f 1), .int (f 2)]) := by
  have e : w_pur f k = .inr (0, [.ref (k+1), .int (f 1), .int (f 2)]) := by simp only [w_pur, hk]
  unfold w_ent; rw [e]
theorem e_Ra {k : Nat} (hk : kd k = (1, 0)) (G : WG) (f : Nat → Int32) : w_ent G f k = .inr (1, smap G [.ref (k+1), .ref (k+3)]) := by
  have e : w_pur f k = .inr (1, [.ref (k+1), .ref (k+3)]) := by simp only [w_pur, hk]
  unfold w_ent; rw [e]
theorem e_Di {k : Nat} (hk : kd k = (2, 0)) (G : WG) (f : Nat → Int32) : w_ent G f k = .inr (2, smap G [.ref (k+1), .ref (k+3), .ref (k+5), .ref (k+6)]) := by
  have e : w_pur f k = .inr (2, [.ref (k+1), .ref (k+3), .ref (k+5), .ref (k+6)]) := by simp only [w_pur, hk]
  unfold w_ent; rw [e]
theorem e_Re {k : Nat} (hk : kd k = (3, 0)) (G : WG) (f : Nat → Int32) : w_ent G f k = .inr (3, smap G [.ref (k+1), .ref (k+6), .ref (k+11), .ref (k+16), .ref (k+18), .ref (k+20), .ref (k+22)]) := by
  have e : w_pur f k = .inr (3, [.ref (k+1), .ref (k+6), .ref (k+11), .ref (k+16), .ref (k+18), .ref (k+20), .ref (k+22)]) := by simp only [w_pur, hk]
  unfold w_ent; rw [e]
theorem e_He {k : Nat} (hk : kd k = (4, 0)) (G : WG) (f : Nat → Int32) : w_ent G f k = .inr (4, smap G [.ref (k+1), .ref (k+2), .int (f 2), .int (f 3), .ref (k+3), .ref (k+4), .ref (k+5), .int (f 7)]) := by
  have e : w_pur f k = .inr (4, [.ref (k+1), .ref (k+2), .int (f 2), .int (f 3), .ref (k+3), .ref (k+4), .ref (k+5), .int (f 7)]) := by simp only [w_pur, hk]
  unfold w_ent; rw [e]
theorem e_Li {k : Nat} (hk : kd k = (5, 0)) (G : WG) (f : Nat → Int32) : w_ent G f k = .inr (5, smap G [.ref (k+1), .int (f 1)]) := by
  have e : w_pur f k = .inr (5, [.ref (k+1), .int (f 1)]) := by simp only [w_pur, hk]
  unfold w_ent; rw [e]
theorem e_Pr {k : Nat} (hk : kd k = (6, 0)) (G : WG) (f : Nat → Int32) : w_ent G f k = .inr (6, smap G [.ref (k+1), .int (f 1), .int (f 2), .ref (k+2), .int (f 4), .ref (k+3), .ref (k+5)]) := by
  have e : w_pur f k = .inr (6, [.ref (k+1), .int (f 1), .int (f 2), .ref (k+2), .int (f 4), .ref (k+3), .ref (k+5)]) := by simp only [w_pur, hk]
  unfold w_ent; rw [e]
theorem e_Ce {k : Nat} (hk : kd k = (7, 0)) (G : WG) (f : Nat → Int32) : w_ent G f k = .inr (7, smap G [.ref (k+1), .ref (k+7), .ref (k+9), .ref (k+38)]) := by
  have e : w_pur f k = .inr (7, [.ref (k+1), .ref (k+7), .ref (k+9), .ref (k+38)]) := by simp only [w_pur, hk]
  unfold w_ent; rw [e]
theorem e_Mo {k : Nat} (hk : kd k = (8, 0)) (G : WG) (f : Nat → Int32) : w_ent G f k = .inr (8, smap G [.int (f 0), .ref (k+1), .ref (k+2), .int (f 3), .ref (k+3), .ref (k+4), .ref (k+5), .ref (k+6), .ref (k+7), .int (f 9), .int (f 10), .ref (k+8), .ref (k+9), .ref (k+10), .ref (k+11), .int (f 15), .ref (k+12), .int (f 17), .int (f 18), .ref (k+13), .int (f 20)]) := by
  have e : w_pur f k = .inr (8, [.int (f 0), .ref (k+1), .ref (k+2), .int (f 3), .ref (k+3), .ref (k+4), .ref (k+5), .ref (k+6), .ref (k+7), .int (f 9), .int (f 10), .ref (k+8), .ref (k+9), .ref (k+10), .ref (k+11), .int (f 15), .ref (k+12), .int (f 17), .int (f 18), .ref (k+13), .int (f 20)]) := by simp only [w_pur, hk]
  unfold w_ent; rw [e]
theorem kd_part {k c j a n : Nat} (hk : kd k = (c, 0)) (hc : c < 9) (h : ∀ i, i < 59 → kd i = (c, 0) → kd (i + j) = (a, n)) : kd (k + j) = (a, n) := h k (kd_lt hk (by omega)) hk
theorem kWh1 {k : Nat} (hk : kd k = (0, 0)) : kd (k + 1) = (10, 44) := kd_part hk (by omega) (by decide +kernel)
theorem kRa1 {k : Nat} (hk : kd k = (1, 0)) : kd (k + 1) = (0, 0) := kd_part hk (by omega) (by decide +kernel)
theorem kRa2 {k : Nat} (hk : kd k = (1, 0)) : kd (k + 2) = (10, 44) := kd_part hk (by omega) (by decide +kernel)
theorem kRa3 {k : Nat} (hk : kd k = (1, 0)) : kd (k + 3) = (0, 0) := kd_part hk (by omega) (by decide +kernel)
theorem kRa4 {k : Nat} (hk : kd k = (1, 0)) : kd (k + 4) = (10, 44) := kd_part hk (by omega) (by decide +kernel)
section FIELDS
variable {X : CX} {ce sl : Nat} {h : HP} {ls ls2 : List (Nat × Value)} {st : List Value} {pc nL : Nat} {cc : ByteArray} {own : String} {ret : Option FieldType}
theorem gf_Wh_words (C : Cok X cc nL own ret) {k : Nat} {k2 : Nat} (h2 : k + 1 = k2) (hk : kd k = (0, 0)) {ix : Nat} (hl : Cond.fieldLink own ix R_Wh "words" "[I" ∈ wx_tbl) (d : decode cc pc = .ok (.getfield ix, 3)) (kk : Wg X ce sl h ls (.ref k2 :: st) (pc + 3)) : Wg X ce sl h ls (.ref k :: st) pc := fun q1 q2 H L la a b c => va_get (D := (xG X).1) (ci := 0) (v := vv (xG X) (.ref k2)) (C := R_Wh) (T := T_Wh) (N := 3) C.1 C.2.1 C.hts i_Wh C.own C.kn a k ((wl_get (xG X) h (kd_lt hk (by omega))).trans (by rw [e_Wh hk])) rfl 0 (by omega) (C.hts _ hl) (fun _ z => z) (by subst h2; rfl) d (kk q1 q2 H L la a b c)
theorem gf_Wh_length (C : Cok X cc nL own ret) {k : Nat} (hk : kd k = (0, 0)) {ix : Nat} (hl : Cond.fieldLink own ix R_Wh "length" "I" ∈ wx_tbl) (d : decode cc pc = .ok (.getfield ix, 3)) (kk : Wg X ce sl h ls (.int (h k 1) :: st) (pc + 3)) : Wg X ce sl h ls (.ref k :: st) pc := fun q1 q2 H L la a b c => va_get (D := (xG X).1) (ci := 0) (v := vv (xG X) (.int (h k 1))) (C := R_Wh) (T := T_Wh) (N := 3) C.1 C.2.1 C.hts i_Wh C.own C.kn a k ((wl_get (xG X) h (kd_lt hk (by omega))).trans (by rw [e_Wh hk])) rfl 1 (by omega) (C.hts _ hl) (fun _ z => z) rfl d (kk q1 q2 H L la a b c)
theorem pf_Wh_length (C : Cok X cc nL own ret) {k : Nat} (hk : kd k = (0, 0)) {v : Int32} {ix : Nat} (hl : Cond.fieldLink own ix R_Wh "length" "I" ∈ wx_tbl) (d : decode cc pc = .ok (.putfield ix, 3)) (kk : Wg X ce sl (up h k 1 v) ls st (pc + 3)) : Wg X ce sl h ls (.int v :: .ref k :: st) pc := fun q1 q2 H L la a b c => va_put (D := (xG X).1) (ci := 0) (v := .int v) (ty := .int) (C := R_Wh) (T := T_Wh) (N := 3) C.1 C.2.1 C.hts i_Wh t_Wh p_Wh n_Wh C.own C.kn a (wl_D C.gok h) b k ((wl_get (xG X) h (kd_lt hk (by omega))).trans (by rw [e_Wh hk])) rfl 1 (by omega) (C.hts _ hl) (fun _ z => z) rfl (by decide +kernel) rfl rfl (by show 1 < 3; omega) d (fun H2 L2 a2 _ b2 => kk q1 q2 H2 L2 la (by rw [wl_set (xG X) h (upd (h k) 1 v) (by rw [e_Wh hk]; simp [smap, vv, upd])] at a2; exact a2) b2 c)
theorem gf_Wh_below (C : Cok X cc nL own ret) {k : Nat} (hk : kd k = (0, 0)) {ix : Nat} (hl : Cond.fieldLink own ix R_Wh "below" "Z" ∈ wx_tbl) (d : decode cc pc = .ok (.getfield ix, 3)) (kk : Wg X ce sl h ls (.int (h k 2) :: st) (pc + 3)) : Wg X ce sl h ls (.ref k :: st) pc := fun q1 q2 H L la a b c => va_get (D := (xG X).1) (ci := 0) (v := vv (xG X) (.int (h k 2))) (C := R_Wh) (T := T_Wh) (N := 3) C.1 C.2.1 C.hts i_Wh C.own C.kn a k ((wl_get (xG X) h (kd_lt hk (by omega))).trans (by rw [e_Wh hk])) rfl 2 (by omega) (C.hts _ hl) (fun _ z => z) rfl d (kk q1 q2 H L la a b c)
theorem pf_Wh_below (C : Cok X cc nL own ret) {k : Nat} (hk : kd k = (0, 0)) {v : Int32} (hb : v = 0 ∨ v = 1) {ix : Nat} (hl : Cond.fieldLink own ix R_Wh "below" "Z" ∈ wx_tbl) (d : decode cc pc = .ok (.putfield ix, 3)) (kk : Wg X ce sl (up h k 2 v) ls st (pc + 3)) : Wg X ce sl h ls (.int v :: .ref k :: st) pc := fun q1 q2 H L la a b c => va_put (D := (xG X).1) (ci := 0) (v := .int v) (ty := .boolean) (C := R_Wh) (T := T_Wh) (N := 3) C.1 C.2.1 C.hts i_Wh t_Wh p_Wh n_Wh C.own C.kn a (wl_D C.gok h) b k ((wl_get (xG X) h (kd_lt hk (by omega))).trans (by rw [e_Wh hk])) rfl 2 (by omega) (C.hts _ hl) (fun _ z => z) rfl (by decide +kernel) (by rcases hb with rfl | rfl <;> rfl) (by rcases hb with rfl | rfl <;> rfl) (by show 2 < 3; omega) d (fun H2 L2 a2 _ b2 => kk q1 q2 H2 L2 la (by rw [wl_set (xG X) h (upd (h k) 2 v) (by rw [e_Wh hk]; simp [smap, vv, upd])] at a2; exact a2) b2 c)
theorem gf_Ra_upper (C : Cok X cc nL own ret) {k : Nat} {k2 : Nat} (h2 : k + 1 = k2) (hk : kd k = (1, 0)) {ix : Nat} (hl : Cond.fieldLink own ix R_Ra "upper" "LCellHeap$Whole;" ∈ wx_tbl) (d : decode cc pc = .ok (.getfield ix, 3)) (kk : Wg X ce sl h ls (.ref k2 :: st) (pc + 3)) : Wg X ce sl h ls (.ref k :: st) pc := fun q1 q2 H L la a b c => va_get (D := (xG X).1) (ci := 1) (v := vv (xG X) (.ref k2)) (C := R_Ra) (T := T_Ra) (N := 2) C.1 C.2.1 C.hts i_Ra C.own C.kn a k ((wl_get (xG X) h (kd_lt hk (by omega))).trans (by rw [e_Ra hk])) rfl 0 (by omega) (C.hts _ hl) (fun _ z => z) (by subst h2; rfl) d (kk q1 q2 H L la a b c)
theorem gf_Ra_lower (C : Cok X cc nL own ret) {k : Nat} {k2 : Nat} (h2 : k + 3 = k2) (hk : kd k = (1, 0)) {ix : Nat} (hl : Cond.fieldLink own ix R_Ra "lower" "LCellHeap$Whole;" ∈ wx_tbl) (d : decode cc pc = .ok (.getfield ix, 3)) (kk : Wg X ce sl h ls (.ref k2 :: st) (pc + 3)) : Wg X ce sl h ls (.ref k :: st) pc := fun q1 q2 H L la a b c => va_get (D := (xG X).1) (ci := 1) (v := vv (xG X) (.ref k2)) (C := R_Ra) (T := T_Ra) (N := 2) C.1 C.2.1 C.hts i_Ra C.own C.kn a k ((wl_get (xG X) h (kd_lt hk (by omega))).trans (by rw [e_Ra hk])) rfl 1 (by omega) (C.hts _ hl) (fun _ z => z) (by subst h2; rfl) d (kk q1 q2 H L la a b c)
theorem gf_Di_quotient (C : Cok X cc nL own ret) {k : Nat} {k2 : Nat} (h2 : k + 1 = k2) (hk : kd k = (2, 0)) {ix : Nat} (hl : Cond.fieldLink own ix R_Di "quotient" "LCellHeap$Whole;" ∈ wx_tbl) (d : decode cc pc = .ok (.getfield ix, 3)) (kk : Wg X ce sl h ls (.ref k2 :: st) (pc + 3)) : Wg X ce sl h ls (.ref k :: st) pc := fun q1 q2 H L la a b c => va_get (D := (xG X).1) (ci := 2) (v := vv (xG X) (.ref k2)) (C := R_Di) (T := T_Di) (N := 4) C.1 C.2.1 C.hts i_Di C.own C.kn a k ((wl_get (xG X) h (kd_lt hk (by omega))).trans (by rw [e_Di hk])) rfl 0 (by omega) (C.hts _ hl) (fun _ z => z) (by subst h2; rfl) d (kk q1 q2 H L la a b c)
theorem gf_Di_remainder (C : Cok X cc nL own ret) {k : Nat} {k2 : Nat} (h2 : k + 3 = k2) (hk : kd k = (2, 0)) {ix : Nat} (hl : Cond.fieldLink own ix R_Di "remainder" "LCellHeap$Whole;" ∈ wx_tbl) (d : decode cc pc = .ok (.getfield ix, 3)) (kk : Wg X ce sl h ls (.ref k2 :: st) (pc + 3)) : Wg X ce sl h ls (.ref k :: st) pc := fun q1 q2 H L la a b c => va_get (D := (xG X).1) (ci := 2) (v := vv (xG X) (.ref k2)) (C := R_Di) (T := T_Di) (N := 4) C.1 C.2.1 C.hts i_Di C.own C.kn a k ((wl_get (xG X) h (kd_lt hk (by omega))).trans (by rw [e_Di hk])) rfl 1 (by omega) (C.hts _ hl) (fun _ z => z) (by subst h2; rfl) d (kk q1 q2 H L la a b c)
theorem gf_Di_rest (C : Cok X cc nL own ret) {k : Nat} {k2 : Nat} (h2 : k + 5 = k2) (hk : kd k = (2, 0)) {ix : Nat} (hl : Cond.fieldLink own ix R_Di "rest" "[I" ∈ wx_tbl) (d : decode cc pc = .ok (.getfield ix, 3)) (kk : Wg X ce sl h ls (.ref k2 :: st) (pc + 3)) : Wg X ce sl h ls (.ref k :: st) pc := fun q1 q2 H L la a b c => va_get (D := (xG X).1) (ci := 2) (v := vv (xG X) (.ref k2)) (C := R_Di) (T := T_Di) (N := 4) C.1 C.2.1 C.hts i_Di C.own C.kn a k ((wl_get (xG X) h (kd_lt hk (by omega))).trans (by rw [e_Di hk])) rfl 2 (by omega) (C.hts _ hl) (fun _ z => z) (by subst h2; rfl) d (kk q1 q2 H L la a b c)
theorem gf_Di_by (C : Cok X cc nL own ret) {k : Nat} {k2 : Nat} (h2 : k + 6 = k2) (hk : kd k = (2, 0)) {ix : Nat} (hl : Cond.fieldLink own ix R_Di "by" "[I" ∈ wx_tbl) (d : decode cc pc = .ok (.getfield ix, 3)) (kk : Wg X ce sl h ls (.ref k2 :: st) (pc + 3)) : Wg X ce sl h ls (.ref k :: st) pc := fun q1 q2 H L la a b c => va_get (D := (xG X).1) (ci := 2) (v := vv (xG X) (.ref k2)) (C := R_Di) (T := T_Di) (N := 4) C.1 C.2.1 C.hts i_Di C.own C.kn a k ((wl_get (xG X) h (kd_lt hk (by omega))).trans (by rw [e_Di hk])) rfl 3 (by omega) (C.hts _ hl) (fun _ z => z) (by subst h2; rfl) d (kk q1 q2 H L la a b c)
theorem gf_Re_left (C : Cok X cc nL own ret) {k : Nat} {k2 : Nat} (h2 : k + 1 = k2) (hk : kd k = (3, 0)) {ix : Nat} (hl : Cond.fieldLink own ix R_Re "left" "LCellHeap$Ratio;" ∈ wx_tbl) (d : decode cc pc = .ok (.getfield ix, 3)) (kk : Wg X ce sl h ls (.ref k2 :: st) (pc + 3)) : Wg X ce sl h ls (.ref k :: st) pc := fun q1 q2 H L la a b c => va_get (D := (xG X).1) (ci := 3) (v := vv (xG X) (.ref k2)) (C := R_Re) (T := T_Re) (N := 7) C.1 C.2.1 C.hts i_Re C.own C.kn a k ((wl_get (xG X) h (kd_lt hk (by omega))).trans (by rw [e_Re hk])) rfl 0 (by omega) (C.hts _ hl) (fun _ z => z) (by subst h2; rfl) d (kk q1 q2 H L la a b c)
theorem gf_Re_right (C : Cok X cc nL own ret) {k : Nat} {k2 : Nat} (h2 : k + 6 = k2) (hk : kd k = (3, 0)) {ix : Nat} (hl : Cond.fieldLink own ix R_Re "right" "LCellHeap$Ratio;" ∈ wx_tbl) (d : decode cc pc = .ok (.getfield ix, 3)) (kk : Wg X ce sl h ls (.ref k2 :: st) (pc + 3)) : Wg X ce sl h ls (.ref k :: st) pc := fun q1 q2 H L la a b c => va_get (D := (xG X).1) (ci := 3) (v := vv (xG X) (.ref k2)) (C := R_Re) (T := T_Re) (N := 7) C.1 C.2.1 C.hts i_Re C.own C.kn a k ((wl_get (xG X) h (kd_lt hk (by omega))).trans (by rw [e_Re hk])) rfl 1 (by omega) (C.hts _ hl) (fun _ z => z) (by subst h2; rfl) d (kk q1 q2 H L la a b c)
theorem gf_Re_result (C : Cok X cc nL own ret) {k : Nat} {k2 : Nat} (h2 : k + 11 = k2) (hk : kd k = (3, 0)) {ix : Nat} (hl : Cond.fieldLink own ix R_Re "result" "LCellHeap$Ratio;" ∈ wx_tbl) (d : decode cc pc = .ok (.getfield ix, 3)) (kk : Wg X ce sl h ls (.ref k2 :: st) (pc + 3)) : Wg X ce sl h ls (.ref k :: st) pc := fun q1 q2 H L la a b c => va_get (D := (xG X).1) (ci := 3) (v := vv (xG X) (.ref k2)) (C := R_Re) (T := T_Re) (N := 7) C.1 C.2.1 C.hts i_Re C.own C.kn a k ((wl_get (xG X) h (kd_lt hk (by omega))).trans (by rw [e_Re hk])) rfl 2 (by omega) (C.hts _ hl) (fun _ z => z) (by subst h2; rfl) d (kk q1 q2 H L la a b c)
theorem gf_Re_other (C : Cok X cc nL own ret) {k : Nat} {k2 : Nat} (h2 : k + 16 = k2) (hk : kd k = (3, 0)) {ix : Nat} (hl : Cond.fieldLink own ix R_Re "other" "LCellHeap$Whole;" ∈ wx_tbl) (d : decode cc pc = .ok (.getfield ix, 3)) (kk : Wg X ce sl h ls (.ref k2 :: st) (pc + 3)) : Wg X ce sl h ls (.ref k :: st) pc := fun q1 q2 H L la a b c => va_get (D := (xG X).1) (ci := 3) (v := vv (xG X) (.ref k2)) (C := R_Re) (T := T_Re) (N := 7) C.1 C.2.1 C.hts i_Re C.own C.kn a k ((wl_get (xG X) h (kd_lt hk (by omega))).trans (by rw [e_Re hk])) rfl 3 (by omega) (C.hts _ hl) (fun _ z => z) (by subst h2; rfl) d (kk q1 q2 H L la a b c)
theorem gf_Re_divisor (C : Cok X cc nL own ret) {k : Nat} {k2 : Nat} (h2 : k + 18 = k2) (hk : kd k = (3, 0)) {ix : Nat} (hl : Cond.fieldLink own ix R_Re "divisor" "LCellHeap$Whole;" ∈ wx_tbl) (d : decode cc pc = .ok (.getfield ix, 3)) (kk : Wg X ce sl h ls (.ref k2 :: st) (pc + 3)) : Wg X ce sl h ls (.ref k :: st) pc := fun q1 q2 H L la a b c => va_get (D := (xG X).1) (ci := 3) (v := vv (xG X) (.ref k2)) (C := R_Re) (T := T_Re) (N := 7) C.1 C.2.1 C.hts i_Re C.own C.kn a k ((wl_get (xG X) h (kd_lt hk (by omega))).trans (by rw [e_Re hk])) rfl 4 (by omega) (C.hts _ hl) (fun _ z => z) (by subst h2; rfl) d (kk q1 q2 H L la a b c)
theorem gf_Re_next (C : Cok X cc nL own ret) {k : Nat} {k2 : Nat} (h2 : k + 20 = k2) (hk : kd k = (3, 0)) {ix : Nat} (hl : Cond.fieldLink own ix R_Re "next" "LCellHeap$Whole;" ∈ wx_tbl) (d : decode cc pc = .ok (.getfield ix, 3)) (kk : Wg X ce sl h ls (.ref k2 :: st) (pc + 3)) : Wg X ce sl h ls (.ref k :: st) pc := fun q1 q2 H L la a b c => va_get (D := (xG X).1) (ci := 3) (v := vv (xG X) (.ref k2)) (C := R_Re) (T := T_Re) (N := 7) C.1 C.2.1 C.hts i_Re C.own C.kn a k ((wl_get (xG X) h (kd_lt hk (by omega))).trans (by rw [e_Re hk])) rfl 5 (by omega) (C.hts _ hl) (fun _ z => z) (by subst h2; rfl) d (kk q1 q2 H L la a b c)
theorem gf_Re_division (C : Cok X cc nL own ret) {k : Nat} {k2 : Nat} (h2 : k + 22 = k2) (hk : kd k = (3, 0)) {ix : Nat} (hl : Cond.fieldLink own ix R_Re "division" "LCellHeap$Division;" ∈ wx_tbl) (d : decode cc pc = .ok (.getfield ix, 3)) (kk : Wg X ce sl h ls (.ref k2 :: st) (pc + 3)) : Wg X ce sl h ls (.ref k :: st) pc := fun q1 q2 H L la a b c => va_get (D := (xG X).1) (ci := 3) (v := vv (xG X) (.ref k2)) (C := R_Re) (T := T_Re) (N := 7) C.1 C.2.1 C.hts i_Re C.own C.kn a k ((wl_get (xG X) h (kd_lt hk (by omega))).trans (by rw [e_Re hk])) rfl 6 (by omega) (C.hts _ hl) (fun _ z => z) (by subst h2; rfl) d (kk q1 q2 H L la a b c)
theorem gf_He_cells (C : Cok X cc nL own ret) {k : Nat} {k2 : Nat} (h2 : k + 1 = k2) (hk : kd k = (4, 0)) {ix : Nat} (hl : Cond.fieldLink own ix R_He "cells" "[I" ∈ wx_tbl) (d : decode cc pc = .ok (.getfield ix, 3)) (kk : Wg X ce sl h ls (.ref k2 :: st) (pc + 3)) : Wg X ce sl h ls (.ref k :: st) pc := fun q1 q2 H L la a b c => va_get (D := (xG X).1) (ci := 4) (v := vv (xG X) (.ref k2)) (C := R_He) (T := T_He) (N := 8) C.1 C.2.1 C.hts i_He C.own C.kn a k ((wl_get (xG X) h (kd_lt hk (by omega))).trans (by rw [e_He hk])) rfl 0 (by omega) (C.hts _ hl) (fun _ z => z) (by subst h2; rfl) d (kk q1 q2 H L la a b c)
theorem gf_He_registers (C : Cok X cc nL own ret) {k : Nat} {k2 : Nat} (h2 : k + 2 = k2) (hk : kd k = (4, 0)) {ix : Nat} (hl : Cond.fieldLink own ix R_He "registers" "[I" ∈ wx_tbl) (d : decode cc pc = .ok (.getfield ix, 3)) (kk : Wg X ce sl h ls (.ref k2 :: st) (pc + 3)) : Wg X ce sl h ls (.ref k :: st) pc := fun q1 q2 H L la a b c => va_get (D := (xG X).1) (ci := 4) (v := vv (xG X) (.ref k2)) (C := R_He) (T := T_He) (N := 8) C.1 C.2.1 C.hts i_He C.own C.kn a k ((wl_get (xG X) h (kd_lt hk (by omega))).trans (by rw [e_He hk])) rfl 1 (by omega) (C.hts _ hl) (fun _ z => z) (by subst h2; rfl) d (kk q1 q2 H L la a b c)
theorem gf_He_top (C : Cok X cc nL own ret) {k : Nat} (hk : kd k = (4, 0)) {ix : Nat} (hl : Cond.fieldLink own ix R_He "top" "I" ∈ wx_tbl) (d : decode cc pc = .ok (.getfield ix, 3)) (kk : Wg X ce sl h ls (.int (h k 2) :: st) (pc + 3)) : Wg X ce sl h ls (.ref k :: st) pc := fun q1 q2 H L la a b c => va_get (D := (xG X).1) (ci := 4) (v := vv (xG X) (.int (h k 2))) (C := R_He) (T := T_He) (N := 8) C.1 C.2.1 C.hts i_He C.own C.kn a k ((wl_get (xG X) h (kd_lt hk (by omega))).trans (by rw [e_He hk])) rfl 2 (by omega) (C.hts _ hl) (fun _ z => z) rfl d (kk q1 q2 H L la a b c)
theorem pf_He_top (C : Cok X cc nL own ret) {k : Nat} (hk : kd k = (4, 0)) {v : Int32} {ix : Nat} (hl : Cond.fieldLink own ix R_He "top" "I" ∈ wx_tbl) (d : decode cc pc = .ok (.putfield ix, 3)) (kk : Wg X ce sl (up h k 2 v) ls st (pc + 3)) : Wg X ce sl h ls (.int v :: .ref k :: st) pc := fun q1 q2 H L la a b c => va_put (D := (xG X).1) (ci := 4) (v := .int v) (ty := .int) (C := R_He) (T := T_He) (N := 8) C.1 C.2.1 C.hts i_He t_He p_He n_He C.own C.kn a (wl_D C.gok h) b k ((wl_get (xG X) h (kd_lt hk (by omega))).trans (by rw [e_He hk])) rfl 2 (by omega) (C.hts _ hl) (fun _ z => z) rfl (by decide +kernel) rfl rfl (by show 2 < 8; omega) d (fun H2 L2 a2 _ b2 => kk q1 q2 H2 L2 la (by rw [wl_set (xG X) h (upd (h k) 2 v) (by rw [e_He hk]; simp [smap, vv, upd])] at a2; exact a2) b2 c)
theorem gf_He_collections (C : Cok X cc nL own ret) {k : Nat} (hk : kd k = (4, 0)) {ix : Nat} (hl : Cond.fieldLink own ix R_He "collections" "I" ∈ wx_tbl) (d : decode cc pc = .ok (.getfield ix, 3)) (kk : Wg X ce sl h ls (.int (h k 3) :: st) (pc + 3)) : Wg X ce sl h ls (.ref k :: st) pc := fun q1 q2 H L la a b c => va_get (D := (xG X).1) (ci := 4) (v := vv (xG X) (.int (h k 3))) (C := R_He) (T := T_He) (N := 8) C.1 C.2.1 C.hts i_He C.own C.kn a k ((wl_get (xG X) h (kd_lt hk (by omega))).trans (by rw [e_He hk])) rfl 3 (by omega) (C.hts _ hl) (fun _ z => z) rfl d (kk q1 q2 H L la a b c)
theorem pf_He_collections (C : Cok X cc nL own ret) {k : Nat} (hk : kd k = (4, 0)) {v : Int32} {ix : Nat} (hl : Cond.fieldLink own ix R_He "collections" "I" ∈ wx_tbl) (d : decode cc pc = .ok (.putfield ix, 3)) (kk : Wg X ce sl (up h k 3 v) ls st (pc + 3)) : Wg X ce sl h ls (.int v :: .ref k :: st) pc := fun q1 q2 H L la a b c => va_put (D := (xG X).1) (ci := 4) (v := .int v) (ty := .int) (C := R_He) (T := T_He) (N := 8) C.1 C.2.1 C.hts i_He t_He p_He n_He C.own C.kn a (wl_D C.gok h) b k ((wl_get (xG X) h (kd_lt hk (by omega))).trans (by rw [e_He hk])) rfl 3 (by omega) (C.hts _ hl) (fun _ z => z) rfl (by decide +kernel) rfl rfl (by show 3 < 8; omega) d (fun H2 L2 a2 _ b2 => kk q1 q2 H2 L2 la (by rw [wl_set (xG X) h (upd (h k) 3 v) (by rw [e_He hk]; simp [smap, vv, upd])] at a2; exact a2) b2 c)
theorem gf_He_lives (C : Cok X cc nL own ret) {k : Nat} {k2 : Nat} (h2 : k + 3 = k2) (hk : kd k = (4, 0)) {ix : Nat} (hl : Cond.fieldLink own ix R_He "lives" "[Z" ∈ wx_tbl) (d : decode cc pc = .ok (.getfield ix, 3)) (kk : Wg X ce sl h ls (.ref k2 :: st) (pc + 3)) : Wg X ce sl h ls (.ref k :: st) pc := fun q1 q2 H L la a b c => va_get (D := (xG X).1) (ci := 4) (v := vv (xG X) (.ref k2)) (C := R_He) (T := T_He) (N := 8) C.1 C.2.1 C.hts i_He C.own C.kn a k ((wl_get (xG X) h (kd_lt hk (by omega))).trans (by rw [e_He hk])) rfl 4 (by omega) (C.hts _ hl) (fun _ z => z) (by subst h2; rfl) d (kk q1 q2 H L la a b c)
theorem gf_He_newPlace (C : Cok X cc nL own ret) {k : Nat} {k2 : Nat} (h2 : k + 4 = k2) (hk : kd k = (4, 0)) {ix : Nat} (hl : Cond.fieldLink own ix R_He "newPlace" "[I" ∈ wx_tbl) (d : decode cc pc = .ok (.getfield ix, 3)) (kk : Wg X ce sl h ls (.ref k2 :: st) (pc + 3)) : Wg X ce sl h ls (.ref k :: st) pc := fun q1 q2 H L la a b c => va_get (D := (xG X).1) (ci := 4) (v := vv (xG X) (.ref k2)) (C := R_He) (T := T_He) (N := 8) C.1 C.2.1 C.hts i_He C.own C.kn a k ((wl_get (xG X) h (kd_lt hk (by omega))).trans (by rw [e_He hk])) rfl 5 (by omega) (C.hts _ hl) (fun _ z => z) (by subst h2; rfl) d (kk q1 q2 H L la a b c)
theorem gf_He_found (C : Cok X cc nL own ret) {k : Nat} {k2 : Nat} (h2 : k + 5 = k2) (hk : kd k = (4, 0)) {ix : Nat} (hl : Cond.fieldLink own ix R_He "found" "[I" ∈ wx_tbl) (d : decode cc pc = .ok (.getfield ix, 3)) (kk : Wg X ce sl h ls (.ref k2 :: st) (pc + 3)) : Wg X ce sl h ls (.ref k :: st) pc := fun q1 q2 H L la a b c => va_get (D := (xG X).1) (ci := 4) (v := vv (xG X) (.ref k2)) (C := R_He) (T := T_He) (N := 8) C.1 C.2.1 C.hts i_He C.own C.kn a k ((wl_get (xG X) h (kd_lt hk (by omega))).trans (by rw [e_He hk])) rfl 6 (by omega) (C.hts _ hl) (fun _ z => z) (by subst h2; rfl) d (kk q1 q2 H L la a b c)
theorem gf_He_foundCount (C : Cok X cc nL own ret) {k : Nat} (hk : kd k = (4, 0)) {ix : Nat} (hl : Cond.fieldLink own ix R_He "foundCount" "I" ∈ wx_tbl) (d : decode cc pc = .ok (.getfield ix, 3)) (kk : Wg X ce sl h ls (.int (h k 7) :: st) (pc + 3)) : Wg X ce sl h ls (.ref k :: st) pc := fun q1 q2 H L la a b c => va_get (D := (xG X).1) (ci := 4) (v := vv (xG X) (.int (h k 7))) (C := R_He) (T := T_He) (N := 8) C.1 C.2.1 C.hts i_He C.own C.kn a k ((wl_get (xG X) h (kd_lt hk (by omega))).trans (by rw [e_He hk])) rfl 7 (by omega) (C.hts _ hl) (fun _ z => z) rfl d (kk q1 q2 H L la a b c)
theorem pf_He_foundCount (C : Cok X cc nL own ret) {k : Nat} (hk : kd k = (4, 0)) {v : Int32} {ix : Nat} (hl : Cond.fieldLink own ix R_He "foundCount" "I" ∈ wx_tbl) (d : decode cc pc = .ok (.putfield ix, 3)) (kk : Wg X ce sl (up h k 7 v) ls st (pc + 3)) : Wg X ce sl h ls (.int v :: .ref k :: st) pc := fun q1 q2 H L la a b c => va_put (D := (xG X).1) (ci := 4) (v := .int v) (ty := .int) (C := R_He) (T := T_He) (N := 8) C.1 C.2.1 C.hts i_He t_He p_He n_He C.own C.kn a (wl_D C.gok h) b k ((wl_get (xG X) h (kd_lt hk (by omega))).trans (by rw [e_He hk])) rfl 7 (by omega) (C.hts _ hl) (fun _ z => z) rfl (by decide +kernel) rfl rfl (by show 7 < 8; omega) d (fun H2 L2 a2 _ b2 => kk q1 q2 H2 L2 la (by rw [wl_set (xG X) h (upd (h k) 7 v) (by rw [e_He hk]; simp [smap, vv, upd])] at a2; exact a2) b2 c)
theorem gf_Li_text (C : Cok X cc nL own ret) {k : Nat} {k2 : Nat} (h2 : k + 1 = k2) (hk : kd k = (5, 0)) {ix : Nat} (hl : Cond.fieldLink own ix R_Li "text" "[C" ∈ wx_tbl) (d : decode cc pc = .ok (.getfield ix, 3)) (kk : Wg X ce sl h ls (.ref k2 :: st) (pc + 3)) : Wg X ce sl h ls (.ref k :: st) pc := fun q1 q2 H L la a b c => va_get (D := (xG X).1) (ci := 5) (v := vv (xG X) (.ref k2)) (C := R_Li) (T := T_Li) (N := 2) C.1 C.2.1 C.hts i_Li C.own C.kn a k ((wl_get (xG X) h (kd_lt hk (by omega))).trans (by rw [e_Li hk])) rfl 0 (by omega) (C.hts _ hl) (fun _ z => z) (by subst h2; rfl) d (kk q1 q2 H L la a b c)
theorem gf_Li_length (C : Cok X cc nL own ret) {k : Nat} (hk : kd k = (5, 0)) {ix : Nat} (hl : Cond.fieldLink own ix R_Li "length" "I" ∈ wx_tbl) (d : decode cc pc = .ok (.getfield ix, 3)) (kk : Wg X ce sl h ls (.int (h k 1) :: st) (pc + 3)) : Wg X ce sl h ls (.ref k :: st) pc := fun q1 q2 H L la a b c => va_get (D := (xG X).1) (ci := 5) (v := vv (xG X) (.int (h k 1))) (C := R_Li) (T := T_Li) (N := 2) C.1 C.2.1 C.hts i_Li C.own C.kn a k ((wl_get (xG X) h (kd_lt hk (by omega))).trans (by rw [e_Li hk])) rfl 1 (by omega) (C.hts _ hl) (fun _ z => z) rfl d (kk q1 q2 H L la a b c)
theorem pf_Li_length (C : Cok X cc nL own ret) {k : Nat} (hk : kd k = (5, 0)) {v : Int32} {ix : Nat} (hl : Cond.fieldLink own ix R_Li "length" "I" ∈ wx_tbl) (d : decode cc pc = .ok (.putfield ix, 3)) (kk : Wg X ce sl (up h k 1 v) ls st (pc + 3)) : Wg X ce sl h ls (.int v :: .ref k :: st) pc := fun q1 q2 H L la a b c => va_put (D := (xG X).1) (ci := 5) (v := .int v) (ty := .int) (C := R_Li) (T := T_Li) (N := 2) C.1 C.2.1 C.hts i_Li t_Li p_Li n_Li C.own C.kn a (wl_D C.gok h) b k ((wl_get (xG X) h (kd_lt hk (by omega))).trans (by rw [e_Li hk])) rfl 1 (by omega) (C.hts _ hl) (fun _ z => z) rfl (by decide +kernel) rfl rfl (by show 1 < 2; omega) d (fun H2 L2 a2 _ b2 => kk q1 q2 H2 L2 la (by rw [wl_set (xG X) h (upd (h k) 1 v) (by rw [e_Li hk]; simp [smap, vv, upd])] at a2; exact a2) b2 c)
theorem gf_Pr_text (C : Cok X cc nL own ret) {k : Nat} {k2 : Nat} (h2 : k + 1 = k2) (hk : kd k = (6, 0)) {ix : Nat} (hl : Cond.fieldLink own ix R_Pr "text" "[C" ∈ wx_tbl) (d : decode cc pc = .ok (.getfield ix, 3)) (kk : Wg X ce sl h ls (.ref k2 :: st) (pc + 3)) : Wg X ce sl h ls (.ref k :: st) pc := fun q1 q2 H L la a b c => va_get (D := (xG X).1) (ci := 6) (v := vv (xG X) (.ref k2)) (C := R_Pr) (T := T_Pr) (N := 7) C.1 C.2.1 C.hts i_Pr C.own C.kn a k ((wl_get (xG X) h (kd_lt hk (by omega))).trans (by rw [e_Pr hk])) rfl 0 (by omega) (C.hts _ hl) (fun _ z => z) (by subst h2; rfl) d (kk q1 q2 H L la a b c)
theorem gf_Pr_length (C : Cok X cc nL own ret) {k : Nat} (hk : kd k = (6, 0)) {ix : Nat} (hl : Cond.fieldLink own ix R_Pr "length" "I" ∈ wx_tbl) (d : decode cc pc = .ok (.getfield ix, 3)) (kk : Wg X ce sl h ls (.int (h k 1) :: st) (pc + 3)) : Wg X ce sl h ls (.ref k :: st) pc := fun q1 q2 H L la a b c => va_get (D := (xG X).1) (ci := 6) (v := vv (xG X) (.int (h k 1))) (C := R_Pr) (T := T_Pr) (N := 7) C.1 C.2.1 C.hts i_Pr C.own C.kn a k ((wl_get (xG X) h (kd_lt hk (by omega))).trans (by rw [e_Pr hk])) rfl 1 (by omega) (C.hts _ hl) (fun _ z => z) rfl d (kk q1 q2 H L la a b c)
theorem pf_Pr_length (C : Cok X cc nL own ret) {k : Nat} (hk : kd k = (6, 0)) {v : Int32} {ix : Nat} (hl : Cond.fieldLink own ix R_Pr "length" "I" ∈ wx_tbl) (d : decode cc pc = .ok (.putfield ix, 3)) (kk : Wg X ce sl (up h k 1 v) ls st (pc + 3)) : Wg X ce sl h ls (.int v :: .ref k :: st) pc := fun q1 q2 H L la a b c => va_put (D := (xG X).1) (ci := 6) (v := .int v) (ty := .int) (C := R_Pr) (T := T_Pr) (N := 7) C.1 C.2.1 C.hts i_Pr t_Pr p_Pr n_Pr C.own C.kn a (wl_D C.gok h) b k ((wl_get (xG X) h (kd_lt hk (by omega))).trans (by rw [e_Pr hk])) rfl 1 (by omega) (C.hts _ hl) (fun _ z => z) rfl (by decide +kernel) rfl rfl (by show 1 < 7; omega) d (fun H2 L2 a2 _ b2 => kk q1 q2 H2 L2 la (by rw [wl_set (xG X) h (upd (h k) 1 v) (by rw [e_Pr hk]; simp [smap, vv, upd])] at a2; exact a2) b2 c)
theorem gf_Pr_overran (C : Cok X cc nL own ret) {k : Nat} (hk : kd k = (6, 0)) {ix : Nat} (hl : Cond.fieldLink own ix R_Pr "overran" "Z" ∈ wx_tbl) (d : decode cc pc = .ok (.getfield ix, 3)) (kk : Wg X ce sl h ls (.int (h k 2) :: st) (pc + 3)) : Wg X ce sl h ls (.ref k :: st) pc := fun q1 q2 H L la a b c => va_get (D := (xG X).1) (ci := 6) (v := vv (xG X) (.int (h k 2))) (C := R_Pr) (T := T_Pr) (N := 7) C.1 C.2.1 C.hts i_Pr C.own C.kn a k ((wl_get (xG X) h (kd_lt hk (by omega))).trans (by rw [e_Pr hk])) rfl 2 (by omega) (C.hts _ hl) (fun _ z => z) rfl d (kk q1 q2 H L la a b c)
theorem pf_Pr_overran (C : Cok X cc nL own ret) {k : Nat} (hk : kd k = (6, 0)) {v : Int32} (hb : v = 0 ∨ v = 1) {ix : Nat} (hl : Cond.fieldLink own ix R_Pr "overran" "Z" ∈ wx_tbl) (d : decode cc pc = .ok (.putfield ix, 3)) (kk : Wg X ce sl (up h k 2 v) ls st (pc + 3)) : Wg X ce sl h ls (.int v :: .ref k :: st) pc := fun q1 q2 H L la a b c => va_put (D := (xG X).1) (ci := 6) (v := .int v) (ty := .boolean) (C := R_Pr) (T := T_Pr) (N := 7) C.1 C.2.1 C.hts i_Pr t_Pr p_Pr n_Pr C.own C.kn a (wl_D C.gok h) b k ((wl_get (xG X) h (kd_lt hk (by omega))).trans (by rw [e_Pr hk])) rfl 2 (by omega) (C.hts _ hl) (fun _ z => z) rfl (by decide +kernel) (by rcases hb with rfl | rfl <;> rfl) (by rcases hb with rfl | rfl <;> rfl) (by show 2 < 7; omega) d (fun H2 L2 a2 _ b2 => kk q1 q2 H2 L2 la (by rw [wl_set (xG X) h (upd (h k) 2 v) (by rw [e_Pr hk]; simp [smap, vv, upd])] at a2; exact a2) b2 c)
theorem gf_Pr_rests (C : Cok X cc nL own ret) {k : Nat} {k2 : Nat} (h2 : k + 2 = k2) (hk : kd k = (6, 0)) {ix : Nat} (hl : Cond.fieldLink own ix R_Pr "rests" "[I" ∈ wx_tbl) (d : decode cc pc = .ok (.getfield ix, 3)) (kk : Wg X ce sl h ls (.ref k2 :: st) (pc + 3)) : Wg X ce sl h ls (.ref k :: st) pc := fun q1 q2 H L la a b c => va_get (D := (xG X).1) (ci := 6) (v := vv (xG X) (.ref k2)) (C := R_Pr) (T := T_Pr) (N := 7) C.1 C.2.1 C.hts i_Pr C.own C.kn a k ((wl_get (xG X) h (kd_lt hk (by omega))).trans (by rw [e_Pr hk])) rfl 3 (by omega) (C.hts _ hl) (fun _ z => z) (by subst h2; rfl) d (kk q1 q2 H L la a b c)
theorem gf_Pr_open (C : Cok X cc nL own ret) {k : Nat} (hk : kd k = (6, 0)) {ix : Nat} (hl : Cond.fieldLink own ix R_Pr "open" "I" ∈ wx_tbl) (d : decode cc pc = .ok (.getfield ix, 3)) (kk : Wg X ce sl h ls (.int (h k 4) :: st) (pc + 3)) : Wg X ce sl h ls (.ref k :: st) pc := fun q1 q2 H L la a b c => va_get (D := (xG X).1) (ci := 6) (v := vv (xG X) (.int (h k 4))) (C := R_Pr) (T := T_Pr) (N := 7) C.1 C.2.1 C.hts i_Pr C.own C.kn a k ((wl_get (xG X) h (kd_lt hk (by omega))).trans (by rw [e_Pr hk])) rfl 4 (by omega) (C.hts _ hl) (fun _ z => z) rfl d (kk q1 q2 H L la a b c)
theorem pf_Pr_open (C : Cok X cc nL own ret) {k : Nat} (hk : kd k = (6, 0)) {v : Int32} {ix : Nat} (hl : Cond.fieldLink own ix R_Pr "open" "I" ∈ wx_tbl) (d : decode cc pc = .ok (.putfield ix, 3)) (kk : Wg X ce sl (up h k 4 v) ls st (pc + 3)) : Wg X ce sl h ls (.int v :: .ref k :: st) pc := fun q1 q2 H L la a b c => va_put (D := (xG X).1) (ci := 6) (v := .int v) (ty := .int) (C := R_Pr) (T := T_Pr) (N := 7) C.1 C.2.1 C.hts i_Pr t_Pr p_Pr n_Pr C.own C.kn a (wl_D C.gok h) b k ((wl_get (xG X) h (kd_lt hk (by omega))).trans (by rw [e_Pr hk])) rfl 4 (by omega) (C.hts _ hl) (fun _ z => z) rfl (by decide +kernel) rfl rfl (by show 4 < 7; omega) d (fun H2 L2 a2 _ b2 => kk q1 q2 H2 L2 la (by rw [wl_set (xG X) h (upd (h k) 4 v) (by rw [e_Pr hk]; simp [smap, vv, upd])] at a2; exact a2) b2 c)
theorem gf_Pr_shrinking (C : Cok X cc nL own ret) {k : Nat} {k2 : Nat} (h2 : k + 3 = k2) (hk : kd k = (6, 0)) {ix : Nat} (hl : Cond.fieldLink own ix R_Pr "shrinking" "LCellHeap$Whole;" ∈ wx_tbl) (d : decode cc pc = .ok (.getfield ix, 3)) (kk : Wg X ce sl h ls (.ref k2 :: st) (pc + 3)) : Wg X ce sl h ls (.ref k :: st) pc := fun q1 q2 H L la a b c => va_get (D := (xG X).1) (ci := 6) (v := vv (xG X) (.ref k2)) (C := R_Pr) (T := T_Pr) (N := 7) C.1 C.2.1 C.hts i_Pr C.own C.kn a k ((wl_get (xG X) h (kd_lt hk (by omega))).trans (by rw [e_Pr hk])) rfl 5 (by omega) (C.hts _ hl) (fun _ z => z) (by subst h2; rfl) d (kk q1 q2 H L la a b c)
theorem gf_Pr_digits (C : Cok X cc nL own ret) {k : Nat} {k2 : Nat} (h2 : k + 5 = k2) (hk : kd k = (6, 0)) {ix : Nat} (hl : Cond.fieldLink own ix R_Pr "digits" "[C" ∈ wx_tbl) (d : decode cc pc = .ok (.getfield ix, 3)) (kk : Wg X ce sl h ls (.ref k2 :: st) (pc + 3)) : Wg X ce sl h ls (.ref k :: st) pc := fun q1 q2 H L la a b c => va_get (D := (xG X).1) (ci := 6) (v := vv (xG X) (.ref k2)) (C := R_Pr) (T := T_Pr) (N := 7) C.1 C.2.1 C.hts i_Pr C.own C.kn a k ((wl_get (xG X) h (kd_lt hk (by omega))).trans (by rw [e_Pr hk])) rfl 6 (by omega) (C.hts _ hl) (fun _ z => z) (by subst h2; rfl) d (kk q1 q2 H L la a b c)
theorem gf_Ce_heap (C : Cok X cc nL own ret) {k : Nat} {k2 : Nat} (h2 : k + 1 = k2) (hk : kd k = (7, 0)) {ix : Nat} (hl : Cond.fieldLink own ix R_Ce "heap" "LCellHeap$Heap;" ∈ wx_tbl) (d : decode cc pc = .ok (.getfield ix, 3)) (kk : Wg X ce sl h ls (.ref k2 :: st) (pc + 3)) : Wg X ce sl h ls (.ref k :: st) pc := fun q1 q2 H L la a b c => va_get (D := (xG X).1) (ci := 7) (v := vv (xG X) (.ref k2)) (C := R_Ce) (T := T_Ce) (N := 4) C.1 C.2.1 C.hts i_Ce C.own C.kn a k ((wl_get (xG X) h (kd_lt hk (by omega))).trans (by rw [e_Ce hk])) rfl 0 (by omega) (C.hts _ hl) (fun _ z => z) (by subst h2; rfl) d (kk q1 q2 H L la a b c)
theorem gf_Ce_line (C : Cok X cc nL own ret) {k : Nat} {k2 : Nat} (h2 : k + 7 = k2) (hk : kd k = (7, 0)) {ix : Nat} (hl : Cond.fieldLink own ix R_Ce "line" "LCellHeap$Line;" ∈ wx_tbl) (d : decode cc pc = .ok (.getfield ix, 3)) (kk : Wg X ce sl h ls (.ref k2 :: st) (pc + 3)) : Wg X ce sl h ls (.ref k :: st) pc := fun q1 q2 H L la a b c => va_get (D := (xG X).1) (ci := 7) (v := vv (xG X) (.ref k2)) (C := R_Ce) (T := T_Ce) (N := 4) C.1 C.2.1 C.hts i_Ce C.own C.kn a k ((wl_get (xG X) h (kd_lt hk (by omega))).trans (by rw [e_Ce hk])) rfl 1 (by omega) (C.hts _ hl) (fun _ z => z) (by subst h2; rfl) d (kk q1 q2 H L la a b c)
theorem gf_Ce_reckoner (C : Cok X cc nL own ret) {k : Nat} {k2 : Nat} (h2 : k + 9 = k2) (hk : kd k = (7, 0)) {ix : Nat} (hl : Cond.fieldLink own ix R_Ce "reckoner" "LCellHeap$Reckoner;" ∈ wx_tbl) (d : decode cc pc = .ok (.getfield ix, 3)) (kk : Wg X ce sl h ls (.ref k2 :: st) (pc + 3)) : Wg X ce sl h ls (.ref k :: st) pc := fun q1 q2 H L la a b c => va_get (D := (xG X).1) (ci := 7) (v := vv (xG X) (.ref k2)) (C := R_Ce) (T := T_Ce) (N := 4) C.1 C.2.1 C.hts i_Ce C.own C.kn a k ((wl_get (xG X) h (kd_lt hk (by omega))).trans (by rw [e_Ce hk])) rfl 2 (by omega) (C.hts _ hl) (fun _ z => z) (by subst h2; rfl) d (kk q1 q2 H L la a b c)
theorem gf_Ce_printer (C : Cok X cc nL own ret) {k : Nat} {k2 : Nat} (h2 : k + 38 = k2) (hk : kd k = (7, 0)) {ix : Nat} (hl : Cond.fieldLink own ix R_Ce "printer" "LCellHeap$Printer;" ∈ wx_tbl) (d : decode cc pc = .ok (.getfield ix, 3)) (kk : Wg X ce sl h ls (.ref k2 :: st) (pc + 3)) : Wg X ce sl h ls (.ref k :: st) pc := fun q1 q2 H L la a b c => va_get (D := (xG X).1) (ci := 7) (v := vv (xG X) (.ref k2)) (C := R_Ce) (T := T_Ce) (N := 4) C.1 C.2.1 C.hts i_Ce C.own C.kn a k ((wl_get (xG X) h (kd_lt hk (by omega))).trans (by rw [e_Ce hk])) rfl 3 (by omega) (C.hts _ hl) (fun _ z => z) (by subst h2; rfl) d (kk q1 q2 H L la a b c)
theorem gf_Mo_refusal (C : Cok X cc nL own ret) {k : Nat} (hk : kd k = (8, 0)) {ix : Nat} (hl : Cond.fieldLink own ix R_Mo "refusal" "I" ∈ wx_tbl) (d : decode cc pc = .ok (.getfield ix, 3)) (kk : Wg X ce sl h ls (.int (h k 0) :: st) (pc + 3)) : Wg X ce sl h ls (.ref k :: st) pc := fun q1 q2 H L la a b c => va_get (D := (xG X).1) (ci := 8) (v := vv (xG X) (.int (h k 0))) (C := R_Mo) (T := T_Mo) (N := 21) C.1 C.2.1 C.hts i_Mo C.own C.kn a k ((wl_get (xG X) h (kd_lt hk (by omega))).trans (by rw [e_Mo hk])) rfl 0 (by omega) (C.hts _ hl) (fun _ z => z) rfl d (kk q1 q2 H L la a b c)
theorem pf_Mo_refusal (C : Cok X cc nL own ret) {k : Nat} (hk : kd k = (8, 0)) {v : Int32} {ix : Nat} (hl : Cond.fieldLink own ix R_Mo "refusal" "I" ∈ wx_tbl) (d : decode cc pc = .ok (.putfield ix, 3)) (kk : Wg X ce sl (up h k 0 v) ls st (pc + 3)) : Wg X ce sl h ls (.int v :: .ref k :: st) pc := fun q1 q2 H L la a b c => va_put (D := (xG X).1) (ci := 8) (v := .int v) (ty := .int) (C := R_Mo) (T := T_Mo) (N := 21) C.1 C.2.1 C.hts i_Mo t_Mo p_Mo n_Mo C.own C.kn a (wl_D C.gok h) b k ((wl_get (xG X) h (kd_lt hk (by omega))).trans (by rw [e_Mo hk])) rfl 0 (by omega) (C.hts _ hl) (fun _ z => z) rfl (by decide +kernel) rfl rfl (by show 0 < 21; omega) d (fun H2 L2 a2 _ b2 => kk q1 q2 H2 L2 la (by rw [wl_set (xG X) h (upd (h k) 0 v) (by rw [e_Mo hk]; simp [smap, vv, upd])] at a2; exact a2) b2 c)
theorem gf_Mo_valueSort (C : Cok X cc nL own ret) {k : Nat} {k2 : Nat} (h2 : k + 1 = k2) (hk : kd k = (8, 0)) {ix : Nat} (hl : Cond.fieldLink own ix R_Mo "valueSort" "[I" ∈ wx_tbl) (d : decode cc pc = .ok (.getfield ix, 3)) (kk : Wg X ce sl h ls (.ref k2 :: st) (pc + 3)) : Wg X ce sl h ls (.ref k :: st) pc := fun q1 q2 H L la a b c => va_get (D := (xG X).1) (ci := 8) (v := vv (xG X) (.ref k2)) (C := R_Mo) (T := T_Mo) (N := 21) C.1 C.2.1 C.hts i_Mo C.own C.kn a k ((wl_get (xG X) h (kd_lt hk (by omega))).trans (by rw [e_Mo hk])) rfl 1 (by omega) (C.hts _ hl) (fun _ z => z) (by subst h2; rfl) d (kk q1 q2 H L la a b c)
theorem gf_Mo_valueOf (C : Cok X cc nL own ret) {k : Nat} {k2 : Nat} (h2 : k + 2 = k2) (hk : kd k = (8, 0)) {ix : Nat} (hl : Cond.fieldLink own ix R_Mo "valueOf" "[I" ∈ wx_tbl) (d : decode cc pc = .ok (.getfield ix, 3)) (kk : Wg X ce sl h ls (.ref k2 :: st) (pc + 3)) : Wg X ce sl h ls (.ref k :: st) pc := fun q1 q2 H L la a b c => va_get (D := (xG X).1) (ci := 8) (v := vv (xG X) (.ref k2)) (C := R_Mo) (T := T_Mo) (N := 21) C.1 C.2.1 C.hts i_Mo C.own C.kn a k ((wl_get (xG X) h (kd_lt hk (by omega))).trans (by rw [e_Mo hk])) rfl 2 (by omega) (C.hts _ hl) (fun _ z => z) (by subst h2; rfl) d (kk q1 q2 H L la a b c)
theorem gf_Mo_many (C : Cok X cc nL own ret) {k : Nat} (hk : kd k = (8, 0)) {ix : Nat} (hl : Cond.fieldLink own ix R_Mo "many" "I" ∈ wx_tbl) (d : decode cc pc = .ok (.getfield ix, 3)) (kk : Wg X ce sl h ls (.int (h k 3) :: st) (pc + 3)) : Wg X ce sl h ls (.ref k :: st) pc := fun q1 q2 H L la a b c => va_get (D := (xG X).1) (ci := 8) (v := vv (xG X) (.int (h k 3))) (C := R_Mo) (T := T_Mo) (N := 21) C.1 C.2.1 C.hts i_Mo C.own C.kn a k ((wl_get (xG X) h (kd_lt hk (by omega))).trans (by rw [e_Mo hk])) rfl 3 (by omega) (C.hts _ hl) (fun _ z => z) rfl d (kk q1 q2 H L la a b c)
theorem pf_Mo_many (C : Cok X cc nL own ret) {k : Nat} (hk : kd k = (8, 0)) {v : Int32} {ix : Nat} (hl : Cond.fieldLink own ix R_Mo "many" "I" ∈ wx_tbl) (d : decode cc pc = .ok (.putfield ix, 3)) (kk : Wg X ce sl (up h k 3 v) ls st (pc + 3)) : Wg X ce sl h ls (.int v :: .ref k :: st) pc := fun q1 q2 H L la a b c => va_put (D := (xG X).1) (ci := 8) (v := .int v) (ty := .int) (C := R_Mo) (T := T_Mo) (N := 21) C.1 C.2.1 C.hts i_Mo t_Mo p_Mo n_Mo C.own C.kn a (wl_D C.gok h) b k ((wl_get (xG X) h (kd_lt hk (by omega))).trans (by rw [e_Mo hk])) rfl 3 (by omega) (C.hts _ hl) (fun _ z => z) rfl (by decide +kernel) rfl rfl (by show 3 < 21; omega) d (fun H2 L2 a2 _ b2 => kk q1 q2 H2 L2 la (by rw [wl_set (xG X) h (upd (h k) 3 v) (by rw [e_Mo hk]; simp [smap, vv, upd])] at a2; exact a2) b2 c)
theorem gf_Mo_order (C : Cok X cc nL own ret) {k : Nat} {k2 : Nat} (h2 : k + 3 = k2) (hk : kd k = (8, 0)) {ix : Nat} (hl : Cond.fieldLink own ix R_Mo "order" "[I" ∈ wx_tbl) (d : decode cc pc = .ok (.getfield ix, 3)) (kk : Wg X ce sl h ls (.ref k2 :: st) (pc + 3)) : Wg X ce sl h ls (.ref k :: st) pc := fun q1 q2 H L la a b c => va_get (D := (xG X).1) (ci := 8) (v := vv (xG X) (.ref k2)) (C := R_Mo) (T := T_Mo) (N := 21) C.1 C.2.1 C.hts i_Mo C.own C.kn a k ((wl_get (xG X) h (kd_lt hk (by omega))).trans (by rw [e_Mo hk])) rfl 4 (by omega) (C.hts _ hl) (fun _ z => z) (by subst h2; rfl) d (kk q1 q2 H L la a b c)
theorem gf_Mo_sort (C : Cok X cc nL own ret) {k : Nat} {k2 : Nat} (h2 : k + 4 = k2) (hk : kd k = (8, 0)) {ix : Nat} (hl : Cond.fieldLink own ix R_Mo "sort" "[I" ∈ wx_tbl) (d : decode cc pc = .ok (.getfield ix, 3)) (kk : Wg X ce sl h ls (.ref k2 :: st) (pc + 3)) : Wg X ce sl h ls (.ref k :: st) pc := fun q1 q2 H L la a b c => va_get (D := (xG X).1) (ci := 8) (v := vv (xG X) (.ref k2)) (C := R_Mo) (T := T_Mo) (N := 21) C.1 C.2.1 C.hts i_Mo C.own C.kn a k ((wl_get (xG X) h (kd_lt hk (by omega))).trans (by rw [e_Mo hk])) rfl 5 (by omega) (C.hts _ hl) (fun _ z => z) (by subst h2; rfl) d (kk q1 q2 H L la a b c)
theorem gf_Mo_cells (C : Cok X cc nL own ret) {k : Nat} {k2 : Nat} (h2 : k + 5 = k2) (hk : kd k = (8, 0)) {ix : Nat} (hl : Cond.fieldLink own ix R_Mo "cells" "[I" ∈ wx_tbl) (d : decode cc pc = .ok (.getfield ix, 3)) (kk : Wg X ce sl h ls (.ref k2 :: st) (pc + 3)) : Wg X ce sl h ls (.ref k :: st) pc := fun q1 q2 H L la a b c => va_get (D := (xG X).1) (ci := 8) (v := vv (xG X) (.ref k2)) (C := R_Mo) (T := T_Mo) (N := 21) C.1 C.2.1 C.hts i_Mo C.own C.kn a k ((wl_get (xG X) h (kd_lt hk (by omega))).trans (by rw [e_Mo hk])) rfl 6 (by omega) (C.hts _ hl) (fun _ z => z) (by subst h2; rfl) d (kk q1 q2 H L la a b c)
theorem gf_Mo_isMarked (C : Cok X cc nL own ret) {k : Nat} {k2 : Nat} (h2 : k + 6 = k2) (hk : kd k = (8, 0)) {ix : Nat} (hl : Cond.fieldLink own ix R_Mo "isMarked" "[Z" ∈ wx_tbl) (d : decode cc pc = .ok (.getfield ix, 3)) (kk : Wg X ce sl h ls (.ref k2 :: st) (pc + 3)) : Wg X ce sl h ls (.ref k :: st) pc := fun q1 q2 H L la a b c => va_get (D := (xG X).1) (ci := 8) (v := vv (xG X) (.ref k2)) (C := R_Mo) (T := T_Mo) (N := 21) C.1 C.2.1 C.hts i_Mo C.own C.kn a k ((wl_get (xG X) h (kd_lt hk (by omega))).trans (by rw [e_Mo hk])) rfl 7 (by omega) (C.hts _ hl) (fun _ z => z) (by subst h2; rfl) d (kk q1 q2 H L la a b c)
theorem gf_Mo_pile (C : Cok X cc nL own ret) {k : Nat} {k2 : Nat} (h2 : k + 7 = k2) (hk : kd k = (8, 0)) {ix : Nat} (hl : Cond.fieldLink own ix R_Mo "pile" "[I" ∈ wx_tbl) (d : decode cc pc = .ok (.getfield ix, 3)) (kk : Wg X ce sl h ls (.ref k2 :: st) (pc + 3)) : Wg X ce sl h ls (.ref k :: st) pc := fun q1 q2 H L la a b c => va_get (D := (xG X).1) (ci := 8) (v := vv (xG X) (.ref k2)) (C := R_Mo) (T := T_Mo) (N := 21) C.1 C.2.1 C.hts i_Mo C.own C.kn a k ((wl_get (xG X) h (kd_lt hk (by omega))).trans (by rw [e_Mo hk])) rfl 8 (by omega) (C.hts _ hl) (fun _ z => z) (by subst h2; rfl) d (kk q1 q2 H L la a b c)
theorem gf_Mo_top (C : Cok X cc nL own ret) {k : Nat} (hk : kd k = (8, 0)) {ix : Nat} (hl : Cond.fieldLink own ix R_Mo "top" "I" ∈ wx_tbl) (d : decode cc pc = .ok (.getfield ix, 3)) (kk : Wg X ce sl h ls (.int (h k 9) :: st) (pc + 3)) : Wg X ce sl h ls (.ref k :: st) pc := fun q1 q2 H L la a b c => va_get (D := (xG X).1) (ci := 8) (v := vv (xG X) (.int (h k 9))) (C := R_Mo) (T := T_Mo) (N := 21) C.1 C.2.1 C.hts i_Mo C.own C.kn a k ((wl_get (xG X) h (kd_lt hk (by omega))).trans (by rw [e_Mo hk])) rfl 9 (by omega) (C.hts _ hl) (fun _ z => z) rfl d (kk q1 q2 H L la a b c)
theorem pf_Mo_top (C : Cok X cc nL own ret) {k : Nat} (hk : kd k = (8, 0)) {v : Int32} {ix : Nat} (hl : Cond.fieldLink own ix R_Mo "top" "I" ∈ wx_tbl) (d : decode cc pc = .ok (.putfield ix, 3)) (kk : Wg X ce sl (up h k 9 v) ls st (pc + 3)) : Wg X ce sl h ls (.int v :: .ref k :: st) pc := fun q1 q2 H L la a b c => va_put (D := (xG X).1) (ci := 8) (v := .int v) (ty := .int) (C := R_Mo) (T := T_Mo) (N := 21) C.1 C.2.1 C.hts i_Mo t_Mo p_Mo n_Mo C.own C.kn a (wl_D C.gok h) b k ((wl_get (xG X) h (kd_lt hk (by omega))).trans (by rw [e_Mo hk])) rfl 9 (by omega) (C.hts _ hl) (fun _ z => z) rfl (by decide +kernel) rfl rfl (by show 9 < 21; omega) d (fun H2 L2 a2 _ b2 => kk q1 q2 H2 L2 la (by rw [wl_set (xG X) h (upd (h k) 9 v) (by rw [e_Mo hk]; simp [smap, vv, upd])] at a2; exact a2) b2 c)
theorem gf_Mo_collections (C : Cok X cc nL own ret) {k : Nat} (hk : kd k = (8, 0)) {ix : Nat} (hl : Cond.fieldLink own ix R_Mo "collections" "I" ∈ wx_tbl) (d : decode cc pc = .ok (.getfield ix, 3)) (kk : Wg X ce sl h ls (.int (h k 10) :: st) (pc + 3)) : Wg X ce sl h ls (.ref k :: st) pc := fun q1 q2 H L la a b c => va_get (D := (xG X).1) (ci := 8) (v := vv (xG X) (.int (h k 10))) (C := R_Mo) (T := T_Mo) (N := 21) C.1 C.2.1 C.hts i_Mo C.own C.kn a k ((wl_get (xG X) h (kd_lt hk (by omega))).trans (by rw [e_Mo hk])) rfl 10 (by omega) (C.hts _ hl) (fun _ z => z) rfl d (kk q1 q2 H L la a b c)
theorem pf_Mo_collections (C : Cok X cc nL own ret) {k : Nat} (hk : kd k = (8, 0)) {v : Int32} {ix : Nat} (hl : Cond.fieldLink own ix R_Mo "collections" "I" ∈ wx_tbl) (d : decode cc pc = .ok (.putfield ix, 3)) (kk : Wg X ce sl (up h k 10 v) ls st (pc + 3)) : Wg X ce sl h ls (.int v :: .ref k :: st) pc := fun q1 q2 H L la a b c => va_put (D := (xG X).1) (ci := 8) (v := .int v) (ty := .int) (C := R_Mo) (T := T_Mo) (N := 21) C.1 C.2.1 C.hts i_Mo t_Mo p_Mo n_Mo C.own C.kn a (wl_D C.gok h) b k ((wl_get (xG X) h (kd_lt hk (by omega))).trans (by rw [e_Mo hk])) rfl 10 (by omega) (C.hts _ hl) (fun _ z => z) rfl (by decide +kernel) rfl rfl (by show 10 < 21; omega) d (fun H2 L2 a2 _ b2 => kk q1 q2 H2 L2 la (by rw [wl_set (xG X) h (upd (h k) 10 v) (by rw [e_Mo hk]; simp [smap, vv, upd])] at a2; exact a2) b2 c)
theorem gf_Mo_limb (C : Cok X cc nL own ret) {k : Nat} {k2 : Nat} (h2 : k + 8 = k2) (hk : kd k = (8, 0)) {ix : Nat} (hl : Cond.fieldLink own ix R_Mo "limb" "[I" ∈ wx_tbl) (d : decode cc pc = .ok (.getfield ix, 3)) (kk : Wg X ce sl h ls (.ref k2 :: st) (pc + 3)) : Wg X ce sl h ls (.ref k :: st) pc := fun q1 q2 H L la a b c => va_get (D := (xG X).1) (ci := 8) (v := vv (xG X) (.ref k2)) (C := R_Mo) (T := T_Mo) (N := 21) C.1 C.2.1 C.hts i_Mo C.own C.kn a k ((wl_get (xG X) h (kd_lt hk (by omega))).trans (by rw [e_Mo hk])) rfl 11 (by omega) (C.hts _ hl) (fun _ z => z) (by subst h2; rfl) d (kk q1 q2 H L la a b c)
theorem gf_Mo_length (C : Cok X cc nL own ret) {k : Nat} {k2 : Nat} (h2 : k + 9 = k2) (hk : kd k = (8, 0)) {ix : Nat} (hl : Cond.fieldLink own ix R_Mo "length" "[I" ∈ wx_tbl) (d : decode cc pc = .ok (.getfield ix, 3)) (kk : Wg X ce sl h ls (.ref k2 :: st) (pc + 3)) : Wg X ce sl h ls (.ref k :: st) pc := fun q1 q2 H L la a b c => va_get (D := (xG X).1) (ci := 8) (v := vv (xG X) (.ref k2)) (C := R_Mo) (T := T_Mo) (N := 21) C.1 C.2.1 C.hts i_Mo C.own C.kn a k ((wl_get (xG X) h (kd_lt hk (by omega))).trans (by rw [e_Mo hk])) rfl 12 (by omega) (C.hts _ hl) (fun _ z => z) (by subst h2; rfl) d (kk q1 q2 H L la a b c)
theorem gf_Mo_isBelow (C : Cok X cc nL own ret) {k : Nat} {k2 : Nat} (h2 : k + 10 = k2) (hk : kd k = (8, 0)) {ix : Nat} (hl : Cond.fieldLink own ix R_Mo "isBelow" "[Z" ∈ wx_tbl) (d : decode cc pc = .ok (.getfield ix, 3)) (kk : Wg X ce sl h ls (.ref k2 :: st) (pc + 3)) : Wg X ce sl h ls (.ref k :: st) pc := fun q1 q2 H L la a b c => va_get (D := (xG X).1) (ci := 8) (v := vv (xG X) (.ref k2)) (C := R_Mo) (T := T_Mo) (N := 21) C.1 C.2.1 C.hts i_Mo C.own C.kn a k ((wl_get (xG X) h (kd_lt hk (by omega))).trans (by rw [e_Mo hk])) rfl 13 (by omega) (C.hts _ hl) (fun _ z => z) (by subst h2; rfl) d (kk q1 q2 H L la a b c)
theorem gf_Mo_line (C : Cok X cc nL own ret) {k : Nat} {k2 : Nat} (h2 : k + 11 = k2) (hk : kd k = (8, 0)) {ix : Nat} (hl : Cond.fieldLink own ix R_Mo "line" "[C" ∈ wx_tbl) (d : decode cc pc = .ok (.getfield ix, 3)) (kk : Wg X ce sl h ls (.ref k2 :: st) (pc + 3)) : Wg X ce sl h ls (.ref k :: st) pc := fun q1 q2 H L la a b c => va_get (D := (xG X).1) (ci := 8) (v := vv (xG X) (.ref k2)) (C := R_Mo) (T := T_Mo) (N := 21) C.1 C.2.1 C.hts i_Mo C.own C.kn a k ((wl_get (xG X) h (kd_lt hk (by omega))).trans (by rw [e_Mo hk])) rfl 14 (by omega) (C.hts _ hl) (fun _ z => z) (by subst h2; rfl) d (kk q1 q2 H L la a b c)
theorem gf_Mo_lineSize (C : Cok X cc nL own ret) {k : Nat} (hk : kd k = (8, 0)) {ix : Nat} (hl : Cond.fieldLink own ix R_Mo "lineSize" "I" ∈ wx_tbl) (d : decode cc pc = .ok (.getfield ix, 3)) (kk : Wg X ce sl h ls (.int (h k 15) :: st) (pc + 3)) : Wg X ce sl h ls (.ref k :: st) pc := fun q1 q2 H L la a b c => va_get (D := (xG X).1) (ci := 8) (v := vv (xG X) (.int (h k 15))) (C := R_Mo) (T := T_Mo) (N := 21) C.1 C.2.1 C.hts i_Mo C.own C.kn a k ((wl_get (xG X) h (kd_lt hk (by omega))).trans (by rw [e_Mo hk])) rfl 15 (by omega) (C.hts _ hl) (fun _ z => z) rfl d (kk q1 q2 H L la a b c)
theorem pf_Mo_lineSize (C : Cok X cc nL own ret) {k : Nat} (hk : kd k = (8, 0)) {v : Int32} {ix : Nat} (hl : Cond.fieldLink own ix R_Mo "lineSize" "I" ∈ wx_tbl) (d : decode cc pc = .ok (.putfield ix, 3)) (kk : Wg X ce sl (up h k 15 v) ls st (pc + 3)) : Wg X ce sl h ls (.int v :: .ref k :: st) pc := fun q1 q2 H L la a b c => va_put (D := (xG X).1) (ci := 8) (v := .int v) (ty := .int) (C := R_Mo) (T := T_Mo) (N := 21) C.1 C.2.1 C.hts i_Mo t_Mo p_Mo n_Mo C.own C.kn a (wl_D C.gok h) b k ((wl_get (xG X) h (kd_lt hk (by omega))).trans (by rw [e_Mo hk])) rfl 15 (by omega) (C.hts _ hl) (fun _ z => z) rfl (by decide +kernel) rfl rfl (by show 15 < 21; omega) d (fun H2 L2 a2 _ b2 => kk q1 q2 H2 L2 la (by rw [wl_set (xG X) h (upd (h k) 15 v) (by rw [e_Mo hk]; simp [smap, vv, upd])] at a2; exact a2) b2 c)
theorem gf_Mo_out (C : Cok X cc nL own ret) {k : Nat} {k2 : Nat} (h2 : k + 12 = k2) (hk : kd k = (8, 0)) {ix : Nat} (hl : Cond.fieldLink own ix R_Mo "out" "[C" ∈ wx_tbl) (d : decode cc pc = .ok (.getfield ix, 3)) (kk : Wg X ce sl h ls (.ref k2 :: st) (pc + 3)) : Wg X ce sl h ls (.ref k :: st) pc := fun q1 q2 H L la a b c => va_get (D := (xG X).1) (ci := 8) (v := vv (xG X) (.ref k2)) (C := R_Mo) (T := T_Mo) (N := 21) C.1 C.2.1 C.hts i_Mo C.own C.kn a k ((wl_get (xG X) h (kd_lt hk (by omega))).trans (by rw [e_Mo hk])) rfl 16 (by omega) (C.hts _ hl) (fun _ z => z) (by subst h2; rfl) d (kk q1 q2 H L la a b c)
theorem gf_Mo_outSize (C : Cok X cc nL own ret) {k : Nat} (hk : kd k = (8, 0)) {ix : Nat} (hl : Cond.fieldLink own ix R_Mo "outSize" "I" ∈ wx_tbl) (d : decode cc pc = .ok (.getfield ix, 3)) (kk : Wg X ce sl h ls (.int (h k 17) :: st) (pc + 3)) : Wg X ce sl h ls (.ref k :: st) pc := fun q1 q2 H L la a b c => va_get (D := (xG X).1) (ci := 8) (v := vv (xG X) (.int (h k 17))) (C := R_Mo) (T := T_Mo) (N := 21) C.1 C.2.1 C.hts i_Mo C.own C.kn a k ((wl_get (xG X) h (kd_lt hk (by omega))).trans (by rw [e_Mo hk])) rfl 17 (by omega) (C.hts _ hl) (fun _ z => z) rfl d (kk q1 q2 H L la a b c)
theorem pf_Mo_outSize (C : Cok X cc nL own ret) {k : Nat} (hk : kd k = (8, 0)) {v : Int32} {ix : Nat} (hl : Cond.fieldLink own ix R_Mo "outSize" "I" ∈ wx_tbl) (d : decode cc pc = .ok (.putfield ix, 3)) (kk : Wg X ce sl (up h k 17 v) ls st (pc + 3)) : Wg X ce sl h ls (.int v :: .ref k :: st) pc := fun q1 q2 H L la a b c => va_put (D := (xG X).1) (ci := 8) (v := .int v) (ty := .int) (C := R_Mo) (T := T_Mo) (N := 21) C.1 C.2.1 C.hts i_Mo t_Mo p_Mo n_Mo C.own C.kn a (wl_D C.gok h) b k ((wl_get (xG X) h (kd_lt hk (by omega))).trans (by rw [e_Mo hk])) rfl 17 (by omega) (C.hts _ hl) (fun _ z => z) rfl (by decide +kernel) rfl rfl (by show 17 < 21; omega) d (fun H2 L2 a2 _ b2 => kk q1 q2 H2 L2 la (by rw [wl_set (xG X) h (upd (h k) 17 v) (by rw [e_Mo hk]; simp [smap, vv, upd])] at a2; exact a2) b2 c)
theorem gf_Mo_isFull (C : Cok X cc nL own ret) {k : Nat} (hk : kd k = (8, 0)) {ix : Nat} (hl : Cond.fieldLink own ix R_Mo "isFull" "Z" ∈ wx_tbl) (d : decode cc pc = .ok (.getfield ix, 3)) (kk : Wg X ce sl h ls (.int (h k 18) :: st) (pc + 3)) : Wg X ce sl h ls (.ref k :: st) pc := fun q1 q2 H L la a b c => va_get (D := (xG X).1) (ci := 8) (v := vv (xG X) (.int (h k 18))) (C := R_Mo) (T := T_Mo) (N := 21) C.1 C.2.1 C.hts i_Mo C.own C.kn a k ((wl_get (xG X) h (kd_lt hk (by omega))).trans (by rw [e_Mo hk])) rfl 18 (by omega) (C.hts _ hl) (fun _ z => z) rfl d (kk q1 q2 H L la a b c)
theorem pf_Mo_isFull (C : Cok X cc nL own ret) {k : Nat} (hk : kd k = (8, 0)) {v : Int32} (hb : v = 0 ∨ v = 1) {ix : Nat} (hl : Cond.fieldLink own ix R_Mo "isFull" "Z" ∈ wx_tbl) (d : decode cc pc = .ok (.putfield ix, 3)) (kk : Wg X ce sl (up h k 18 v) ls st (pc + 3)) : Wg X ce sl h ls (.int v :: .ref k :: st) pc := fun q1 q2 H L la a b c => va_put (D := (xG X).1) (ci := 8) (v := .int v) (ty := .boolean) (C := R_Mo) (T := T_Mo) (N := 21) C.1 C.2.1 C.hts i_Mo t_Mo p_Mo n_Mo C.own C.kn a (wl_D C.gok h) b k ((wl_get (xG X) h (kd_lt hk (by omega))).trans (by rw [e_Mo hk])) rfl 18 (by omega) (C.hts _ hl) (fun _ z => z) rfl (by decide +kernel) (by rcases hb with rfl | rfl <;> rfl) (by rcases hb with rfl | rfl <;> rfl) (by show 18 < 21; omega) d (fun H2 L2 a2 _ b2 => kk q1 q2 H2 L2 la (by rw [wl_set (xG X) h (upd (h k) 18 v) (by rw [e_Mo hk]; simp [smap, vv, upd])] at a2; exact a2) b2 c)
theorem gf_Mo_digits (C : Cok X cc nL own ret) {k : Nat} {k2 : Nat} (h2 : k + 13 = k2) (hk : kd k = (8, 0)) {ix : Nat} (hl : Cond.fieldLink own ix R_Mo "digits" "[I" ∈ wx_tbl) (d : decode cc pc = .ok (.getfield ix, 3)) (kk : Wg X ce sl h ls (.ref k2 :: st) (pc + 3)) : Wg X ce sl h ls (.ref k :: st) pc := fun q1 q2 H L la a b c => va_get (D := (xG X).1) (ci := 8) (v := vv (xG X) (.ref k2)) (C := R_Mo) (T := T_Mo) (N := 21) C.1 C.2.1 C.hts i_Mo C.own C.kn a k ((wl_get (xG X) h (kd_lt hk (by omega))).trans (by rw [e_Mo hk])) rfl 19 (by omega) (C.hts _ hl) (fun _ z => z) (by subst h2; rfl) d (kk q1 q2 H L la a b c)
theorem gf_Mo_at (C : Cok X cc nL own ret) {k : Nat} (hk : kd k = (8, 0)) {ix : Nat} (hl : Cond.fieldLink own ix R_Mo "at" "I" ∈ wx_tbl) (d : decode cc pc = .ok (.getfield ix, 3)) (kk : Wg X ce sl h ls (.int (h k 20) :: st) (pc + 3)) : Wg X ce sl h ls (.ref k :: st) pc := fun q1 q2 H L la a b c => va_get (D := (xG X).1) (ci := 8) (v := vv (xG X) (.int (h k 20))) (C := R_Mo) (T := T_Mo) (N := 21) C.1 C.2.1 C.hts i_Mo C.own C.kn a k ((wl_get (xG X) h (kd_lt hk (by omega))).trans (by rw [e_Mo hk])) rfl 20 (by omega) (C.hts _ hl) (fun _ z => z) rfl d (kk q1 q2 H L la a b c)
theorem pf_Mo_at (C : Cok X cc nL own ret) {k : Nat} (hk : kd k = (8, 0)) {v : Int32} {ix : Nat} (hl : Cond.fieldLink own ix R_Mo "at" "I" ∈ wx_tbl) (d : decode cc pc = .ok (.putfield ix, 3)) (kk : Wg X ce sl (up h k 20 v) ls st (pc + 3)) : Wg X ce sl h ls (.int v :: .ref k :: st) pc := fun q1 q2 H L la a b c => va_put (D := (xG X).1) (ci := 8) (v := .int v) (ty := .int) (C := R_Mo) (T := T_Mo) (N := 21) C.1 C.2.1 C.hts i_Mo t_Mo p_Mo n_Mo C.own C.kn a (wl_D C.gok h) b k ((wl_get (xG X) h (kd_lt hk (by omega))).trans (by rw [e_Mo hk])) rfl 20 (by omega) (C.hts _ hl) (fun _ z => z) rfl (by decide +kernel) rfl rfl (by show 20 < 21; omega) d (fun H2 L2 a2 _ b2 => kk q1 q2 H2 L2 la (by rw [wl_set (xG X) h (upd (h k) 20 v) (by rw [e_Mo hk]; simp [smap, vv, upd])] at a2; exact a2) b2 c)
theorem r_iald (C : Cok X cc nL own ret) {k n : Nat} (hk : kd k = (10, n)) {i : Int32} (hin : vp_in i n) (d : decode cc pc = .ok (.iaload, 1)) (kk : Wg X ce sl h ls (.int (h k i.toNatClampNeg) :: st) (pc + 1)) : Wg X ce sl h ls (.int i :: .ref k :: st) pc := fun q1 q2 H L la a b c => va_iald (D := (xG X).1) (f := h k) C.1 C.2.1 C.kn a k 0 ((wl_get (xG X) h (kd_lt hk (by omega))).trans (by rw [kd_arr (a := 0) hk (by omega)]; rfl)) rfl hin d (kk q1 q2 H L la a b c)
theorem r_iast (C : Cok X cc nL own ret) {k n : Nat} (hk : kd k = (10, n)) {i x : Int32} (hin : vp_in i n) (d : decode cc pc = .ok (.iastore, 1)) (kk : Wg X ce sl (up h k i.toNatClampNeg x) ls st (pc + 1)) : Wg X ce sl h ls (.int x :: .int i :: .ref k :: st) pc := fun q1 q2 H L la a b c => va_iast (D := (xG X).1) (f := h k) C.1 C.2.1 C.kn a (wl_D C.gok h) b k 0 ((wl_get (xG X) h (kd_lt hk (by omega))).trans (by rw [kd_arr (a := 0) hk (by omega)]; rfl)) rfl hin d (fun H2 L2 a2 _ b2 => kk q1 q2 H2 L2 la (by rw [wl_set (xG X) h (upd (h k) i.toNatClampNeg x) (by rw [kd_arr (a := 0) hk (by omega)]; rfl)] at a2; exact a2) b2 c)
theorem r_cald (C : Cok X cc nL own ret) {k n : Nat} (hk : kd k = (11, n)) {i : Int32} (hin : vp_in i n) (d : decode cc pc = .ok (.caload, 1)) (kk : Wg X ce sl h ls (.int (h k i.toNatClampNeg) :: st) (pc + 1)) : Wg X ce sl h ls (.int i :: .ref k :: st) pc := fun q1 q2 H L la a b c => va_cald (D := (xG X).1) (f := h k) C.1 C.2.1 C.kn a k 1 ((wl_get (xG X) h (kd_lt hk (by omega))).trans (by rw [kd_arr (a := 1) hk (by omega)]; rfl)) rfl hin d (kk q1 q2 H L la a b c)
theorem r_cast (C : Cok X cc nL own ret) {k n : Nat} (hk : kd k = (11, n)) {i x : Int32} (hin : vp_in i n) (d : decode cc pc = .ok (.castore, 1)) (kk : Wg X ce sl (up h k i.toNatClampNeg (vp_nar .char x)) ls st (pc + 1)) : Wg X ce sl h ls (.int x :: .int i :: .ref k :: st) pc := fun q1 q2 H L la a b c => va_cast (D := (xG X).1) (f := h k) C.1 C.2.1 C.kn a (wl_D C.gok h) b k 1 ((wl_get (xG X) h (kd_lt hk (by omega))).trans (by rw [kd_arr (a := 1) hk (by omega)]; rfl)) rfl hin d (fun H2 L2 a2 _ b2 => kk q1 q2 H2 L2 la (by rw [wl_set (xG X) h (upd (h k) i.toNatClampNeg (vp_nar .char x)) (by rw [kd_arr (a := 1) hk (by omega)]; rfl)] at a2; exact a2) b2 c)
theorem r_zald (C : Cok X cc nL own ret) {k n : Nat} (hk : kd k = (12, n)) {i : Int32} (hin : vp_in i n) (d : decode cc pc = .ok (.baload, 1)) (kk : Wg X ce sl h ls (.int (h k i.toNatClampNeg) :: st) (pc + 1)) : Wg X ce sl h ls (.int i :: .ref k :: st) pc := fun q1 q2 H L la a b c => va_zald (D := (xG X).1) (f := h k) C.1 C.2.1 C.kn a k 2 ((wl_get (xG X) h (kd_lt hk (by omega))).trans (by rw [kd_arr (a := 2) hk (by omega)]; rfl)) rfl hin d (kk q1 q2 H L la a b c)
theorem r_zast (C : Cok X cc nL own ret) {k n : Nat} (hk : kd k = (12, n)) {i x : Int32} (hin : vp_in i n) (d : decode cc pc = .ok (.bastore, 1)) (kk : Wg X ce sl (up h k i.toNatClampNeg (vp_nar .boolean x)) ls st (pc + 1)) : Wg X ce sl h ls (.int x :: .int i :: .ref k :: st) pc := fun q1 q2 H L la a b c => va_zast (D := (xG X).1) (f := h k) C.1 C.2.1 C.kn a (wl_D C.gok h) b k 2 ((wl_get (xG X) h (kd_lt hk (by omega))).trans (by rw [kd_arr (a := 2) hk (by omega)]; rfl)) rfl hin d (fun H2 L2 a2 _ b2 => kk q1 q2 H2 L2 la (by rw [wl_set (xG X) h (upd (h k) i.toNatClampNeg (vp_nar .boolean x)) (by rw [kd_arr (a := 2) hk (by omega)]; rfl)] at a2; exact a2) b2 c)
theorem r_lald (C : Cok X cc nL own ret) {k n : Nat} (hk : kd k = (13, n)) {i : Int32} (hin : vp_in i n) (d : decode cc pc = .ok (.laload, 1)) (kk : Wg X ce sl h ls (.long (h k i.toNatClampNeg).toInt64 :: st) (pc + 1)) : Wg X ce sl h ls (.int i :: .ref k :: st) pc := fun q1 q2 H L la a b c => va_lald (D := (xG X).1) (f := fun j => (h k j).toInt64) C.1 C.2.1 C.kn a k 3 ((wl_get (xG X) h (kd_lt hk (by omega))).trans (by rw [kd_arr (a := 3) hk (by omega)]; rfl)) rfl hin d (kk q1 q2 H L la a b c)
theorem r_last (C : Cok X cc nL own ret) {k n : Nat} (hk : kd k = (13, n)) {i x : Int32} (hin : vp_in i n) (d : decode cc pc = .ok (.lastore, 1)) (kk : Wg X ce sl (up h k i.toNatClampNeg x) ls st (pc + 1)) : Wg X ce sl h ls (.long x.toInt64 :: .int i :: .ref k :: st) pc := fun q1 q2 H L la a b c => va_last (D := (xG X).1) (f := fun j => (h k j).toInt64) C.1 C.2.1 C.kn a (wl_D C.gok h) b k 3 ((wl_get (xG X) h (kd_lt hk (by omega))).trans (by rw [kd_arr (a := 3) hk (by omega)]; rfl)) rfl hin d (fun H2 L2 a2 _ b2 => kk q1 q2 H2 L2 la (by
  rw [wl_set (xG X) h (upd (h k) i.toNatClampNeg x) (e := .inl ((xG X).2.2.1 3, n, .inr (.inl (vp_updL (fun j => (h k j).toInt64) i.toNatClampNeg x.toInt64)))) (by
    rw [kd_arr (a := 3) hk (by omega)]
    show Sum.inl ((xG X).2.2.1 3, n, Sum.inr (Sum.inl _)) = _
    congr 5
    funext j
    by_cases hj : j = i.toNatClampNeg <;> simp [upd, vp_updL, hj])] at a2
  exact a2) b2 c)
theorem r_alen_10 (C : Cok X cc nL own ret) {k n : Nat} (hk : kd k = (10, n)) (d : decode cc pc = .ok (.arraylength, 1)) (kk : Wg X ce sl h ls (.int (Int32.ofNat n) :: st) (pc + 1)) : Wg X ce sl h ls (.ref k :: st) pc := fun q1 q2 H L la a b c => va_alen (D := (xG X).1) (x := (n, .inl (h k))) C.1 C.2.1 C.kn a k 0 ((wl_get (xG X) h (kd_lt hk (by omega))).trans (by rw [kd_arr (a := 0) hk (by omega)]; rfl)) rfl rfl d (kk q1 q2 H L la a b c)
theorem r_alen_11 (C : Cok X cc nL own ret) {k n : Nat} (hk : kd k = (11, n)) (d : decode cc pc = .ok (.arraylength, 1)) (kk : Wg X ce sl h ls (.int (Int32.ofNat n) :: st) (pc + 1)) : Wg X ce sl h ls (.ref k :: st) pc := fun q1 q2 H L la a b c => va_alen (D := (xG X).1) (x := (n, .inl (h k))) C.1 C.2.1 C.kn a k 1 ((wl_get (xG X) h (kd_lt hk (by omega))).trans (by rw [kd_arr (a := 1) hk (by omega)]; rfl)) rfl rfl d (kk q1 q2 H L la a b c)
theorem r_alen_12 (C : Cok X cc nL own ret) {k n : Nat} (hk : kd k = (12, n)) (d : decode cc pc = .ok (.arraylength, 1)) (kk : Wg X ce sl h ls (.int (Int32.ofNat n) :: st) (pc + 1)) : Wg X ce sl h ls (.ref k :: st) pc := fun q1 q2 H L la a b c => va_alen (D := (xG X).1) (x := (n, .inl (h k))) C.1 C.2.1 C.kn a k 2 ((wl_get (xG X) h (kd_lt hk (by omega))).trans (by rw [kd_arr (a := 2) hk (by omega)]; rfl)) rfl rfl d (kk q1 q2 H L la a b c)
end FIELDS
