/-! System.arraycopy between int arrays of the world. -/
def cp_in (sp n : Int32) (N : Nat) : Prop := ¬ sp < 0 ∧ ¬ n < 0 ∧ sp.toNatClampNeg + n.toNatClampNeg ≤ N
theorem r_copy {X : CX} {ce sl : Nat} {h : HP} {ls : List (Nat × Value)} {st : List Value} {pc nL lv mc ms : Nat} {cc : ByteArray} {own : String} {ret : Option FieldType} (C : Cok X cc nL own ret) (Rm : xR X = rml lv mc ms) (hlv : 2 ≤ lv) {ix : Nat} (hlk : Cond.methodLink own ix arraycopyName ∈ wx_tbl) {k0 k1 n0 n1 : Nat} (hk0 : kd k0 = (10, n0)) (hk1 : kd k1 = (10, n1)) {sp dp n : Int32} (h1 : cp_in sp n n0) (h2 : cp_in dp n n1) (hst : (st.map fun v => v.category).sum ≤ 8) (d : decode cc pc = .ok (.invokestatic ix, 3))
    (kk : Wg X ce sl (hs h k1 (va_cpy (h k0) (h k1) sp.toNatClampNeg dp.toNatClampNeg n.toNatClampNeg)) ls st (pc + 3)) : Wg X ce sl h ls (.int n :: .int dp :: .ref k1 :: .int sp :: .ref k0 :: st) pc := fun q1 q2 H L la a b c =>
  va_copyi (D := (xG X).1) (f := h k0) (g := h k1) (ty := .int) C.1 C.2.1 c.1.symm C.own (C.hts _ hlk) (C.hts _ (wx_in (w := .native arraycopyName) 353 (by decide +kernel) rfl)) (C.hts _ (wx_in (w := .static arraycopyName) 352 (by decide +kernel) rfl)) (C.hts _ (wx_in (w := .initialized "java/lang/System") 78 (by decide +kernel) rfl)) C.kn a (wl_D C.gok h) b k0 k1 0 0
    ((wl_get (xG X) h (kd_lt hk0 (by omega))).trans (by rw [kd_arr (a := 0) hk0 (by omega)]; rfl)) ((wl_get (xG X) h (kd_lt hk1 (by omega))).trans (by rw [kd_arr (a := 0) hk1 (by omega)]; rfl)) rfl rfl rfl h1.1 h2.1 h1.2.1 h1.2.2 h2.2.2 (fun _ _ => rfl) (by rw [Rm]; show 1 ≤ lv; omega)
    (by
      have e := smap_cat (xG X) st
      unfold smap at e
      rw [Rm, e]
      show _ + (7 + 11) ≤ 40 * lv
      omega) d (fun H2 L2 a2 _ b2 => kk q1 q2 H2 L2 la (by rw [wl_set (xG X) h (va_cpy (h k0) (h k1) sp.toNatClampNeg dp.toNatClampNeg n.toNatClampNeg) (by rw [kd_arr (a := 0) hk1 (by omega)]; rfl)] at a2; exact a2) b2 c)
abbrev R_Integer : String := "java/lang/Integer"
abbrev R_Math : String := "java/lang/Math"
abbrev R_Arrays : String := "java/util/Arrays"
theorem r_max {X : CX} {ce sl : Nat} {h : HP} {ls : List (Nat × Value)} {st : List Value} {pc nL lv mc ms : Nat} {cc : ByteArray} {own : String} {ret : Option FieldType} (C : Cok X cc nL own ret) (Rm : xR X = rml lv mc ms) (hlv : 1 ≤ lv) {ix : Nat} (hlk : Cond.methodLink own ix Lib.Math.max.name ∈ wx_tbl) {x y : Int32} (hst : (st.map fun v => v.category).sum ≤ 8) (d : decode cc pc = .ok (.invokestatic ix, 3))
    (kk : Wg X ce sl h ls (.int (if x < y then y else x) :: st) (pc + 3)) : Wg X ce sl h ls (.int y :: .int x :: st) pc := fun q1 q2 H L la a b c =>
  va_mmax C.1 C.2.1 c.1.symm C.own (C.hts _ hlk) (C.hts _ (wx_in (w := .static Lib.Math.max.name) 714 (by decide +kernel) rfl)) (C.hts _ (wx_in (w := .initialized "java/lang/Math") 87 (by decide +kernel) rfl)) (C.hts _ (wx_in (w := .code Lib.Math.max.name Lib.Math.max.code 2 (some .int)) 715 (by decide +kernel) rfl)) (by rw [Rm]; show 1 ≤ lv; omega)
    (by
      have e := smap_cat (xG X) st
      unfold smap at e
      rw [Rm, e]
      show _ + 13 ≤ 40 * lv
      omega) q1 q2 d (kk q1 q2 H L la a b c)
