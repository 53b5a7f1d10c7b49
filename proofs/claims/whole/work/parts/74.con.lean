/-! Constructors: frames whose world is a list of objects. -/
/-- the words of nest mates that change as the machine warms, though what they say stays true -/
def XNk : List Cond := [.methodLinkNest "CellHeap" 9 ⟨"CellHeap$Heap", "<init>", "()V"⟩ "CellHeap", .methodLinkNest "CellHeap" 18 ⟨"CellHeap$Line", "<init>", "()V"⟩ "CellHeap", .methodLinkNest "CellHeap" 25 ⟨"CellHeap$Reckoner", "<init>", "()V"⟩ "CellHeap", .methodLinkNest "CellHeap$Reckoner" 11 ⟨"CellHeap$Ratio", "<init>", "()V"⟩ "CellHeap", .methodLinkNest "CellHeap$Ratio" 11 ⟨"CellHeap$Whole", "<init>", "()V"⟩ "CellHeap", .methodLinkNest "CellHeap$Reckoner" 26 ⟨"CellHeap$Whole", "<init>", "()V"⟩ "CellHeap", .methodLinkNest "CellHeap$Reckoner" 39 ⟨"CellHeap$Division", "<init>", "()V"⟩ "CellHeap", .methodLinkNest "CellHeap$Division" 11 ⟨"CellHeap$Whole", "<init>", "()V"⟩ "CellHeap", .methodLinkNest "CellHeap" 32 ⟨"CellHeap$Printer", "<init>", "()V"⟩ "CellHeap", .methodLinkNest "CellHeap$Printer" 21 ⟨"CellHeap$Whole", "<init>", "()V"⟩ "CellHeap"]
def NK (U : State) : Prop := ∀ w ∈ XNk, va_Nw w U
theorem NK.warm {s U : State} (h : NK s) (hW : s.WarmedH U.vm) : NK U := by
  intro w hw
  have hs := h w hw
  simp only [XNk, List.mem_cons, List.not_mem_nil, or_false] at hw
  rcases hw with rfl | rfl | rfl | rfl | rfl | rfl | rfl | rfl | rfl | rfl <;> exact hs.warmM hW
/-- what holds in a constructor's frame -/
def Ck (X : CX) (A : Nat → Prop) (cc : ByteArray) (own : String) : Prop := (xp X).tables.exec = Jvm.exec ∧ (xc X).code = cc ∧ (xc X).maxLocals = 1 ∧ (xs X).vm.findClass own = some (xm X).cls ∧ (∀ w ∈ wx_tbl, w.before (xa X) (xs X) = true) ∧ (xt X).locks = false ∧ (xt X).sig.returnType = none ∧ (xt X).name = "<init>" ∧ Kn (xG X) (xs X) ∧ (∀ q, (xs X).heap.size ≤ q → A q) ∧ NK (xs X)
def Wk (X : CX) (A : Nat → Prop) (h0 : Nat) (ce sl : Nat) (ws : va_W) (st : List Value) (pc : Nat) : Prop := ∀ (H : Heap) (L : List Loc) (la : Array Slot), va_P (xG X).1 wcl ws H → va_D A ws → va_S A (xs X).heap H L → lv_has la 1 [(0, .ref h0)] → W (xp X) (xl X) (xe X) (xR X) (xs X) (xm X) (xa X) (xb X) (xt X) (xc X) H L ce sl (xQ X) (F0 (xm X) pc la st)
section CON
variable {X : CX} {A : Nat → Prop} {cc : ByteArray} {own : String} {h0 ce sl pc : Nat} {ws : va_W} {st : List Value}
theorem Ck.hts (C : Ck X A cc own) : ∀ w ∈ wx_tbl, w.before (xa X) (xs X) = true := C.2.2.2.2.1
theorem Ck.cls (C : Ck X A cc own) : (xs X).vm.findClass own = some (xm X).cls := C.2.2.2.1
theorem Ck.kn (C : Ck X A cc own) : Kn (xG X) (xs X) := C.2.2.2.2.2.2.2.2.1
theorem Ck.fr (C : Ck X A cc own) : ∀ q, (xs X).heap.size ≤ q → A q := C.2.2.2.2.2.2.2.2.2.1
theorem Ck.nk (C : Ck X A cc own) : NK (xs X) := C.2.2.2.2.2.2.2.2.2.2
theorem k_al (C : Ck X A cc own) (d : decode cc pc = .ok (.aload_n 0, 1)) (k : Wk X A h0 ce sl ws (.ref h0 :: st) (pc + 1)) : Wk X A h0 ce sl ws st pc := fun H L la a b c e => lv_aload_n C.1 C.2.1 d rfl (lv_at e 0 rfl) (k H L la a b c e)
theorem k_bip (C : Ck X A cc own) {n : Int} {v : Int32} (hv : (Int8.ofInt n).toInt32 = v) (d : decode cc pc = .ok (.bipush n, 2)) (k : Wk X A h0 ce sl ws (.int v :: st) (pc + 2)) : Wk X A h0 ce sl ws st pc := fun H L la a b c e => lv_bipush C.1 C.2.1 d hv (k H L la a b c e)
theorem k_sip (C : Ck X A cc own) {n : Int} {v : Int32} (hv : (Int16.ofInt n).toInt32 = v) (d : decode cc pc = .ok (.sipush n, 3)) (k : Wk X A h0 ce sl ws (.int v :: st) (pc + 3)) : Wk X A h0 ce sl ws st pc := fun H L la a b c e => lv_sipush C.1 C.2.1 d hv (k H L la a b c e)
theorem k_dup (C : Ck X A cc own) {v : Value} (hv : v.category = 1) (d : decode cc pc = .ok (.dup, 1)) (k : Wk X A h0 ce sl ws (v :: v :: st) (pc + 1)) : Wk X A h0 ce sl ws (v :: st) pc := fun H L la a b c e => lv_dup C.1 C.2.1 d hv (k H L la a b c e)
theorem k_obj (C : Ck X A cc own) {ix : Nat} (lk : Cond.methodLink own ix objectInit ∈ wx_tbl) (hR : 1 ≤ (xR X).frames ∧ 12 ≤ (xR X).locals) (d : decode cc pc = .ok (.invokespecial ix, 3)) (k : Wk X A h0 ce sl ws [] (pc + 3)) : Wk X A h0 ce sl ws [.ref h0] pc := fun H L la a b c e => by
  refine W.objInit C.1 C.2.1 C.cls (C.hts _ lk) (C.hts (.instanceMethod objectInit) (by decide +kernel)) (C.hts _ (by decide +kernel)) rfl (by rw [C.2.2.1]; exact e.1) rfl d hR.1 hR.2 ?_
  exact W.eq (g2 := F0 (xm X) (pc + 3) la []) rfl (k H L la a b c e)
theorem k_new {Cn : String} {T : u_T} {N ci ix : Nat} {fs : List Value} {ty : Nat → FieldType} (C : Ck X A cc own) (hin : ∀ w ∈ u_ws Cn T N, w ∈ wx_tbl) (hty : ∀ k, k < N → parseFieldDescriptor (T k).2.2.1 = some (ty k)) (hcl : Cond.classLink own ix Cn ∈ wx_tbl) (hinst : Cond.instantiable Cn N ∈ wx_tbl) (hini : Cond.initialized Cn ∈ wx_tbl) (hc : wcl[ci]? = some (Cn, T, N)) (hfs : ∀ j, j < N → defaultValue (ty j) = vp_V fs j) (hce : ce + 1 ≤ (xR X).cells) (hsl : sl + N ≤ (xR X).slots) (d : decode cc pc = .ok (.new ix, 3)) (kk : ∀ q, Wk X A h0 (ce + 1) (sl + N) (ws ++ [(q, .inr (ci, fs))]) (.ref q :: st) (pc + 3)) : Wk X A h0 ce sl ws st pc := fun H L la a b c e =>
  va_new C.1 C.2.1 C.hts hin ty hty C.cls (C.hts _ hcl) (C.hts _ hinst) (C.hts _ hini) C.kn a b c C.fr hc hfs hce hsl d (fun q H1 a1 b1 c1 => kk q H1 L la a1 b1 c1 e)
theorem k_newa {atype : ArrayType} {ty : FieldType} {t N : Nat} {n : Int32} {a0 : vp_A} (C : Ck X A cc own) (harr : Cond.arrayClass (newarray.typeOf atype) ∈ wx_tbl) (hty : newarray.typeOf atype = ty) (ht : (w_tys (xG X))[t]? = some ((xG X).2.2.1 t, ty)) (hra : ∀ c, va_RA (xs X) c ty → (xs X).vm.findClass ("[" ++ ty.toString) = some c) (ha : ∀ cA : ClassId, vp_cell cA a0 = arrV cA N (fun _ => defaultValue ty)) (hn : ¬ n < 0) (hN : n.toNatClampNeg = N) (hb : N * componentBytes ty ≤ 536870912) (hce : ce + 1 ≤ (xR X).cells) (hsl : sl + N ≤ (xR X).slots) (d : decode cc pc = .ok (.newarray atype, 2)) (kk : ∀ q, Wk X A h0 (ce + 1) (sl + N) (ws ++ [(q, .inl ((xG X).2.2.1 t, a0))]) (.ref q :: st) (pc + 2)) : Wk X A h0 ce sl ws (.int n :: st) pc := fun H L la a b c e =>
  va_newa C.1 C.2.1 (C.hts _ harr) hty C.kn a b c C.fr ha hn hN hb hce hsl d (fun q cA H1 k1 a1 b1 c1 => by
    have e1 := hra _ (C.kn.2 t _ ht).2
    have e2 := hra _ (k1.2 4 (cA, ty) rfl).2
    have : cA = (xG X).2.2.1 t := Option.some.inj (e2.symm.trans e1)
    subst this
    exact kk q H1 L la a1 b1 c1 e)
theorem k_put {Cn ref : String} {T : u_T} {N ci ix k : Nat} {fs : List Value} {ty0 : Nat → FieldType} {ty : FieldType} {v : Value} (C : Ck X A cc own) (hin : ∀ w ∈ u_ws Cn T N, w ∈ wx_tbl) (hty : ∀ k, k < N → parseFieldDescriptor (T k).2.2.1 = some (ty0 k)) (hnm : ∀ a, a < N → ∀ b, b < N → a ≠ b → (T a).2.1 ≠ (T b).2.1) (he : ws[0]? = some (h0, .inr (ci, fs))) (hc : wcl[ci]? = some (Cn, T, N)) (hk : k < N) (hlink : Cond.fieldLink own ix ref (T k).2.1 (T k).2.2.1 ∈ wx_tbl) (hsame : ref = (T k).1) (hfin : (T k).2.2.2 = true) (hdecl : (T k).1 = own) (hd : parseFieldDescriptor (T k).2.2.1 = some ty) (hn : narrow ty v = v) (hfit : fits ty v = true) (hl : k < fs.length) (d : decode cc pc = .ok (.putfield ix, 3)) (kk : Wk X A h0 ce sl (ws.set 0 (h0, .inr (ci, fs.set k v))) st (pc + 3)) : Wk X A h0 ce sl ws (v :: .ref h0 :: st) pc := fun H L la a b c e =>
  va_putF C.1 C.2.1 C.hts hin ty0 hty hnm C.cls C.kn a b c 0 he hc k hk (C.hts _ hlink) (fun x hx => by rw [hsame]; exact hx) hfin C.2.2.2.2.2.2.2.1 hdecl hd hn hfit hl d (fun H1 L1 a1 b1 c1 => kk H1 L1 la a1 b1 c1 e)
end CON
/-- a constructor: the object and all that hangs on it are made, S tells them -/
def Kc (y : MethodName) (yb : ByteArray) (rm : Room) (mc ms ci : Nat) (fs : List Value) (S : WG → (Nat → Nat) → va_W) : Prop := ∀ (l : Launch) (G : WG) (h0 sz : Nat), Met l y (.code y yb 1 none :: wx_tbl) rm (va_Pc [.ref h0] (fun U => U.heap.size = sz ∧ va_P G.1 wcl [(h0, .inr (ci, fs))] U.heap ∧ Kn G U ∧ NK U ∧ va_D (fun _ => True) [(h0, .inr (ci, fs))])) (va_Qv (fun am : Nat → Nat => am 0 = h0) (fun am t => va_P G.1 wcl (S G am) t.heap ∧ Kn G t ∧ va_D (va_A [(h0, .inr (ci, fs))] sz) (S G am)) (va_A [(h0, .inr (ci, fs))] sz)) mc ms (va_A [(h0, .inr (ci, fs))] sz)
theorem Kc.intro {y : MethodName} {yb : ByteArray} {rm : Room} {mc ms ci : Nat} {fs : List Value} {S : WG → (Nat → Nat) → va_W} (hy : plainName y.cls = true) (hin : y.name = "<init>")
    (body : ∀ (X : CX) (A : Nat → Prop) (h0 : Nat), Ck X A yb y.cls → xR X = rm → (∀ (am : Nat → Nat) (ws : va_W) (pc : Nat), decode yb pc = .ok (.return_, 1) → am 0 = h0 → S (xG X) am = ws → Wk X A h0 mc ms ws [] pc) → Wk X A h0 0 0 [(h0, .inr (ci, fs))] [] 0) : Kc y yb rm mc ms ci fs S := by
  intro l G h0 sz
  refine Met.ofW (cc := yb) (maxL := 1) (ret := none) hy rfl ?_
  intro p e s m args below meth c s₁ B hml hv
  obtain ⟨rfl, hsz, hP, hK, hN, hD0⟩ := hv
  have hts0 := atoms_spec (ws := Cond.code y yb 1 none :: wx_tbl) B.pre
  subst hsz
  have hD := hD0.self (sz := s.heap.size)
  have hA : ∀ q : Nat, s.heap.size ≤ q → va_A [(h0, .inr (ci, fs))] s.heap.size q := fun q h => Or.inr h
  have hl := lv_entry ([.ref h0]) (n := 1) (Nat.le_of_ble_eq_true rfl)
  rw [lg_entry_eq]
  have hn : meth.name = "<init>" := (name_of_methodNamed B.named B.method).1.trans hin
  refine body (p, l, e, rm, s, m, ([Value.ref h0] : List Value).toArray, below, meth, c, _, G) (va_A [(h0, .inr (ci, fs))] s.heap.size) h0 ⟨B.exec, B.bytes, hml, findClass_of_methodNamed B.named, fun w hw => hts0 w (List.mem_cons_of_mem _ hw), B.notSynchronized, B.returns, hn, hK, hA, hN⟩ rfl ?_ s.heap [] _ hP hD va_S.rf hl
  intro am ws pc d e1 e2 H L la a b c1 e3
  exact W.vret B.exec B.bytes B.returns (fun t ht hW => ⟨⟨am, rfl, e1, by rw [ht, e2]; exact a, va_K.moved hW.alike hK, by rw [e2]; exact b⟩, c1.F ht⟩) c1.2.2 d B.notSynchronized
theorem k_call {X : CX} {A : Nat → Prop} {cc yb : ByteArray} {own : String} {h0 ce sl pc mc ms ci ix n q : Nat} {wr : va_W} {st : List Value} {rm : Room} {y : MethodName} {fs : List Value} {S : WG → (Nat → Nat) → va_W} (C : Ck X A cc own) (hM : Kc y yb rm mc ms ci fs S) (hrm : rm.cells = mc ∧ rm.slots = ms) (hwc : Cond.code y yb 1 none ∈ wx_tbl) (hini : Cond.initialized y.cls ∈ wx_tbl) (hlk : Cond.methodLink own ix y ∈ wx_tbl) (him : Cond.instanceMethod y ∈ wx_tbl) (hyn : y.name = "<init>") (hyc : y.cls ≠ "java/lang/invoke/MethodHandle" ∧ y.cls ≠ "java/lang/invoke/VarHandle" ∧ (parseMethodDescriptor y.desc).map (fun d => d.parameters.length) = some 0) (hR : rm.frames + 1 ≤ (xR X).frames ∧ 8 + (1 + 11) + rm.locals ≤ (xR X).locals) (hst : (st.map fun v => v.category).sum ≤ 8) (hce : ce + mc ≤ (xR X).cells ∧ sl + ms ≤ (xR X).slots) (hC : (wr ++ [(q, .inr (ci, fs))])[n]? = some (q, .inr (ci, fs))) (isR : List Nat) (hRr : isR.map (fun i => (wr ++ [(q, .inr (ci, fs))])[i]?) = wr.map some) (hnd : va_nd isR = true) (hdis : ∀ i ∈ isR, i ∉ [n]) (d : decode cc pc = .ok (.invokespecial ix, 3))
    (kk : ∀ am : Nat → Nat, am 0 = q → Wk X A h0 (ce + mc) (sl + ms) (wr ++ S (xG X) am) st (pc + 3)) : Wk X A h0 ce sl (wr ++ [(q, .inr (ci, fs))]) (.ref q :: st) pc := by
  intro H L la a b c e
  have hFc := va_free (wc := [(q, .inr (ci, fs))]) b c C.fr [n] (by simp [hC])
  have hPc : va_P (xG X).1 wcl [(q, .inr (ci, fs))] H := a.sub [n] (by simp [hC])
  have hDc : va_D A [(q, .inr (ci, fs))] := b.sub [n] rfl (by simp [hC])
  refine va_callv (va_runI (As := []) (rest := st) ⟨C.1, C.2.1, C.2.2.1, C.cls, C.hts⟩ (hM (xl X) (xG X) q H.size) (cwI 0 C.hts (wx_goodIn (fun w hw => by
    rcases List.mem_cons.mp hw with rfl | hw
    · exact hwc
    · exact hw)) rfl hrm.1 hrm.2 (C.hts _ hini) (C.hts _ hlk) (C.hts _ him) hyn hyc hR) ⟨fun a U g mk q => by obtain ⟨q0, q1, qP, qK, qN, qD⟩ := q; exact ⟨q0, q1, qP, va_K.moved (u := U) (U := U.calling g mk a) (Vm.Alike.refl U.vm) qK, qN.warm (U := U.calling g mk a) (State.WarmedH.refl U), qD⟩, fun U hU hW => ⟨rfl, by rw [hU], by rw [hU]; exact hPc, va_K.moved hW.alike C.kn, C.nk.warm hW, hDc.weaken (fun _ _ _ _ => trivial)⟩⟩ rfl rfl e.1 rfl (lv_room hst) d hce) c (fun q _ h => hFc q h) hFc (fun am t H1 L1 ht hvm hw hB hz1 hk1 hS => ?_)
  obtain ⟨hP1, hK1, hD1⟩ := hB
  rw [ht] at hP1
  obtain ⟨hP, hD⟩ := va_join (wr := wr) (w1 := S (xG X) am) a b [n] isR (by simp [hC]) hRr hnd hdis hk1 hFc hP1 hD1
  exact kk am hw H1 L1 la hP hD hS e
theorem k_callN {X : CX} {A : Nat → Prop} {cc yb : ByteArray} {own : String} {h0 ce sl pc mc ms ci ix n q : Nat} {wr : va_W} {st : List Value} {rm : Room} {y : MethodName} {host : String} {fs : List Value} {S : WG → (Nat → Nat) → va_W} (C : Ck X A cc own) (hM : Kc y yb rm mc ms ci fs S) (hrm : rm.cells = mc ∧ rm.slots = ms) (hwc : Cond.code y yb 1 none ∈ wx_tbl) (hini : Cond.initialized y.cls ∈ wx_tbl) (hlk : Cond.methodLinkNest own ix y host ∈ XNk) (him : Cond.instanceMethod y ∈ wx_tbl) (hyn : y.name = "<init>") (hyc : y.cls ≠ "java/lang/invoke/MethodHandle" ∧ y.cls ≠ "java/lang/invoke/VarHandle" ∧ (parseMethodDescriptor y.desc).map (fun d => d.parameters.length) = some 0) (hR : rm.frames + 1 ≤ (xR X).frames ∧ 8 + (1 + 11) + rm.locals ≤ (xR X).locals) (hst : (st.map fun v => v.category).sum ≤ 8) (hce : ce + mc ≤ (xR X).cells ∧ sl + ms ≤ (xR X).slots) (hC : (wr ++ [(q, .inr (ci, fs))])[n]? = some (q, .inr (ci, fs))) (isR : List Nat) (hRr : isR.map (fun i => (wr ++ [(q, .inr (ci, fs))])[i]?) = wr.map some) (hnd : va_nd isR = true) (hdis : ∀ i ∈ isR, i ∉ [n]) (d : decode cc pc = .ok (.invokespecial ix, 3))
    (kk : ∀ am : Nat → Nat, am 0 = q → Wk X A h0 (ce + mc) (sl + ms) (wr ++ S (xG X) am) st (pc + 3)) : Wk X A h0 ce sl (wr ++ [(q, .inr (ci, fs))]) (.ref q :: st) pc := by
  intro H L la a b c e
  have hFc := va_free (wc := [(q, .inr (ci, fs))]) b c C.fr [n] (by simp [hC])
  have hPc : va_P (xG X).1 wcl [(q, .inr (ci, fs))] H := a.sub [n] (by simp [hC])
  have hDc : va_D A [(q, .inr (ci, fs))] := b.sub [n] rfl (by simp [hC])
  refine va_callv (va_runIN (As := []) (rest := st) ⟨C.1, C.2.1, C.2.2.1, C.cls, C.hts⟩ (hM (xl X) (xG X) q H.size) ⟨va_cnB 0 C.hts (wx_goodIn (fun w hw => by
    rcases List.mem_cons.mp hw with rfl | hw
    · exact hwc
    · exact hw)) rfl hrm.1 hrm.2 (C.nk _ hlk) (C.hts _ hini) hyc hR, hyn, C.hts _ him⟩ ⟨fun a U g mk q => by obtain ⟨q0, q1, qP, qK, qN, qD⟩ := q; exact ⟨q0, q1, qP, va_K.moved (u := U) (U := U.calling g mk a) (Vm.Alike.refl U.vm) qK, qN.warm (U := U.calling g mk a) (State.WarmedH.refl U), qD⟩, fun U hU hW => ⟨rfl, by rw [hU], by rw [hU]; exact hPc, va_K.moved hW.alike C.kn, C.nk.warm hW, hDc.weaken (fun _ _ _ _ => trivial)⟩⟩ rfl rfl e.1 rfl (lv_room hst) d hce) c (fun q _ h => hFc q h) hFc (fun am t H1 L1 ht hvm hw hB hz1 hk1 hS => ?_)
  obtain ⟨hP1, hK1, hD1⟩ := hB
  rw [ht] at hP1
  obtain ⟨hP, hD⟩ := va_join (wr := wr) (w1 := S (xG X) am) a b [n] isR (by simp [hC]) hRr hnd hdis hk1 hFc hP1 hD1
  exact kk am hw H1 L1 la hP hD hS e
/-- the rows of the kit that what follows names -/
theorem kit_names : True := by
  have := @u_known
  have := @vx_Zqof
  have := @va_forget
  have := @W.widen
  have := @lv_astore_n
  have := @lv_istore
  have := @lv_iconst
  have := @lv_sub
  have := @va_recv
  have := @va_K.sub
  have := @va_K.app
  have := @va_newa
  have := @va_new
  have := @flat_of_before
  trivial
