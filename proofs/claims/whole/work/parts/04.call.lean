/-! Contracts over the world, returns, calls. -/
def rml (lv mc ms : Nat) : Room := { frames := lv, cells := mc, slots := ms, locals := 40 * lv }
def Qw (G : WG) (Φ : Option Value → HP → Prop) : Array Value → State → Outcome → State → Prop := fun _ st oc t => (∃ (r : Option Value) (h2 : HP), oc = .returned (r.map (vv G)) ∧ Φ r h2 ∧ Wo G h2 t.heap) ∧ va_F (Ga G) st t
/-- a method, called with these arguments in this world, returns, and what it answers and leaves behind has Φ -/
def Can (y : MethodName) (cc : ByteArray) (nL : Nat) (ret : Option FieldType) (lv mc ms : Nat) (As : List Value) (h : HP) (Φ : Option Value → HP → Prop) : Prop :=
  ∀ (l : Launch) (G : WG), l.flags = flags0 → Gok G → Met l y (.code y cc nL ret :: wx_tbl) (rml lv mc ms) (va_Pc (smap G As) (Ws G h)) (Qw G Φ) mc ms (Ga G)
abbrev CanV (y : MethodName) (cc : ByteArray) (nL : Nat) (ret : Option FieldType) (lv mc ms : Nat) (As : List Value) (h : HP) (Φ : HP → Prop) : Prop := Can y cc nL ret lv mc ms As h (fun r h2 => r = none ∧ Φ h2)
abbrev CanI (y : MethodName) (cc : ByteArray) (nL : Nat) (ret : Option FieldType) (lv mc ms : Nat) (As : List Value) (h : HP) (Φ : Int32 → HP → Prop) : Prop := Can y cc nL ret lv mc ms As h (fun r h2 => ∃ v, r = some (.int v) ∧ Φ v h2)
abbrev CanL (y : MethodName) (cc : ByteArray) (nL : Nat) (ret : Option FieldType) (lv mc ms : Nat) (As : List Value) (h : HP) (Φ : Int64 → HP → Prop) : Prop := Can y cc nL ret lv mc ms As h (fun r h2 => ∃ v, r = some (.long v) ∧ Φ v h2)
theorem Can.mono {y : MethodName} {cc : ByteArray} {nL : Nat} {ret : Option FieldType} {lv mc ms : Nat} {As : List Value} {h : HP} {Φ Ψ : Option Value → HP → Prop} (k : Can y cc nL ret lv mc ms As h Φ) (i : ∀ r h2, Φ r h2 → Ψ r h2) : Can y cc nL ret lv mc ms As h Ψ := fun l G hf hg =>
  MetFree.mono (k l G hf hg) (fun _ _ z => z) (fun _ _ _ _ _ z => z) (fun a st o t _ z => by
    obtain ⟨⟨⟨r, h2, z1, z2, z3⟩, z4⟩, z5⟩ := z
    exact ⟨⟨⟨r, h2, z1, i r h2 z2, z3⟩, z4⟩, z5⟩)
theorem Can.monoV {y : MethodName} {cc : ByteArray} {nL : Nat} {ret : Option FieldType} {lv mc ms : Nat} {As : List Value} {h : HP} {Φ Ψ : HP → Prop} (k : CanV y cc nL ret lv mc ms As h Φ) (i : ∀ h2, Φ h2 → Ψ h2) : CanV y cc nL ret lv mc ms As h Ψ := Can.mono k (fun _ h2 z => ⟨z.1, i h2 z.2⟩)
theorem Can.monoI {y : MethodName} {cc : ByteArray} {nL : Nat} {ret : Option FieldType} {lv mc ms : Nat} {As : List Value} {h : HP} {Φ Ψ : Int32 → HP → Prop} (k : CanI y cc nL ret lv mc ms As h Φ) (i : ∀ v h2, Φ v h2 → Ψ v h2) : CanI y cc nL ret lv mc ms As h Ψ := Can.mono k (fun _ h2 z => by
  obtain ⟨v, z1, z2⟩ := z
  exact ⟨v, z1, i v h2 z2⟩)
theorem Can.monoL {y : MethodName} {cc : ByteArray} {nL : Nat} {ret : Option FieldType} {lv mc ms : Nat} {As : List Value} {h : HP} {Φ Ψ : Int64 → HP → Prop} (k : CanL y cc nL ret lv mc ms As h Φ) (i : ∀ v h2, Φ v h2 → Ψ v h2) : CanL y cc nL ret lv mc ms As h Ψ := Can.mono k (fun _ h2 z => by
  obtain ⟨v, z1, z2⟩ := z
  exact ⟨v, z1, i v h2 z2⟩)
/-- what a method owes at a return -/
def Qok (X : CX) (mc ms : Nat) (Φ : Option Value → HP → Prop) : Prop := ∀ (H : Heap) (L : List Loc) (g : JFrame), W (xp X) (xl X) (xe X) (xR X) (xs X) (xm X) (xa X) (xb X) (xt X) (xc X) H L mc ms (MQ (xb X) (Qw (xG X) Φ) (xa X) (xs X) mc ms (Ga (xG X))) g → W (xp X) (xl X) (xe X) (xR X) (xs X) (xm X) (xa X) (xb X) (xt X) (xc X) H L mc ms (xQ X) g
theorem args_map (G : WG) : ∀ (As : List Value) (n : Nat), lv_args n (smap G As) = lmap G (lv_args n As)
  | [], _ => rfl
  | v :: As, n => by
    show lv_args n (vv G v :: smap G As) = lmap G (lv_args n (v :: As))
    unfold lv_args
    rw [vv_cat]
    split <;> simp [lmap, args_map G As]
theorem Can.intro {y : MethodName} {cc : ByteArray} {nL : Nat} {ret : Option FieldType} {lv mc ms : Nat} {As : List Value} {h : HP} {Φ : Option Value → HP → Prop} (hy : plainName y.cls = true) (hn : ∀ G, (lg_sl (smap G As)).length ≤ nL)
    (body : ∀ X : CX, Cok X cc nL y.cls ret → xR X = rml lv mc ms → Qok X mc ms Φ → Wg X 0 0 h (lv_args 0 As) [] 0) : Can y cc nL ret lv mc ms As h Φ := by
  intro l G hf hg
  refine Met.ofW (cc := cc) (maxL := nL) (ret := ret) hy rfl ?_
  intro p e s m args below meth c s₁ B hml hv
  obtain ⟨rfl, hWo, hK, hb, hZ⟩ := hv
  have hts := atoms_spec (ws := Cond.code y cc nL ret :: wx_tbl) B.pre
  have C : Cok (p, l, e, rml lv mc ms, s, m, (smap G As).toArray, below, meth, c, MQ below (Qw G Φ) (smap G As).toArray s mc ms (Ga G), G) cc nL y.cls ret := ⟨B.exec, B.bytes, hml, findClass_of_methodNamed B.named, fun w hw => hts w (List.mem_cons_of_mem _ hw), B.notSynchronized, B.returns, hf, hg, hK, hb, hZ⟩
  have hl := lv_entry (smap G As) (n := nL) (hn G)
  rw [args_map] at hl
  rw [lg_entry_eq]
  exact body _ C rfl (fun H L g k => k) (Nat.zero_le _) (Nat.zero_le _) s.heap [] _ hWo va_S.rf (by rw [show (xc (p, l, e, rml lv mc ms, s, m, (smap G As).toArray, below, meth, c, MQ below (Qw G Φ) (smap G As).toArray s mc ms (Ga G), G)).maxLocals = nL from hml]; exact hl)
section RETS
variable {X : CX} {mc ms : Nat} {h : HP} {ls : List (Nat × Value)} {pc nL : Nat} {cc : ByteArray} {own : String} {Φ : Option Value → HP → Prop}
theorem q_end {H : Heap} {L : List Loc} {r : Option Value} (hΦ : Φ r h) (a : Wo (xG X) h H) (b : va_S (Ga (xG X)) (xs X).heap H L) : ∀ t : State, t.heap = H → (xs X).WarmedH t.vm → Qw (xG X) Φ (xa X) (xs X) (.returned (r.map (vv (xG X)))) t := fun t ht _ => ⟨⟨r, h, rfl, hΦ, by rw [ht]; exact a⟩, b.F ht⟩
theorem q_iret (C : Cok X cc nL own (some .int)) (Q : Qok X mc ms Φ) {v : Int32} (d : decode cc pc = .ok (.ireturn, 1)) (hΦ : Φ (some (.int v)) h) : Wg X mc ms h ls [.int v] pc := fun _ _ H L la a b c => Q H L _ (W.iret C.1 C.2.1 C.ret (q_end hΦ a b) b.2.2 d C.locks)
theorem q_lret (C : Cok X cc nL own (some .long)) (Q : Qok X mc ms Φ) {v : Int64} (d : decode cc pc = .ok (.lreturn, 1)) (hΦ : Φ (some (.long v)) h) : Wg X mc ms h ls [.long v] pc := fun _ _ H L la a b c => Q H L _ (W.lret C.1 C.2.1 C.ret (q_end hΦ a b) b.2.2 d C.locks)
theorem q_vret (C : Cok X cc nL own none) (Q : Qok X mc ms Φ) (d : decode cc pc = .ok (.return_, 1)) (hΦ : Φ none h) : Wg X mc ms h ls [] pc := fun _ _ H L la a b c => Q H L _ (W.vret C.1 C.2.1 C.ret (q_end hΦ a b) b.2.2 d C.locks)
theorem q_zret (C : Cok X cc nL own (some .boolean)) (Q : Qok X mc ms Φ) {v : Int32} (hb : v = 0 ∨ v = 1) (d : decode cc pc = .ok (.ireturn, 1)) (hΦ : Φ (some (.int v)) h) : Wg X mc ms h ls [.int v] pc := fun _ _ H L la a b c => Q H L _ (W.zret C.1 C.2.1 C.ret (by rcases hb with rfl | rfl <;> rfl) (q_end hΦ a b) b.2.2 d C.locks)
theorem q_cret (C : Cok X cc nL own (some .char)) (Q : Qok X mc ms Φ) {v : Int32} (hb : vp_nar .char v = v) (d : decode cc pc = .ok (.ireturn, 1)) (hΦ : Φ (some (.int v)) h) : Wg X mc ms h ls [.int v] pc := fun _ _ H L la a b c => Q H L _ (W.zret C.1 C.2.1 C.ret (congrArg Value.int hb) (q_end hΦ a b) b.2.2 d C.locks)
end RETS
/-- what the tables say of a method that is called -/
def Ms (y : MethodName) (cc : ByteArray) (nL : Nat) (ret : Option FieldType) (n : Nat) : Prop := Cond.code y cc nL ret ∈ wx_tbl ∧ Cond.static y ∈ wx_tbl ∧ Cond.initialized y.cls ∈ wx_tbl ∧ (y.cls ≠ "java/lang/invoke/MethodHandle" ∧ y.cls ≠ "java/lang/invoke/VarHandle" ∧ (parseMethodDescriptor y.desc).map (fun d => d.parameters.length) = some n) ∧ nL ≤ 21
def Mv (y : MethodName) (cc : ByteArray) (nL : Nat) (ret : Option FieldType) (n ci : Nat) : Prop := Cond.code y cc nL ret ∈ wx_tbl ∧ Cond.instanceMethod y ∈ wx_tbl ∧ Cond.selects y.cls y y ∈ wx_tbl ∧ Cond.initialized y.cls ∈ wx_tbl ∧ (y.cls ≠ "java/lang/invoke/MethodHandle" ∧ y.cls ≠ "java/lang/invoke/VarHandle" ∧ (parseMethodDescriptor y.desc).map (fun d => d.parameters.length) = some n) ∧ nL ≤ 21 ∧ ci < 9 ∧ ∃ T N, wcl[ci]? = some (y.cls, T, N)
theorem rml_ok {R : Room} {lv lvc mc ms mc2 ms2 nL : Nat} (Rm : R = rml lv mc ms) (hlv : lvc < lv) (hn : nL ≤ 21) : (rml lvc mc2 ms2).frames + 1 ≤ R.frames ∧ 8 + (nL + 11) + (rml lvc mc2 ms2).locals ≤ R.locals := by
  subst Rm
  show lvc + 1 ≤ lv ∧ 8 + (nL + 11) + 40 * lvc ≤ 40 * lv
  omega
theorem Ws_at {X : CX} {cc : ByteArray} {nL : Nat} {own : String} {ret : Option FieldType} (C : Cok X cc nL own ret) {h : HP} {H : Heap} {L : List Loc} (a : Wo (xG X) h H) (b : va_S (Ga (xG X)) (xs X).heap H L) (U : State) (hU : U.heap = H) (hW : (xs X).WarmedH U.vm) : Ws (xG X) h U := by
  have hz := C.zq
  have hk : ∀ a0 : Nat, a0 < (xs X).heap.size → ¬ Ga (xG X) a0 → U.heap[a0]? = (xs X).heap[a0]? := fun a0 h1 h2 => by rw [hU]; exact b.2.1 a0 h1 h2
  refine ⟨by rw [hU]; exact a, va_K.moved hW.alike C.kn, Nat.le_trans C.base (by rw [hU]; exact b.1), ?_, ?_⟩
  · exact vx_Zq.moved hW.alike (vx_Zq.kept hz.1 hk)
  · exact vx_Zq.moved hW.alike (vx_Zq.kept hz.2 hk)
theorem Ws_blind (G : WG) (h : HP) (As : List Value) : FrameBlind (va_Pc As (Ws G h)) := fun a U g mk q => by
  obtain ⟨q0, q1, q2, q3, q4⟩ := q
  exact ⟨q0, q1, va_K.moved (u := U) (U := U.calling g mk a) (Vm.Alike.refl U.vm) q2, q3, vx_Zq.moved (u := U) (U := U.calling g mk a) (Vm.Alike.refl U.vm) q4.1, vx_Zq.moved (u := U) (U := U.calling g mk a) (Vm.Alike.refl U.vm) q4.2⟩
theorem w_call {p : Program} {l : Launch} {e : Env} {R : Room} {s : State} {m : MethodId} {args : Array Value} {below : List Frame} {meth : Method} {c : Code} {H : Heap} {L : List Loc} {ce sl mc ms : Nat} {Q : State → Prop} {pc : Nat} {la : Array Slot} {st0 rest : List Value} {a : Array Value} {G : WG} {Φ : Option Value → HP → Prop}
    (hr : va_Run p l e R s m args below meth c H L ce sl mc ms (F0 m pc la st0) rest (Qw G Φ a) (Ga G)) (hS : va_S (Ga G) s.heap H L)
    (kk : ∀ (r : Option Value) (h2 : HP) (H1 : Heap) (L1 : List Loc), Φ r h2 → Wo G h2 H1 → va_S (Ga G) s.heap H1 L1 → W p l e R s m args below meth c H1 L1 (ce + mc) (sl + ms) Q (F0 m (pc + 3) la ((r.map (vv G)).toList ++ rest))) : W p l e R s m args below meth c H L ce sl Q (F0 m pc la st0) := by
  intro T hT X
  obtain ⟨v, st₀, t, T', L2, h0, X', hL, e1, e2, ⟨⟨r, h2, hv, hp, hb⟩, hz, hk⟩, st⟩ := hr T hT X
  cases hv
  rw [h0] at hz hk
  obtain ⟨t2, a1, b1⟩ := kk r h2 T'.heap (L ++ L2) hp (by rw [e1]; exact hb)
    ⟨Nat.le_trans hS.1 (by rw [e1]; exact hz), fun q h1 h2 => by rw [e1, hk q (Nat.lt_of_lt_of_le h1 hS.1) h2]; exact hS.2.1 q h1 h2, fun q hq => by
      rcases List.mem_append.mp hq with h | h
      · exact hS.2.2 q h
      · exact hL q h⟩ T' rfl X'
  exact ⟨t2, st t2 a1, b1⟩
theorem smap_opt (G : WG) (r : Option Value) (st : List Value) : (r.map (vv G)).toList ++ smap G st = smap G (r.toList ++ st) := by cases r <;> rfl
theorem smap_rev (G : WG) (As st : List Value) : smap G (As.reverse ++ st) = (smap G As).reverse ++ smap G st := by simp [smap]
section CALLS
variable {X : CX} {ce sl : Nat} {h : HP} {ls : List (Nat × Value)} {st : List Value} {pc nL lv mc ms : Nat} {cc : ByteArray} {own : String} {ret : Option FieldType}
variable {y : MethodName} {yb : ByteArray} {ynL lvc mcc msc n ci : Nat} {yret : Option FieldType} {As : List Value} {b : Nat}
theorem kd_ent {k c : Nat} (hk : kd k = (c, 0)) (hc : c < 9) (G : WG) (f : Nat → Int32) : ∃ fs, w_ent G f k = .inr (c, fs) := by
  match c, hc with
  | 0, _ => exact ⟨_, e_Wh hk G f⟩
  | 1, _ => exact ⟨_, e_Ra hk G f⟩
  | 2, _ => exact ⟨_, e_Di hk G f⟩
  | 3, _ => exact ⟨_, e_Re hk G f⟩
  | 4, _ => exact ⟨_, e_He hk G f⟩
  | 5, _ => exact ⟨_, e_Li hk G f⟩
  | 6, _ => exact ⟨_, e_Pr hk G f⟩
  | 7, _ => exact ⟨_, e_Ce hk G f⟩
  | 8, _ => exact ⟨_, e_Mo hk G f⟩
theorem w_recv (C : Cok X cc nL own ret) {H : Heap} (a : Wo (xG X) h H) (hk : kd b = (ci, 0)) (hci : ci < 9) {Cn : String} {T : u_T} {N : Nat} (hc : wcl[ci]? = some (Cn, T, N)) : ∃ cell : Cell, H[(xG X).2.1 b]? = some cell ∧ cell.vm.isStatics = false ∧ (xs X).vm.findClass Cn = some cell.cls := by
  obtain ⟨fs, hfs⟩ := kd_ent hk hci (xG X) (h b)
  exact va_recv C.kn a hc (q0 := b) (fs := fs) (by rw [wl_get _ _ (kd_lt hk (by omega)), hfs])
theorem r_callV (C : Cok X cc nL own ret) (Rm : xR X = rml lv mc ms) (M : Mv y yb ynL yret n ci) (hn : As.length = n) {ix : Nat} (hlk : Cond.methodLink own ix y ∈ wx_tbl) (hk : kd b = (ci, 0)) (hlv : lvc < lv) (hst : (st.map fun v => v.category).sum ≤ 8) (hmc : ce + mcc ≤ mc ∧ sl + msc ≤ ms) (d : decode cc pc = .ok (.invokevirtual ix, 3))
    (hM : Can y yb ynL yret lvc mcc msc (.ref b :: As) h (fun r h2 => Wg X (ce + mcc) (sl + msc) h2 ls (r.toList ++ st) (pc + 3))) : Wg X ce sl h ls (As.reverse ++ .ref b :: st) pc := by
  intro q1 q2 H L la a b2 c
  obtain ⟨m1, m2, m3, m4, m5, m6, m7, T, N, m8⟩ := M
  have hR := rml_ok (nL := ynL) (mc2 := mcc) (ms2 := msc) Rm hlv m6
  have hcw : CallW (xR X) (xs X) (xa X) own y.cls ix y yb ynL yret (.code y yb ynL yret :: wx_tbl) (rml lvc mcc msc) mcc msc n := cwV n C.hts (wx_goodIn (fun w hw => by
    unfold wsV at hw
    simp only [List.cons_append, List.nil_append, List.mem_cons] at hw
    rcases hw with rfl | rfl | rfl | rfl | rfl | hw <;> assumption)) rfl rfl rfl ⟨rfl, m5⟩ hR
  have hPre : PreV (xs X) H y.cls ((xG X).2.1 b) (va_Pc (smap (xG X) (.ref b :: As)) (Ws (xG X) h)) (smap (xG X) As) := ⟨Ws_blind _ _ _, w_recv C a hk m7 m8, fun U hU hW => ⟨rfl, Ws_at C a b2 U hU hW⟩⟩
  rw [smap_rev]
  refine w_call (va_runV (As := smap (xG X) As) (rest := smap (xG X) st) ⟨C.exec, C.code, C.nloc, C.own, C.hts⟩ (hM _ _ C.flags C.gok) hcw hPre rfl (by simp [smap, hn]) (by rw [← C.nloc]; exact c.1) rfl (lv_room (by rw [smap_cat]; exact hst)) d (by rw [Rm]; exact hmc)) b2 (fun r h2 H1 L1 z1 z2 z3 => ?_)
  rw [smap_opt]
  exact z1 (by rw [Rm]; exact hmc.1) (by rw [Rm]; exact hmc.2) H1 L1 la z2 z3 c
theorem r_callS (C : Cok X cc nL own ret) (Rm : xR X = rml lv mc ms) (M : Ms y yb ynL yret n) (hn : As.length = n) {ix : Nat} (hlk : Cond.methodLink own ix y ∈ wx_tbl) (hlv : lvc < lv) (hst : (st.map fun v => v.category).sum ≤ 8) (hmc : ce + mcc ≤ mc ∧ sl + msc ≤ ms) (d : decode cc pc = .ok (.invokestatic ix, 3))
    (hM : Can y yb ynL yret lvc mcc msc As h (fun r h2 => Wg X (ce + mcc) (sl + msc) h2 ls (r.toList ++ st) (pc + 3))) : Wg X ce sl h ls (As.reverse ++ st) pc := by
  intro q1 q2 H L la a b2 c
  obtain ⟨m1, m2, m4, m5, m6⟩ := M
  have hR := rml_ok (nL := ynL) (mc2 := mcc) (ms2 := msc) Rm hlv m6
  have hcw : CallB (xR X) (xs X) (xa X) own ix y yb ynL yret (.code y yb ynL yret :: wx_tbl) (rml lvc mcc msc) mcc msc n ∧ (Cond.static y).before (xa X) (xs X) = true := va_cwS n C.hts (wx_goodIn (fun w hw => by
    unfold va_wsS at hw
    simp only [List.cons_append, List.nil_append, List.mem_cons] at hw
    rcases hw with rfl | rfl | rfl | rfl | hw <;> assumption)) rfl rfl rfl m5 hR
  have hPre : PreS (xs X) H (va_Pc (smap (xG X) As) (Ws (xG X) h)) (smap (xG X) As) := ⟨Ws_blind _ _ _, fun U hU hW => ⟨rfl, Ws_at C a b2 U hU hW⟩⟩
  rw [smap_rev]
  refine w_call (va_runS (As := smap (xG X) As) (rest := smap (xG X) st) ⟨C.exec, C.code, C.nloc, C.own, C.hts⟩ (hM _ _ C.flags C.gok) hcw hPre rfl (by simp [smap, hn]) (by rw [← C.nloc]; exact c.1) rfl (lv_room (by rw [smap_cat]; exact hst)) d (by rw [Rm]; exact hmc)) b2 (fun r h2 H1 L1 z1 z2 z3 => ?_)
  rw [smap_opt]
  exact z1 (by rw [Rm]; exact hmc.1) (by rw [Rm]; exact hmc.2) H1 L1 la z2 z3 c
end CALLS
