/-! The law's start: a constructor's call in the law's frame; from the three objects to the loop. -/
abbrev lS (s : State) : Nat → Prop := fun q : Nat => s.heap.size ≤ q
theorem lk_call {p : Program} {l : Launch} {e : Env} {s : State} {m : MethodId} {args : Array Value} {below : List Frame} {meth : Method} {c : Code} {H : Heap} {L : List Loc} {la : Array Slot} {ls : List (Nat × Value)} {Q : State → Prop} {G : WG} {yb : ByteArray} {ce sl pc mc ms ci ix n q : Nat} {wr : va_W} {st : List Value} {rm : Room} {y : MethodName} {fs : List Value} {S : WG → (Nat → Nat) → va_W} (hx : p.tables.exec = Jvm.exec) (hb : c.code = code) (hml : c.maxLocals = 7) (hown : s.vm.findClass R_Lw = some m.cls) (hts : ∀ w ∈ wx_tbl, w.before args s = true) (hK : Kn G s) (hNK : NK s) (a : va_P G.1 wcl (wr ++ [(q, .inr (ci, fs))]) H) (b : va_D (lS s) (wr ++ [(q, .inr (ci, fs))])) (c2 : va_S (lS s) s.heap H L) (e2 : lv_has la 7 ls) (hM : Kc y yb rm mc ms ci fs S) (hrm : rm.cells = mc ∧ rm.slots = ms) (hwc : Cond.code y yb 1 none ∈ wx_tbl) (hini : Cond.initialized y.cls ∈ wx_tbl) (hlk : Cond.methodLink R_Lw ix y ∈ wx_tbl) (him : Cond.instanceMethod y ∈ wx_tbl) (hyn : y.name = "<init>") (hyc : y.cls ≠ "java/lang/invoke/MethodHandle" ∧ y.cls ≠ "java/lang/invoke/VarHandle" ∧ (parseMethodDescriptor y.desc).map (fun d => d.parameters.length) = some 0) (hR : rm.frames + 1 ≤ room_1.frames ∧ 8 + (1 + 11) + rm.locals ≤ room_1.locals) (hst : (st.map fun v => v.category).sum ≤ 8) (hce : ce + mc ≤ room_1.cells ∧ sl + ms ≤ room_1.slots) (hC : (wr ++ [(q, .inr (ci, fs))])[n]? = some (q, .inr (ci, fs))) (isR : List Nat) (hRr : isR.map (fun i => (wr ++ [(q, .inr (ci, fs))])[i]?) = wr.map some) (hnd : va_nd isR = true) (hdis : ∀ i ∈ isR, i ∉ [n]) (d : decode code pc = .ok (.invokespecial ix, 3))
    (kk : ∀ am : Nat → Nat, am 0 = q → ∀ (H1 : Heap) (L1 : List Loc), va_P G.1 wcl (wr ++ S G am) H1 → va_D (lS s) (wr ++ S G am) → va_S (lS s) s.heap H1 L1 → W p l e room_1 s m args below meth c H1 L1 (ce + mc) (sl + ms) Q (F0 m (pc + 3) la st)) : W p l e room_1 s m args below meth c H L ce sl Q (F0 m pc la (.ref q :: st)) := by
  have hFc := va_free (wc := [(q, .inr (ci, fs))]) b c2 (fun _ h => h) [n] (by simp [hC])
  have hPc : va_P G.1 wcl [(q, .inr (ci, fs))] H := a.sub [n] (by simp [hC])
  have hDc : va_D (lS s) [(q, .inr (ci, fs))] := b.sub [n] rfl (by simp [hC])
  refine va_callv (va_runI (As := []) (rest := st) ⟨hx, hb, hml, hown, hts⟩ (hM l G q H.size) (cwI 0 hts (wx_goodIn (fun w hw => by
    rcases List.mem_cons.mp hw with rfl | hw
    · exact hwc
    · exact hw)) rfl hrm.1 hrm.2 (hts _ hini) (hts _ hlk) (hts _ him) hyn hyc hR) ⟨fun a U g mk q => by obtain ⟨q0, q1, qP, qK, qN, qD⟩ := q; exact ⟨q0, q1, qP, va_K.moved (u := U) (U := U.calling g mk a) (Vm.Alike.refl U.vm) qK, qN.warm (U := U.calling g mk a) (State.WarmedH.refl U), qD⟩, fun U hU hW => ⟨rfl, by rw [hU], by rw [hU]; exact hPc, va_K.moved hW.alike hK, hNK.warm hW, hDc.weaken (fun _ _ _ _ => trivial)⟩⟩ rfl rfl e2.1 rfl (lv_room hst) d hce) c2 (fun q _ h => hFc q h) hFc (fun am t H1 L1 ht hvm hw hB hz1 hk1 hS => ?_)
  obtain ⟨hP1, hK1, hD1⟩ := hB
  rw [ht] at hP1
  obtain ⟨hP, hD⟩ := va_join (wr := wr) (w1 := S G am) a b [n] isR (by simp [hC]) hRr hnd hdis hk1 hFc hP1 hD1
  exact kk am hw H1 L1 hP hD hS
/-- where the objects are -/
def lw_o (amC amM : Nat → Nat) (q3 b : Nat) : Nat → Nat := fun k => bif Nat.blt k 14 then amM k else bif Nat.blt k 58 then amC (k - 14) else bif Nat.beq k 58 then q3 else b
def lw_is : List Nat := [44, 45, 46, 47, 48, 49, 50, 51, 52, 53, 54, 55, 56, 57, 0, 1, 2, 3, 4, 5, 6, 7, 8, 9, 10, 11, 12, 13, 14, 15, 16, 17, 18, 19, 20, 21, 22, 23, 24, 25, 26, 27, 28, 29, 30, 31, 32, 33, 34, 35, 36, 37, 38, 39, 40, 41, 42, 43, 58]
def lw_w (G : WG) (amC amM : Nat → Nat) (q3 : Nat) : va_W := (S_Ce G amC ++ S_Mo G amM) ++ [(q3, .inl (G.2.2.1 3, (1, .inr (.inl (fun _ => Int32.toInt64 0)))))]
set_option maxHeartbeats 4000000 in
set_option maxRecDepth 100000 in
theorem lw_map (D : va_G) (dA : Nat → ClassId) (amC amM : Nat → Nat) (q3 b n : Nat) (o0 : Nat → Nat) (n0 : Nat) : lw_is.map (fun i => (lw_w (D, o0, dA, n0) amC amM q3)[i]?) = (wl (D, lw_o amC amM q3 b, dA, n) (fun _ _ => 0)).map some := rfl
