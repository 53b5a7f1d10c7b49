/-! Throwing: methods that throw in a world that they leave as it was; their callers that catch. -/
abbrev nmE : List String := ["java/lang/RuntimeException", "java/lang/Exception"]
abbrev E_arg : String := "java/lang/IllegalArgumentException"
abbrev E_sta : String := "java/lang/IllegalStateException"
/-- the words of a throw that change as the machine warms, though what they say stays true -/
def XNw : List Cond := [.castable E_arg E_arg, .castable E_sta E_sta, .declares (Bundle.init0 "java/lang/RuntimeException"), .declares (Bundle.init0 "java/lang/Exception"), .declares (Bundle.init0 Bundle.tN)]
def NW (U : State) : Prop := ∀ w ∈ XNw, va_Nw w U
theorem NW.warm {s U : State} (h : NW s) (hW : s.WarmedH U.vm) : NW U := by
  have d : ∀ y, va_Nw (.declares y) s → va_Nw (.declares y) U := fun y hy => va_tabs rfl (rfl : (s.setVm U.vm).vm = U.vm) (by rw [Cond.declares_setVm hW.alike]; exact hy)
  intro w hw
  have hs := h w hw
  simp only [XNw, List.mem_cons, List.not_mem_nil, or_false] at hw
  rcases hw with rfl | rfl | rfl | rfl | rfl
  · exact hs.warmC hW
  · exact hs.warmC hW
  · exact d _ hs
  · exact d _ hs
  · exact d _ hs
theorem NW.at {s : State} {args : Array Value} (h : NW s) : ∀ w ∈ XNw, w.before args s = true := by
  intro w hw
  have hs := h w hw
  simp only [XNw, List.mem_cons, List.not_mem_nil, or_false] at hw
  rcases hw with rfl | rfl | rfl | rfl | rfl <;> exact va_tabs rfl rfl hs
theorem at_arg : ∀ w ∈ vx_at0 R_Ce 178 E_arg nmE, w ∈ wx_tbl ∨ w ∈ XNw := by decide +kernel
theorem at_sta : ∀ w ∈ vx_at0 R_Ce 132 E_sta nmE, w ∈ wx_tbl ∨ w ∈ XNw := by decide +kernel
theorem og_arg : ∀ w ∈ Cond.classLink R_Ce 176 E_arg :: Cond.initialized E_arg :: vx_at0 R_Ce 178 E_arg nmE, vx_ot w = true := by decide +kernel
theorem og_sta : ∀ w ∈ Cond.classLink R_Ce 130 E_sta :: Cond.initialized E_sta :: vx_at0 R_Ce 132 E_sta nmE, vx_ot w = true := by decide +kernel
theorem in_arg : Cond.classLink R_Ce 176 E_arg ∈ wx_tbl ∧ Cond.initialized E_arg ∈ wx_tbl := by decide +kernel
theorem in_sta : Cond.classLink R_Ce 130 E_sta ∈ wx_tbl ∧ Cond.initialized E_sta ∈ wx_tbl := by decide +kernel
theorem ft_arg : Bundle.fit E_arg = true ∧ ∀ n ∈ nmE, Bundle.fit n = true := by decide +kernel
theorem ft_sta : Bundle.fit E_sta = true ∧ ∀ n ∈ nmE, Bundle.fit n = true := by decide +kernel
def Xw (G : WG) (E : String) (h : HP) : String → State → State → Prop := vx_X (fun _ : Unit => True) (fun E' _ t => E' = E ∧ Wo G h t.heap) (Ga G)
def WsX (G : WG) (h : HP) (U : State) : Prop := Ws G h U ∧ NW U
theorem WsX_blind (G : WG) (h : HP) (As : List Value) : FrameBlind (va_Pc As (WsX G h)) := fun a U g mk q => by
  obtain ⟨q0, q1, q2⟩ := q
  have hb := Ws_blind G h As a U g mk ⟨q0, q1⟩
  refine ⟨hb.1, hb.2, ?_⟩
  exact q2.warm (U := U.calling g mk a) (State.WarmedH.refl U)
/-- called so, the method throws E, the world as it was -/
def CanX (y : MethodName) (cc : ByteArray) (nL : Nat) (ret : Option FieldType) (lv : Nat) (E : String) (As : List Value) (h : HP) : Prop :=
  ∀ (l : Launch) (G : WG), l.flags = flags0 → Gok G → vx_Met l y (.code y cc nL ret :: wx_tbl) (rml lv 1 6) (va_Pc (smap G As) (WsX G h)) (fun _ _ _ _ => False) (Xw G E h) 1 6 (Ga G)
def CokX (X : CX) (E : String) (h : HP) : Prop := NW (xs X) ∧ xQ X = vx_MQ (xb X) (fun _ _ _ _ => False) (Xw (xG X) E h) (xa X) (xs X) 1 6 (Ga (xG X)) ∧ ∀ x ∈ (xc X).exceptionTable.toList, False
theorem notr {l : Launch} (h : l.flags = flags0) : l.stackTraces = false := by
  unfold Launch.stackTraces
  rw [h]
  decide +kernel
theorem CanX.intro {y : MethodName} {cc : ByteArray} {nL : Nat} {ret : Option FieldType} {lv : Nat} {E : String} {As : List Value} {h : HP} (hy : plainName y.cls = true) (hn : ∀ G, (lg_sl (smap G As)).length ≤ nL)
    (body : ∀ X : CX, Cok X cc nL y.cls ret → CokX X E h → xR X = rml lv 1 6 → Wg X 0 0 h (lv_args 0 As) [] 0) : CanX y cc nL ret lv E As h := by
  intro l G hf hg
  refine vx_ofW (cc := cc) (maxL := nL) (ret := ret) hy rfl ?_
  intro p e s m args below meth c s₁ B hml ht hv
  obtain ⟨rfl, ⟨hWo, hK, hb, hZ⟩, hN⟩ := hv
  have hts := atoms_spec (ws := Cond.code y cc nL ret :: wx_tbl) B.pre
  have C : Cok (p, l, e, rml lv 1 6, s, m, (smap G As).toArray, below, meth, c, vx_MQ below (fun _ _ _ _ => False) (Xw G E h) (smap G As).toArray s 1 6 (Ga G), G) cc nL y.cls ret := ⟨B.exec, B.bytes, hml, findClass_of_methodNamed B.named, fun w hw => hts w (List.mem_cons_of_mem _ hw), B.notSynchronized, B.returns, hf, hg, hK, hb, hZ⟩
  have hl := lv_entry (smap G As) (n := nL) (hn G)
  rw [args_map] at hl
  rw [lg_entry_eq]
  exact body _ C ⟨hN, rfl, ht⟩ rfl (Nat.zero_le _) (Nat.zero_le _) s.heap [] _ hWo va_S.rf (by rw [show (xc (p, l, e, rml lv 1 6, s, m, (smap G As).toArray, below, meth, c, vx_MQ below (fun _ _ _ _ => False) (Xw G E h) (smap G As).toArray s 1 6 (Ga G), G)).maxLocals = nL from hml]; exact hl)
theorem Wo.keptX {G : WG} {h : HP} {H H1 : Heap} (a : Wo G h H) (hk : ∀ q : Nat, q < H.size → H1[q]? = H[q]?) : Wo G h H1 := va_P.kept a (fun _ _ hq => hk _ (vx_lt a hq))
section THR
variable {X : CX} {h : HP} {ls : List (Nat × Value)} {st : List Value} {pc nL lv : Nat} {cc : ByteArray} {ret : Option FieldType}
theorem r_throwG {cls : String} {ik ic : Nat} (C : Cok X cc nL R_Ce ret) (D : CokX X cls h) (Rm : xR X = rml lv 1 6) (hlv : 6 ≤ lv) (ft : Bundle.fit cls = true ∧ ∀ n ∈ nmE, Bundle.fit n = true) (hin : Cond.classLink R_Ce ik cls ∈ wx_tbl ∧ Cond.initialized cls ∈ wx_tbl) (hat : ∀ w ∈ vx_at0 R_Ce ic cls nmE, w ∈ wx_tbl ∨ w ∈ XNw) (hog : ∀ w ∈ Cond.classLink R_Ce ik cls :: Cond.initialized cls :: vx_at0 R_Ce ic cls nmE, vx_ot w = true) (hst : (st.map fun v => v.category).sum ≤ 8)
    (d0 : decode cc pc = .ok (.new ik, 3)) (d3 : decode cc (pc + 3) = .ok (.dup, 1)) (d4 : decode cc (pc + 4) = .ok (.invokespecial ic, 3)) (d7 : decode cc (pc + 7) = .ok (.athrow, 1)) : Wg X 0 0 h ls st pc := by
  intro q1 q2 H L la a b c
  rw [D.2.1]
  refine vx_throw0 (names := nmE) (A := Ga (xG X)) C.exec C.code (notr C.flags) C.own ft.1 ft.2 (C.hts _ hin.1) (C.hts _ hin.2) (fun w hw => ?_) hog C.zq.1 C.zq.2 b c.1 d0 d3 d4 d7 (fun x hx => (D.2.2 x hx).elim) ?_ ?_ ?_ ?_ C.locks (fun t ht hz hk => ⟨(), trivial, ⟨rfl, a.keptX hk⟩, ?_⟩) b.2.2 (Nat.le_refl _) (Nat.le_refl _)
  · rcases hat w hw with z | z
    · exact C.hts _ z
    · exact D.1.at w z
  · rw [Rm]
    show 2 + 3 < lv
    omega
  · rw [Rm, smap_cat]
    show _ + (13 * (2 + 1) + 42) ≤ 40 * lv
    omega
  · rw [Rm]
    exact Nat.le_refl _
  · rw [Rm]
    exact Nat.le_refl _
  · exact ⟨Nat.le_trans b.1 hz, fun q h1 h2 => (hk q (Nat.lt_of_lt_of_le h1 b.1)).trans (b.2.1 q h1 h2)⟩
theorem WsX_at {own : String} (C : Cok X cc nL own ret) (N : NW (xs X)) {H : Heap} {L : List Loc} (a : Wo (xG X) h H) (b : va_S (Ga (xG X)) (xs X).heap H L) (U : State) (hU : U.heap = H) (hW : (xs X).WarmedH U.vm) : WsX (xG X) h U := ⟨Ws_at C a b U hU hW, N.warm hW⟩
/-- a static method that throws, called in one that doesn't catch -/
theorem r_callSX {own E : String} {y : MethodName} {yb : ByteArray} {ynL lvc n : Nat} {yret : Option FieldType} {As : List Value} (C : Cok X cc nL own ret) (D : CokX X E h) (Rm : xR X = rml lv 1 6) (M : Ms y yb ynL yret n) (hn : As.length = n) {ix : Nat} (hlk : Cond.methodLink own ix y ∈ wx_tbl) (hlv : lvc < lv) (hst : (st.map fun v => v.category).sum ≤ 8) (d : decode cc pc = .ok (.invokestatic ix, 3))
    (hM : CanX y yb ynL yret lvc E As h) : Wg X 0 0 h ls (As.reverse ++ st) pc := by
  intro q1 q2 H L la a b2 c
  obtain ⟨m1, m2, m4, m5, m6⟩ := M
  have hR := rml_ok (nL := ynL) (mc2 := 1) (ms2 := 6) Rm hlv m6
  have hcw : CallB (xR X) (xs X) (xa X) own ix y yb ynL yret (.code y yb ynL yret :: wx_tbl) (rml lvc 1 6) 1 6 n ∧ (Cond.static y).before (xa X) (xs X) = true := va_cwS n C.hts (wx_goodIn (fun w hw => by
    unfold va_wsS at hw
    simp only [List.cons_append, List.nil_append, List.mem_cons] at hw
    rcases hw with rfl | rfl | rfl | rfl | hw <;> assumption)) rfl rfl rfl m5 hR
  have hPre : PreS (xs X) H (va_Pc (smap (xG X) As) (WsX (xG X) h)) (smap (xG X) As) := ⟨WsX_blind _ _ _, fun U hU hW => ⟨rfl, WsX_at C D.1 a b2 U hU hW⟩⟩
  rw [smap_rev]
  have hr := vx_runS (e := xe X) (below := xb X) (meth := xt X) (As := smap (xG X) As) (rest := smap (xG X) st) (g := F0 (xm X) pc la ((smap (xG X) As).reverse ++ smap (xG X) st)) (cells := 0) (slots := 0) (locs := L) ⟨C.exec, C.code, C.nloc, C.own, C.hts⟩ (hM _ _ C.flags C.gok) hcw hPre rfl (by simp [smap, hn]) (by rw [← C.nloc]; exact c.1) rfl (lv_room (by rw [smap_cat]; exact hst)) d (by rw [Rm]; exact ⟨Nat.le_refl _, Nat.le_refl _⟩)
  intro T hT X0
  rcases hr T hT X0 with ⟨v, st₀, t, T', L2, h0, X', hL, e1, e2, hF, stp⟩ | ⟨q, st₀, t, T', L2, E', ce, h0, X', hL, e1, e2, ⟨u, hp, ⟨hE, hb⟩, hF⟩, hce, hcv, hcl, stp⟩
  · exact hF.elim
  · obtain ⟨k1, k2, k3⟩ := vx_keep h0 e1 b2 (fun _ _ z => z) (fun _ z => z) hL hF
    have ko : vx_W (xp X) (xl X) (xe X) (xR X) (xs X) (xm X) (xa X) (xb X) (xt X) (xc X) T'.heap (L ++ L2) (0 + 1) (0 + 6) (xQ X) (F0 (xm X) pc la (smap (xG X) st)) q := by
      rw [D.2.1]
      refine vx_out (fun x hx => (D.2.2 x hx).elim) C.locks (by rw [e1]; exact hce) hcv hcl (fun t2 ht2 _ => ⟨(), trivial, ⟨hE, by rw [ht2, e1]; exact hb⟩, ?_⟩) k3.2.2 (Nat.le_refl _) (Nat.le_refl _)
      exact ⟨by rw [ht2]; exact k3.1, fun q h1 h2 => by rw [ht2]; exact k3.2.1 q h1 h2⟩
    obtain ⟨t2, a1, b1⟩ := ko T' rfl X'
    exact ⟨t2, stp.trans a1, b1⟩
/-- a virtual method that throws, called where it is caught; the thrown one goes into a local of its own -/
theorem r_callVC {own E : String} {y : MethodName} {yb : ByteArray} {ynL lvc n ci b k : Nat} {yret : Option FieldType} {As : List Value} {Q' : Option Value → HP → Prop} {hp hl ct : Nat} {p0 p1 : Nat} {ls2 : List (Nat × Value)} (C : Cok X cc nL own ret) (N : NW (xs X)) (Rm : xR X = rml lv 1 6) (ht : (xc X).exceptionTable.toList = tableOf [(p0, p1, hp, ct)]) (hcov : p0 ≤ pc ∧ pc < p1) (hct : ct ≠ 0) (hlt : Cond.classLink own ct E ∈ wx_tbl) (hE : Cond.castable E E ∈ XNw) (M : Mv y yb ynL yret n ci) (hn : As.length = n) {ix : Nat} (hlk : Cond.methodLink own ix y ∈ wx_tbl) (hk : kd b = (ci, 0)) (hlv : lvc < lv) (hst : (st.map fun v => v.category).sum ≤ 8) (d : decode cc pc = .ok (.invokevirtual ix, 3))
    (hM : CanX y yb ynL yret lvc E (.ref b :: As) h) (ds : (∃ n : Fin 4, (n : Nat) = k ∧ decode cc hp = .ok (.astore_n n, 1) ∧ hl = 1) ∨ (decode cc hp = .ok (.astore k, 2) ∧ hl = 2)) (hkn : k < nL) (h2 : ∀ q ∈ ls2, q ∈ ls ∧ q.1 ≠ k ∧ q.1 + 1 ≠ k) (kk : Wg X 1 6 h ls2 [] (hp + hl)) : Wg X 0 0 h ls (As.reverse ++ .ref b :: st) pc := by
  intro q1 q2 H L la a b2 c
  obtain ⟨m1, m2, m3, m4, m5, m6, m7, T, Nn, m8⟩ := M
  have hR := rml_ok (nL := ynL) (mc2 := 1) (ms2 := 6) Rm hlv m6
  have hcw : CallW (xR X) (xs X) (xa X) own y.cls ix y yb ynL yret (.code y yb ynL yret :: wx_tbl) (rml lvc 1 6) 1 6 n := cwV n C.hts (wx_goodIn (fun w hw => by
    unfold wsV at hw
    simp only [List.cons_append, List.nil_append, List.mem_cons] at hw
    rcases hw with rfl | rfl | rfl | rfl | rfl | hw <;> assumption)) rfl rfl rfl ⟨rfl, m5⟩ hR
  have hPre : PreV (xs X) H y.cls ((xG X).2.1 b) (va_Pc (smap (xG X) (.ref b :: As)) (WsX (xG X) h)) (smap (xG X) As) := ⟨WsX_blind _ _ _, w_recv C a hk m7 m8, fun U hU hW => ⟨rfl, WsX_at C N a b2 U hU hW⟩⟩
  rw [smap_rev]
  have hr := vx_runV (e := xe X) (below := xb X) (meth := xt X) (As := smap (xG X) As) (rest := smap (xG X) st) (g := F0 (xm X) pc la ((smap (xG X) As).reverse ++ smap (xG X) (.ref b :: st))) (cells := 0) (slots := 0) (locs := L) ⟨C.exec, C.code, C.nloc, C.own, C.hts⟩ (hM _ _ C.flags C.gok) hcw hPre rfl (by simp [smap, hn]) (by rw [← C.nloc]; exact c.1) rfl (lv_room (by rw [smap_cat]; exact hst)) d (by rw [Rm]; exact ⟨Nat.le_refl _, Nat.le_refl _⟩)
  intro T0 hT X0
  rcases hr T0 hT X0 with ⟨v, st₀, t, T', L2, h0, X', hL, e1, e2, hF, stp⟩ | ⟨q, st₀, t, T', L2, E', ce, h0, X', hL, e1, e2, ⟨u, hpp, ⟨hE', hb⟩, hF⟩, hce, hcv, hcl, stp⟩
  · exact hF.elim
  · obtain ⟨k1, k2, k3⟩ := vx_keep h0 e1 b2 (fun _ _ z => z) (fun _ z => z) hL hF
    subst hE'
    have hls : ∀ la2 : Array Slot, lv_has la2 (xc X).maxLocals ((k, .ref q) :: (lmap (xG X) ls).filter (fun q => !(q.1 == k) && !(q.1 + 1 == k && q.2.category == 2))) → lv_has la2 (xc X).maxLocals (lmap (xG X) ls2) := fun la2 c2 => ⟨c2.1, c2.2.1, fun w hw => by
      obtain ⟨w0, hw0, rfl⟩ := List.mem_map.mp hw
      obtain ⟨x1, x2, x3⟩ := h2 w0 hw0
      refine c2.2.2 _ (List.mem_cons_of_mem _ (List.mem_filter.mpr ⟨List.mem_map.mpr ⟨w0, x1, rfl⟩, ?_⟩))
      simp [x2, x3]⟩
    have kh : W (xp X) (xl X) (xe X) (xR X) (xs X) (xm X) (xa X) (xb X) (xt X) (xc X) T'.heap (L ++ L2) (0 + 1) (0 + 6) (xQ X) (F0 (xm X) hp la [.ref q]) := by
      have go : ∀ la2 : Array Slot, lv_has la2 (xc X).maxLocals (lmap (xG X) ls2) → W (xp X) (xl X) (xe X) (xR X) (xs X) (xm X) (xa X) (xb X) (xt X) (xc X) T'.heap (L ++ L2) (0 + 1) (0 + 6) (xQ X) (F0 (xm X) (hp + hl) la2 []) := fun la2 c2 => kk (by rw [Rm]; exact Nat.le_refl _) (by rw [Rm]; exact Nat.le_refl _) T'.heap (L ++ L2) la2 (by rw [e1]; exact hb) k3 c2
      rcases ds with ⟨n4, hn4, dd, rfl⟩ | ⟨dd, rfl⟩
      · exact lv_astore_n C.1 C.2.1 dd hn4 c (by rw [C.nloc]; exact hkn) rfl (fun la2 c2 => go la2 (hls la2 c2))
      · exact lv_astore C.1 C.2.1 dd c (by rw [C.nloc]; exact hkn) rfl (fun la2 c2 => go la2 (hls la2 c2))
    have ko : vx_W (xp X) (xl X) (xe X) (xR X) (xs X) (xm X) (xa X) (xb X) (xt X) (xc X) T'.heap (L ++ L2) (0 + 1) (0 + 6) (xQ X) (F0 (xm X) pc la (smap (xG X) st)) q := by
      refine vx_catch (own := own) (name := E') C.own [] ⟨p0, p1, hp, ct⟩ [] ht (fun z hz => nomatch hz) ?_ hct (C.hts _ hlt) (N.at _ hE) (by rw [e1]; exact hce) hcv hcl kh
      simp [covers, hcov.1, hcov.2]
    obtain ⟨t2, a1, b1⟩ := ko T' rfl X'
    exact ⟨t2, stp.trans a1, b1⟩
end THR
/-- a method with a table of handlers that returns -/
def CanH (y : MethodName) (cc : ByteArray) (nL : Nat) (ret : Option FieldType) (hh : List (Nat × Nat × Nat × Nat)) (lv mc ms : Nat) (As : List Value) (h : HP) (Φ : Option Value → HP → Prop) : Prop :=
  ∀ (l : Launch) (G : WG), l.flags = flags0 → Gok G → Met l y (.codeWith y cc nL ret hh :: wx_tbl) (rml lv mc ms) (va_Pc (smap G As) (WsX G h)) (Qw G Φ) mc ms (Ga G)
theorem CanH.intro {y : MethodName} {cc : ByteArray} {nL : Nat} {ret : Option FieldType} {hh : List (Nat × Nat × Nat × Nat)} {lv mc ms : Nat} {As : List Value} {h : HP} {Φ : Option Value → HP → Prop} (hy : plainName y.cls = true) (hn : ∀ G, (lg_sl (smap G As)).length ≤ nL)
    (body : ∀ X : CX, Cok X cc nL y.cls ret → NW (xs X) → (xc X).exceptionTable.toList = tableOf hh → xR X = rml lv mc ms → Qok X mc ms Φ → Wg X 0 0 h (lv_args 0 As) [] 0) : CanH y cc nL ret hh lv mc ms As h Φ := by
  intro l G hf hg
  have key : vx_Met l y (.codeWith y cc nL ret hh :: wx_tbl) (rml lv mc ms) (va_Pc (smap G As) (WsX G h)) (Qw G Φ) (fun _ _ _ => False) mc ms (Ga G) := by
    refine vx_ofWH (cc := cc) (maxL := nL) (ret := ret) (hh := hh) hy rfl ?_
    intro p e s m args below meth c s₁ B hml hv
    obtain ⟨rfl, ⟨hWo, hK, hb, hZ⟩, hN⟩ := hv
    have hts := atoms_spec (ws := Cond.codeWith y cc nL ret hh :: wx_tbl) B.pre
    have C : Cok (p, l, e, rml lv mc ms, s, m, (smap G As).toArray, below, meth, c, MQ below (Qw G Φ) (smap G As).toArray s mc ms (Ga G), G) cc nL y.cls ret := ⟨B.exec, B.bytes, hml, findClass_of_methodNamed B.named, fun w hw => hts w (List.mem_cons_of_mem _ hw), B.notSynchronized, B.returns, hf, hg, hK, hb, hZ⟩
    have hl := lv_entry (smap G As) (n := nL) (hn G)
    rw [args_map] at hl
    rw [lg_entry_eq]
    exact vx_ret (body _ C hN (vx_table (x := y) B (hts _ List.mem_cons_self)) rfl (fun H L g k => k) (Nat.zero_le _) (Nat.zero_le _) s.heap [] _ hWo va_S.rf (by rw [show (xc (p, l, e, rml lv mc ms, s, m, (smap G As).toArray, below, meth, c, MQ below (Qw G Φ) (smap G As).toArray s mc ms (Ga G), G)).maxLocals = nL from hml]; exact hl))
  refine MetFree.mono key (fun _ _ z => z) (fun _ _ _ _ _ z => z) (fun a st o t _ z => ?_)
  rcases z with z | ⟨q, -, E, ce, L, hx, -⟩
  · exact z
  · exact hx.elim
theorem CanH.mono {y : MethodName} {cc : ByteArray} {nL : Nat} {ret : Option FieldType} {hh : List (Nat × Nat × Nat × Nat)} {lv mc ms : Nat} {As : List Value} {h : HP} {Φ Ψ : Option Value → HP → Prop} (k : CanH y cc nL ret hh lv mc ms As h Φ) (i : ∀ r h2, Φ r h2 → Ψ r h2) : CanH y cc nL ret hh lv mc ms As h Ψ := fun l G hf hg =>
  MetFree.mono (k l G hf hg) (fun _ _ z => z) (fun _ _ _ _ _ z => z) (fun a st o t _ z => by
    obtain ⟨⟨⟨r, h2, z1, z2, z3⟩, z4⟩, z5⟩ := z
    exact ⟨⟨⟨r, h2, z1, i r h2 z2, z3⟩, z4⟩, z5⟩)
def MsH (y : MethodName) (cc : ByteArray) (nL : Nat) (ret : Option FieldType) (hh : List (Nat × Nat × Nat × Nat)) (n : Nat) : Prop := Cond.codeWith y cc nL ret hh ∈ wx_tbl ∧ Cond.static y ∈ wx_tbl ∧ Cond.initialized y.cls ∈ wx_tbl ∧ (y.cls ≠ "java/lang/invoke/MethodHandle" ∧ y.cls ≠ "java/lang/invoke/VarHandle" ∧ (parseMethodDescriptor y.desc).map (fun d => d.parameters.length) = some n) ∧ nL ≤ 21
theorem r_callSH {X : CX} {ce sl : Nat} {h : HP} {ls : List (Nat × Value)} {st : List Value} {pc nL lv mc ms : Nat} {cc : ByteArray} {own : String} {ret : Option FieldType} {y : MethodName} {yb : ByteArray} {ynL lvc mcc msc n : Nat} {yret : Option FieldType} {hh : List (Nat × Nat × Nat × Nat)} {As : List Value} (C : Cok X cc nL own ret) (N : NW (xs X)) (hRf : lvc + 1 ≤ (xR X).frames ∧ 8 + (ynL + 11) + 40 * lvc ≤ (xR X).locals) (M : MsH y yb ynL yret hh n) (hn : As.length = n) {ix : Nat} (hlk : Cond.methodLink own ix y ∈ wx_tbl) (hst : (st.map fun v => v.category).sum ≤ 8) (hmc : ce + mcc ≤ (xR X).cells ∧ sl + msc ≤ (xR X).slots) (d : decode cc pc = .ok (.invokestatic ix, 3))
    (hM : CanH y yb ynL yret hh lvc mcc msc As h (fun r h2 => Wg X (ce + mcc) (sl + msc) h2 ls (r.toList ++ st) (pc + 3))) : Wg X ce sl h ls (As.reverse ++ st) pc := by
  intro q1 q2 H L la a b2 c
  obtain ⟨m1, m2, m4, m5, m6⟩ := M
  have hcw : vx_CSW (xR X) (xs X) (xa X) own ix y yb ynL yret hh (.codeWith y yb ynL yret hh :: wx_tbl) (rml lvc mcc msc) mcc msc n := vx_cwSW n C.hts (wx_goodIn (fun w hw => by
    unfold va_wsS at hw
    simp only [List.cons_append, List.nil_append, List.mem_cons] at hw
    rcases hw with rfl | rfl | rfl | rfl | hw <;> assumption)) rfl rfl rfl m5 hRf
  have hPre : PreS (xs X) H (va_Pc (smap (xG X) As) (WsX (xG X) h)) (smap (xG X) As) := ⟨WsX_blind _ _ _, fun U hU hW => ⟨rfl, WsX_at C N a b2 U hU hW⟩⟩
  rw [smap_rev]
  refine w_call (vx_runSW (As := smap (xG X) As) (rest := smap (xG X) st) ⟨C.exec, C.code, C.nloc, C.own, C.hts⟩ (hM _ _ C.flags C.gok) hcw hPre rfl (by simp [smap, hn]) (by rw [← C.nloc]; exact c.1) rfl (lv_room (by rw [smap_cat]; exact hst)) d hmc) b2 (fun r h2 H1 L1 z1 z2 z3 => ?_)
  rw [smap_opt]
  exact z1 hmc.1 hmc.2 H1 L1 la z2 z3 c
