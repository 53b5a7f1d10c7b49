/-! From the entry to the loop. -/
theorem d_La_law_0 : decode code 0 = .ok (.new 8, 3) := by decide +kernel
theorem d_La_law_3 : decode code 3 = .ok (.dup, 1) := by decide +kernel
theorem d_La_law_4 : decode code 4 = .ok (.invokespecial 66, 3) := by decide +kernel
theorem d_La_law_7 : decode code 7 = .ok (.astore_n 1, 1) := by decide +kernel
theorem d_La_law_8 : decode code 8 = .ok (.new 67, 3) := by decide +kernel
theorem d_La_law_11 : decode code 11 = .ok (.dup, 1) := by decide +kernel
theorem d_La_law_12 : decode code 12 = .ok (.invokespecial 69, 3) := by decide +kernel
theorem d_La_law_15 : decode code 15 = .ok (.astore_n 2, 1) := by decide +kernel
theorem d_La_law_16 : decode code 16 = .ok (.iconst 1, 1) := by decide +kernel
theorem d_La_law_17 : decode code 17 = .ok (.newarray .long, 2) := by decide +kernel
theorem d_La_law_19 : decode code 19 = .ok (.astore_n 3, 1) := by decide +kernel
theorem d_La_law_20 : decode code 20 = .ok (.iconst 0, 1) := by decide +kernel
theorem d_La_law_21 : decode code 21 = .ok (.istore 4, 2) := by decide +kernel
theorem lw_c8 : Cond.classLink R_Lw 8 R_Ce ∈ wx_tbl := by decide +kernel
theorem lw_c67 : Cond.classLink R_Lw 67 R_Mo ∈ wx_tbl := by decide +kernel
theorem lw_m66 : Cond.methodLink R_Lw 66 y_Ce_init ∈ wx_tbl := by decide +kernel
theorem lw_m69 : Cond.methodLink R_Lw 69 y_Mo_init ∈ wx_tbl := by decide +kernel
theorem lw_iC : Cond.instantiable R_Ce 4 ∈ wx_tbl := by decide +kernel
theorem lw_iM : Cond.instantiable R_Mo 21 ∈ wx_tbl := by decide +kernel
theorem lw_nC : Cond.initialized R_Ce ∈ wx_tbl := by decide +kernel
theorem lw_nM : Cond.initialized R_Mo ∈ wx_tbl := by decide +kernel
theorem lw_xC : Cond.code y_Ce_init b_Ce_init 1 none ∈ wx_tbl := by decide +kernel
theorem lw_xM : Cond.code y_Mo_init b_Mo_init 1 none ∈ wx_tbl := by decide +kernel
theorem lw_zC : Cond.instanceMethod y_Ce_init ∈ wx_tbl := by decide +kernel
theorem lw_zM : Cond.instanceMethod y_Mo_init ∈ wx_tbl := by decide +kernel
theorem lw_aL : Cond.arrayClass .long ∈ wx_tbl := by decide +kernel
theorem S_Ce_at0 (G : WG) (am : Nat → Nat) (q : Nat × va_E) : (List.range 44).map (fun i => (S_Ce G am ++ [q])[i]?) = (S_Ce G am).map some := rfl
set_option maxHeartbeats 4000000 in
set_option maxRecDepth 100000 in
/-- from the entry, for every script of at most 384 ints, the law comes to its end with true -/
theorem whole_start {p : Program} {e : Env} {s : State} {m : MethodId} {below : List Frame} {meth : Method} {c : Code} (l : Launch) (hflags : l.flags = flags0) {b L : Nat} {xs : Nat → Int32} (hL : L ≤ 384) (C0 : lw_At p s m meth c b L xs) : W p l e room_1 s m #[Value.ref b] below meth c s.heap [] 0 0 (lw_Z below #[Value.ref b] s) (entryFrame m ([Value.ref b] : List Value).toArray 7) := by
  obtain ⟨hx, hb, hr, hml, hown, hts0, hX, hbl, hlocks, hgv⟩ := id C0
  have hts : ∀ w ∈ wx_tbl, w.before #[Value.ref b] s = true := fun w hw => hts0 w (wx_sub w hw)
  have hown2 : s.vm.findClass R_Lw = some m.cls := hown
  obtain ⟨D, dA, hK⟩ := K_of hts0
  have hNK := NK_of hts0
  obtain ⟨G, hG⟩ : ∃ G : WG, G = (D, (fun _ => 0), dA, 0) := ⟨_, rfl⟩
  have hKn : Kn G s := by rw [hG]; exact hK
  have hKv : va_K G.1 wcl (w_tys G) s := hKn
  have hA : ∀ q : Nat, s.heap.size ≤ q → lS s q := fun _ h => h
  have hS : va_S (lS s) s.heap s.heap [] := va_S.rf
  have hP : va_P G.1 wcl [] s.heap := fun k q h => by simp at h
  have hD : va_D (lS s) [] := ⟨fun i j p q h => by simp at h, fun k q h => by simp at h⟩
  have hl := lv_entry ([.ref b]) (n := 7) (Nat.le_of_ble_eq_true rfl)
  rw [lg_entry_eq]
  generalize (lg_sl ([.ref b]) ++ List.replicate (7 - (lg_sl ([.ref b])).length) Slot.unset).toArray = la at hl ⊢
  replace hl : lv_has la 7 [(0, .ref b)] := hl
  refine va_new (ci := 7) (fs := [.null, .null, .null, .null]) (C := R_Ce) (T := T_Ce) (N := 4) hx hb hts i_Ce t_Ce p_Ce hown2 (hts _ lw_c8) (hts _ lw_iC) (hts _ lw_nC) hKv hP hD hS hA rfl (fun j hj => by rcases (show j = 0 ∨ j = 1 ∨ j = 2 ∨ j = 3 by omega) with rfl | rfl | rfl | rfl <;> rfl) (Nat.le_of_ble_eq_true rfl) (Nat.le_of_ble_eq_true rfl) d_La_law_0 (fun q1 H hP hD hS => ?_)
  refine lv_dup hx hb d_La_law_3 rfl ?_
  refine lk_call (G := G) (n := 0) (wr := []) hx hb hml hown2 hts hKn hNK hP hD hS hl c_Ce ⟨rfl, rfl⟩ lw_xC lw_nC lw_m66 lw_zC rfl (by decide +kernel) ⟨Nat.le_of_ble_eq_true rfl, Nat.le_of_ble_eq_true rfl⟩ (Nat.le_of_ble_eq_true rfl) ⟨Nat.le_of_ble_eq_true rfl, Nat.le_of_ble_eq_true rfl⟩ rfl [] rfl rfl (by decide) d_La_law_4 (fun amC eC H L1 hP hD hS => ?_)
  replace hP : va_P G.1 wcl (S_Ce G amC) H := hP
  replace hD : va_D (lS s) (S_Ce G amC) := hD
  refine lv_astore_n (lv' := [(1, .ref q1), (0, .ref b)]) hx hb d_La_law_7 rfl hl (by decide) rfl (fun la hl => ?_)
  refine va_new (ci := 8) (fs := [.int 0, .null, .null, .int 0, .null, .null, .null, .null, .null, .int 0, .int 0, .null, .null, .null, .null, .int 0, .null, .int 0, .int 0, .null, .int 0]) (C := R_Mo) (T := T_Mo) (N := 21) hx hb hts i_Mo t_Mo p_Mo hown2 (hts _ lw_c67) (hts _ lw_iM) (hts _ lw_nM) hKv hP hD hS hA rfl (fun j hj => by rcases (show j = 0 ∨ j = 1 ∨ j = 2 ∨ j = 3 ∨ j = 4 ∨ j = 5 ∨ j = 6 ∨ j = 7 ∨ j = 8 ∨ j = 9 ∨ j = 10 ∨ j = 11 ∨ j = 12 ∨ j = 13 ∨ j = 14 ∨ j = 15 ∨ j = 16 ∨ j = 17 ∨ j = 18 ∨ j = 19 ∨ j = 20 by omega) with rfl | rfl | rfl | rfl | rfl | rfl | rfl | rfl | rfl | rfl | rfl | rfl | rfl | rfl | rfl | rfl | rfl | rfl | rfl | rfl | rfl <;> rfl) (Nat.le_of_ble_eq_true rfl) (Nat.le_of_ble_eq_true rfl) d_La_law_8 (fun q2 H hP hD hS => ?_)
  refine lv_dup hx hb d_La_law_11 rfl ?_
  refine lk_call (G := G) (n := 44) (wr := S_Ce G amC) hx hb hml hown2 hts hKn hNK hP hD hS hl c_Mo ⟨rfl, rfl⟩ lw_xM lw_nM lw_m69 lw_zM rfl (by decide +kernel) ⟨Nat.le_of_ble_eq_true rfl, Nat.le_of_ble_eq_true rfl⟩ (Nat.le_of_ble_eq_true rfl) ⟨Nat.le_of_ble_eq_true rfl, Nat.le_of_ble_eq_true rfl⟩ rfl (List.range 44) (S_Ce_at0 G amC _) (by decide) (by decide) d_La_law_12 (fun amM eM H L2 hP hD hS => ?_)
  refine lv_astore_n (lv' := [(2, .ref q2), (1, .ref q1), (0, .ref b)]) hx hb d_La_law_15 rfl hl (by decide) rfl (fun la hl => ?_)
  refine lv_iconst (v := 1) hx hb d_La_law_16 (by decide) ?_
  refine va_newa (atype := .long) (a0 := (1, .inr (.inl (fun _ => Int32.toInt64 0)))) (N' := 1) (ty := .long) hx hb (hts _ lw_aL) rfl hKv hP hD hS hA (fun _ => rfl) (by decide) (by decide) (Nat.le_of_ble_eq_true rfl) (Nat.le_of_ble_eq_true rfl) (Nat.le_of_ble_eq_true rfl) d_La_law_17 (fun q3 cA H hK1 hP9 hD9 hS9 => ?_)
  have e1 : s.vm.findClass ("[" ++ (FieldType.long).toString) = some (G.2.2.1 3) := (hKv.2 3 (G.2.2.1 3, .long) rfl).2
  have e2 : s.vm.findClass ("[" ++ (FieldType.long).toString) = some cA := (hK1.2 4 (cA, .long) rfl).2
  have e3 : cA = G.2.2.1 3 := Option.some.inj (e2.symm.trans e1)
  subst e3
  refine lv_astore_n (lv' := [(3, .ref q3), (2, .ref q2), (1, .ref q1), (0, .ref b)]) hx hb d_La_law_19 rfl hl (by decide) rfl (fun la hl => ?_)
  refine lv_iconst (v := 0) hx hb d_La_law_20 (by decide) ?_
  refine lv_istore (lv' := [(4, .int 0), (3, .ref q3), (2, .ref q2), (1, .ref q1), (0, .ref b)]) hx hb d_La_law_21 hl (by decide) rfl (fun la hl => ?_)
  subst eC
  subst eM
  subst hG
  exact law_from hflags hL C0 hK (n0 := 0) (o0 := fun _ => 0) hP9 hD9 hS9 (lv_sub hl [4, 3, 2, 1, 0] rfl)
