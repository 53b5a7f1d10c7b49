/-! From the three objects to the loop. -/
theorem wl_at (G : WG) (h : HP) {k : Nat} (hk : k < 59) : (wl G h)[k]? = some (G.2.1 k, w_ent G (h k) k) := by
  unfold wl
  rw [List.getElem?_map, List.getElem?_range hk]
  rfl
theorem law_from {p : Program} {e : Env} {s : State} {m : MethodId} {below : List Frame} {meth : Method} {c : Code} {l : Launch} (hflags : l.flags = flags0) {b L : Nat} {sx : Nat → Int32} (hL : L ≤ 384) (C0 : lw_At p s m meth c b L sx) {D : va_G} {dA : Nat → ClassId} (hK : va_K D wcl [(dA 0, .int), (dA 1, .char), (dA 2, .boolean), (dA 3, .long)] s) {o0 : Nat → Nat} {n0 : Nat} {amC amM : Nat → Nat} {q3 : Nat} {H : Heap} {locs : List Loc} {la : Array Slot}
    (hP : va_P D wcl (lw_w (D, o0, dA, n0) amC amM q3) H) (hD : va_D (lS s) (lw_w (D, o0, dA, n0) amC amM q3)) (hS : va_S (lS s) s.heap H locs) (hl : lv_has la 7 [(0, .ref b), (1, .ref (amC 0)), (2, .ref (amM 0)), (3, .ref q3), (4, .int 0)]) : W p l e room_1 s m #[Value.ref b] below meth c H locs 59 28663 (lw_Z below #[Value.ref b] s) (F0 m 23 la []) := by
  obtain ⟨hx, hb, hr, hml, hown, hts0, hX, hbl, hlocks, hgv⟩ := id C0
  have hts : ∀ w ∈ wx_tbl, w.before #[Value.ref b] s = true := fun w hw => hts0 w (wx_sub w hw)
  have hmap := lw_map D dA amC amM q3 b s.heap.size o0 n0
  have hD2 : va_D (lS s) (wl (D, lw_o amC amM q3 b, dA, s.heap.size) (fun _ _ => 0)) := hD.sub lw_is (by decide) hmap
  have hP2 : va_P D wcl (wl (D, lw_o amC amM q3 b, dA, s.heap.size) (fun _ _ => 0)) H := by
    intro k q hq
    have h1 := congrArg (fun z => z[k]?) hmap
    simp only [List.getElem?_map, hq] at h1
    cases hi : lw_is[k]? with
    | none =>
      rw [hi] at h1
      cases h1
    | some i =>
      rw [hi] at h1
      exact hP i q (Option.some.inj h1)
  generalize hG : ((D, lw_o amC amM q3 b, dA, s.heap.size) : WG) = G at hD2 hP2
  have g1 : G.1 = D := by rw [← hG]
  have g2 : G.2.1 = lw_o amC amM q3 b := by rw [← hG]
  have g4 : G.2.2.2 = s.heap.size := by rw [← hG]
  have hgok : Gok G := by
    refine ⟨fun i j hi hj hij => hD2.1 i j _ _ (wl_at G _ hi) (wl_at G _ hj) hij, fun k hk => ?_⟩
    rw [g4]
    exact hD2.2 k _ (wl_at G _ hk)
  have hKn : Kn G s := by
    subst hG
    exact hK
  have hbase : G.2.2.2 ≤ s.heap.size := Nat.le_of_eq g4
  have hbase2 : s.heap.size ≤ G.2.2.2 := Nat.le_of_eq g4.symm
  have hga : Ga G = lS s := by
    unfold Ga
    rw [g4]
  have hWo : Wo G (fun _ _ => 0) H := by
    unfold Wo
    rw [g1]
    exact hP2
  have hN : NW s := NW_of hts0
  have C : Cok (p, l, e, room_1, s, m, #[Value.ref b], below, meth, c, lw_Z below #[Value.ref b] s, G) code 7 R_Lw ret := ⟨hx, hb, hml, hown, hts, hlocks, hr, hflags, hgok, hKn, hbase, Zq_of hts0 hgv hbase2⟩
  have o59 : G.2.1 59 = b := by rw [g2]; rfl
  have S : SC (p, l, e, room_1, s, m, #[Value.ref b], below, meth, c, lw_Z below #[Value.ref b] s, G) L sx := by
    refine ⟨?_, ?_, ?_⟩
    · show va_X (G.2.1 59) L sx s s.heap
      rw [o59]
      exact hX
    · show G.2.1 59 < s.heap.size
      rw [o59]
      exact hbl
    · show ¬ Ga G (G.2.1 59)
      rw [o59, hga]
      exact Nat.not_le.mpr hbl
  have hl2 : lv_has la 7 (lmap G (LSc (nI (6 * 0)))) := by
    have h0 : lmap G (LSc (nI (6 * 0))) = [(0, .ref (G.2.1 59)), (1, .ref (G.2.1 14)), (2, .ref (G.2.1 0)), (3, .ref (G.2.1 58)), (4, .int (nI (6 * 0)))] := rfl
    rw [h0, g2]
    exact hl
  have K := law_loop (c0 := 59) (s0 := 28663) C hN rfl S hL (Nat.le_of_ble_eq_true rfl) (Nat.le_of_ble_eq_true rfl) (fun ce sl h ls => law_hend hx hb hr hlocks hbase2 ce sl h ls) 65 0 (fun _ _ => 0) rfl (Nat.zero_le L) IV0
  refine K (Nat.le_of_ble_eq_true rfl) (Nat.le_of_ble_eq_true rfl) H locs la hWo ?_ ?_
  · show va_S (Ga G) s.heap H locs
    rw [hga]
    exact hS
  · show lv_has la c.maxLocals _
    rw [hml]
    exact hl2
