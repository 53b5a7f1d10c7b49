/-! The model's rows of sixteen bits: what they hold; trim, copies, order, sums. -/
def lb (h : HP) (r i : Nat) : Nat := un (h 8 (100 * r + i))
def mv (h : HP) (r n : Nat) : Nat := ds 65536 (lb h r) n
def MU (h : HP) (r m : Nat) : Prop := h 9 r = nI (gc 16 m) ∧ mv h r (gc 16 m) = m ∧ (∀ i, i < gc 16 m → lb h r i < 65536) ∧ gc 16 m ≤ 99
def MN (h : HP) (r : Nat) (z : Int) : Prop := MU h r z.natAbs ∧ h 10 r = (if z < 0 then 1 else 0)
def FR (S : List Nat) (h h2 : HP) : Prop := Fr [8, 9, 10] h h2 ∧ ∀ r, r ∉ S → h2 9 r = h 9 r ∧ h2 10 r = h 10 r ∧ ∀ i, i < 100 → h2 8 (100 * r + i) = h 8 (100 * r + i)
theorem FR.rf (S : List Nat) (h : HP) : FR S h h := ⟨Fr.rf _ _, fun _ _ => ⟨rfl, rfl, fun _ _ => rfl⟩⟩
theorem FR.trans {S : List Nat} {h h2 h3 : HP} (a : FR S h h2) (b : FR S h2 h3) : FR S h h3 := ⟨a.1.trans b.1, fun r hr => ⟨(b.2 r hr).1.trans (a.2 r hr).1, (b.2 r hr).2.1.trans (a.2 r hr).2.1, fun i hi => ((b.2 r hr).2.2 i hi).trans ((a.2 r hr).2.2 i hi)⟩⟩
theorem FR.mono {S T : List Nat} {h h2 : HP} (a : FR S h h2) (st : ∀ j, j ∈ S → j ∈ T) : FR T h h2 := ⟨a.1, fun r hr => a.2 r (fun z => hr (st r z))⟩
theorem FR.up8 {S : List Nat} {h h2 : HP} {r i : Nat} {v : Int32} (a : FR S h h2) (hr : r ∈ S) (hi : i < 100) : FR S h (up h2 8 (100 * r + i) v) := ⟨a.1.up (by simp), fun q hq => by
  have hne : q ≠ r := fun e => hq (e ▸ hr)
  exact ⟨by rw [up_ne (by omega)]; exact (a.2 q hq).1, by rw [up_ne (by omega)]; exact (a.2 q hq).2.1, fun j hj => by rw [up_at_ne (by omega)]; exact (a.2 q hq).2.2 j hj⟩⟩
theorem FR.up9 {S : List Nat} {h h2 : HP} {r : Nat} {v : Int32} (a : FR S h h2) (hr : r ∈ S) : FR S h (up h2 9 r v) := ⟨a.1.up (by simp), fun q hq => by
  have hne : q ≠ r := fun e => hq (e ▸ hr)
  exact ⟨by rw [up_at_ne hne]; exact (a.2 q hq).1, by rw [up_ne (by omega)]; exact (a.2 q hq).2.1, fun j hj => by rw [up_ne (by omega)]; exact (a.2 q hq).2.2 j hj⟩⟩
theorem FR.up10 {S : List Nat} {h h2 : HP} {r : Nat} {v : Int32} (a : FR S h h2) (hr : r ∈ S) : FR S h (up h2 10 r v) := ⟨a.1.up (by simp), fun q hq => by
  have hne : q ≠ r := fun e => hq (e ▸ hr)
  exact ⟨by rw [up_ne (by omega)]; exact (a.2 q hq).1, by rw [up_at_ne hne]; exact (a.2 q hq).2.1, fun j hj => by rw [up_ne (by omega)]; exact (a.2 q hq).2.2 j hj⟩⟩
theorem MU.cong {h h2 : HP} {r m : Nat} (k : MU h r m) (a : h2 9 r = h 9 r) (b : ∀ i, i < 100 → h2 8 (100 * r + i) = h 8 (100 * r + i)) : MU h2 r m := by
  obtain ⟨k1, k2, k3, k4⟩ := k
  refine ⟨a.trans k1, ?_, fun i hi => ?_, k4⟩
  · refine Eq.trans (ds_cong (fun i hi => ?_)) k2
    unfold lb
    rw [b i (by omega)]
  · unfold lb
    rw [b i (by omega)]
    exact k3 i hi
theorem MU.fr {S : List Nat} {h h2 : HP} {r m : Nat} (k : MU h r m) (f : FR S h h2) (hr : r ∉ S) : MU h2 r m := k.cong (f.2 r hr).1 (f.2 r hr).2.2
theorem MN.fr {S : List Nat} {h h2 : HP} {r : Nat} {z : Int} (k : MN h r z) (f : FR S h h2) (hr : r ∉ S) : MN h2 r z := ⟨k.1.fr f hr, (f.2 r hr).2.1.trans k.2⟩
theorem MU.len {h : HP} {r m : Nat} (k : MU h r m) : h 9 r = nI (gc 16 m) := k.1
theorem MU.val {h : HP} {r m : Nat} (k : MU h r m) : mv h r (gc 16 m) = m := k.2.1
theorem MU.lt {h : HP} {r m : Nat} (k : MU h r m) {i : Nat} (hi : i < gc 16 m) : lb h r i < 65536 := k.2.2.1 i hi
theorem MU.le {h : HP} {r m : Nat} (k : MU h r m) : gc 16 m ≤ 99 := k.2.2.2
theorem ixl (r i : Nat) : (100 : Int32) * nI r + nI i = nI (100 * r + i) := by rw [show (100 : Int32) = nI 100 from rfl, pk_mul, nI_add]
theorem gc_ds16 {d : Nat → Nat} {n : Nat} (hd : ∀ k, k < n → d k < 65536) (ht : n = 0 ∨ d (n - 1) ≠ 0) : gc 16 (ds 65536 d n) = n := gc_ds (b := 16) (by omega) hd ht
theorem lb_is (h : HP) (r i : Nat) : h 8 (100 * r + i) = nI (lb h r i) := (nI_un _).symm
theorem narb0 : vp_nar .boolean 0 = 0 := rfl
theorem narb1 : vp_nar .boolean 1 = 1 := rfl
theorem narb {x : Int32} (h : x = 0 ∨ x = 1) : vp_nar .boolean x = x := by rcases h with rfl | rfl <;> rfl
theorem vr {r : Nat} (h : r < 218) : vp_in (nI r) 218 := vp_in_nI h (by omega)
theorem vl {r i : Nat} (h : r < 218) (hi : i < 100) : vp_in (nI (100 * r + i)) 21800 := vp_in_nI (by omega) (by omega)
theorem s_mtrim {h : HP} {r n : Nat} {Φ : HP → Prop} (hr : r < 218) (hn : n ≤ 99) (hl : h 9 r = nI n) (hd : ∀ i, i < n → lb h r i < 65536) (K : ∀ h2, FR [r] h h2 → h2 8 = h 8 → MU h2 r (mv h r n) → h2 10 r = (if mv h r n = 0 then 0 else h 10 r) → Φ h2) : K_Mo_trim [.ref 0, .int (nI r)] h Φ := by
  refine I_Mo_trim (fun X C Rm Q => ?_)
  have loop : ∀ (n0 : Nat) (h0 : HP), n0 ≤ n → FR [r] h h0 → h0 8 = h 8 → h0 10 = h 10 → h0 9 r = nI n0 → mv h r n0 = mv h r n → Wg X 0 0 h0 [(0, .ref 0), (1, .int (nI r))] [] 0 := by
    intro n0
    induction n0 with
    | zero =>
      intro h0 _ f e8 e10 e9 hv
      have hm : mv h r n = 0 := hv.symm
      rw [hm] at K
      refine g_Mo_trim_0 C Rm Q ?_
      rw [nI_cl (by omega), e9, narb0]
      refine ⟨vr hr, fun _ => ⟨vr hr, fun q => absurd rfl q, fun _ => ⟨vr hr, K _ (f.up10 (by simp)) (by rw [up_ne (by omega)]; exact e8) ⟨by rw [up_ne (by omega)]; exact e9, rfl, fun i hi => absurd hi (by rw [gc_0]; omega), by rw [gc_0]; omega⟩ (by rw [up_at]; rfl)⟩⟩, fun q => absurd (by decide) q⟩
    | succ n0 ih =>
      intro h0 hn0 f e8 e10 e9 hv
      have fin : lb h r n0 ≠ 0 → Φ h0 := by
        intro hz
        have hg : gc 16 (mv h r n) = n0 + 1 := by rw [← hv]; exact gc_ds16 (fun k hk => hd k (by omega)) (Or.inr hz)
        have hmz : mv h r n ≠ 0 := fun q => by rw [q, gc_0] at hg; omega
        refine K h0 f e8 ⟨by rw [hg]; exact e9, ?_, fun i hi => ?_, by omega⟩ (by rw [if_neg hmz, e10])
        · rw [hg]
          unfold mv lb
          rw [e8]
          exact hv
        · rw [hg] at hi
          unfold lb
          rw [e8]
          exact hd i (by omega)
      refine g_Mo_trim_0 C Rm Q ?_
      rw [nI_cl (by omega), e9, ixl, show 100 * r + (n0 + 1) = 100 * r + n0 + 1 by omega, nI_pred, nI_pred, nI_cl (by omega), e8, lb_is h, nI_e0 (n := lb h r n0) (by have := hd n0 (by omega); omega)]
      refine ⟨vr hr, fun q => ?_, fun _ => ⟨vr hr, vl hr (by omega), fun q => ⟨vr hr, fun _ => fin q, fun q2 => ?_⟩, fun q => ⟨vr hr, vr hr, ?_⟩⟩⟩
      · rw [nI_le0 (by omega)] at q
        omega
      · rw [nI_e0 (by omega)] at q2
        omega
      · refine ih _ (by omega) (f.up9 (by simp)) (by rw [up_ne (by omega)]; exact e8) (by rw [up_ne (by omega)]; exact e10) (up_at _ _ _ _) ?_
        rw [← hv]
        show ds 65536 (lb h r) n0 = ds 65536 (lb h r) (n0 + 1)
        rw [ds_succ, q]
        omega
  exact loop n h (Nat.le_refl _) (FR.rf _ _) rfl rfl hl rfl
/-- from a trimmed row to a number with a sign -/
theorem MU.sgn {h h2 : HP} {r m : Nat} {z : Int} (k : MU h2 r m) (hs : h2 10 r = (if m = 0 then 0 else h 10 r)) (hm : z.natAbs = m) (h1 : m ≠ 0 → h 10 r = (if z < 0 then 1 else 0)) : MN h2 r z := by
  refine ⟨by rw [hm]; exact k, ?_⟩
  rw [hs]
  by_cases q : m = 0
  · rw [if_pos q, if_neg (by omega)]
  · rw [if_neg q, h1 q]
theorem s_mcopy {h : HP} {t r : Nat} {z : Int} {Φ : HP → Prop} (ht : t < 218) (hr : r < 218) (hz : MN h r z) (K : ∀ h2, FR [t] h h2 → MN h2 t z → Φ h2) : K_Mo_copyRow [.ref 0, .int (nI t), .int (nI r)] h Φ := by
  refine I_Mo_copyRow (fun X C Rm Q => g_Mo_copyRow_0 C Rm Q ⟨vr hr, vr ht, vr hr, vr ht, ?_⟩)
  obtain ⟨⟨z1, z2, z3, z4⟩, z5⟩ := id hz
  have e10 : up h 9 t (h 9 r) 10 r = if z < 0 then 1 else 0 := by rw [up_ne (by omega), z5]
  rw [nI_cl (by omega), nI_cl (by omega), e10, narb (sg_01 z), z1]
  generalize hn : gc 16 z.natAbs = n at *
  have loop : ∀ (k i : Nat) (h0 : HP), k + i = n → FR [t] h h0 → h0 9 t = nI n → h0 10 t = (if z < 0 then 1 else 0) → (r ≠ t ∨ ∀ j, h0 8 j = h 8 j) → (∀ j, j < i → h0 8 (100 * t + j) = h 8 (100 * r + j)) → Wg X 0 0 h0 [(0, .ref 0), (1, .int (nI t)), (2, .int (nI r)), (3, .int (nI i))] [] 26 := by
    intro k
    induction k with
    | zero =>
      intro i h0 hi f e1 e2 hne hj
      have er : h0 9 r = nI n := by
        by_cases q : r = t
        · subst q; exact e1
        · rw [(f.2 r (by simpa using q)).1, z1]
      refine g_Mo_copyRow_26 C Rm Q ⟨vr hr, fun _ => K h0 f ⟨⟨by rw [hn]; exact e1, ?_, fun j hj2 => ?_, by omega⟩, e2⟩, fun q => absurd ?_ q⟩
      · rw [hn]
        refine Eq.trans (ds_cong (fun j hj2 => ?_)) z2
        unfold lb
        rw [hj j (by omega)]
      · rw [hn] at hj2
        unfold lb
        rw [hj j (by omega)]
        exact z3 j hj2
      · rw [nI_cl (by omega), er, nI_leI (by omega) (by omega)]
        omega
    | succ k ih =>
      intro i h0 hi f e1 e2 hne hj
      have er : h0 9 r = nI n := by
        by_cases q : r = t
        · subst q; exact e1
        · rw [(f.2 r (by simpa using q)).1, z1]
      refine g_Mo_copyRow_26 C Rm Q ⟨vr hr, fun q => ?_, fun _ => ?_⟩
      · rw [nI_cl (by omega), er, nI_leI (by omega) (by omega)] at q
        omega
      · rw [ixl, ixl]
        refine ⟨vl hr (by omega), vl ht (by omega), ?_⟩
        rw [nI_cl (by omega), nI_cl (by omega), nI_1]
        have e8 : h0 8 (100 * r + i) = h 8 (100 * r + i) := by
          rcases hne with q | q
          · exact (f.2 r (by simpa using q)).2.2 i (by omega)
          · exact q _
        rw [e8]
        refine ih (i + 1) _ (by omega) (f.up8 (by simp) (by omega)) (by rw [up_ne (by omega)]; exact e1) (by rw [up_ne (by omega)]; exact e2) ?_ (fun j hj2 => ?_)
        · by_cases q : r = t
          · refine Or.inr (fun j => ?_)
            subst q
            by_cases q2 : j = 100 * r + i
            · subst q2; exact up_at _ _ _ _
            · rw [up_at_ne q2]
              rcases hne with q3 | q3
              · exact absurd rfl q3
              · exact q3 j
          · exact Or.inl q
        · by_cases q : j = i
          · subst q; exact up_at _ _ _ _
          · rw [up_at_ne (by omega)]
            exact hj j (by omega)
  exact loop n 0 _ (Nat.add_zero _) (((FR.rf _ _).up9 (by simp)).up10 (by simp)) (by rw [up_ne (by omega), up_at]) (up_at _ _ _ _) (by
    by_cases q : r = t
    · exact Or.inr (fun j => by rw [up_ne (by omega), up_ne (by omega)])
    · exact Or.inl q) (fun j hj => absurd hj (by omega))
theorem s_limbOf {h : HP} {r n k : Nat} {Φ : Int32 → HP → Prop} (hr : r < 218) (hl : h 9 r = nI n) (hn : n ≤ 99) (hk : k < 1000) (K : Φ (nI (if k < n then lb h r k else 0)) h) : K_Mo_limbOf [.ref 0, .int (nI r), .int (nI k)] h Φ := by
  refine I_Mo_limbOf (fun X C Rm Q => g_Mo_limbOf_0 C Rm Q ⟨vr hr, fun q => ?_, fun q => ?_⟩)
  · rw [nI_cl (by omega), hl, nI_leI (by omega) (by omega)] at q
    rwa [if_neg (by omega)] at K
  · rw [nI_cl (by omega), hl, nI_leI (by omega) (by omega)] at q
    rw [ixl]
    refine ⟨vl hr (by omega), ?_⟩
    rw [nI_cl (by omega), lb_is h]
    rwa [if_pos (by omega)] at K
theorem s_mcmp {h : HP} {a b x y : Nat} {Φ : Int32 → HP → Prop} (ha : a < 218) (hb : b < 218) (hx : MU h a x) (hy : MU h b y) (K : Φ (ordN x y) h) : K_Mo_compareSizes [.ref 0, .int (nI a), .int (nI b)] h Φ := by
  have l1 := hx.le
  have l2 := hy.le
  have hgt : gc 16 x < gc 16 y → x < y := fun q => Nat.lt_of_lt_of_le (gc_self (by omega) _) ((gc_lt (by omega) _ _).mp q)
  have hgt2 : gc 16 y < gc 16 x → y < x := fun q => Nat.lt_of_lt_of_le (gc_self (by omega) _) ((gc_lt (by omega) _ _).mp q)
  refine I_Mo_compareSizes (fun X C Rm Q => g_Mo_compareSizes_0 C Rm Q ⟨vr ha, vr hb, fun c => ⟨vr ha, ?_⟩, fun c => ⟨vr ha, vr hb, fun c2 => ?_, fun c2 => ?_⟩⟩)
  · rw [nI_cl (by omega), nI_cl (by omega), hx.len, hy.len, nI_eq (by omega) (by omega)] at c
    rw [nI_cl (by omega), hx.len]
    have loop : ∀ k, k ≤ gc 16 x → (∀ i, k ≤ i → i < gc 16 x → lb h a i = lb h b i) → Wg X 0 0 h [(0, .ref 0), (1, .int (nI a)), (2, .int (nI b)), (3, .int (nI k - 1))] [] 45 := by
      intro k
      induction k with
      | zero =>
        intro _ hs
        refine g_Mo_compareSizes_45 C Rm Q ⟨fun _ => ?_, fun q => absurd (by decide) q⟩
        have e : x = y := by
          rw [← hx.val, ← hy.val, ← c]
          exact ds_cong (fun i hi => hs i (by omega) hi)
        unfold ordN at K
        rwa [if_neg (by omega), if_pos e] at K
      | succ k ih =>
        intro hk hs
        rw [nI_pred]
        refine g_Mo_compareSizes_45 C Rm Q ⟨fun q => absurd q (nI_lt0 (by omega)), fun _ => ?_⟩
        rw [ixl, ixl]
        refine ⟨vl ha (by omega), vl hb (by omega), ?_⟩
        rw [nI_cl (by omega), nI_cl (by omega), lb_is h, lb_is h]
        have b1 := hx.lt (i := k) (by omega)
        have b2 := hy.lt (i := k) (by omega)
        have hsub := pk_sub_toInt (a := lb h a k) (b := lb h b k) (by omega) (by omega)
        have cl1 := fun hl => ds_cmp (B := 65536) (d := lb h a) (e := lb h b) (k := k) (n := gc 16 x) (by omega) (fun i hi => hx.lt hi) (fun i hi => hy.lt (by omega)) (fun i hi hi2 => hs i (by omega) hi2) hl
        have cl2 := fun hl => ds_cmp (B := 65536) (d := lb h b) (e := lb h a) (k := k) (n := gc 16 x) (by omega) (fun i hi => hy.lt (by omega)) (fun i hi => hx.lt hi) (fun i hi hi2 => (hs i (by omega) hi2).symm) hl
        have v1 : ds 65536 (lb h a) (gc 16 x) = x := hx.val
        have v2 : ds 65536 (lb h b) (gc 16 y) = y := hy.val
        rw [← c] at v2
        rw [v1, v2] at cl1 cl2
        have z0 : (0 : Int32).toInt = 0 := rfl
        refine ⟨fun q => ?_, fun q => ⟨fun q2 => ?_, fun q2 => ?_⟩⟩
        · rw [← Int32.toInt_inj, hsub, z0] at q
          rw [sub1]
          refine ih (by omega) (fun i hi hi2 => ?_)
          by_cases q3 : i = k
          · subst q3; omega
          · exact hs i (by omega) hi2
        · rw [← Int32.toInt_inj, hsub, z0] at q
          rw [Int32.le_iff_toInt_le, hsub, z0] at q2
          have := cl2 (by omega)
          unfold ordN at K
          rwa [if_neg (by omega), if_neg (by omega)] at K
        · rw [Int32.le_iff_toInt_le, hsub, z0] at q2
          have := cl1 (by omega)
          unfold ordN at K
          rwa [if_pos (by omega)] at K
    exact loop _ (Nat.le_refl _) (fun i hi hi2 => absurd hi (by omega))
  · rw [nI_cl (by omega), nI_cl (by omega), hx.len, hy.len, nI_eq (by omega) (by omega)] at c
    rw [nI_cl (by omega), nI_cl (by omega), hx.len, hy.len, nI_leI (by omega) (by omega)] at c2
    have := hgt2 (by omega)
    unfold ordN at K
    rwa [if_neg (by omega), if_neg (by omega)] at K
  · rw [nI_cl (by omega), nI_cl (by omega), hx.len, hy.len, nI_leI (by omega) (by omega)] at c2
    have := hgt (by omega)
    unfold ordN at K
    rwa [if_pos (by omega)] at K
