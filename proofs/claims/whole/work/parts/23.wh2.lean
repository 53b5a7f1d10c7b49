theorem WN.len {h : HP} {w : Nat} {z : Int} (k : WN h w z) : h w 1 = nI (gc 32 z.natAbs) := k.1
theorem WN.sg {h : HP} {w : Nat} {z : Int} (k : WN h w z) : h w 2 = (if z < 0 then 1 else 0) := k.2.1
theorem WN.val {h : HP} {w : Nat} {z : Int} (k : WN h w z) : ds 4294967296 (dW (h (w + 1))) (gc 32 z.natAbs) = z.natAbs := k.2.2.1
theorem WN.le {h : HP} {w : Nat} {z : Int} (k : WN h w z) : gc 32 z.natAbs ≤ 44 := k.2.2.2
theorem s_isZero {h : HP} {w : Nat} {z : Int} {Φ : Int32 → HP → Prop} (hw : kd w = (0, 0)) (hz : WN h w z) (K : Φ (if z = 0 then 1 else 0) h) : K_Wh_isZero [.ref w] h Φ := by
  refine I_Wh_isZero (fun X C Rm Q => ?_)
  have hg : gc 32 z.natAbs = 0 ↔ z = 0 := by rw [gc_eq0]; omega
  have := hz.le
  refine g_Wh_isZero_0 C Rm Q hw ⟨fun c => ?_, fun c => ?_⟩
  · rw [hz.len, nI_e0 (by omega), hg] at c
    rwa [if_neg c] at K
  · rw [hz.len, nI_e0 (by omega), hg] at c
    rwa [if_pos c] at K
/-- a number of one word -/
theorem WN.one {h : HP} {w : Nat} {z : Int} (k : WN h w z) (h1 : gc 32 z.natAbs = 1) : un (h (w + 1) 0) = z.natAbs := by
  have e := k.val
  rw [h1, ds_succ, ds_0] at e
  simpa [dW] using e
theorem gc_one {m : Nat} : gc 32 m = 1 ↔ 0 < m ∧ m < 4294967296 := by
  have h1 := gc_le (b := 32) (by omega) m 1
  have h2 := gc_lt (b := 32) (by omega) m 0
  simp only [Nat.mul_one, Nat.mul_zero, Nat.reducePow] at h1 h2
  omega
theorem nI_is {x : Int32} {n : Nat} (h : un x = n) : x = nI n := by rw [← h, nI_un]
theorem s_isOne {h : HP} {w : Nat} {z : Int} {Φ : Int32 → HP → Prop} (hw : kd w = (0, 0)) (hz : WN h w z) (K : Φ (if z = 1 then 1 else 0) h) : K_Wh_isOne [.ref w] h Φ := by
  refine I_Wh_isOne (fun X C Rm Q => ?_)
  have hg := gc_one (m := z.natAbs)
  have hle := hz.le
  refine g_Wh_isOne_0 C Rm Q hw ⟨fun c => ?_, fun c => ⟨vp0 (by omega) (by omega), fun c2 => ?_, fun c2 => ⟨fun c3 => ?_, fun c3 => ?_⟩⟩⟩
  · rw [hz.len, zi1, nI_eq (by omega) (by omega)] at c
    rwa [if_neg (by omega)] at K
  · rw [hz.len, zi1, nI_eq (by omega) (by omega)] at c
    have e := hz.one c
    rw [c_0] at c2
    have : z.natAbs ≠ 1 := fun q => c2 (by rw [nI_is (e.trans q)]; rfl)
    rwa [if_neg (by omega)] at K
  · rw [hz.sg, sg_ne] at c3
    rwa [if_neg (by omega)] at K
  · rw [hz.len, zi1, nI_eq (by omega) (by omega)] at c
    have e := hz.one c
    rw [c_0] at c2
    rw [c2] at e
    rw [hz.sg, sg_ne] at c3
    have e1 : z.natAbs = 1 := e.symm
    rwa [if_pos (by omega)] at K
theorem s_isFixed {h : HP} {w : Nat} {z : Int} {Φ : Int32 → HP → Prop} (hw : kd w = (0, 0)) (hz : WN h w z) (K : Φ (if -1073741824 ≤ z ∧ z < 1073741824 then 1 else 0) h) : K_Wh_isFixed [.ref w] h Φ := by
  refine I_Wh_isFixed (fun X C Rm Q => ?_)
  have hg := gc_one (m := z.natAbs)
  have hg0 : gc 32 z.natAbs = 0 ↔ z.natAbs = 0 := gc_eq0
  have hle := hz.le
  have core : ∀ (t : Nat), t < 2147483648 → (gc 32 z.natAbs ≠ 0) → (0 ≤ z → t = 1073741823) → (z < 0 → t = 1073741824) → Wg X 0 0 h [(0, .ref w)] [.int (nI t)] 23 := by
    intro t ht h0 t1 t2
    refine g_Wh_isFixed_23 C Rm Q hw ⟨fun c => ?_, fun c => ⟨vp0 (by omega) (by omega), fun c2 => ?_, fun c2 => ⟨vp0 (by omega) (by omega), fun c3 => ?_, fun c3 => ?_⟩⟩⟩
    · rw [hz.len, zi1, nI_eq (by omega) (by omega)] at c
      rwa [if_neg (by omega)] at K
    · rw [hz.len, zi1, nI_eq (by omega) (by omega)] at c
      have e := hz.one c
      rw [c_0, Int32.le_iff_toInt_le, un_toInt, e] at c2
      have c3 : (if z.natAbs < 2147483648 then (z.natAbs : Int) else (z.natAbs : Int) - 4294967296) ≤ 0 := c2
      have := (hg.mp c)
      rw [if_neg (by split at c3 <;> omega)] at K
      exact K
    · rw [hz.len, zi1, nI_eq (by omega) (by omega)] at c
      have e := hz.one c
      rw [c_0, Int32.le_iff_toInt_le, un_toInt, e] at c2
      rw [c_0, Int32.lt_iff_toInt_lt, un_toInt, un_toInt, e, un_nIl (by omega)] at c3
      have c4 : ¬ (if z.natAbs < 2147483648 then (z.natAbs : Int) else (z.natAbs : Int) - 4294967296) ≤ 0 := c2
      rw [if_neg (by split at c4 <;> simp_all <;> omega)] at K
      exact K
    · rw [hz.len, zi1, nI_eq (by omega) (by omega)] at c
      have e := hz.one c
      rw [c_0, Int32.le_iff_toInt_le, un_toInt, e] at c2
      rw [c_0, Int32.lt_iff_toInt_lt, un_toInt, un_toInt, e, un_nIl (by omega)] at c3
      have c4 : ¬ (if z.natAbs < 2147483648 then (z.natAbs : Int) else (z.natAbs : Int) - 4294967296) ≤ 0 := c2
      rw [if_pos ht] at c3
      rw [if_pos (by split at c4 <;> split at c3 <;> omega)] at K
      exact K
  refine g_Wh_isFixed_0 C Rm Q hw ⟨fun c => ⟨fun c2 => ?_, fun c2 => ?_⟩, fun c => ?_⟩
  · rw [hz.len, nI_e0 (by omega)] at c
    rw [hz.sg, sg_ne] at c2
    exact core 1073741823 (by omega) c (fun _ => rfl) (fun _ => by omega)
  · rw [hz.len, nI_e0 (by omega)] at c
    rw [hz.sg, sg_ne] at c2
    exact core 1073741824 (by omega) c (fun _ => by omega) (fun _ => rfl)
  · rw [hz.len, nI_e0 (by omega)] at c
    rwa [if_pos (by omega)] at K
theorem i32_ext_int {x y : Int32} (h : x.toInt = y.toInt) : x = y := Int32.toInt_inj.mp h
theorem ofInt_toInt {z : Int} (h1 : -2147483648 ≤ z) (h2 : z < 2147483648) : (Int32.ofInt z).toInt = z := fb_ofI h1 h2
theorem s_asFixed {h : HP} {w : Nat} {z : Int} {Φ : Int32 → HP → Prop} (hw : kd w = (0, 0)) (hz : WN h w z) (hf : -1073741824 ≤ z ∧ z < 1073741824) (K : Φ (Int32.ofInt z) h) : K_Wh_asFixed [.ref w] h Φ := by
  refine I_Wh_asFixed (fun X C Rm Q => ?_)
  have hg := gc_one (m := z.natAbs)
  have hg0 : gc 32 z.natAbs = 0 ↔ z.natAbs = 0 := gc_eq0
  have hle := hz.le
  have hx : gc 32 z.natAbs ≠ 0 → (h (w + 1) 0).toInt = z.natAbs := fun c => by
    have e := hz.one (hg.mpr (by omega))
    rw [un_toInt, e, if_pos (by omega)]
  refine g_Wh_asFixed_0 C Rm Q hw ⟨fun c => ⟨fun c2 => ⟨vp0 (by omega) (by omega), ?_⟩, fun c2 => ⟨vp0 (by omega) (by omega), ?_⟩⟩, fun c => ?_⟩
  · rw [hz.len, nI_e0 (by omega)] at c
    rw [hz.sg, sg_ne] at c2
    have e : h (w + 1) (0 : Int32).toNatClampNeg = Int32.ofInt z := i32_ext_int (by rw [c_0, hx c, ofInt_toInt (by omega) (by omega)]; omega)
    rw [e]
    exact K
  · rw [hz.len, nI_e0 (by omega)] at c
    rw [hz.sg, sg_ne] at c2
    have e : -h (w + 1) (0 : Int32).toNatClampNeg = Int32.ofInt z := i32_ext_int (by rw [c_0, fb_negI (by rw [hx c]; omega), hx c, ofInt_toInt (by omega) (by omega)]; omega)
    rw [e]
    exact K
  · rw [hz.len, nI_e0 (by omega)] at c
    have e : z = 0 := by omega
    subst e
    exact K
theorem s_flipSign {h : HP} {w : Nat} {z : Int} {Φ : HP → Prop} (hw : kd w = (0, 0)) (hz : WN h w z) (K : ∀ h2, Fr [w] h h2 → WN h2 w (-z) → Φ h2) : K_Wh_flipSign [.ref w] h Φ := by
  refine I_Wh_flipSign (fun X C Rm Q => ?_)
  have hg0 : gc 32 z.natAbs = 0 ↔ z.natAbs = 0 := gc_eq0
  have hle := hz.le
  have fin : ∀ v : Int32, v = (if -z < 0 then 1 else 0) → Φ (up h w 2 v) := fun v hv => K _ ((Fr.rf _ _).up (by simp)) ⟨by rw [up_at_ne (by omega), hz.len, Int.natAbs_neg], by rw [up_at, hv], by rw [up_ne (by omega), Int.natAbs_neg, hz.val], by rw [Int.natAbs_neg]; exact hle⟩
  refine g_Wh_flipSign_0 C Rm Q hw ⟨fun c => fin _ ?_, fun c => ⟨fun c2 => fin _ ?_, fun c2 => fin _ ?_⟩⟩
  · rw [hz.sg, sg_ne] at c
    rw [if_neg (by omega)]
  · rw [hz.len, nI_le0 (by omega)] at c2
    rw [if_neg (by omega)]
  · rw [hz.len, nI_le0 (by omega)] at c2
    rw [hz.sg, sg_ne] at c
    rw [if_pos (by omega)]
theorem ds_cmp {B : Nat} {d e : Nat → Nat} {k n : Nat} (hk : k < n) (hd : ∀ i, i < n → d i < B) (he : ∀ i, i < n → e i < B) (ht : ∀ i, k < i → i < n → d i = e i) (hl : d k < e k) : ds B d n < ds B e n := by
  obtain ⟨m, rfl⟩ := Nat.exists_eq_add_of_lt hk
  rw [show k + m + 1 = k + 1 + m by omega] at *
  rw [ds_split B d (k + 1) m, ds_split B e (k + 1) m, ds_cong (d := fun i => d (k + 1 + i)) (e := fun i => e (k + 1 + i)) (fun i hi => ht _ (by omega) (by omega)), ds_succ, ds_succ]
  have h1 := ds_lt (B := B) (d := d) (n := k) (fun i hi => hd i (by omega))
  have h2 : (d k + 1) * B ^ k ≤ e k * B ^ k := Nat.mul_le_mul_right _ hl
  rw [Nat.add_mul] at h2
  omega
/-- which of two sizes is larger -/
def ordN (a b : Nat) : Int32 := if a < b then -1 else if a = b then 0 else 1
theorem s_orderOfSizes {h : HP} {w o : Nat} {z y : Int} {Φ : Int32 → HP → Prop} (hw : kd w = (0, 0)) (ho : kd o = (0, 0)) (hz : WN h w z) (hy : WN h o y) (K : Φ (ordN z.natAbs y.natAbs) h) : K_Wh_orderOfSizes [.ref w, .ref o] h Φ := by
  refine I_Wh_orderOfSizes (fun X C Rm Q => ?_)
  have hle := hz.le
  have hle2 := hy.le
  have hgt : gc 32 z.natAbs < gc 32 y.natAbs → z.natAbs < y.natAbs := fun q => Nat.lt_of_lt_of_le (gc_self (by omega) _) ((gc_lt (by omega) _ _).mp q)
  have hgt2 : gc 32 y.natAbs < gc 32 z.natAbs → y.natAbs < z.natAbs := fun q => Nat.lt_of_lt_of_le (gc_self (by omega) _) ((gc_lt (by omega) _ _).mp q)
  refine g_Wh_orderOfSizes_0 C Rm Q hw ho ⟨fun c => ?_, fun c => ⟨fun c2 => ?_, fun c2 => ?_⟩⟩
  · rw [hz.len, hy.len, nI_eq (by omega) (by omega)] at c
    rw [hz.len]
    have loop : ∀ k, k ≤ gc 32 z.natAbs → (∀ i, k ≤ i → i < gc 32 z.natAbs → dW (h (w + 1)) i = dW (h (o + 1)) i) → Wg X 0 0 h [(0, .ref w), (1, .ref o), (2, .int (nI k - 1))] [] 35 := by
      intro k
      induction k with
      | zero =>
        intro _ hs
        refine g_Wh_orderOfSizes_35 C Rm Q hw ho ⟨fun _ => ?_, fun q => absurd (by decide) q⟩
        have e : z.natAbs = y.natAbs := by
          rw [← hz.val, ← hy.val, ← c]
          exact ds_cong (fun i hi => hs i (by omega) hi)
        unfold ordN at K
        rwa [if_neg (by omega), if_pos e] at K
      | succ k ih =>
        intro hk hs
        rw [nI_pred]
        refine g_Wh_orderOfSizes_35 C Rm Q hw ho ⟨fun q => absurd q (nI_lt0 (by omega)), fun q => ⟨vp_in_nI (by omega) (by omega), vp_in_nI (by omega) (by omega), fun e => ?_, fun e => ?_⟩⟩
        · rw [nI_cl (by omega)] at e
          rw [sub1]
          refine ih (by omega) (fun i hi hi2 => ?_)
          by_cases q2 : i = k
          · subst q2
            unfold dW
            rw [e]
          · exact hs i (by omega) hi2
        · rw [nI_cl (by omega)] at e
          refine s_wordAt hw hz.len (by omega) (by omega) ?_
          refine s_wordAt ho hy.len (by omega) (by omega) ?_
          rw [if_pos (by omega), if_pos (by omega)]
          have b1 : dW (h (w + 1)) k < 4294967296 := dW_lt _ _
          have b2 : dW (h (o + 1)) k < 4294967296 := dW_lt _ _
          have hne : dW (h (w + 1)) k ≠ dW (h (o + 1)) k := fun q => e (i32_ext q)
          have l1 := fun hl => ds_cmp (B := 4294967296) (d := dW (h (w + 1))) (e := dW (h (o + 1))) (k := k) (n := gc 32 z.natAbs) (by omega) (fun i _ => dW_lt _ _) (fun i _ => dW_lt _ _) (fun i hi hi2 => hs i (by omega) hi2) hl
          have l2 := fun hl => ds_cmp (B := 4294967296) (d := dW (h (o + 1))) (e := dW (h (w + 1))) (k := k) (n := gc 32 z.natAbs) (by omega) (fun i _ => dW_lt _ _) (fun i _ => dW_lt _ _) (fun i hi hi2 => (hs i (by omega) hi2).symm) hl
          have v1 := hz.val
          have v2 := hy.val
          rw [← c] at v2
          rw [v1, v2] at l1 l2
          refine ⟨fun q => ?_, fun q => ?_⟩
          · rw [lg_cmp_ge, llN (by omega) (by omega)] at q
            have := l2 (by omega)
            unfold ordN at K
            rwa [if_neg (by omega), if_neg (by omega)] at K
          · rw [lg_cmp_ge, llN (by omega) (by omega)] at q
            have := l1 (by omega)
            unfold ordN at K
            rwa [if_pos (by omega)] at K
    exact loop _ (Nat.le_refl _) (fun i hi hi2 => absurd hi (by omega))
  · rw [hz.len, hy.len, nI_eq (by omega) (by omega)] at c
    rw [hz.len, hy.len, nI_leI (by omega) (by omega)] at c2
    have := hgt2 (by omega)
    unfold ordN at K
    rwa [if_neg (by omega), if_neg (by omega)] at K
  · rw [hz.len, hy.len, nI_leI (by omega) (by omega)] at c2
    have := hgt (by omega)
    unfold ordN at K
    rwa [if_pos (by omega)] at K
def ordZ (a b : Int) : Int32 := if a < b then -1 else if a = b then 0 else 1
theorem s_orderTo {h : HP} {w o : Nat} {z y : Int} {Φ : Int32 → HP → Prop} (hw : kd w = (0, 0)) (ho : kd o = (0, 0)) (hz : WN h w z) (hy : WN h o y) (K : Φ (ordZ z y) h) : K_Wh_orderTo [.ref w, .ref o] h Φ := by
  refine I_Wh_orderTo (fun X C Rm Q => ?_)
  unfold ordZ at K
  have hs : (if z < 0 then 1 else 0 : Int32) = (if y < 0 then 1 else 0 : Int32) ↔ (z < 0 ↔ y < 0) := by
    by_cases q1 : z < 0 <;> by_cases q2 : y < 0 <;> simp [q1, q2]
  refine g_Wh_orderTo_0 C Rm Q hw ho ⟨fun c => ⟨fun c2 => ?_, fun c2 => ?_⟩, fun c => ⟨fun c2 => ?_, fun c2 => ?_⟩⟩
  · rw [hz.sg, hy.sg, hs] at c
    rw [hz.sg, sg_ne] at c2
    refine s_orderOfSizes hw ho hz hy ?_
    unfold ordN
    by_cases q : z < y
    · rw [if_pos q] at K; rwa [if_pos (by omega)]
    · by_cases q2 : z = y
      · rw [if_neg q, if_pos q2] at K; rwa [if_neg (by omega), if_pos (by omega)]
      · rw [if_neg q, if_neg q2] at K; rwa [if_neg (by omega), if_neg (by omega)]
  · rw [hz.sg, hy.sg, hs] at c
    rw [hz.sg, sg_ne] at c2
    refine s_orderOfSizes ho hw hy hz ?_
    unfold ordN
    by_cases q : z < y
    · rw [if_pos q] at K; rwa [if_pos (by omega)]
    · by_cases q2 : z = y
      · rw [if_neg q, if_pos q2] at K; rwa [if_neg (by omega), if_pos (by omega)]
      · rw [if_neg q, if_neg q2] at K; rwa [if_neg (by omega), if_neg (by omega)]
  · rw [hz.sg, hy.sg, hs] at c
    rw [hz.sg, sg_ne] at c2
    rwa [if_neg (by omega), if_neg (by omega)] at K
  · rw [hz.sg, hy.sg, hs] at c
    rw [hz.sg, sg_ne] at c2
    rwa [if_pos (by omega)] at K
