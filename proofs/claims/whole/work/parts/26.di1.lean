/-! Division, module one: leading zeros, shifts, guesses. -/
theorem un_iushr (x : Int32) {k : Nat} (hk : k < 32) : un (iushr x (nI k)) = un x / 2 ^ k := by
  show (x.toUInt32 >>> ((nI k).toUInt32 &&& Int32.toUInt32 31)).toNat = _
  have h : ((nI k).toUInt32 &&& Int32.toUInt32 31).toNat % 32 = k := nx_cnt ⟨k, hk⟩
  rw [UInt32.toNat_shiftRight, h, Nat.shiftRight_eq_div_pow]
  rfl
theorem iushr_nI {n k : Nat} (hn : n < 4294967296) (hk : k < 32) : iushr (nI n) (nI k) = nI (n / 2 ^ k) := by
  apply nI_is
  rw [un_iushr _ hk, un_nIl hn]
theorem nI_sub {a b : Nat} (h : b ≤ a) : nI a - nI b = nI (a - b) := by
  obtain ⟨c, rfl⟩ := Nat.exists_eq_add_of_le h
  rw [Nat.add_sub_cancel_left, Nat.add_comm, ← nI_add, Int32.add_sub_cancel]
theorem nI_addn {a b : Nat} (h : b ≤ a) (h2 : b < 2147483648) : nI a + Int32.ofInt (-(b : Int)) = nI (a - b) := by
  rw [← nI_sub h, Int32.sub_eq_add_neg]
  congr 1
  apply Int32.toInt_inj.mp
  rw [fb_ofI (by omega) (by omega)]
  have e : (nI b).toInt = b := nI_toInt (by omega)
  rw [fb_negI (by rw [e]; omega), e]
theorem s_nlz {h : HP} {v : Int32} {Φ : Int32 → HP → Prop} (hv : un v ≠ 0) (K : ∀ L, L < 32 → 2 ^ L ≤ un v → un v < 2 ^ (L + 1) → Φ (nI (31 - L)) h) : K_In_nlz [.int v] h Φ := by
  refine I_In_nlz (fun X C Rm Q => ?_)
  have hlt := un_lt v
  generalize hn : un v = n at *
  have ev : v = nI n := nI_is hn
  rw [ev]
  have c61 : ∀ (j m : Nat), j ≤ 28 → m = n / 2 ^ j → 0 < m → m < 16 → Wg X 0 0 h [(0, .int (nI m)), (1, .int (nI (31 - j)))] [] 61 := by
    intro j m hj hm h0 h16
    have key : ∀ k, k ≤ 3 → 2 ^ k ≤ m → m < 2 ^ (k + 1) → Φ (nI (31 - j - k)) h := by
      intro k hk k1 k2
      have hp : 0 < 2 ^ j := Nat.pow_pos (by decide)
      have := K (j + k) (by omega) (by
        rw [Nat.pow_add]
        have := (Nat.le_div_iff_mul_le hp).mp (hm ▸ k1)
        rw [Nat.mul_comm]
        exact this) (by
        rw [Nat.add_assoc, Nat.pow_add]
        have := (Nat.div_lt_iff_lt_mul hp).mp (hm ▸ k2)
        rw [Nat.mul_comm]
        exact this)
      rwa [show 31 - (j + k) = 31 - j - k by omega] at this
    refine g_In_nlz_61 C Rm Q ⟨fun c => ?_, fun c => ?_⟩
    · rw [show (4 : Int32) = nI 4 from rfl, nI_ltI (by omega) (by omega)] at c
      rw [zi1, iushr_nI (by omega) (by omega), nI_sub (by omega)]
      rcases (show m = 1 ∨ m = 2 ∨ m = 3 by omega) with rfl | rfl | rfl
      · exact key 0 (by omega) (by decide) (by decide)
      · exact key 1 (by omega) (by decide) (by decide)
      · exact key 1 (by omega) (by decide) (by decide)
    · rw [show (4 : Int32) = nI 4 from rfl, nI_ltI (by omega) (by omega)] at c
      rw [show (2 : Int32) = nI 2 from rfl, zi1, iushr_nI (by omega) (by omega), iushr_nI (by omega) (by omega), show (-nI 2 : Int32) = Int32.ofInt (-((2 : Nat) : Int)) from rfl, nI_addn (by omega) (by omega), nI_sub (by omega)]
      by_cases q : m < 8
      · have : m / 2 ^ 2 / 2 ^ 1 = 0 := by omega
        rw [this, Nat.sub_zero]
        exact key 2 (by omega) (by omega) (by omega)
      · have : m / 2 ^ 2 / 2 ^ 1 = 1 := by omega
        rw [this, Nat.sub_sub]
        exact key 3 (by omega) (by omega) (by omega)
  have dd : ∀ a b : Nat, n / 2 ^ a / 2 ^ b = n / 2 ^ (a + b) := fun a b => by rw [Nat.div_div_eq_div_mul, Nat.pow_add]
  have c33 : ∀ (j m : Nat), j ≤ 16 → m = n / 2 ^ j → 0 < m → m < 65536 → Wg X 0 0 h [(0, .int (nI m)), (1, .int (nI (31 - j)))] [] 33 := by
    intro j m hj hm h0 h16
    refine g_In_nlz_33 C Rm Q ⟨fun c => ⟨fun c2 => ?_, fun c2 => ?_⟩, fun c => ⟨fun c2 => ?_, fun c2 => ?_⟩⟩
    · rw [show (16 : Int32) = nI 16 from rfl, nI_ltI (by omega) (by omega)] at c2
      exact c61 j m (by omega) hm h0 c2
    · rw [show (256 : Int32) = nI 256 from rfl, nI_ltI (by omega) (by omega)] at c
      rw [show (16 : Int32) = nI 16 from rfl, nI_ltI (by omega) (by omega)] at c2
      rw [show (4 : Int32) = nI 4 from rfl, iushr_nI (by omega) (by omega), show (-nI 4 : Int32) = Int32.ofInt (-((4 : Nat) : Int)) from rfl, nI_addn (by omega) (by omega), Nat.sub_sub]
      exact c61 (j + 4) _ (by omega) (by rw [hm, dd]) (by omega) (by omega)
    · rw [show (256 : Int32) = nI 256 from rfl, nI_ltI (by omega) (by omega)] at c
      rw [show (8 : Int32) = nI 8 from rfl, iushr_nI (by omega) (by omega)] at c2 ⊢
      rw [show (16 : Int32) = nI 16 from rfl, nI_ltI (by omega) (by omega)] at c2
      rw [show (-nI 8 : Int32) = Int32.ofInt (-((8 : Nat) : Int)) from rfl, nI_addn (by omega) (by omega), Nat.sub_sub]
      exact c61 (j + 8) _ (by omega) (by rw [hm, dd]) (by omega) (by omega)
    · rw [show (256 : Int32) = nI 256 from rfl, nI_ltI (by omega) (by omega)] at c
      rw [show (8 : Int32) = nI 8 from rfl, iushr_nI (by omega) (by omega)] at c2 ⊢
      rw [show (16 : Int32) = nI 16 from rfl, nI_ltI (by omega) (by omega)] at c2
      rw [show (4 : Int32) = nI 4 from rfl, iushr_nI (by omega) (by omega), show (-nI 8 : Int32) = Int32.ofInt (-((8 : Nat) : Int)) from rfl, nI_addn (by omega) (by omega), show (-nI 4 : Int32) = Int32.ofInt (-((4 : Nat) : Int)) from rfl, nI_addn (by omega) (by omega), Nat.sub_sub, Nat.sub_sub]
      exact c61 (j + (8 + 4)) _ (by omega) (by rw [hm, dd, dd]) (by omega) (by omega)
  refine g_In_nlz_0 C Rm Q ⟨fun c => ⟨fun c2 => ?_, fun c2 => ?_⟩, fun c => ⟨fun c2 => ?_, fun c2 => ?_⟩⟩
  · rw [Int32.lt_iff_toInt_lt, un_toInt, un_nIl hlt] at c2
    have c3 : (if n < 2147483648 then (n : Int) else (n : Int) - 4294967296) < 65536 := c2
    rw [Int32.lt_iff_toInt_lt, un_toInt (nI n), un_nIl hlt] at c
    have c4 : (0 : Int) < (if n < 2147483648 then (n : Int) else (n : Int) - 4294967296) := c
    exact c33 0 n (by omega) (by simp) (by omega) (by split at c3 <;> omega)
  · rw [Int32.lt_iff_toInt_lt, un_toInt, un_nIl hlt] at c2
    have c3 : ¬ (if n < 2147483648 then (n : Int) else (n : Int) - 4294967296) < 65536 := c2
    rw [Int32.lt_iff_toInt_lt, un_toInt (nI n), un_nIl hlt] at c
    have c4 : (0 : Int) < (if n < 2147483648 then (n : Int) else (n : Int) - 4294967296) := c
    rw [show (16 : Int32) = nI 16 from rfl, iushr_nI (by omega) (by omega)]
    exact c33 16 _ (by omega) rfl (by split at c3 <;> omega) (by split at c3 <;> omega)
  · rw [Int32.lt_iff_toInt_lt, un_toInt (nI n), un_nIl hlt] at c
    have c4 : ¬ (0 : Int) < (if n < 2147483648 then (n : Int) else (n : Int) - 4294967296) := c
    exact K 31 (by omega) (by split at c4 <;> omega) hlt
  · exact absurd ((un_eq0.mp c2).symm.trans (un_nIl hlt)).symm hv
theorem ds_scale (B c : Nat) (d : Nat → Nat) (n : Nat) : ds B (fun i => c * d i) n = c * ds B d n := by
  induction n with
  | zero => rw [ds_0, ds_0]; simp
  | succ n ih => rw [ds_succ, ds_succ, ih, Nat.mul_add, Nat.mul_assoc]
theorem s_shiftUp {h : HP} {w q n2 s m : Nat} {Φ : HP → Prop} (hw : kd w = (0, 0)) (hq : kd q = (10, n2)) (hqw : q ≠ w + 1) (hm : h w 1 = nI m) (hm2 : m ≤ 43) (hn2 : n2 = 44) (hs : s < 32)
    (K : ∀ h2, Fr [q] h h2 → ds 4294967296 (dW (h2 q)) (m + 1) = 2 ^ s * ds 4294967296 (dW (h (w + 1))) m → un (h2 q m) < 2 ^ s → Φ h2) : K_Di_shiftUp [.ref w, .int (nI s), .ref q] h Φ := by
  subst hn2
  refine I_Di_shiftUp (n2 := 44) (fun X C Rm Q => ?_)
  have hwq : w ≠ q := kd_ne hw hq (by omega)
  have hsp : 2 ^ s ≤ 2147483648 := Nat.pow_le_pow_right (n := 2) (by decide) (show s ≤ 31 by omega)
  have loop : ∀ (r i c : Nat) (h0 : HP), r + i = m → Fr [q] h h0 → c < 2 ^ s → ds 4294967296 (dW (h0 q)) i + c * 4294967296 ^ i = 2 ^ s * ds 4294967296 (dW (h (w + 1))) i →
      Wg X 0 0 h0 [(0, .ref w), (1, .int (nI s)), (2, .ref q), (3, .long (lN c)), (5, .int (nI i))] [] 5 := by
    intro r
    induction r with
    | zero =>
      intro i c h0 hr f hc hv
      have e1 : h0 w 1 = nI m := by rw [f w (by simp [hwq]), hm]
      refine g_Di_shiftUp_5 (n2 := 44) C Rm Q hw hq ⟨fun _ => ?_, fun q => by rw [e1, nI_leI (by omega) (by omega)] at q; omega⟩
      rw [e1, nI_cl (by omega), lN_i]
      refine ⟨vp_in_nI (by omega) (by omega), K _ (f.up (by simp)) ?_ ?_⟩
      · rw [up_self, ds_updt, un_nIl (by omega)]
        rw [show i = m by omega] at hv
        exact hv
      · rw [up_at, un_nIl (by omega)]
        exact hc
    | succ r ih =>
      intro i c h0 hr f hc hv
      have e1 : h0 w 1 = nI m := by rw [f w (by simp [hwq]), hm]
      refine g_Di_shiftUp_5 (n2 := 44) C Rm Q hw hq ⟨fun q => by rw [e1, nI_leI (by omega) (by omega)] at q; omega, fun _ => ?_⟩
      have e2 : h0 (w + 1) = h (w + 1) := f (w + 1) (by simp; omega)
      refine s_wordAt hw e1 (by omega) (by omega) ⟨vp_in_nI (by omega) (by omega), ?_⟩
      rw [if_pos (by omega), e2, nI_cl (by omega), nI_1]
      have b1 : dW (h (w + 1)) i < 4294967296 := dW_lt _ _
      generalize hd : dW (h (w + 1)) i = d at *
      have hb2 : 4294967296 * 2 ^ s ≤ 4294967296 * 2147483648 := Nat.mul_le_mul_left _ hsp
      have hb3 : d * 2 ^ s ≤ 4294967295 * 2 ^ s := Nat.mul_le_mul_right _ (by omega)
      have eor : lN c ||| lshl (lN d) (nI s) = lN (c + d * 2 ^ s) := by
        rw [lshl_lN _ (by omega)]
        exact g_or' rfl hc (by omega)
      rw [eor, lN_i, l32, lushr_lN (by omega) (by omega)]
      refine ih (i + 1) ((c + d * 2 ^ s) / 4294967296) _ (by omega) (f.up (by simp)) ?_ ?_
      · rw [Nat.div_lt_iff_lt_mul (by decide), Nat.mul_comm (2 ^ s)]
        omega
      · rw [up_self, ds_updt, ds_succ, Nat.pow_succ, hd]
        have e3 := carry_step (P := 4294967296 ^ i) (un_dm (c + d * 2 ^ s))
        have e4 : d * 2 ^ s * 4294967296 ^ i = 2 ^ s * (d * 4294967296 ^ i) := by rw [Nat.mul_comm d, Nat.mul_assoc]
        rw [Nat.add_mul, e4] at e3
        rw [Nat.mul_add]
        omega
  refine g_Di_shiftUp_0 (n2 := 44) C Rm Q hw hq (loop m 0 0 h (by omega) (Fr.rf _ _) (Nat.pow_pos (by decide)) ?_)
  rw [ds_0, ds_0]; simp
