/-! Digits, words, signs. -/
def un (x : Int32) : Nat := x.toBitVec.toNat
theorem un_lt (x : Int32) : un x < 4294967296 := x.toBitVec.isLt
theorem nI_bv (n : Nat) : (nI n).toBitVec.toNat = n % 4294967296 := by
  show (BitVec.ofNat 32 n).toNat = _
  rw [BitVec.toNat_ofNat]
theorem un_nI (n : Nat) : un (nI n) = n % 4294967296 := nI_bv n
theorem un_nIl {n : Nat} (h : n < 4294967296) : un (nI n) = n := by rw [un_nI, Nat.mod_eq_of_lt h]
theorem i32_ext {x y : Int32} (h : un x = un y) : x = y := Int32.toBitVec_inj.mp (BitVec.eq_of_toNat_eq h)
theorem nI_un (x : Int32) : nI (un x) = x := i32_ext (by rw [un_nIl (un_lt x)])
theorem nI_mod (n : Nat) : nI (n % 4294967296) = nI n := i32_ext (by rw [un_nI, un_nI, Nat.mod_mod])
theorem un_0 : un 0 = 0 := rfl
theorem un_eq0 {x : Int32} : x = 0 ↔ un x = 0 := ⟨fun h => by rw [h]; rfl, fun h => i32_ext h⟩
theorem un_toInt (x : Int32) : x.toInt = if un x < 2147483648 then (un x : Int) else (un x : Int) - 4294967296 := by
  have h := BitVec.toInt_eq_toNat_cond x.toBitVec
  show x.toBitVec.toInt = _
  rw [h]
  unfold un
  simp only [Nat.reducePow]
  split <;> split <;> omega
theorem un_mask (x : Int32) : (x.toInt64 &&& 4294967295) = lN (un x) := by
  obtain ⟨n, hn, rfl⟩ := wb_of32 x
  rw [un_nIl hn]
  apply uN_inj
  rw [uN_lo]
  have e : uN (lN n) = n := wb_tn (by omega)
  rw [e]
  have e2 := uN_int (nI n).toInt64
  have e3 : (nI n).toInt64.toInt = (nI n).toInt := Int32.toInt_toInt64 _
  have e4 := un_toInt (nI n)
  rw [un_nIl hn] at e4
  have := uN_lt (nI n).toInt64
  split at e2 <;> split at e4 <;> omega
/-- a number by its digits -/
def ds (B : Nat) (d : Nat → Nat) (n : Nat) : Nat := fb_sm (fun i => d i * B ^ i) n
theorem ds_0 (B : Nat) (d : Nat → Nat) : ds B d 0 = 0 := rfl
theorem ds_succ (B : Nat) (d : Nat → Nat) (n : Nat) : ds B d (n + 1) = ds B d n + d n * B ^ n := fb_sm_succ _ _
theorem ds_cong {B : Nat} {d e : Nat → Nat} {n : Nat} (h : ∀ k, k < n → d k = e k) : ds B d n = ds B e n := fb_sm_cong (fun k hk => by rw [h k hk])
theorem ds_lt {B : Nat} {d : Nat → Nat} : ∀ {n : Nat}, (∀ k, k < n → d k < B) → ds B d n < B ^ n
  | 0, _ => by rw [ds_0]; simp
  | n + 1, h => by
    have h1 := ds_lt (B := B) (d := d) (n := n) (fun k hk => h k (by omega))
    have h2 := h n (by omega)
    rw [ds_succ, Nat.pow_succ]
    have h3 : (d n + 1) * B ^ n ≤ B * B ^ n := Nat.mul_le_mul_right _ h2
    rw [Nat.add_mul] at h3
    rw [Nat.mul_comm (B ^ n) B]
    omega
theorem ds_split (B : Nat) (d : Nat → Nat) (m : Nat) : ∀ n, ds B d (m + n) = ds B d m + B ^ m * ds B (fun i => d (m + i)) n
  | 0 => by rw [ds_0]; simp
  | n + 1 => by
    rw [← Nat.add_assoc, ds_succ, ds_split B d m n, ds_succ, Nat.pow_add, Nat.mul_add]
    have : d (m + n) * (B ^ m * B ^ n) = B ^ m * (d (m + n) * B ^ n) := by
      rw [← Nat.mul_assoc, Nat.mul_comm (d (m + n)), Nat.mul_assoc]
    omega
theorem ds_low (B : Nat) (d : Nat → Nat) (n : Nat) : ds B d (n + 1) = d 0 + B * ds B (fun i => d (i + 1)) n := by
  have h := ds_split B d 1 n
  rw [Nat.add_comm 1 n] at h
  rw [h, ds_succ, ds_0]
  simp [Nat.add_comm 1]
theorem ds_top {B : Nat} {d : Nat → Nat} {n : Nat} (h : d n ≠ 0) : B ^ n ≤ ds B d (n + 1) := by
  rw [ds_succ]
  have := Nat.mul_le_mul_right (B ^ n) (Nat.one_le_iff_ne_zero.mpr h)
  omega
theorem ds_digit {B : Nat} {d : Nat → Nat} {n i : Nat} (hd : ∀ k, k < n → d k < B) (hi : i < n) : ds B d n / B ^ i % B = d i := by
  obtain ⟨m, rfl⟩ := Nat.exists_eq_add_of_lt hi
  have hB : 0 < B := Nat.lt_of_le_of_lt (Nat.zero_le _) (hd i hi)
  rw [Nat.add_assoc, ds_split, ds_low]
  have h1 := ds_lt (B := B) (d := d) (n := i) (fun k hk => hd k (by omega))
  rw [Nat.add_mul_div_left _ _ (Nat.pow_pos hB), Nat.div_eq_of_lt h1, Nat.zero_add, Nat.add_zero, Nat.add_mul_mod_self_left]
  exact Nat.mod_eq_of_lt (hd i hi)
theorem ds_inj {B : Nat} {d e : Nat → Nat} {n : Nat} (hd : ∀ k, k < n → d k < B) (he : ∀ k, k < n → e k < B) (h : ds B d n = ds B e n) : ∀ k, k < n → d k = e k := fun k hk => by
  rw [← ds_digit hd hk, ← ds_digit he hk, h]
theorem ds_zero {B : Nat} {d : Nat → Nat} {n : Nat} (h : ∀ k, k < n → d k = 0) : ds B d n = 0 := by
  rw [ds_cong (e := fun _ => 0) h]
  unfold ds
  simp only [Nat.zero_mul]
  rw [fb_sm_const, Nat.mul_zero]
/-- how many digits of b bits a number takes -/
def gc (b m : Nat) : Nat := if m = 0 then 0 else m.log2 / b + 1
theorem gc_le {b : Nat} (hb : 0 < b) (m n : Nat) : gc b m ≤ n ↔ m < 2 ^ (b * n) := by
  unfold gc
  by_cases hm : m = 0
  · subst hm
    simp [Nat.pow_pos]
  · rw [if_neg hm, ← Nat.log2_lt hm]
    constructor
    · intro h
      have h1 : m.log2 / b < n := by omega
      have := (Nat.div_lt_iff_lt_mul hb).mp h1
      rw [Nat.mul_comm]
      exact this
    · intro h
      rw [Nat.mul_comm] at h
      have := (Nat.div_lt_iff_lt_mul hb).mpr h
      omega
theorem gc_lt {b : Nat} (hb : 0 < b) (m n : Nat) : n < gc b m ↔ 2 ^ (b * n) ≤ m := by
  have h := gc_le hb m n
  constructor
  · intro z
    refine Nat.le_of_not_lt (fun q => ?_)
    have := h.mpr q
    omega
  · intro z
    refine Nat.lt_of_not_le (fun q => ?_)
    have := h.mp q
    omega
theorem gc_0 (b : Nat) : gc b 0 = 0 := by simp [gc]
theorem gc_eq0 {b m : Nat} : gc b m = 0 ↔ m = 0 := by
  unfold gc
  split <;> simp_all
theorem gc_ds {b : Nat} (hb : 0 < b) {d : Nat → Nat} {n : Nat} (hd : ∀ k, k < n → d k < 2 ^ b) (ht : n = 0 ∨ d (n - 1) ≠ 0) : gc b (ds (2 ^ b) d n) = n := by
  have h1 : gc b (ds (2 ^ b) d n) ≤ n := by
    rw [gc_le hb, Nat.pow_mul]
    exact ds_lt hd
  refine Nat.le_antisymm h1 ?_
  rcases ht with rfl | ht
  · omega
  · cases n with
    | zero => omega
    | succ n =>
      have := ds_top (B := 2 ^ b) (d := d) (n := n) (by simpa using ht)
      rw [← Nat.pow_mul] at this
      exact (gc_lt hb _ _).mpr this
theorem gc_self {b : Nat} (hb : 0 < b) (m : Nat) : m < 2 ^ (b * gc b m) := (gc_le hb m _).mp (Nat.le_refl _)
theorem gc_mono {b : Nat} (hb : 0 < b) {m k : Nat} (h : m ≤ k) : gc b m ≤ gc b k := (gc_le hb m _).mpr (Nat.lt_of_le_of_lt h (gc_self hb k))
theorem c_0 : (0 : Int32).toNatClampNeg = 0 := rfl
theorem c_1 : (1 : Int32).toNatClampNeg = 1 := rfl
theorem vp0 {n : Nat} (h : 0 < n) (h2 : n < 2 ^ 31) : vp_in 0 n := vp_in_nI (n := 0) h h2
theorem up_self (h : HP) (k i : Nat) (v : Int32) : up h k i v k = upd (h k) i v := hs_self _ _ _
theorem up_ne {h : HP} {k i j : Nat} {v : Int32} (hj : j ≠ k) : up h k i v j = h j := hs_ne hj
theorem up_at (h : HP) (k i : Nat) (v : Int32) : up h k i v k i = v := by rw [up_self]; exact pk_us
theorem up_at_ne {h : HP} {k i j : Nat} {v : Int32} (hj : j ≠ i) : up h k i v k j = h k j := by rw [up_self]; exact pk_un hj
/-- what a method leaves alone -/
def Fr (S : List Nat) (h h2 : HP) : Prop := ∀ j, j ∉ S → h2 j = h j
theorem Fr.rf (S : List Nat) (h : HP) : Fr S h h := fun _ _ => rfl
theorem Fr.trans {S : List Nat} {h h2 h3 : HP} (a : Fr S h h2) (b : Fr S h2 h3) : Fr S h h3 := fun j hj => (b j hj).trans (a j hj)
theorem Fr.mono {S T : List Nat} {h h2 : HP} (a : Fr S h h2) (st : ∀ j, j ∈ S → j ∈ T) : Fr T h h2 := fun j hj => a j (fun z => hj (st j z))
theorem Fr.up {S : List Nat} {h h2 : HP} {k i : Nat} {v : Int32} (a : Fr S h h2) (hk : k ∈ S) : Fr S h (up h2 k i v) := fun j hj => (up_ne (fun e => hj (by rw [e]; exact hk))).trans (a j hj)
theorem Fr.hs {S : List Nat} {h h2 : HP} {k : Nat} {f : Nat → Int32} (a : Fr S h h2) (hk : k ∈ S) : Fr S h (hs h2 k f) := fun j hj => (hs_ne (fun e => hj (by rw [e]; exact hk))).trans (a j hj)
/-- a whole number of the class: words of 32 bits, a sign -/
def dW (f : Nat → Int32) : Nat → Nat := fun i => un (f i)
theorem dW_lt (f : Nat → Int32) (i : Nat) : dW f i < 4294967296 := un_lt _
def WN (h : HP) (w : Nat) (z : Int) : Prop := h w 1 = nI (gc 32 z.natAbs) ∧ h w 2 = (if z < 0 then 1 else 0) ∧ ds 4294967296 (dW (h (w + 1))) (gc 32 z.natAbs) = z.natAbs ∧ gc 32 z.natAbs ≤ 44
theorem WN.cong {h h2 : HP} {w : Nat} {z : Int} (a : h2 w = h w) (b : h2 (w + 1) = h (w + 1)) (k : WN h w z) : WN h2 w z := by
  unfold WN
  rw [a, b]
  exact k
theorem WN.fr {S : List Nat} {h h2 : HP} {w : Nat} {z : Int} (k : WN h w z) (f : Fr S h h2) (h1 : w ∉ S) (h3 : w + 1 ∉ S) : WN h2 w z := k.cong (f w h1) (f (w + 1) h3)
theorem zi0 : (0 : Int32) = nI 0 := rfl
theorem zi1 : (1 : Int32) = nI 1 := rfl
theorem nI_le0 {n : Nat} (h : n < 2147483648) : nI n ≤ 0 ↔ n = 0 := by rw [zi0, nI_leI (by omega) (by omega)]; omega
theorem nI_lt0 {n : Nat} (h : n < 2147483648) : ¬ nI n < 0 := nI_pos (by omega)
theorem nI_gt0 {n : Nat} (h : n < 2147483648) : 0 < nI n ↔ 0 < n := by rw [zi0, nI_ltI (by omega) (by omega)]
theorem nI_e0 {n : Nat} (h : n < 2147483648) : nI n = 0 ↔ n = 0 := by rw [zi0, nI_eq (by omega) (by omega)]
theorem nI_cl {n : Nat} (h : n < 2147483648) : (nI n).toNatClampNeg = n := nI_clamp (by omega)
theorem sub1 (x : Int32) : x + (-1) = x - 1 := (Int32.sub_eq_add_neg x 1).symm
theorem llN {a b : Nat} (ha : a < 9223372036854775808) (hb : b < 9223372036854775808) : lN a ≤ lN b ↔ a ≤ b := pk_lLE (by omega) (by omega)
theorem gc_ds32 {d : Nat → Nat} {n : Nat} (hd : ∀ k, k < n → d k < 4294967296) (ht : n = 0 ∨ d (n - 1) ≠ 0) : gc 32 (ds 4294967296 d n) = n := gc_ds (b := 32) (by omega) hd ht
