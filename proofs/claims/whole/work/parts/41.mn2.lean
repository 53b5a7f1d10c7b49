/-! The model's rows: long numbers, sums, differences, products. -/
theorem mv_succ (h : HP) (t i : Nat) : mv h t (i + 1) = mv h t i + lb h t i * 65536 ^ i := ds_succ _ _ _
theorem mv_0 (h : HP) (t : Nat) : mv h t 0 = 0 := rfl
theorem lb_at (h : HP) (t i : Nat) (v : Int32) : lb (up h 8 (100 * t + i) v) t i = un v := by unfold lb; rw [up_at]
theorem lb_ne {h : HP} {t i j : Nat} {v : Int32} (hj : j ≠ i) : lb (up h 8 (100 * t + i) v) t j = lb h t j := by unfold lb; rw [up_at_ne (by omega)]
theorem mv_up (h : HP) (t i : Nat) {v : Nat} (hv : v < 65536) : mv (up h 8 (100 * t + i) (nI v)) t (i + 1) = mv h t i + v * 65536 ^ i := by
  rw [mv_succ, lb_at, un_nIl (by omega)]
  congr 1
  exact ds_cong (fun k hk => lb_ne (by omega))
theorem mv_out {h : HP} {t i n : Nat} {v : Int32} (hn : n ≤ i) : mv (up h 8 (100 * t + i) v) t n = mv h t n := ds_cong (fun k hk => lb_ne (by omega))
theorem mv_lt {h : HP} {t n : Nat} (hd : ∀ i, i < n → lb h t i < 65536) : mv h t n < 65536 ^ n := ds_lt hd
theorem lb_lt_up {h : HP} {t i : Nat} {v : Nat} (hd : ∀ j, j < i → lb h t j < 65536) (hv : v < 65536) : ∀ j, j < i + 1 → lb (up h 8 (100 * t + i) (nI v)) t j < 65536 := fun j hj => by
  by_cases q : j = i
  · subst q; rw [lb_at, un_nIl (by omega)]; exact hv
  · rw [lb_ne q]; exact hd j (by omega)
theorem mod16 (p : Nat) : nI p &&& 65535 = nI (p % 65536) := nx_mod p
theorem shr16 {p : Nat} (h : p < 2147483648) : nI p >>> (16 &&& (31 : Int32)) = nI (p / 65536) := pk_shrN h _ 16 (by decide)
/-- the limbs of a row behind a change elsewhere in it -/
theorem lb_of {h h0 : HP} {a t i : Nat} (f : FR [t] h h0) (hi : i < 100) (k : ∀ j, i ≤ j → j < 100 → h0 8 (100 * t + j) = h 8 (100 * t + j)) : lb h0 a i = lb h a i := by
  unfold lb
  by_cases q : a = t
  · subst q; rw [k i (Nat.le_refl _) hi]
  · rw [(f.2 a (by simpa using q)).2.2 i hi]
theorem mv_ext {h : HP} {a m : Nat} (n : Nat) (h1 : gc 16 m ≤ n) (k : MU h a m) : ds 65536 (fun i => if i < gc 16 m then lb h a i else 0) n = m := by
  rw [ds_ext h1]
  exact k.val
theorem s_madd {h : HP} {t a b x y : Nat} {Φ : HP → Prop} (ht : t < 218) (ha : a < 218) (hb : b < 218) (hx : MU h a x) (hy : MU h b y) (gx : gc 16 x ≤ 98) (gy : gc 16 y ≤ 98) (K : ∀ h2, FR [t] h h2 → MU h2 t (x + y) → h2 10 t = (if x + y = 0 then 0 else h 10 t) → Φ h2) : K_Mo_addSizes [.ref 0, .int (nI t), .int (nI a), .int (nI b)] h Φ := by
  refine I_Mo_addSizes (fun X C Rm Q => g_Mo_addSizes_0 C Rm Q ?_)
  generalize hda : (fun i => if i < gc 16 x then lb h a i else 0) = da
  generalize hdb : (fun i => if i < gc 16 y then lb h b i else 0) = db
  have eda : ∀ k, (if k < gc 16 x then lb h a k else 0) = da k := fun k => by rw [← hda]
  have edb : ∀ k, (if k < gc 16 y then lb h b k else 0) = db k := fun k => by rw [← hdb]
  have bda : ∀ k, da k < 65536 := fun k => by rw [← eda]; split; exact hx.lt (by assumption); omega
  have bdb : ∀ k, db k < 65536 := fun k => by rw [← edb]; split; exact hy.lt (by assumption); omega
  have main : ∀ n, max (gc 16 x) (gc 16 y) + 1 = n → Wg X 0 0 h [(0, .ref 0), (1, .int (nI t)), (2, .int (nI a)), (3, .int (nI b)), (4, .int (nI n)), (5, .int 0), (6, .int 0)] [] 40 := by
    intro n hn
    have hna : ds 65536 da (n - 1) = x := by rw [← hda]; exact mv_ext (n - 1) (by omega) hx
    have hnb : ds 65536 db (n - 1) = y := by rw [← hdb]; exact mv_ext (n - 1) (by omega) hy
    have hna2 : ds 65536 da n = x := by
      rw [← hda]; exact mv_ext n (by omega) hx
    have hnb2 : ds 65536 db n = y := by
      rw [← hdb]; exact mv_ext n (by omega) hy
    have loop : ∀ (r i c : Nat) (h0 : HP), r + i = n → FR [t] h h0 → h0 9 = h 9 → h0 10 = h 10 → (∀ j, i ≤ j → j < 100 → h0 8 (100 * t + j) = h 8 (100 * t + j)) → (∀ j, j < i → lb h0 t j < 65536) → c ≤ 1 → mv h0 t i + c * 65536 ^ i = ds 65536 da i + ds 65536 db i →
        Wg X 0 0 h0 [(0, .ref 0), (1, .int (nI t)), (2, .int (nI a)), (3, .int (nI b)), (4, .int (nI n)), (5, .int (nI c)), (6, .int (nI i))] [] 40 := by
      intro r
      induction r with
      | zero =>
        intro i c h0 hr f e9 e10 hj hd hc hv
        have hin : i = n := by omega
        subst hin
        rw [hna2, hnb2] at hv
        have hxy : x + y < 65536 ^ i := by
          have h1 := ds_lt (B := 65536) (d := da) (n := i - 1) (fun k _ => bda k)
          have h2 := ds_lt (B := 65536) (d := db) (n := i - 1) (fun k _ => bdb k)
          rw [hna] at h1
          rw [hnb] at h2
          have h3 : 65536 ^ i = 65536 * 65536 ^ (i - 1) := by rw [← Nat.pow_succ']; congr 1; omega
          omega
        have hc0 : c = 0 := by
          rcases (show c = 0 ∨ c = 1 by omega) with q | q
          · exact q
          · rw [q, Nat.one_mul] at hv; omega
        subst hc0
        rw [Nat.zero_mul, Nat.add_zero] at hv
        refine g_Mo_addSizes_40 C Rm Q ⟨fun _ => ⟨vr ht, ?_⟩, fun q => absurd (Int32.le_refl _) q⟩
        rw [nI_cl (by omega)]
        refine s_mtrim ht (by omega) (up_at _ _ _ _) (fun j hj2 => by unfold lb; rw [up_ne (by omega)]; exact hd j hj2) (fun h2 f2 e8 k2 s2 => ?_)
        have em : mv (up h0 9 t (nI i)) t i = x + y := by
          rw [← hv]
          unfold mv lb
          rw [up_ne (by omega)]
        rw [em] at k2 s2
        refine K h2 ((f.up9 (by simp)).trans f2) k2 ?_
        rw [s2, up_ne (by omega), e10]
      | succ r ih =>
        intro i c h0 hr f e9 e10 hj hd hc hv
        refine g_Mo_addSizes_40 C Rm Q ⟨fun q => by rw [nI_leI (by omega) (by omega)] at q; omega, fun _ => ?_⟩
        have ra : (if i < gc 16 x then lb h0 a i else 0) = da i := by rw [← eda, lb_of f (by omega) hj]
        have rb : (if i < gc 16 y then lb h0 b i else 0) = db i := by rw [← edb, lb_of f (by omega) hj]
        refine s_limbOf ha (by rw [e9]; exact hx.len) (by omega) (by omega) (s_limbOf hb (by rw [e9]; exact hy.len) (by omega) (by omega) ?_)
        have b1 := bda i
        have b2 := bdb i
        rw [ra, rb, ixl, nI_add, nI_add, mod16, shr16 (by omega), nI_1]
        refine ⟨vl ht (by omega), ?_⟩
        rw [nI_cl (by omega)]
        refine ih (i + 1) ((da i + db i + c) / 65536) _ (by omega) (f.up8 (by simp) (by omega)) (by rw [← e9]; exact up_ne (by omega)) (by rw [← e10]; exact up_ne (by omega)) (fun j h1 h2 => by rw [up_at_ne (by omega)]; exact hj j (by omega) h2) (lb_lt_up hd (by omega)) (by omega) ?_
        rw [mv_up _ _ _ (by omega), ds_succ, ds_succ, Nat.pow_succ]
        have := carry_step (P := 65536 ^ i) (show da i + db i + c = (da i + db i + c) % 65536 + (da i + db i + c) / 65536 * 65536 by omega)
        rw [Nat.add_mul, Nat.add_mul] at this
        omega
    exact loop n 0 0 h (Nat.add_zero _) (FR.rf _ _) rfl rfl (fun _ _ _ => rfl) (fun j hj => absurd hj (by omega)) (by omega) (by rw [mv_0, ds_0, ds_0])
  rw [nI_cl (by omega), nI_cl (by omega), hx.len, hy.len, nI_leI (by omega) (by omega), nI_1, nI_1]
  exact ⟨vr ha, vr hb, fun q => ⟨vr hb, main _ (by omega)⟩, fun q => ⟨vr ha, main _ (by omega)⟩⟩
def bw (b : Nat) : Int32 := if b = 0 then 0 else -1
theorem sub16 {p q b : Nat} (hp : p < 65536) (hq : q < 65536) (hb : b ≤ 1) : ∃ v k, v < 65536 ∧ k ≤ 1 ∧ v + q + b = p + k * 65536 ∧ (nI p - nI q + bw b) &&& 65535 = nI v ∧ (nI p - nI q + bw b) >>> (16 &&& (31 : Int32)) = bw k := by
  have e1 := pk_sub_toInt (a := p) (b := q) (by omega) (by omega)
  have e2 : (bw b).toInt = -(b : Int) := by
    rcases (show b = 0 ∨ b = 1 by omega) with rfl | rfl <;> rfl
  have e3 : (nI p - nI q + bw b).toInt = (p : Int) - q - b := by rw [fb_addI (by omega) (by omega), e1, e2]; omega
  have u := un_toInt (nI p - nI q + bw b)
  have ul := un_lt (nI p - nI q + bw b)
  rw [e3] at u
  have ea := pk_and (nI p - nI q + bw b) (m := 65535) 16 (by decide)
  have es := pk_shr (nI p - nI q + bw b) (16 &&& (31 : Int32)) 16 (by decide)
  rw [e3, Int.shiftRight_eq_div_pow] at es
  have ea2 : (nI p - nI q + bw b).toBitVec.toNat = un (nI p - nI q + bw b) := rfl
  rw [ea2] at ea
  have p16 : ((2 ^ 16 : Nat) : Int) = 65536 := rfl
  rw [p16] at es
  by_cases z : q + b ≤ p
  · refine ⟨p - q - b, 0, by omega, by omega, by omega, ?_, ?_⟩
    · rw [ea]
      congr 1
      split at u <;> omega
    · apply i32_ext_int
      rw [es]
      show _ = (0 : Int)
      omega
  · refine ⟨p + 65536 - q - b, 1, by omega, by omega, by omega, ?_, ?_⟩
    · rw [ea]
      congr 1
      split at u <;> omega
    · apply i32_ext_int
      rw [es]
      show _ = (-1 : Int)
      omega
theorem s_msub {h : HP} {t a b x y : Nat} {Φ : HP → Prop} (ht : t < 218) (ha : a < 218) (hb : b < 218) (hx : MU h a x) (hy : MU h b y) (hle : y ≤ x) (K : ∀ h2, FR [t] h h2 → MU h2 t (x - y) → h2 10 t = (if x - y = 0 then 0 else h 10 t) → Φ h2) : K_Mo_subtractSizes [.ref 0, .int (nI t), .int (nI a), .int (nI b)] h Φ := by
  refine I_Mo_subtractSizes (fun X C Rm Q => g_Mo_subtractSizes_0 C Rm Q ⟨vr ha, ?_⟩)
  rw [nI_cl (by omega), hx.len]
  have gle : gc 16 y ≤ gc 16 x := gc_mono (by omega) hle
  have g99 := hx.le
  generalize hda : lb h a = da
  generalize hdb : (fun i => if i < gc 16 y then lb h b i else 0) = db
  have edb : ∀ k, (if k < gc 16 y then lb h b k else 0) = db k := fun k => by rw [← hdb]
  have bda : ∀ k, k < gc 16 x → da k < 65536 := fun k hk => by rw [← hda]; exact hx.lt hk
  have bdb : ∀ k, db k < 65536 := fun k => by rw [← edb]; split; exact hy.lt (by assumption); omega
  have hna : ds 65536 da (gc 16 x) = x := by rw [← hda]; exact hx.val
  have hnb : ds 65536 db (gc 16 x) = y := by rw [← hdb]; exact mv_ext (gc 16 x) gle hy
  have gy99 := hy.le
  generalize hn : gc 16 x = n at *
  have loop : ∀ (r i c : Nat) (h0 : HP), r + i = n → FR [t] h h0 → h0 9 = h 9 → h0 10 = h 10 → (∀ j, i ≤ j → j < 100 → h0 8 (100 * t + j) = h 8 (100 * t + j)) → (∀ j, j < i → lb h0 t j < 65536) → c ≤ 1 → mv h0 t i + ds 65536 db i = ds 65536 da i + c * 65536 ^ i →
      Wg X 0 0 h0 [(0, .ref 0), (1, .int (nI t)), (2, .int (nI a)), (3, .int (nI b)), (4, .int (nI n)), (5, .int (bw c)), (6, .int (nI i))] [] 14 := by
    intro r
    induction r with
    | zero =>
      intro i c h0 hr f e9 e10 hj hd hc hv
      have hin : i = n := by omega
      subst hin
      rw [hna, hnb] at hv
      have hlt := mv_lt hd
      have hc0 : c = 0 := by
        rcases (show c = 0 ∨ c = 1 by omega) with q | q
        · exact q
        · rw [q, Nat.one_mul] at hv; omega
      subst hc0
      rw [Nat.zero_mul, Nat.add_zero] at hv
      refine g_Mo_subtractSizes_14 C Rm Q ⟨fun _ => ⟨vr ht, ?_⟩, fun q => absurd (Int32.le_refl _) q⟩
      rw [nI_cl (by omega)]
      refine s_mtrim ht (by omega) (up_at _ _ _ _) (fun j hj2 => by unfold lb; rw [up_ne (by omega)]; exact hd j hj2) (fun h2 f2 e8 k2 s2 => ?_)
      have em : mv (up h0 9 t (nI i)) t i = x - y := by
        have : mv (up h0 9 t (nI i)) t i = mv h0 t i := by
          unfold mv lb
          rw [up_ne (by omega)]
        omega
      rw [em] at k2 s2
      refine K h2 ((f.up9 (by simp)).trans f2) k2 ?_
      rw [s2, up_ne (by omega), e10]
    | succ r ih =>
      intro i c h0 hr f e9 e10 hj hd hc hv
      refine g_Mo_subtractSizes_14 C Rm Q ⟨fun q => by rw [nI_leI (by omega) (by omega)] at q; omega, fun _ => ?_⟩
      have ra : (if i < n then lb h0 a i else 0) = da i := by rw [if_pos (by omega), ← hda, lb_of f (by omega) hj]
      have rb : (if i < gc 16 y then lb h0 b i else 0) = db i := by rw [← edb, lb_of f (by omega) hj]
      refine s_limbOf (n := n) ha (by rw [e9, hx.len, hn]) (by omega) (by omega) (s_limbOf hb (by rw [e9]; exact hy.len) (by omega) (by omega) ?_)
      have b1 := bda i (by omega)
      have b2 := bdb i
      obtain ⟨v, k, z1, z2, z3, z4, z5⟩ := sub16 b1 b2 hc
      rw [ra, rb, ixl, z4, z5, nI_1]
      refine ⟨vl ht (by omega), ?_⟩
      rw [nI_cl (by omega)]
      refine ih (i + 1) k _ (by omega) (f.up8 (by simp) (by omega)) (by rw [← e9]; exact up_ne (by omega)) (by rw [← e10]; exact up_ne (by omega)) (fun j h1 h2 => by rw [up_at_ne (by omega)]; exact hj j (by omega) h2) (lb_lt_up hd z1) z2 ?_
      rw [mv_up _ _ _ z1, ds_succ, ds_succ, Nat.pow_succ]
      have e1 : (v + db i + c) * 65536 ^ i = (da i + k * 65536) * 65536 ^ i := by rw [z3]
      rw [Nat.add_mul, Nat.add_mul, Nat.add_mul, Nat.mul_assoc, Nat.mul_comm 65536] at e1
      omega
  exact loop n 0 0 h (Nat.add_zero _) (FR.rf _ _) rfl rfl (fun _ _ _ => rfl) (fun j hj => absurd hj (by omega)) (by omega) (by rw [mv_0, ds_0, ds_0])
theorem MN.u {h : HP} {r : Nat} {z : Int} (k : MN h r z) : MU h r z.natAbs := k.1
theorem MN.sg {h : HP} {r : Nat} {z : Int} (k : MN h r z) : h 10 r = (if z < 0 then 1 else 0) := k.2
theorem sg_i {z : Int} : (if z < 0 then 1 else 0 : Int32) = 0 ∨ (if z < 0 then 1 else 0 : Int32) = 1 := sg_01 z
/-- the sign set behind sizes -/
theorem MU.put {h : HP} {r m : Nat} {z : Int} {v : Int32} (k : MU h r m) (hm : z.natAbs = m) (hv : v = (if z < 0 then 1 else 0)) : MN (up h 10 r v) r z := ⟨by rw [hm]; exact k.cong (by rw [up_ne (by omega)]) (fun i _ => by rw [up_ne (by omega)]), by rw [up_at, hv]⟩
theorem gc16_0 {m : Nat} : gc 16 m = 0 ↔ m = 0 := gc_eq0
theorem s_msum {h : HP} {t a b : Nat} {x y : Int} {less : Bool} {Φ : HP → Prop} (ht : t < 218) (ha : a < 218) (hb : b < 218) (hta : t ≠ a) (htb : t ≠ b) (hx : MN h a x) (hy : MN h b y) (gx : gc 16 x.natAbs ≤ 98) (gy : gc 16 y.natAbs ≤ 98) (K : ∀ h2, FR [t] h h2 → MN h2 t (if less then x - y else x + y) → Φ h2) : K_Mo_sum [.ref 0, .int (nI t), .int (nI a), .int (nI b), .int (if less then 1 else 0)] h Φ := by
  refine I_Mo_sum (fun X C Rm Q => g_Mo_sum_0 C Rm Q ⟨vr ha, vr hb, ?_⟩)
  rw [nI_cl (by omega), nI_cl (by omega), hx.sg, hy.sg, hy.u.len]
  -- the second one with its sign
  generalize hw : (if less then -y else y) = w
  have hwa : w.natAbs = y.natAbs := by rw [← hw]; split <;> simp
  have hres : (if less then x - y else x + y) = x + w := by
    rw [← hw]
    cases less
    · rfl
    · exact Int.sub_eq_add_neg
  rw [hres] at K
  have hyu : MU h b w.natAbs := by rw [hwa]; exact hy.u
  have c33 : ∀ tt : Int32, tt = (if w < 0 then 1 else 0) → Wg X 0 0 h [(0, .ref 0), (1, .int (nI t)), (2, .int (nI a)), (3, .int (nI b)), (4, .int (if less then 1 else 0)), (5, .int (if x < 0 then 1 else 0))] [.int tt] 33 := by
    intro tt htt
    have seq : ((if x < 0 then 1 else 0 : Int32) = tt) ↔ (x < 0 ↔ w < 0) := by
      rw [htt]
      by_cases q1 : x < 0 <;> by_cases q2 : w < 0 <;> simp [q1, q2]
    -- the sign of a sum of sizes
    have fin : ∀ (h2 : HP) (m : Nat) (s : Int32), FR [t] h h2 → MU h2 t m → m = (x + w).natAbs → (m ≠ 0 → (if s = 0 then 0 else 1) = (if x + w < 0 then 1 else 0 : Int32)) →
        vp_in (nI t) 218 ∧ ((h2 9 (nI t).toNatClampNeg ≤ 0 → vp_in (nI t) 218 ∧ Φ (up h2 10 (nI t).toNatClampNeg (vp_nar .boolean 0))) ∧ (¬ h2 9 (nI t).toNatClampNeg ≤ 0 → (s = 0 → vp_in (nI t) 218 ∧ Φ (up h2 10 (nI t).toNatClampNeg (vp_nar .boolean 0))) ∧ (¬ s = 0 → vp_in (nI t) 218 ∧ Φ (up h2 10 (nI t).toNatClampNeg (vp_nar .boolean 1))))) := by
      intro h2 m s f k hm hs
      have := k.le
      rw [nI_cl (by omega), k.len, nI_le0 (by omega), narb0, narb1, gc16_0]
      refine ⟨vr ht, fun q => ⟨vr ht, K _ (f.up10 (by simp)) (k.put hm.symm (by rw [if_neg (by omega)]))⟩, fun q => ⟨fun q2 => ⟨vr ht, K _ (f.up10 (by simp)) (k.put hm.symm ?_)⟩, fun q2 => ⟨vr ht, K _ (f.up10 (by simp)) (k.put hm.symm ?_)⟩⟩⟩
      · have := hs q
        rw [if_pos q2] at this
        exact this
      · have := hs q
        rw [if_neg q2] at this
        exact this
    have sgn : ∀ z : Int, (if (if z < 0 then 1 else 0 : Int32) = 0 then 0 else 1) = (if z < 0 then 1 else 0 : Int32) := fun z => by
      by_cases q : z < 0 <;> simp [q]
    have c51 : (x < 0 ↔ w < 0) ∨ w = 0 → Wg X 0 0 h [(0, .ref 0), (1, .int (nI t)), (2, .int (nI a)), (3, .int (nI b)), (4, .int (if less then 1 else 0)), (5, .int (if x < 0 then 1 else 0)), (6, .int tt)] [] 51 := by
      intro q
      refine g_Mo_sum_51 C Rm Q (s_madd ht ha hb hx.u hyu gx (by rw [hwa]; exact gy) (fun h2 f2 k2 _ => ?_))
      refine fin h2 _ _ f2 k2 (by omega) (fun q3 => ?_)
      rw [sgn]
      by_cases q4 : x < 0
      · rw [if_pos q4, if_pos (by omega)]
      · rw [if_neg q4, if_neg (by omega)]
    refine g_Mo_sum_33 C Rm Q ⟨fun q => c51 (Or.inl (seq.mp q)), fun q => ⟨vr hb, ?_⟩⟩
    rw [seq] at q
    rw [nI_cl (by omega), nI_cl (show a < 2147483648 by omega), hyu.len, hx.u.len]
    have l1 := hyu.le
    have l2 := hx.u.le
    rw [nI_e0 (by omega), nI_e0 (by omega), gc16_0, gc16_0]
    refine ⟨fun q2 => ⟨vr ha, fun q3 => ?_, fun q3 => ?_⟩, fun q2 => c51 (Or.inr (by omega))⟩
    · refine s_mcmp ha hb hx.u hyu ⟨fun q4 => ?_, fun q4 => ?_⟩
      · have hlt : x.natAbs < w.natAbs := by
          unfold ordN at q4
          by_cases z : x.natAbs < w.natAbs
          · exact z
          · rw [if_neg z] at q4
            split at q4 <;> exact absurd q4 (by decide)
        refine s_msub ht hb ha hyu hx.u (by omega) (fun h2 f2 k2 _ => ⟨vr ht, ?_⟩)
        rw [nI_cl (by omega), htt, narb (sg_01 w)]
        refine K _ (f2.up10 (by simp)) (k2.put (by omega) ?_)
        by_cases q5 : w < 0
        · rw [if_pos q5, if_pos (by omega)]
        · rw [if_neg q5, if_neg (by omega)]
      · have hle : w.natAbs ≤ x.natAbs := by
          refine Nat.le_of_not_lt (fun z => q4 ?_)
          unfold ordN
          rw [if_pos z]
          decide
        refine s_msub ht ha hb hx.u hyu hle (fun h2 f2 k2 _ => fin h2 _ _ f2 k2 (by omega) (fun q5 => ?_))
        rw [sgn]
        by_cases q6 : x < 0
        · rw [if_pos q6, if_pos (by omega)]
        · rw [if_neg q6, if_neg (by omega)]
    · refine s_madd ht ha hb hx.u hyu gx (by rw [hwa]; exact gy) (fun h2 f2 k2 _ => fin h2 _ _ f2 k2 (by omega) (fun q5 => ?_))
      rw [htt, sgn]
      by_cases q6 : w < 0
      · rw [if_pos q6, if_pos (by omega)]
      · rw [if_neg q6, if_neg (by omega)]
  have l1 := hy.u.le
  rw [nI_le0 (by omega), gc16_0]
  refine ⟨fun q => c33 0 ?_, fun q => ⟨vr hb, fun q2 => c33 0 ?_, fun q2 => c33 1 ?_⟩⟩
  · rw [if_neg (by omega)]
  · rw [← hw]
    cases less
    · have : ¬ y < 0 := fun z => by rw [if_pos z] at q2; exact absurd q2 (by decide)
      exact (if_neg this).symm
    · have : y < 0 := by
        refine Int.not_le.mp (fun z => ?_)
        rw [if_neg (by omega)] at q2
        exact absurd q2 (by decide)
      exact (if_neg (show ¬ -y < 0 by omega)).symm
  · rw [← hw]
    cases less
    · have : y < 0 := by
        refine Int.not_le.mp (fun z => q2 ?_)
        rw [if_neg (by omega)]
        rfl
      exact (if_pos this).symm
    · have : ¬ y < 0 := fun z => q2 (by rw [if_pos z]; rfl)
      exact (if_pos (show -y < 0 by omega)).symm
