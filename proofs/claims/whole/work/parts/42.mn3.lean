/-! The model's rows: long numbers, products, bits, division by a limb, halves. -/
theorem lshr_lo (v : Int64) {k : Nat} (hk : k < 4) : uN (lshr v (nI (16 * k))) % 65536 = uN v / 2 ^ (16 * k) % 65536 := by
  unfold lshr
  have e : (v >>> ((nI (16 * k)).toInt64 &&& 63)).toInt = v.toInt >>> (16 * k) := by
    have hs : ((nI (16 * k)).toInt64 &&& 63).toBitVec.smod 64 = BitVec.ofNat 64 (16 * k) := by
      rw [wb_c (16 * k) (by omega)]
      exact wb_sm _ (by omega)
    show (v.toBitVec.sshiftRight (((nI (16 * k)).toInt64 &&& 63).toBitVec.smod 64).toNat).toInt = _
    rw [hs, BitVec.toInt_sshiftRight, BitVec.toNat_ofNat, Nat.mod_eq_of_lt (show 16 * k < 2 ^ 64 by omega)]
    rfl
  have u1 := uN_int (v >>> ((nI (16 * k)).toInt64 &&& 63))
  have u2 := uN_int v
  have l1 := uN_lt (v >>> ((nI (16 * k)).toInt64 &&& 63))
  have l2 := uN_lt v
  rw [e, Int.shiftRight_eq_div_pow] at u1
  generalize uN (v >>> ((nI (16 * k)).toInt64 &&& 63)) = p at *
  generalize uN v = q at *
  rw [u2] at u1
  rcases (show k = 0 ∨ k = 1 ∨ k = 2 ∨ k = 3 by omega) with rfl | rfl | rfl | rfl
  · have : ((2 ^ (16 * 0) : Nat) : Int) = 1 := rfl
    rw [this] at u1
    show p % 65536 = q / 1 % 65536
    split at u1 <;> split at u1 <;> omega
  · have : ((2 ^ (16 * 1) : Nat) : Int) = 65536 := rfl
    rw [this] at u1
    show p % 65536 = q / 65536 % 65536
    split at u1 <;> split at u1 <;> omega
  · have : ((2 ^ (16 * 2) : Nat) : Int) = 4294967296 := rfl
    rw [this] at u1
    show p % 65536 = q / 4294967296 % 65536
    split at u1 <;> split at u1 <;> omega
  · have : ((2 ^ (16 * 3) : Nat) : Int) = 281474976710656 := rfl
    rw [this] at u1
    show p % 65536 = q / 281474976710656 % 65536
    split at u1 <;> split at u1 <;> omega
theorem limb_of (v : Int64) {k : Nat} (hk : k < 4) : Int64.toInt32 (lshr v (nI (16 * k)) &&& 65535) = nI (uN v / 2 ^ (16 * k) % 65536) := by
  apply nI_is
  rw [un_l2i]
  have e : uN (lshr v (nI (16 * k)) &&& 65535) = uN (lshr v (nI (16 * k))) % 65536 := by
    obtain ⟨n, hn, hx⟩ := wb_of (lshr v (nI (16 * k)))
    rw [hx]
    have := wb_mask (n := n) (k := 16) hn (by omega)
    rw [show (65535 : Int64) = lN (2 ^ 16 - 1) from rfl, this, uN_lN (by omega), uN_lN hn]
  rw [e, lshr_lo v hk]
  omega
theorem xor16 {x : Nat} (h : x < 65536) : x ^^^ 65535 = 65535 - x := by
  have e : (BitVec.ofNat 16 x ^^^ BitVec.allOnes 16).toNat = x ^^^ 65535 := by
    rw [BitVec.toNat_xor, BitVec.toNat_ofNat, Nat.mod_eq_of_lt h, BitVec.toNat_allOnes]
  rw [← e, BitVec.xor_allOnes, BitVec.toNat_not, BitVec.toNat_ofNat, Nat.mod_eq_of_lt h]
theorem s_msetLong {h : HP} {r : Nat} {v : Int64} {Φ : HP → Prop} (hr : r < 218) (K : ∀ h2, FR [r] h h2 → MN h2 r v.toInt → Φ h2) : K_Mo_setLong [.ref 0, .int (nI r), .long v] h Φ := by
  refine I_Mo_setLong (fun X C Rm Q => ?_)
  have hu := uN_int v
  have hul := uN_lt v
  have dsum : ∀ m : Nat, m < 18446744073709551616 → ds 65536 (fun k => m / 2 ^ (16 * k) % 65536) 4 = m := by
    intro m hm
    rw [ds_succ, ds_succ, ds_succ, ds_succ, ds_0]
    omega
  -- the end
  have fin : ∀ (h0 : HP) (m : Nat), FR [r] h h0 → h0 9 r = nI 4 → (∀ j, j < 4 → lb h0 r j = m / 2 ^ (16 * j) % 65536) → m < 18446744073709551616 → v.toInt.natAbs = m → h0 10 r = (if v.toInt < 0 then 1 else 0) → K_Mo_trim [.ref 0, .int (nI r)] h0 Φ := by
    intro h0 m f e9 hl hm hv e10
    refine s_mtrim hr (by omega) e9 (fun j hj => by rw [hl j hj]; omega) (fun h2 f2 e8 k2 s2 => K h2 (f.trans f2) ?_)
    have em : mv h0 r 4 = m := by
      rw [← dsum m hm]
      exact ds_cong (fun j hj => hl j hj)
    rw [em] at k2 s2
    exact k2.sgn s2 hv (fun _ => e10)
  have c75 : ∀ (k i c : Nat) (h0 : HP), k + i = 4 → FR [r] h h0 → h0 9 r = nI 4 → h0 10 r = 1 → c ≤ 1 → v.toInt < 0 → (∀ j, i ≤ j → j < 4 → lb h0 r j = uN v / 2 ^ (16 * j) % 65536) → (∀ j, j < i → lb h0 r j < 65536) → mv h0 r i + ds 65536 (fun k => uN v / 2 ^ (16 * k) % 65536) i + c * 65536 ^ i = 65536 ^ i →
      Wg X 0 0 h0 [(0, .ref 0), (1, .int (nI r)), (2, .long v), (4, .int (nI c)), (5, .int (nI i))] [] 75 := by
    intro k
    induction k with
    | zero =>
      intro i c h0 hi f e9 e10 hc hneg hl hd hv
      have hi4 : i = 4 := by omega
      subst hi4
      refine g_Mo_setLong_75 C Rm Q ⟨fun _ => ?_, fun q => absurd (by decide) q⟩
      rw [dsum _ hul] at hv
      have hm : mv h0 r 4 = 18446744073709551616 - uN v := by
        have hlt := mv_lt hd
        have : uN v ≠ 0 := by
          intro q
          rw [q] at hu
          simp at hu
          omega
        rcases (show c = 0 ∨ c = 1 by omega) with rfl | rfl <;> omega
      refine fin h0 (18446744073709551616 - uN v) f e9 (fun j hj => ?_) ?_ ?_ (by rw [if_pos hneg, e10])
      · have e1 := ds_digit (B := 65536) (d := lb h0 r) (n := 4) (i := j) (fun k hk => hd k hk) hj
        have e2 : ds 65536 (lb h0 r) 4 = 18446744073709551616 - uN v := hm
        rw [e2] at e1
        rw [← e1]
        congr 2
        rw [Nat.pow_mul]
      · have : uN v ≠ 0 := by
          intro q
          rw [q] at hu
          simp at hu
          omega
        omega
      · split at hu <;> omega
    | succ k ih =>
      intro i c h0 hi f e9 e10 hc hneg hl hd hv
      refine g_Mo_setLong_75 C Rm Q ⟨fun q => ?_, fun _ => ?_⟩
      · rw [show (4 : Int32) = nI 4 from rfl, nI_leI (by omega) (by omega)] at q
        omega
      · have e1 := hl i (Nat.le_refl _) (by omega)
        have hx : uN v / 2 ^ (16 * i) % 65536 < 65536 := Nat.mod_lt _ (by decide)
        generalize hxx : uN v / 2 ^ (16 * i) % 65536 = x at *
        rw [ixl]
        refine ⟨vl hr (by omega), vl hr (by omega), ?_⟩
        rw [nI_cl (by omega), lb_is h0, e1, show (65535 : Int32) = nI 65535 from rfl, fb_xorI, xor16 hx, nI_add, show nI 65535 = (65535 : Int32) from rfl, mod16, shr16 (by omega), nI_1]
        refine ih (i + 1) ((65535 - x + c) / 65536) _ (by omega) (f.up8 (by simp) (by omega)) (by rw [up_ne (by omega)]; exact e9) (by rw [up_ne (by omega)]; exact e10) (by omega) hneg (fun j h1 h2 => by rw [lb_ne (by omega)]; exact hl j (by omega) h2) (lb_lt_up hd (by omega)) ?_
        rw [mv_up _ _ _ (by omega), ds_succ, hxx, Nat.pow_succ]
        have e3 : (65535 - x + c) % 65536 + x + (65535 - x + c) / 65536 * 65536 = 65535 + c := by omega
        have e4 : ((65535 - x + c) % 65536 + x + (65535 - x + c) / 65536 * 65536) * 65536 ^ i = (65535 + c) * 65536 ^ i := by rw [e3]
        rw [Nat.add_mul, Nat.add_mul, Nat.add_mul, Nat.mul_assoc, Nat.mul_comm 65536] at e4
        omega
  have c20 : ∀ (k i : Nat) (h0 : HP), k + i = 4 → FR [r] h h0 → h0 10 r = (if v.toInt < 0 then 1 else 0) → (∀ j, j < i → lb h0 r j = uN v / 2 ^ (16 * j) % 65536) → Wg X 0 0 h0 [(0, .ref 0), (1, .int (nI r)), (2, .long v), (4, .int (nI i))] [] 20 := by
    intro k
    induction k with
    | zero =>
      intro i h0 hi f e10 hl
      have hi4 : i = 4 := by omega
      subst hi4
      refine g_Mo_setLong_20 C Rm Q ⟨fun _ => ⟨vr hr, fun q => ?_, fun q => ?_⟩, fun q => absurd (by decide) q⟩
      · rw [lg_cmp_ge, Int64.le_iff_toInt_le] at q
        have q : (0 : Int) ≤ v.toInt := q
        rw [nI_cl (by omega)]
        refine fin _ (uN v) (f.up9 (by simp)) (by rw [up_at]; rfl) (fun j hj => ?_) hul ?_ (by rw [up_ne (by omega)]; exact e10)
        · unfold lb
          rw [up_ne (by omega)]
          exact hl j hj
        · split at hu <;> omega
      · rw [lg_cmp_ge, Int64.le_iff_toInt_le] at q
        have q : ¬ (0 : Int) ≤ v.toInt := q
        rw [nI_cl (by omega)]
        refine c75 4 0 1 _ rfl (f.up9 (by simp)) (by rw [up_at]; rfl) (by rw [up_ne (by omega), e10, if_pos (by omega)]) (by omega) (by omega) (fun j _ hj => ?_) (fun j hj => absurd hj (by omega)) (by rw [mv_0, ds_0])
        unfold lb
        rw [up_ne (by omega)]
        exact hl j hj
    | succ k ih =>
      intro i h0 hi f e10 hl
      refine g_Mo_setLong_20 C Rm Q ⟨fun q => ?_, fun _ => ?_⟩
      · rw [show (4 : Int32) = nI 4 from rfl, nI_leI (by omega) (by omega)] at q
        omega
      · rw [ixl]
        refine ⟨vl hr (by omega), ?_⟩
        rw [nI_cl (by omega), show (16 : Int32) = nI 16 from rfl, pk_mul, limb_of v (by omega), nI_1]
        refine ih (i + 1) _ (by omega) (f.up8 (by simp) (by omega)) (by rw [up_ne (by omega)]; exact e10) (fun j hj => ?_)
        by_cases q : j = i
        · subst q
          rw [lb_at, un_nIl (by omega)]
        · rw [lb_ne q]
          exact hl j (by omega)
  refine g_Mo_setLong_0 C Rm Q ⟨fun q => ⟨vr hr, ?_⟩, fun q => ⟨vr hr, ?_⟩⟩
  · rw [lg_cmp_ge, Int64.le_iff_toInt_le] at q
    have q : (0 : Int) ≤ v.toInt := q
    rw [nI_cl (by omega)]
    exact c20 4 0 _ rfl ((FR.rf _ _).up10 (by simp)) (by rw [up_at, if_neg (by omega)]; rfl) (fun j hj => absurd hj (by omega))
  · rw [lg_cmp_ge, Int64.le_iff_toInt_le] at q
    have q : ¬ (0 : Int) ≤ v.toInt := q
    rw [nI_cl (by omega)]
    exact c20 4 0 _ rfl ((FR.rf _ _).up10 (by simp)) (by rw [up_at, if_pos (by omega)]; rfl) (fun j hj => absurd hj (by omega))
theorem lshr16 {n : Nat} (h : n < 4611686018427387904) : lshr (lN n) 16 = lN (n / 65536) := by
  unfold lshr
  exact pf_shr (d := 16) (by decide) h
theorem and16L {n : Nat} (h : n < 18446744073709551616) : lN n &&& 65535 = lN (n % 65536) := wb_mask (k := 16) h (by omega)
theorem mul16 {x y : Nat} (hx : x < 65536) (hy : y < 65536) : x * y ≤ 4294836225 := Nat.le_trans (Nat.mul_le_mul (show x ≤ 65535 by omega) (show y ≤ 65535 by omega)) (by decide)
set_option maxHeartbeats 4000000 in
theorem s_mprod {h : HP} {t a b : Nat} {x y : Int} {Φ : HP → Prop} (ht : t < 218) (ha : a < 218) (hb : b < 218) (hta : t ≠ a) (htb : t ≠ b) (hx : MN h a x) (hy : MN h b y) (hsum : gc 16 x.natAbs + gc 16 y.natAbs ≤ 98) (K : ∀ h2, FR [t] h h2 → MN h2 t (x * y) → Φ h2) : K_Mo_product [.ref 0, .int (nI t), .int (nI a), .int (nI b)] h Φ := by
  refine I_Mo_product (fun X C Rm Q => g_Mo_product_0 C Rm Q ⟨vr ha, vr hb, ?_⟩)
  have xu := hx.u
  have yu := hy.u
  rw [nI_cl (by omega), nI_cl (by omega), xu.len, yu.len, nI_add]
  have hal := xu.len
  have hbl := yu.len
  have hav := xu.val
  have hbv := yu.val
  have hdal : ∀ k, k < gc 16 x.natAbs → lb h a k < 65536 := fun k hk => xu.lt hk
  have hdbl : ∀ k, k < gc 16 y.natAbs → lb h b k < 65536 := fun k hk => yu.lt hk
  generalize gc 16 x.natAbs = la at *
  generalize gc 16 y.natAbs = lb' at *
  generalize hda : lb h a = da at *
  generalize hdb : lb h b = db at *
  have hav : ds 65536 da la = x.natAbs := by rw [← hda]; exact hav
  have hbv : ds 65536 db lb' = y.natAbs := by rw [← hdb]; exact hbv
  have ra : ∀ h0, FR [t] h h0 → ∀ i, i < 100 → lb h0 a i = da i := fun h0 f i hi => by
    rw [← hda]; unfold lb; rw [(f.2 a (by simpa using Ne.symm hta)).2.2 i hi]
  have rb : ∀ h0, FR [t] h h0 → ∀ i, i < 100 → lb h0 b i = db i := fun h0 f i hi => by
    rw [← hdb]; unfold lb; rw [(f.2 b (by simpa using Ne.symm htb)).2.2 i hi]
  have la9 : ∀ h0, FR [t] h h0 → h0 9 a = nI la := fun h0 f => by rw [(f.2 a (by simpa using Ne.symm hta)).1, hal]
  have lb9 : ∀ h0, FR [t] h h0 → h0 9 b = nI lb' := fun h0 f => by rw [(f.2 b (by simpa using Ne.symm htb)).1, hbl]
  -- one row of the product
  have inner : ∀ (i : Nat) (h1 : HP), i < la → FR [t] h h1 → (∀ k, i + lb' ≤ k → k < la + lb' → lb h1 t k = 0) →
      (∀ h2, FR [t] h h2 → mv h2 t (i + 1 + lb') = mv h1 t (i + lb') + da i * 65536 ^ i * ds 65536 db lb' → (∀ k, i + 1 + lb' ≤ k → k < la + lb' → lb h2 t k = 0) → (∀ k, k < la + lb' → lb h2 t k < 65536) → Wg X 0 0 h2 [(0, .ref 0), (1, .int (nI t)), (2, .int (nI a)), (3, .int (nI b)), (4, .int (nI (la + lb'))), (5, .int (nI (i + 1)))] [] 47) →
      ∀ (r j c : Nat) (h0 : HP), r + j = lb' → FR [t] h h0 → c < 65536 → mv h0 t (i + j) + c * 65536 ^ (i + j) = mv h1 t (i + j) + da i * 65536 ^ i * ds 65536 db j → (∀ k, i + j ≤ k → k < la + lb' → lb h0 t k = lb h1 t k) → (∀ k, k < la + lb' → lb h0 t k < 65536) →
      Wg X 0 0 h0 [(0, .ref 0), (1, .int (nI t)), (2, .int (nI a)), (3, .int (nI b)), (4, .int (nI (la + lb'))), (5, .int (nI i)), (6, .long (lN c)), (8, .int (nI j))] [] 64 := by
    intro i h1 hi f1 hz1 kk r
    induction r with
    | zero =>
      intro j c h0 hr f hc hv hk hd
      have hjl : j = lb' := by omega
      subst hjl
      have h2ne := hdal i hi
      -- the carry, if one is left
      refine g_Mo_product_64 C Rm Q ⟨vr hb, fun q => ?_, fun q => ⟨fun q2 => ?_, fun q2 => ?_⟩⟩
      · rw [nI_cl (by omega), lb9 h0 f, nI_ltI (by omega) (by omega)] at q
        omega
      · have hc0 : c = 0 := by
          rw [lg_cmp_le] at q2
          have q2 : lN c ≤ lN 0 := q2
          rw [llN (by omega) (by omega)] at q2
          omega
        subst hc0
        rw [nI_1]
        refine kk h0 f ?_ (fun k k1 k2 => by rw [hk k (by omega) k2]; exact hz1 k (by omega) k2) hd
        rw [show i + 1 + j = i + j + 1 by omega, mv_succ, hk (i + j) (Nat.le_refl _) (by omega), hz1 (i + j) (Nat.le_refl _) (by omega)]
        omega
      · have hc1 : c ≠ 0 := by
          intro q3
          rw [q3] at q2
          exact q2 (by decide)
        refine g_Mo_product_82 C Rm Q ?_
        have eix : (100 : Int32) * nI t + nI i + nI j = nI (100 * t + (i + j)) := by rw [ixl, nI_add, Nat.add_assoc]
        rw [ixl, eix]
        refine ⟨vl ha (by omega), s_limbOf hb (lb9 h0 f) (by omega) (by omega) ⟨vl ht (by omega), vl ht (by omega), ?_⟩⟩
        have e0 : lb h0 t (i + j) = 0 := by rw [hk (i + j) (Nat.le_refl _) (by omega)]; exact hz1 _ (Nat.le_refl _) (by omega)
        have bda := hdal i hi
        rw [if_neg (by omega), nI_cl (by omega), nI_cl (by omega), lb_is h0, lb_is h0, ra h0 f i (by omega), e0, nI_l (by omega), nI_l (by omega), lN_mul, lN_add, lN_add, Nat.mul_zero, Nat.zero_add, and16L (by omega), lN_i, lshr16 (by omega), nI_1, Nat.mod_eq_of_lt hc, Nat.div_eq_of_lt hc]
        -- now the carry is 0
        refine g_Mo_product_64 C Rm Q ⟨vr hb, fun q3 => ?_, fun _ => ⟨fun _ => ?_, fun q3 => absurd ?_ q3⟩⟩
        · have f2 : FR [t] h (up h0 8 (100 * t + (i + j)) (nI c)) := f.up8 (by simp) (by omega)
          rw [nI_cl (by omega), lb9 _ f2, nI_ltI (by omega) (by omega)] at q3
          omega
        · rw [nI_1]
          refine kk _ (f.up8 (by simp) (by omega)) ?_ (fun k k1 k2 => ?_) (fun k hk2 => ?_)
          · rw [show i + 1 + j = i + j + 1 by omega, mv_up _ _ _ hc]
            exact hv
          · rw [lb_ne (by omega), hk k (by omega) k2]
            exact hz1 k (by omega) k2
          · by_cases q4 : k = i + j
            · subst q4
              rw [lb_at, un_nIl (by omega)]
              exact hc
            · rw [lb_ne q4]
              exact hd k hk2
        · decide
    | succ r ih =>
      intro j c h0 hr f hc hv hk hd
      refine g_Mo_product_64 C Rm Q ⟨vr hb, fun _ => ?_, fun q => absurd ?_ q⟩
      · refine g_Mo_product_82 C Rm Q ?_
        have eix : (100 : Int32) * nI t + nI i + nI j = nI (100 * t + (i + j)) := by rw [ixl, nI_add, Nat.add_assoc]
        rw [ixl, eix]
        refine ⟨vl ha (by omega), s_limbOf hb (lb9 h0 f) (by omega) (by omega) ⟨vl ht (by omega), vl ht (by omega), ?_⟩⟩
        have b1 := hdal i hi
        have b2 := hdbl j (by omega)
        have b3 := hd (i + j) (by omega)
        have b4 := mul16 b1 b2
        have e5 : lb h0 t (i + j) = lb h1 t (i + j) := hk (i + j) (Nat.le_refl _) (by omega)
        rw [if_pos (by omega), nI_cl (by omega), nI_cl (by omega), lb_is h0 a, lb_is h0 t, ra h0 f i (by omega), rb h0 f j (by omega), nI_l (by omega), nI_l (by omega), nI_l (by omega), lN_mul, lN_add, lN_add]
        generalize hs : da i * db j + lb h0 t (i + j) + c = s at *
        rw [and16L (by omega), lN_i, lshr16 (by omega), nI_1]
        have hs2 : s / 65536 < 65536 := by omega
        refine ih (j + 1) (s / 65536) _ (by omega) (f.up8 (by simp) (by omega)) hs2 ?_ (fun k k1 k2 => by rw [lb_ne (by omega)]; exact hk k (by omega) k2) (fun k hk2 => ?_)
        · rw [show i + (j + 1) = i + j + 1 from rfl, mv_up _ _ _ (Nat.mod_lt _ (by decide)), mv_succ, ds_succ, Nat.pow_succ]
          have e3 := carry_step (P := 65536 ^ (i + j)) (show s = s % 65536 + s / 65536 * 65536 by omega)
          have e6 : s * 65536 ^ (i + j) = da i * db j * 65536 ^ (i + j) + lb h1 t (i + j) * 65536 ^ (i + j) + c * 65536 ^ (i + j) := by rw [← hs, e5, Nat.add_mul, Nat.add_mul]
          have e4 : da i * 65536 ^ i * (ds 65536 db j + db j * 65536 ^ j) = da i * 65536 ^ i * ds 65536 db j + da i * db j * 65536 ^ (i + j) := by
            rw [Nat.mul_add, Nat.pow_add]
            congr 1
            rw [Nat.mul_assoc, Nat.mul_assoc, Nat.mul_left_comm (65536 ^ i)]
          rw [e4]
          omega
        · by_cases q4 : k = i + j
          · subst q4
            rw [lb_at, un_nIl (by omega)]
            omega
          · rw [lb_ne q4]
            exact hd k hk2
      · rw [nI_cl (by omega), lb9 h0 f, nI_ltI (by omega) (by omega)]
        omega
  have outer : ∀ (r i : Nat) (h0 : HP), r + i = la → FR [t] h h0 → mv h0 t (i + lb') = ds 65536 da i * ds 65536 db lb' → (∀ k, i + lb' ≤ k → k < la + lb' → lb h0 t k = 0) → (∀ k, k < la + lb' → lb h0 t k < 65536) →
      Wg X 0 0 h0 [(0, .ref 0), (1, .int (nI t)), (2, .int (nI a)), (3, .int (nI b)), (4, .int (nI (la + lb'))), (5, .int (nI i))] [] 47 := by
    intro r
    induction r with
    | zero =>
      intro i h0 hr f hv hz hd
      have hil : i = la := by omega
      subst hil
      have e10a : h0 10 a = (if x < 0 then 1 else 0) := by rw [(f.2 a (by simpa using Ne.symm hta)).2.1, hx.sg]
      have e10b : h0 10 b = (if y < 0 then 1 else 0) := by rw [(f.2 b (by simpa using Ne.symm htb)).2.1, hy.sg]
      rw [hav, hbv, ← Int.natAbs_mul] at hv
      have hs : (if x < 0 then 1 else 0 : Int32) = (if y < 0 then 1 else 0 : Int32) ↔ (x < 0 ↔ y < 0) := by
        by_cases q1 : x < 0 <;> by_cases q2 : y < 0 <;> simp [q1, q2]
      have fin : ∀ s : Int32, (x * y ≠ 0 → s = (if x * y < 0 then 1 else 0)) → K_Mo_trim [.ref 0, .int (nI t)] (up (up h0 9 t (nI (i + lb'))) 10 t s) Φ := by
        intro s hs1
        refine s_mtrim (n := i + lb') ht (by omega) (by rw [up_ne (by omega), up_at]) (fun j hj => by unfold lb; rw [up_ne (by omega), up_ne (by omega)]; exact hd j hj) (fun h2 f2 e8 k2 s2 => K h2 (((f.up9 (by simp)).up10 (by simp)).trans f2) ?_)
        have em : mv (up (up h0 9 t (nI (i + lb'))) 10 t s) t (i + lb') = (x * y).natAbs := by
          rw [← hv]
          unfold mv lb
          rw [up_ne (by omega), up_ne (by omega)]
        rw [em] at k2 s2
        exact k2.sgn s2 rfl (fun q => by rw [up_at]; exact hs1 (by omega))
      refine g_Mo_product_47 C Rm Q ⟨vr ha, fun _ => ⟨vr ht, vr ha, vr hb, ?_⟩, fun q => absurd ?_ q⟩
      · rw [nI_cl (by omega), nI_cl (by omega), nI_cl (by omega), up_ne (by omega), e10a, e10b, hs, narb0, narb1]
        refine ⟨fun q => ⟨vr ht, fin 0 (fun q0 => ?_)⟩, fun q => ⟨vr ht, fin 1 (fun q0 => ?_)⟩⟩
        · have : 0 ≤ x * y := by
            by_cases z : x < 0
            · exact Int.mul_nonneg_of_nonpos_of_nonpos (by omega) (by have := q.mp z; omega)
            · exact Int.mul_nonneg (by omega) (by have : ¬ y < 0 := fun h => z (q.mpr h); omega)
          rw [if_neg (by omega)]
        · have : x * y ≤ 0 := by
            by_cases z : x < 0
            · exact Int.mul_nonpos_of_nonpos_of_nonneg (by omega) (by omega)
            · exact Int.mul_nonpos_of_nonneg_of_nonpos (by omega) (by omega)
          rw [if_pos (by omega)]
      · rw [nI_cl (by omega), la9 h0 f, nI_leI (by omega) (by omega)]
        omega
    | succ r ih =>
      intro i h0 hr f hv hz hd
      refine g_Mo_product_47 C Rm Q ⟨vr ha, fun q => ?_, fun _ => ?_⟩
      · rw [nI_cl (by omega), la9 h0 f, nI_leI (by omega) (by omega)] at q
        omega
      · refine inner i h0 (by omega) f hz (fun h2 f2 e1 e2 e3 => ih (i + 1) h2 (by omega) f2 ?_ e2 e3) lb' 0 0 h0 (by omega) f (by omega) ?_ (fun _ _ _ => rfl) hd
        · rw [e1, hv, ds_succ, Nat.add_mul]
        · rw [ds_0]; simp
  have c18 : ∀ (r i : Nat) (h0 : HP), r + i = la + lb' → FR [t] h h0 → (∀ k, k < i → lb h0 t k = 0) → Wg X 0 0 h0 [(0, .ref 0), (1, .int (nI t)), (2, .int (nI a)), (3, .int (nI b)), (4, .int (nI (la + lb'))), (5, .int (nI i))] [] 18 := by
    intro r
    induction r with
    | zero =>
      intro i h0 hr f hz
      refine g_Mo_product_18 C Rm Q ⟨fun _ => outer la 0 h0 (Nat.add_zero _) f ?_ (fun k _ k2 => hz k (by omega)) (fun k k2 => by rw [hz k (by omega)]; omega), fun q => absurd ?_ q⟩
      · rw [ds_0, Nat.zero_mul]
        exact ds_zero (fun k hk => hz k (by omega))
      · rw [nI_leI (by omega) (by omega)]
        omega
    | succ r ih =>
      intro i h0 hr f hz
      refine g_Mo_product_18 C Rm Q ⟨fun q => by rw [nI_leI (by omega) (by omega)] at q; omega, fun _ => ?_⟩
      rw [ixl]
      refine ⟨vl ht (by omega), ?_⟩
      rw [nI_cl (by omega), nI_1]
      refine ih (i + 1) _ (by omega) (f.up8 (by simp) (by omega)) (fun k hk => ?_)
      by_cases q : k = i
      · subst q
        rw [lb_at]
        rfl
      · rw [lb_ne q]
        exact hz k (by omega)
  exact c18 (la + lb') 0 h (Nat.add_zero _) (FR.rf _ _) (fun k hk => absurd hk (by omega))
