/-! The model's long division, bit by bit. -/
theorem rem16 {i : Nat} (h : i < 100000) : nI i - nI i / 16 * 16 = nI (i % 16) := pk_rem (d := 16) (by omega) (by omega) (by omega)
theorem div16 {i : Nat} (h : i < 100000) : nI i / 16 = nI (i / 16) := pk_div (d := 16) (by omega) (by omega) (by omega)
theorem bit_of {x l i : Nat} (hl : x / 65536 ^ (i / 16) % 65536 = l) : l / 2 ^ (i % 16) % 2 = x / 2 ^ i % 2 := by
  rw [← hl]
  have hs : i % 16 < 16 := Nat.mod_lt _ (by decide)
  have e : (65536 : Nat) = 2 ^ (i % 16) * 2 ^ (16 - i % 16) := by rw [← Nat.pow_add, show i % 16 + (16 - i % 16) = 16 by omega]
  have e2 : x / 65536 ^ (i / 16) / 2 ^ (i % 16) = x / 2 ^ i := by
    rw [p16, Nat.div_div_eq_div_mul, ← Nat.pow_add, show 16 * (i / 16) + i % 16 = i by omega]
  have e3 : (2 : Nat) ∣ 2 ^ (16 - i % 16) := by
    rw [show 16 - i % 16 = 16 - i % 16 - 1 + 1 by omega, Nat.pow_succ]
    exact Nat.dvd_mul_left _ _
  have e4 : x / 65536 ^ (i / 16) % 65536 / 2 ^ (i % 16) = x / 2 ^ i % 2 ^ (16 - i % 16) := by
    rw [← e2]
    generalize x / 65536 ^ (i / 16) = w
    rw [e, Nat.mod_mul_right_div_self]
  rw [e4, Nat.mod_mod_of_dvd _ e3]
theorem half_of (x i : Nat) : x / 2 ^ i = 2 * (x / 2 ^ (i + 1)) + x / 2 ^ i % 2 := by
  rw [Nat.pow_succ, ← Nat.div_div_eq_div_mul]
  omega
/-- a bit set in a row whose lower bits are 0 -/
theorem put_bit {h : HP} {q n i K : Nat} (hd : ∀ j, j < n → lb h q j < 65536) (hi : i / 16 < n) (hv : mv h q n = K * 2 ^ (i + 1)) : ∃ v, v < 65536 ∧ nI (lb h q (i / 16)) ||| ((1 : Int32) <<< (nI (i % 16) &&& (31 : Int32))) = nI v ∧ ∀ g : HP, g 8 = h 8 → mv (up g 8 (100 * q + i / 16) (nI v)) q n = mv h q n + 2 ^ i := by
  have hs : i % 16 < 16 := Nat.mod_lt _ (by decide)
  have hdig := ds_digit (B := 65536) (d := lb h q) (n := n) (i := i / 16) hd hi
  have hv2 : ds 65536 (lb h q) n = K * 2 ^ (i + 1) := hv
  rw [hv2] at hdig
  have e1 : K * 2 ^ (i + 1) / 65536 ^ (i / 16) = K * 2 ^ (i % 16 + 1) := by
    rw [p16, show i + 1 = i % 16 + 1 + 16 * (i / 16) by omega, Nat.pow_add, ← Nat.mul_assoc, Nat.mul_div_cancel _ (Nat.pow_pos (by decide))]
  rw [e1] at hdig
  have e : (65536 : Nat) = 2 ^ (i % 16 + 1) * 2 ^ (16 - (i % 16 + 1)) := by rw [← Nat.pow_add, show i % 16 + 1 + (16 - (i % 16 + 1)) = 16 by omega]
  have e2 : lb h q (i / 16) = 2 ^ (i % 16 + 1) * (K % 2 ^ (16 - (i % 16 + 1))) := by
    rw [← hdig, Nat.mul_comm K]
    conv => lhs; rw [e]
    rw [Nat.mul_mod_mul_left]
  have hsm : 2 ^ (i % 16) < 65536 := Nat.lt_of_lt_of_le (Nat.pow_lt_pow_right (by decide) hs) (by decide)
  have hlt : lb h q (i / 16) + 2 ^ (i % 16) < 65536 := by
    have h1 : K % 2 ^ (16 - (i % 16 + 1)) < 2 ^ (16 - (i % 16 + 1)) := Nat.mod_lt _ (Nat.pow_pos (by decide))
    have h2 := Nat.mul_le_mul_left (2 ^ (i % 16 + 1)) h1
    rw [← e, Nat.mul_succ, ← e2, Nat.pow_succ] at h2
    have : 0 < 2 ^ (i % 16) := Nat.pow_pos (by decide)
    omega
  refine ⟨lb h q (i / 16) + 2 ^ (i % 16), hlt, ?_, ?_⟩
  · have e5 : (1 : Int32) <<< (nI (i % 16) &&& (31 : Int32)) = nI (2 ^ (i % 16)) := by
      have := pk_shlN (n := 1) (nI (i % 16) &&& (31 : Int32)) (i % 16) (s_l _ (by omega)) (by omega)
      rw [Nat.one_mul] at this
      exact this
    rw [e5, e2, fa_or_sum _ (by rw [Nat.pow_succ]; have : 0 < 2 ^ (i % 16) := Nat.pow_pos (by decide); omega)]
  · intro g hg
    obtain ⟨m, hm⟩ := Nat.exists_eq_add_of_lt hi
    have sp : ∀ d : Nat → Nat, ds 65536 d n = ds 65536 d (i / 16) + d (i / 16) * 65536 ^ (i / 16) + 65536 ^ (i / 16 + 1) * ds 65536 (fun k => d (i / 16 + 1 + k)) m := by
      intro d
      rw [hm, show i / 16 + m + 1 = i / 16 + 1 + m by omega, ds_split, ds_succ]
    have lbg : ∀ j, lb g q j = lb h q j := fun j => by unfold lb; rw [hg]
    show ds 65536 (lb (up g 8 (100 * q + i / 16) (nI (lb h q (i / 16) + 2 ^ (i % 16)))) q) n = ds 65536 (lb h q) n + 2 ^ i
    rw [sp, sp, lb_at, un_nIl (by omega), Nat.add_mul]
    rw [ds_cong (d := lb (up g 8 (100 * q + i / 16) (nI (lb h q (i / 16) + 2 ^ (i % 16)))) q) (e := lb h q) (fun k hk => by rw [lb_ne (by omega), lbg])]
    rw [ds_cong (d := fun k => lb (up g 8 (100 * q + i / 16) (nI (lb h q (i / 16) + 2 ^ (i % 16)))) q (i / 16 + 1 + k)) (e := fun k => lb h q (i / 16 + 1 + k)) (fun k hk => by rw [lb_ne (by omega), lbg])]
    have e6 : 2 ^ (i % 16) * 65536 ^ (i / 16) = 2 ^ i := by rw [p16, ← Nat.pow_add, show i % 16 + 16 * (i / 16) = i by omega]
    rw [e6]
    omega
set_option maxHeartbeats 4000000 in
theorem s_mdivide {h : HP} {q a b : Nat} {x : Int} {y : Nat} {Φ : HP → Prop} (hq : q < 218) (ha : a < 218) (hb : b < 218) (hqa : q ≠ a) (hqb : q ≠ b) (hq9 : q ≠ 9) (ha9 : a ≠ 9) (hb9 : b ≠ 9) (hx : MN h a x) (hy : MU h b y) (y0 : y ≠ 0) (gy : gc 16 y ≤ 97)
    (K : ∀ h2, FR [q, 9] h h2 → MU h2 q (x.natAbs / y) → MU h2 9 (x.natAbs % y) → h2 10 q = 0 → h2 10 9 = 0 → Φ h2) : K_Mo_divide [.ref 0, .int (nI q), .int (nI a), .int (nI b)] h Φ := by
  refine I_Mo_divide (fun X C Rm Q => g_Mo_divide_0 C Rm Q ⟨vr hb, fun c => ?_, fun c => ?_⟩)
  · -- bit by bit
    have xu := hx.u
    have gx := xu.le
    rw [show (9 : Int32) = nI 9 from rfl, nI_cl (by omega), nI_cl (by omega), nI_cl (by omega), narb0, up_ne (by omega), up_at_ne ha9, xu.len]
    refine ⟨vr (by omega), vr (by omega), vr ha, vr hq, vr hq, ?_⟩
    generalize hm : x.natAbs = m at *
    have hal := xu.len
    have hy9 : ∀ h0, FR [q, 9] h h0 → MU h0 b y := fun h0 f => hy.fr f (by simp; exact ⟨Ne.symm hqb, hb9⟩)
    have hx9 : ∀ h0, FR [q, 9] h h0 → MU h0 a m := fun h0 f => xu.fr f (by simp; exact ⟨Ne.symm hqa, ha9⟩)
    have hbits : gc 1 m ≤ 1584 := (gc_le (by omega) _ _).mpr (by
      have := (gc_le (b := 16) (by omega) m 99).mp gx
      exact Nat.lt_of_lt_of_le this (Nat.pow_le_pow_right (by decide) (by omega)))
    have hbl : gc 1 m ≤ 16 * gc 16 m := by
      rw [gc_le (by omega), Nat.one_mul]
      exact gc_self (by omega) m
    generalize hn : gc 16 m = n at *
    -- the loop over the bits
    have loop : ∀ (i : Nat) (h0 : HP), i ≤ 16 * n → FR [q, 9] h h0 → h0 9 q = nI n → h0 10 q = 0 → h0 10 9 = 0 → MU h0 9 (m / 2 ^ i % y) → (∀ j, j < n → lb h0 q j < 65536) → mv h0 q n = m / 2 ^ i / y * 2 ^ i →
        Wg X 0 0 h0 [(0, .ref 0), (1, .int (nI q)), (2, .int (nI a)), (3, .int (nI b)), (4, .int (nI i - 1))] [] 122 := by
      intro i
      induction i with
      | zero =>
        intro h0 _ f e9 e10 e109 r9 hd hv
        refine g_Mo_divide_122 C Rm Q ⟨fun _ => ?_, fun z => absurd (by decide) z⟩
        rw [Nat.pow_zero, Nat.div_one, Nat.mul_one] at hv
        rw [Nat.pow_zero, Nat.div_one] at r9
        refine s_mtrim hq gx e9 hd (fun h2 f2 e8 k2 s2 => ?_)
        rw [hv] at k2 s2
        refine K h2 (f.trans (f2.mono (by simp))) k2 (r9.fr f2 (by simp; omega)) ?_ ?_
        · rw [s2, e10]
          split <;> rfl
        · rw [(f2.2 9 (by simp; omega)).2.1, e109]
      | succ i ih =>
        intro h0 hi f e9 e10 e109 r9 hd hv
        have hpos : i / 16 < n := by omega
        rw [nI_pred]
        refine g_Mo_divide_122 C Rm Q ⟨fun z => absurd z (nI_lt0 (by omega)), fun _ => ?_⟩
        have hxa := hx9 h0 f
        have hdig := ds_digit (B := 65536) (d := lb h0 a) (n := n) (i := i / 16) (fun k hk => hxa.lt (by omega)) hpos
        have hval := hxa.val
        rw [hn] at hval
        have hval : ds 65536 (lb h0 a) n = m := hval
        rw [hval] at hdig
        have hbit := bit_of (i := i) hdig
        have hlt : lb h0 a (i / 16) < 65536 := hxa.lt (by omega)
        have hs : i % 16 < 16 := Nat.mod_lt _ (by decide)
        rw [rem16 (by omega), div16 (by omega), ixl]
        refine ⟨vl ha (by omega), ?_⟩
        have hq1 : lb h0 a (i / 16) / 2 ^ (i % 16) ≤ lb h0 a (i / 16) := Nat.div_le_self _ _
        rw [nI_cl (by omega), lb_is h0, pk_shrN (by omega) _ (i % 16) (s_l _ (by omega)), show (1 : Int32) = nI 1 from rfl, show nI (lb h0 a (i / 16) / 2 ^ (i % 16)) &&& nI 1 = nI (lb h0 a (i / 16) / 2 ^ (i % 16) % 2 ^ 1) from pk_andN (by omega) 1 (by decide), Nat.pow_one, hbit]
        have hhalf := half_of m i
        have hc1 : m / 2 ^ i % 2 < 2 := Nat.mod_lt _ (by decide)
        generalize hX' : m / 2 ^ (i + 1) = X' at *
        generalize hXX : m / 2 ^ i = XX at *
        generalize hcc : XX % 2 = cb at *
        have hmod := Nat.mod_lt X' (Nat.pos_of_ne_zero y0)
        have hdm := Nat.div_add_mod X' y
        generalize hR : X' % y = R at *
        have gR : gc 16 R ≤ 97 := Nat.le_trans (gc_mono (by omega) (Nat.le_of_lt hmod)) gy
        -- behind the doubling
        have c248 : ∀ (h1 : HP) (cv v6 : Int32), FR [9] h0 h1 → MU h1 9 (2 * R + cb) → h1 10 9 = 0 → Wg X 0 0 h1 [(0, .ref 0), (1, .int (nI q)), (2, .int (nI a)), (3, .int (nI b)), (4, .int (nI i)), (5, .int cv), (6, .int v6)] [] 248 := by
          intro h1 cv v6 f1 k1 s1
          have f01 : FR [q, 9] h h1 := f.trans (f1.mono (by simp))
          have e9q : h1 9 q = nI n := by rw [(f1.2 q (by simpa using hq9)).1, e9]
          have e10q : h1 10 q = 0 := by rw [(f1.2 q (by simpa using hq9)).2.1, e10]
          have lq : ∀ j, j < 100 → lb h1 q j = lb h0 q j := fun j hj => by unfold lb; rw [(f1.2 q (by simpa using hq9)).2.2 j hj]
          have hv1 : mv h1 q n = X' / y * 2 ^ (i + 1) := by
            rw [← hv]
            exact ds_cong (fun j hj => lq j (by omega))
          refine g_Mo_divide_248 C Rm Q ?_
          have k9 : K_Mo_compareSizes [.ref 0, .int (nI 9), .int (nI b)] h1 (fun r1 h1' => (r1 < 0 → Wg X 0 0 h1' [(0, .ref 0), (1, .int (nI q)), (2, .int (nI a)), (3, .int (nI b)), (4, .int (nI i + (-1)))] [] 122) ∧ (¬ r1 < 0 → K_Mo_subtractSizes [.ref 0, .int (nI 9), .int (nI 9), .int (nI b)] h1' (fun h2 => vp_in ((100 * nI q) + (nI i / 16)) 21800 ∧ (vp_in ((100 * nI q) + (nI i / 16)) 21800 ∧ (Wg X 0 0 (up h2 8 ((100 * nI q) + (nI i / 16)).toNatClampNeg ((h2 8 ((100 * nI q) + (nI i / 16)).toNatClampNeg) ||| (1 <<< ((nI i - nI i / 16 * 16) &&& (31 : Int32))))) [(0, .ref 0), (1, .int (nI q)), (2, .int (nI a)), (3, .int (nI b)), (4, .int (nI i + (-1)))] [] 122))))) := by
            refine s_mcmp (by omega) hb k1 (hy9 h1 f01) ⟨fun z => ?_, fun z => ?_⟩
            · have hlt2 : 2 * R + cb < y := by
                unfold ordN at z
                by_cases w : 2 * R + cb < y
                · exact w
                · rw [if_neg w] at z
                  split at z <;> exact absurd z (by decide)
              have eXX : XX = y * (2 * (X' / y)) + (2 * R + cb) := by rw [Nat.mul_left_comm]; omega
              have e1 : XX % y = 2 * R + cb := by rw [eXX, Nat.mul_add_mod, Nat.mod_eq_of_lt hlt2]
              have e2 : XX / y = 2 * (X' / y) := by rw [eXX, Nat.mul_add_div (by omega), Nat.div_eq_of_lt hlt2, Nat.add_zero]
              rw [sub1]
              refine ih h1 (by omega) f01 e9q e10q s1 (by rw [e1]; exact k1) (fun j hj => by rw [lq j (by omega)]; exact hd j hj) ?_
              rw [hv1, e2, Nat.pow_succ, Nat.mul_comm 2, Nat.mul_assoc, Nat.mul_comm 2]
            · have hge : y ≤ 2 * R + cb := by
                refine Nat.le_of_not_lt (fun w => z ?_)
                unfold ordN
                rw [if_pos w]
                decide
              refine s_msub (by omega) (by omega) hb k1 (hy9 h1 f01) hge (fun h2 f2 k2 s2 => ?_)
              have f02 : FR [q, 9] h h2 := f01.trans (f2.mono (by simp))
              have eXX : XX = y * (2 * (X' / y) + 1) + (2 * R + cb - y) := by rw [Nat.mul_add, Nat.mul_left_comm, Nat.mul_one]; omega
              have e1 : XX % y = 2 * R + cb - y := by rw [eXX, Nat.mul_add_mod, Nat.mod_eq_of_lt (by omega)]
              have e2 : XX / y = 2 * (X' / y) + 1 := by rw [eXX, Nat.mul_add_div (by omega), Nat.div_eq_of_lt (show 2 * R + cb - y < y by omega), Nat.add_zero]
              have lq2 : ∀ j, j < 100 → lb h2 q j = lb h1 q j := fun j hj => by unfold lb; rw [(f2.2 q (by simpa using hq9)).2.2 j hj]
              have hd2 : ∀ j, j < n → lb h2 q j < 65536 := fun j hj => by rw [lq2 j (by omega), lq j (by omega)]; exact hd j hj
              have hv2 : mv h2 q n = X' / y * 2 ^ (i + 1) := by
                rw [← hv1]
                exact ds_cong (fun j hj => lq2 j (by omega))
              obtain ⟨v, hv65, hor, hput⟩ := put_bit hd2 hpos hv2
              rw [rem16 (by omega), div16 (by omega), ixl]
              refine ⟨vl hq (by omega), vl hq (by omega), ?_⟩
              rw [nI_cl (by omega), lb_is h2, hor, sub1]
              refine ih _ (by omega) (f02.up8 (by simp) (by omega)) (by rw [up_ne (by omega), (f2.2 q (by simpa using hq9)).1]; exact e9q) (by rw [up_ne (by omega), (f2.2 q (by simpa using hq9)).2.1]; exact e10q) ?_ ?_ ?_ ?_
              · rw [up_ne (by omega), s2, s1]
                split <;> rfl
              · rw [e1]
                refine k2.cong (by rw [up_ne (by omega)]) (fun j hj => by rw [up_at_ne (by omega)])
              · intro j hj
                by_cases w : j = i / 16
                · subst w
                  rw [lb_at, un_nIl (by omega)]
                  exact hv65
                · rw [lb_ne w]
                  exact hd2 j hj
              · rw [hput h2 rfl, hv2, e2, Nat.pow_succ, Nat.add_mul, Nat.one_mul, Nat.mul_comm 2 (X' / y), Nat.mul_assoc, Nat.mul_comm 2]
          exact k9
        -- the doubling
        have c155 : ∀ (r k c : Nat) (h1 : HP), r + k = gc 16 R → FR [9] h0 h1 → h1 9 9 = nI (gc 16 R) → h1 10 9 = 0 → c < 2 → (∀ j, k ≤ j → j < 100 → h1 8 (900 + j) = h0 8 (900 + j)) → (∀ j, j < k → lb h1 9 j < 65536) → mv h1 9 k + c * 65536 ^ k = 2 * mv h0 9 k + cb →
            Wg X 0 0 h1 [(0, .ref 0), (1, .int (nI q)), (2, .int (nI a)), (3, .int (nI b)), (4, .int (nI i)), (5, .int (nI c)), (6, .int (nI k))] [] 155 := by
          intro r
          induction r with
          | zero =>
            intro k c h1 hk f1 e99 s1 hc hj hd1 hv1
            have hkg : k = gc 16 R := by omega
            have hvR : mv h0 9 (gc 16 R) = R := r9.val
            rw [hkg, hvR] at hv1
            have hlt1 := mv_lt hd1
            rw [hkg] at hlt1
            refine g_Mo_divide_155 C Rm Q ⟨vr (r := 9) (by omega), fun _ => ⟨fun z => ?_, fun z => ?_⟩, fun z => absurd ?_ z⟩
            · rw [nI_le0 (by omega)] at z
              subst z
              rw [Nat.zero_mul, Nat.add_zero] at hv1
              have hg : gc 16 (2 * R + cb) = gc 16 R := by
                refine Nat.le_antisymm ?_ (gc_mono (by omega) (by omega))
                rw [gc_le (by omega), ← p16, ← hv1]
                exact hlt1
              exact c248 h1 _ _ f1 ⟨by rw [hg]; exact e99, by rw [hg]; exact hv1, fun j hj2 => hd1 j (by omega), by omega⟩ s1
            · rw [nI_le0 (by omega)] at z
              have hc1' : c = 1 := by omega
              subst hc1'
              rw [Nat.one_mul] at hv1
              have hg : gc 16 (2 * R + cb) = gc 16 R + 1 := by
                refine Nat.le_antisymm ?_ ?_
                · rw [gc_le (by omega), ← p16, ← hv1, Nat.pow_succ]
                  omega
                · have := (gc_lt (b := 16) (by omega) (2 * R + cb) (gc 16 R)).mpr (by rw [← p16, ← hv1]; omega)
                  omega
              have e9n : (9 : Int32).toNatClampNeg = 9 := rfl
              rw [e9n, e99, show (900 : Int32) = nI 900 from rfl, nI_add, nI_cl (by omega), up_ne (by omega), e99, nI_1]
              refine ⟨vr (r := 9) (by omega), vp_in_nI (by omega) (by omega), vr (r := 9) (by omega), vr (r := 9) (by omega), ?_⟩
              refine c248 _ _ _ ((f1.up8 (r := 9) (by simp) (by omega)).up9 (by simp)) ⟨by rw [up_at, hg], ?_, ?_, by omega⟩ (by rw [up_ne (by omega), up_ne (by omega)]; exact s1)
              · rw [hg]
                have : mv (up (up h1 8 (900 + gc 16 R) (nI 1)) 9 9 (nI (gc 16 R + 1))) 9 (gc 16 R + 1) = mv (up h1 8 (100 * 9 + gc 16 R) (nI 1)) 9 (gc 16 R + 1) := by
                  unfold mv lb
                  rw [up_ne (by omega)]
                rw [this, mv_up _ _ _ (by omega), ← hv1, Nat.one_mul]
              · intro j hj2
                rw [hg] at hj2
                have : lb (up (up h1 8 (900 + gc 16 R) (nI 1)) 9 9 (nI (gc 16 R + 1))) 9 j = lb (up h1 8 (100 * 9 + gc 16 R) (nI 1)) 9 j := by
                  unfold lb
                  rw [up_ne (by omega)]
                rw [this]
                exact lb_lt_up (fun j hj3 => hd1 j (by omega)) (by omega) j hj2
            · have e9n : (9 : Int32).toNatClampNeg = 9 := rfl
              rw [e9n, e99, nI_leI (by omega) (by omega)]
              omega
          | succ r ih2 =>
            intro k c h1 hk f1 e99 s1 hc hj hd1 hv1
            have e9n : (9 : Int32).toNatClampNeg = 9 := rfl
            refine g_Mo_divide_155 C Rm Q ⟨vr (r := 9) (by omega), fun z => ?_, fun _ => ?_⟩
            · rw [e9n, e99, nI_leI (by omega) (by omega)] at z
              omega
            · have hlk : lb h1 9 k = lb h0 9 k := by
                show un (h1 8 (900 + k)) = un (h0 8 (900 + k))
                rw [hj k (Nat.le_refl _) (by omega)]
              have hlk2 : lb h0 9 k < 65536 := r9.lt (by omega)
              have eis : h1 8 (900 + k) = nI (lb h0 9 k) := by rw [← hlk]; exact lb_is h1 9 k
              rw [show (900 : Int32) = nI 900 from rfl, nI_add]
              refine ⟨vp_in_nI (by omega) (by omega), vp_in_nI (by omega) (by omega), ?_⟩
              rw [nI_cl (by omega), eis, pk_shlN _ 1 (by decide) (by omega), show lb h0 9 k * 2 ^ 1 = 2 ^ 1 * lb h0 9 k by omega, fa_or_sum _ (by omega), show 2 ^ 1 * lb h0 9 k + c = 2 * lb h0 9 k + c from rfl, mod16, shr16 (by omega), nI_1]
              refine ih2 (k + 1) ((2 * lb h0 9 k + c) / 65536) _ (by omega) (f1.up8 (r := 9) (by simp) (by omega)) (by rw [up_ne (by omega)]; exact e99) (by rw [up_ne (by omega)]; exact s1) (by omega) (fun j h2 h3 => by rw [up_at_ne (by omega)]; exact hj j (by omega) h3) (lb_lt_up hd1 (Nat.mod_lt _ (by decide))) ?_
              have e1 : mv (up h1 8 (900 + k) (nI ((2 * lb h0 9 k + c) % 65536))) 9 (k + 1) = mv h1 9 k + (2 * lb h0 9 k + c) % 65536 * 65536 ^ k := mv_up h1 9 k (Nat.mod_lt _ (by decide))
              rw [e1, mv_succ h0, Nat.pow_succ]
              have e3 := carry_step (P := 65536 ^ k) (show 2 * lb h0 9 k + c = (2 * lb h0 9 k + c) % 65536 + (2 * lb h0 9 k + c) / 65536 * 65536 by omega)
              rw [Nat.add_mul, Nat.mul_assoc] at e3
              omega
        exact c155 (gc 16 R) 0 cb h0 (Nat.add_zero _) (FR.rf _ _) r9.len e109 hc1 (fun _ _ _ => rfl) (fun j hj => absurd hj (by omega)) (by simp [mv_0])
    -- the row of the quotient emptied
    have c83 : ∀ (r k : Nat) (h0 : HP), r + k = n → FR [q, 9] h h0 → h0 9 q = nI n → h0 10 q = 0 → h0 10 9 = 0 → h0 9 9 = 0 → (∀ j, j < k → lb h0 q j = 0) → Wg X 0 0 h0 [(0, .ref 0), (1, .int (nI q)), (2, .int (nI a)), (3, .int (nI b)), (4, .int (nI k))] [] 83 := by
      intro r
      induction r with
      | zero =>
        intro k h0 hk f e9 e10 e109 e99 hz
        have ha0 := hx9 h0 f
        refine g_Mo_divide_83 C Rm Q ⟨vr ha, fun _ => s_bitsOf ha ha0 ?_, fun z => absurd ?_ z⟩
        · have h0' : m / 2 ^ gc 1 m = 0 := Nat.div_eq_of_lt (by have := gc_self (b := 1) (by omega) m; rwa [Nat.one_mul] at this)
          refine loop (gc 1 m) h0 hbl f e9 e10 e109 ?_ (fun j hj => by rw [hz j (by omega)]; omega) ?_
          · rw [h0', Nat.zero_mod]
            exact ⟨by rw [gc_0]; exact e99, rfl, fun j hj => absurd hj (by rw [gc_0]; omega), by rw [gc_0]; omega⟩
          · rw [h0', Nat.zero_div, Nat.zero_mul]
            exact ds_zero (fun j hj => hz j (by omega))
        · rw [nI_cl (by omega), ha0.len, hn, nI_leI (by omega) (by omega)]
          omega
      | succ r ih =>
        intro k h0 hk f e9 e10 e109 e99 hz
        have ha0 := hx9 h0 f
        refine g_Mo_divide_83 C Rm Q ⟨vr ha, fun z => ?_, fun _ => ?_⟩
        · rw [nI_cl (by omega), ha0.len, hn, nI_leI (by omega) (by omega)] at z
          omega
        · rw [ixl]
          refine ⟨vl hq (by omega), ?_⟩
          rw [nI_cl (by omega), nI_1]
          refine ih (k + 1) _ (by omega) (f.up8 (by simp) (by omega)) (by rw [up_ne (by omega)]; exact e9) (by rw [up_ne (by omega)]; exact e10) (by rw [up_ne (by omega)]; exact e109) (by rw [up_ne (by omega)]; exact e99) (fun j hj => ?_)
          by_cases w : j = k
          · subst w
            rw [lb_at]
            rfl
          · rw [lb_ne w]
            exact hz j (by omega)
    refine c83 n 0 _ (Nat.add_zero _) (((((FR.rf _ _).up9 (by simp)).up10 (by simp)).up9 (by simp)).up10 (by simp)) ?_ ?_ ?_ ?_ (fun j hj => absurd hj (by omega))
    · rw [up_ne (by omega), up_at]
    · rw [up_at]
    · rw [up_at_ne (Ne.symm hq9), up_ne (by omega), up_at]
    · rw [up_ne (by omega), up_at_ne (Ne.symm hq9), up_ne (by omega), up_at]
  · -- by one limb
    rw [nI_cl (by omega), hy.len, show (1 : Int32) = nI 1 from rfl, nI_eq (by omega) (by omega)] at c
    have hy1 : lb h b 0 = y := by
      have := hy.val
      rw [c, mv_succ, mv_0] at this
      simpa using this
    have hyl : y < 65536 := by rw [← hy1]; exact hy.lt (by omega)
    refine s_mcopy hq ha hx (fun h1 f1 w1 => ⟨vr hq, ?_⟩)
    have hb1 := hy.fr f1 (by simpa using Ne.symm hqb)
    have e8 : up h1 10 q 0 8 (100 * b) = nI y := by
      rw [up_ne (by omega)]
      have : h1 8 (100 * b) = nI (lb h1 b 0) := lb_is h1 b 0
      rw [this]
      congr 1
      have h2 := hb1.val
      rw [c, mv_succ, mv_0] at h2
      simpa using h2
    rw [show (100 : Int32) = nI 100 from rfl, pk_mul]
    refine ⟨vl hb (i := 0) (by omega), ?_⟩
    rw [nI_cl (by omega), nI_cl (by omega), narb0, e8]
    have wq : MU (up h1 10 q 0) q x.natAbs := w1.u.cong (by rw [up_ne (by omega)]) (fun j _ => by rw [up_ne (by omega)])
    refine s_mdivSmall hq wq (by omega) hyl (fun h2 f2 k2 s2 => ?_)
    rw [nI_l (by have := Nat.mod_lt x.natAbs (show 0 < y by omega); omega)]
    refine s_msetLong (r := 9) (by omega) (fun h3 f3 w3 => ?_)
    rw [pf_lI (by have := Nat.mod_lt x.natAbs (show 0 < y by omega); omega)] at w3
    refine K h3 (((f1.mono (by simp)).trans (((FR.rf _ _).up10 (by simp)).trans (f2.mono (by simp)))).trans (f3.mono (by simp))) (k2.fr f3 (by simpa using hq9)) ?_ ?_ ?_
    · have := w3.u
      rwa [Int.natAbs_natCast] at this
    · rw [(f3.2 q (by simpa using hq9)).2.1, s2, up_at]
      split <;> rfl
    · rw [w3.sg, if_neg (by omega)]
