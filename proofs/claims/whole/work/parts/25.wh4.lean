theorem hs_hs (h : HP) (k : Nat) (f g : Nat → Int32) : hs (hs h k f) k g = hs h k g := by
  funext j
  by_cases e : j = k
  · subst e; rw [hs_self, hs_self]
  · rw [hs_ne e, hs_ne e, hs_ne e]
theorem hs_id (h : HP) (k : Nat) : hs h k (h k) = h := by
  funext j
  by_cases e : j = k
  · subst e; rw [hs_self]
  · rw [hs_ne e]
theorem s_fill {h : HP} {p n a b : Nat} {v : Int32} {Φ : HP → Prop} (hp : kd p = (10, n)) (hn : n < 2147483648) (hab : a ≤ b) (hb : b ≤ n) (K : Φ (hs h p (fun k => if a ≤ k ∧ k < b then v else h p k))) : K_Ar_fill [.ref p, .int (nI a), .int (nI b), .int v] h Φ := by
  refine I_Ar_fill (n0 := n) (fun X C Rm Q => ?_)
  refine g_Ar_fill_0 C Rm Q hp ?_
  refine I_Ar_rangeCheck (fun X2 C2 R2 Q2 => ?_)
  refine g_Ar_rangeCheck_0 C2 R2 Q2 ⟨fun _ => ⟨fun _ => ⟨fun _ => ?_, fun q => q ((nI_leI (a := b) (b := n) (by omega) (by omega)).mpr hb)⟩, fun q => q (nI_pos' (by omega))⟩, fun q => q ((nI_leI (by omega) (by omega)).mpr hab)⟩
  have loop : ∀ r i : Nat, r + i = b → a ≤ i → Wg X 0 0 (hs h p (fun k => if a ≤ k ∧ k < i then v else h p k)) [(0, .ref p), (1, .int (nI a)), (2, .int (nI b)), (3, .int v), (4, .int (nI i))] [] 10 := by
    intro r
    induction r with
    | zero =>
      intro i hi _
      refine g_Ar_fill_10 C Rm Q hp ⟨fun _ => ?_, fun q => absurd ((nI_leI (by omega) (by omega)).mpr (by omega)) q⟩
      rw [show i = b by omega]
      exact K
    | succ r ih =>
      intro i hi hai
      refine g_Ar_fill_10 C Rm Q hp ⟨fun q => absurd ((nI_leI (by omega) (by omega)).mp q) (by omega), fun _ => ⟨vp_in_nI (by omega) (by omega), ?_⟩⟩
      rw [nI_cl (by omega), nI_1]
      have e : up (hs h p (fun k => if a ≤ k ∧ k < i then v else h p k)) p i v = hs h p (fun k => if a ≤ k ∧ k < i + 1 then v else h p k) := by
        unfold up
        rw [hs_hs, hs_self]
        congr 1
        funext k
        by_cases q : k = i
        · subst q; rw [pk_us, if_pos ⟨hai, by omega⟩]
        · rw [pk_un q]
          by_cases q2 : a ≤ k ∧ k < i
          · rw [if_pos q2, if_pos ⟨q2.1, by omega⟩]
          · rw [if_neg q2, if_neg (by omega)]
      rw [e]
      exact ih (i + 1) (by omega) (by omega)
  have e0 : hs h p (fun k => if a ≤ k ∧ k < a then v else h p k) = h := by
    have : (fun k => if a ≤ k ∧ k < a then v else h p k) = h p := by funext k; rw [if_neg (by omega)]
    rw [this, hs_id]
  have := loop (b - a) a (by omega) (Nat.le_refl _)
  rwa [e0] at this
theorem mul_lt_B {x y : Nat} (hx : x < 4294967296) (hy : y < 4294967296) : x * y ≤ 18446744065119617025 := Nat.le_trans (Nat.mul_le_mul (show x ≤ 4294967295 by omega) (show y ≤ 4294967295 by omega)) (by decide)
theorem s_setProduct {h : HP} {w a b : Nat} {x y : Int} {Φ : HP → Prop} (hw : kd w = (0, 0)) (ha : kd a = (0, 0)) (hb : kd b = (0, 0)) (haw : a ≠ w) (hbw : b ≠ w) (hx : WN h a x) (hy : WN h b y) (hsum : gc 32 x.natAbs + gc 32 y.natAbs ≤ 43) (K : ∀ h2, Fr [w, w + 1] h h2 → WN h2 w (x * y) → Φ h2) : K_Wh_setProduct [.ref w, .ref a, .ref b] h Φ := by
  refine I_Wh_setProduct (fun X C Rm Q => ?_)
  have hw1 := kWh1 hw
  have haw1 : a ≠ w + 1 := kd_ne ha hw1 (by omega)
  have hbw1 : b ≠ w + 1 := kd_ne hb hw1 (by omega)
  have hx0 := hx
  have hy0 := hy
  generalize hla : gc 32 x.natAbs = la at hsum
  generalize hlb : gc 32 y.natAbs = lb at hsum
  have hal : h a 1 = nI la := by rw [hx.len, hla]
  have hbl : h b 1 = nI lb := by rw [hy.len, hlb]
  have hav := hx.val
  have hbv := hy.val
  rw [hla] at hav
  rw [hlb] at hbv
  generalize hda : dW (h (a + 1)) = da at hav
  generalize hdb : dW (h (b + 1)) = db at hbv
  have hdal : ∀ k, da k < 4294967296 := fun k => by rw [← hda]; exact dW_lt _ _
  have hdbl : ∀ k, db k < 4294967296 := fun k => by rw [← hdb]; exact dW_lt _ _
  refine g_Wh_setProduct_0 C Rm Q hw ha hb ?_
  rw [hal, hbl, nI_add]
  refine s_fill (a := 0) hw1 (by omega) (Nat.zero_le _) (by omega) ?_
  have rdl : ∀ h0, Fr [w + 1] h h0 → ∀ q, q ≠ w + 1 → h0 q = h q := fun h0 f q e => f q (by simpa using e)
  have inner : ∀ (i : Nat) (h1 : HP), i < la → Fr [w + 1] h h1 → (∀ h2, Fr [w + 1] h h2 → ds 4294967296 (dW (h2 (w + 1))) (i + lb + 1) = ds 4294967296 (dW (h1 (w + 1))) (i + lb) + da i * 4294967296 ^ i * ds 4294967296 db lb → (∀ k, i + lb + 1 ≤ k → h2 (w + 1) k = h1 (w + 1) k) → Wg X 0 0 h2 [(0, .ref w), (1, .ref a), (2, .ref b), (3, .int (nI (la + lb))), (4, .int (nI (i + 1)))] [] 23) →
      ∀ (r j c : Nat) (h0 : HP), r + j = lb → Fr [w + 1] h h0 → c < 4294967296 → ds 4294967296 (dW (h0 (w + 1))) (i + j) + c * 4294967296 ^ (i + j) = ds 4294967296 (dW (h1 (w + 1))) (i + j) + da i * 4294967296 ^ i * ds 4294967296 db j → (∀ k, i + j ≤ k → h0 (w + 1) k = h1 (w + 1) k) →
      Wg X 0 0 h0 [(0, .ref w), (1, .ref a), (2, .ref b), (3, .int (nI (la + lb))), (4, .int (nI i)), (5, .long (lN c)), (7, .int (nI j))] [] 38 := by
    intro i h1 hi f1 kk r
    induction r with
    | zero =>
      intro j c h0 hr f hc hv hk
      have ebl : h0 b 1 = nI lb := by rw [rdl h0 f b hbw1, hbl]
      refine g_Wh_setProduct_38 C Rm Q hw ha hb ⟨fun _ => ?_, fun q => by rw [ebl, nI_leI (by omega) (by omega)] at q; omega⟩
      rw [ebl, nI_add]
      refine ⟨vp_in_nI (by omega) (by omega), ?_⟩
      rw [nI_cl (by omega), lN_i, nI_1]
      refine kk _ (f.up (by simp)) ?_ (fun k hk2 => by rw [up_at_ne (by omega)]; exact hk k (by omega))
      rw [up_self, ds_updt, un_nIl hc]
      rw [show j = lb by omega] at hv
      exact hv
    | succ r ih =>
      intro j c h0 hr f hc hv hk
      have ebl : h0 b 1 = nI lb := by rw [rdl h0 f b hbw1, hbl]
      have eal : h0 a 1 = nI la := by rw [rdl h0 f a haw1, hal]
      refine g_Wh_setProduct_38 C Rm Q hw ha hb ⟨fun q => by rw [ebl, nI_leI (by omega) (by omega)] at q; omega, fun _ => ?_⟩
      refine s_wordAt ha eal (by omega) (by omega) (s_wordAt hb ebl (by omega) (by omega) ?_)
      have e1 : dW (h0 (a + 1)) i = da i := by rw [rdl h0 f (a + 1) (by omega), hda]
      have e2 : dW (h0 (b + 1)) j = db j := by rw [rdl h0 f (b + 1) (by omega), hdb]
      rw [if_pos (by omega), if_pos (by omega), e1, e2, nI_add]
      refine ⟨vp_in_nI (by omega) (by omega), vp_in_nI (by omega) (by omega), ?_⟩
      rw [nI_cl (by omega), un_mask, hk (i + j) (Nat.le_refl _)]
      have b1 := mul_lt_B (hdal i) (hdbl j)
      have b2 : un (h1 (w + 1) (i + j)) < 4294967296 := un_lt _
      rw [lN_mul, lN_add, lN_add, lN_i, l32, lushr_lN (by omega) (by omega), nI_1]
      try rw [Nat.add_assoc c]
      refine ih (j + 1) ((c + (da i * db j + un (h1 (w + 1) (i + j)))) / 4294967296) _ (by omega) (f.up (by simp)) (by omega) ?_ (fun k hk2 => by rw [up_at_ne (by omega)]; exact hk k (by omega))
      rw [show i + (j + 1) = i + j + 1 from rfl, up_self, ds_updt, ds_succ, ds_succ, Nat.pow_succ]
      have e3 := carry_step (P := 4294967296 ^ (i + j)) (un_dm (c + (da i * db j + un (h1 (w + 1) (i + j)))))
      rw [Nat.add_mul, Nat.add_mul] at e3
      have e4 : da i * 4294967296 ^ i * (ds 4294967296 db j + db j * 4294967296 ^ j) = da i * 4294967296 ^ i * ds 4294967296 db j + da i * db j * 4294967296 ^ (i + j) := by
        rw [Nat.mul_add, Nat.pow_add]
        congr 1
        rw [Nat.mul_assoc, Nat.mul_assoc, Nat.mul_left_comm (4294967296 ^ i)]
      rw [e4]
      have e5 : dW (h1 (w + 1)) (i + j) = un (h1 (w + 1) (i + j)) := rfl
      rw [e5]
      omega
  have outer : ∀ (r i : Nat) (h0 : HP), r + i = la → Fr [w + 1] h h0 → ds 4294967296 (dW (h0 (w + 1))) (i + lb) = ds 4294967296 da i * ds 4294967296 db lb → (∀ k, i + lb ≤ k → k < la + lb → dW (h0 (w + 1)) k = 0) →
      Wg X 0 0 h0 [(0, .ref w), (1, .ref a), (2, .ref b), (3, .int (nI (la + lb))), (4, .int (nI i))] [] 23 := by
    intro r
    induction r with
    | zero =>
      intro i h0 hr f hv hk
      have hil : i = la := by omega
      subst hil
      have eal : h0 a 1 = nI i := by rw [rdl h0 f a haw1, hal]
      have fin : ∀ s : Int32, s = (if x * y < 0 then 1 else 0 : Int32) ∨ (s = 1 ∧ x * y = 0) ∨ (s = 0 ∧ x * y = 0) → K_Wh_trim [.ref w, .int (nI (i + lb))] (up h0 w 2 s) Φ := by
        intro s hs
        refine s_trim hw (by omega) (by rw [up_at]; rcases hs with q | ⟨q, -⟩ | ⟨q, -⟩; rw [q]; exact sg_01 _; exact Or.inr q; exact Or.inl q) (fun h2 f2 W2 => K h2 (((f.mono (by simp)).up (by simp)).trans (f2.mono (by simp))) ?_)
        rw [up_at, up_ne (by omega), hv, hav, hbv, ← Int.natAbs_mul] at W2
        have e9 : (if s = 0 then ((x * y).natAbs : Int) else -((x * y).natAbs : Int)) = x * y := by
          rcases hs with q | ⟨q, q2⟩ | ⟨q, q2⟩
          · rw [q]
            by_cases z : x * y < 0
            · rw [if_pos z, if_neg (by decide)]; omega
            · rw [if_neg z, if_pos rfl]; omega
          · rw [q, q2]; rfl
          · rw [q, q2]; rfl
        rwa [e9] at W2
      have exs : h0 a 2 = (if x < 0 then 1 else 0) := by rw [rdl h0 f a haw1, hx0.sg]
      have eys : h0 b 2 = (if y < 0 then 1 else 0) := by rw [rdl h0 f b hbw1, hy0.sg]
      have hs : (if x < 0 then 1 else 0 : Int32) = (if y < 0 then 1 else 0 : Int32) ↔ (x < 0 ↔ y < 0) := by
        by_cases q1 : x < 0 <;> by_cases q2 : y < 0 <;> simp [q1, q2]
      refine g_Wh_setProduct_23 C Rm Q hw ha hb ⟨fun _ => ⟨fun q => ?_, fun q => ?_⟩, fun q => by rw [eal, nI_leI (by omega) (by omega)] at q; omega⟩
      · rw [exs, eys, hs] at q
        refine fin 0 (Or.inl ?_)
        have : 0 ≤ x * y := by
          by_cases z : x < 0
          · exact Int.mul_nonneg_of_nonpos_of_nonpos (by omega) (by have := q.mp z; omega)
          · exact Int.mul_nonneg (by omega) (by have : ¬ y < 0 := fun h => z (q.mpr h); omega)
        rw [if_neg (by omega)]
      · rw [exs, eys, hs] at q
        by_cases z0 : x * y = 0
        · exact fin 1 (Or.inr (Or.inl ⟨rfl, z0⟩))
        · refine fin 1 (Or.inl ?_)
          have : x * y ≤ 0 := by
            by_cases z : x < 0
            · exact Int.mul_nonpos_of_nonpos_of_nonneg (by omega) (by omega)
            · exact Int.mul_nonpos_of_nonneg_of_nonpos (by omega) (by omega)
          rw [if_pos (by omega)]
    | succ r ih =>
      intro i h0 hr f hv hk
      have eal : h0 a 1 = nI la := by rw [rdl h0 f a haw1, hal]
      refine g_Wh_setProduct_23 C Rm Q hw ha hb ⟨fun q => by rw [eal, nI_leI (by omega) (by omega)] at q; omega, fun _ => ?_⟩
      refine inner i h0 (by omega) f (fun h2 f2 e1 e2 => ih (i + 1) h2 (by omega) f2 ?_ (fun k k1 k2 => ?_)) lb 0 0 h0 (by omega) f (by omega) ?_ (fun _ _ => rfl)
      · rw [show i + 1 + lb = i + lb + 1 by omega, e1, hv, ds_succ, Nat.add_mul]
      · have := e2 k (by omega)
        unfold dW
        rw [this]
        exact hk k (by omega) k2
      · rw [ds_0]; simp
  refine outer la 0 _ (by omega) ((Fr.rf _ _).hs (by simp)) ?_ (fun k _ k2 => ?_)
  · rw [hs_self, ds_zero (d := dW (fun k => if 0 ≤ k ∧ k < la + lb then 0 else h (w + 1) k)) (fun k hk => congrArg un (if_pos (by omega))), ds_0]; simp
  · rw [hs_self]
    exact congrArg un (if_pos (by omega))
theorem s_mul10 {h : HP} {w d : Nat} {z : Int} {Φ : HP → Prop} (hw : kd w = (0, 0)) (hz : WN h w z) (h0 : 0 ≤ z) (hd : d < 10) (hl : gc 32 z.natAbs ≤ 43) (K : ∀ h2, Fr [w, w + 1] h h2 → WN h2 w (z * 10 + d) → Φ h2) : K_Wh_multiplyBy10AndAdd [.ref w, .int (nI d)] h Φ := by
  refine I_Wh_multiplyBy10AndAdd (fun X C Rm Q => ?_)
  refine g_Wh_multiplyBy10AndAdd_0 C Rm Q hw ?_
  rw [nI_l (by omega)]
  have hsg : h w 2 = 0 := by rw [hz.sg, if_neg (by omega)]
  generalize hn : gc 32 z.natAbs = n at hl
  have hln : h w 1 = nI n := by rw [hz.len, hn]
  have hvl := hz.val
  rw [hn] at hvl
  have loop : ∀ (r i c : Nat) (h0 : HP), r + i = n → Fr [w + 1] h h0 → c < 4294967296 → (∀ k, i ≤ k → h0 (w + 1) k = h (w + 1) k) → ds 4294967296 (dW (h0 (w + 1))) i + c * 4294967296 ^ i = 10 * ds 4294967296 (dW (h (w + 1))) i + d →
      Wg X 0 0 h0 [(0, .ref w), (1, .int (nI d)), (2, .long (lN c)), (4, .int (nI i))] [] 6 := by
    intro r
    induction r with
    | zero =>
      intro i c h0 hr f hc hk hv
      have hil : i = n := by omega
      subst hil
      have e1 : h0 w 1 = nI i := by rw [f w (by simp), hln]
      refine g_Wh_multiplyBy10AndAdd_6 C Rm Q hw ⟨fun _ => ?_, fun q => by rw [e1, nI_leI (by omega) (by omega)] at q; omega⟩
      rw [up_ne (by omega), e1, nI_cl (by omega), nI_1, lN_i]
      refine ⟨vp_in_nI (by omega) (by omega), ?_⟩
      have e2 : up h0 (w + 1) i (nI c) w 2 = 0 := by rw [up_ne (by omega), f w (by simp), hsg]
      refine s_trim hw (by omega) (Or.inl e2) (fun h2 f2 W2 => K h2 (((f.up (by simp)).mono (by simp)).trans (f2.mono (by simp))) ?_)
      rw [if_pos e2, up_self, ds_updt, un_nIl hc, hv, hvl] at W2
      rwa [show z * 10 + (d : Int) = ((10 * z.natAbs + d : Nat) : Int) by omega]
    | succ r ih =>
      intro i c h0 hr f hc hk hv
      have e1 : h0 w 1 = nI n := by rw [f w (by simp), hln]
      refine g_Wh_multiplyBy10AndAdd_6 C Rm Q hw ⟨fun q => by rw [e1, nI_leI (by omega) (by omega)] at q; omega, fun _ => ?_⟩
      refine s_wordAt hw e1 (by omega) (by omega) ⟨vp_in_nI (by omega) (by omega), ?_⟩
      have e2 : dW (h0 (w + 1)) i = dW (h (w + 1)) i := by unfold dW; rw [hk i (Nat.le_refl _)]
      have b1 : dW (h (w + 1)) i < 4294967296 := dW_lt _ _
      rw [if_pos (by omega), e2, show (10 : Int64) = lN 10 from rfl, lN_mul, lN_add, lN_i, nI_cl (by omega), l32, lushr_lN (by omega) (by omega), nI_1]
      refine ih (i + 1) ((c + dW (h (w + 1)) i * 10) / 4294967296) _ (by omega) (f.up (by simp)) (by omega) (fun k hk2 => by rw [up_at_ne (by omega)]; exact hk k (by omega)) ?_
      rw [up_self, ds_updt, ds_succ, Nat.pow_succ]
      have e3 := carry_step (P := 4294967296 ^ i) (un_dm (c + dW (h (w + 1)) i * 10))
      rw [Nat.add_mul, Nat.mul_right_comm] at e3
      omega
  exact loop n 0 d h (by omega) (Fr.rf _ _) (by omega) (fun _ _ => rfl) (by rw [ds_0]; simp)
theorem s_quot {h : HP} {N D : Nat} {Φ : Int64 → HP → Prop} (hN : N < 2 ^ 64) (hD : 0 < D) (hD2 : D < 2 ^ 62) (K : Φ (lN (N / D)) h) : K_Wh_quotientWithoutSign [.long (lN N), .long (lN D)] h Φ := by
  refine I_Wh_quotientWithoutSign (fun X C Rm Q => ?_)
  have eg : lshl (lushr (lN N) 1 / lN D) 1 = lN (N / 2 / D * 2) := by
    rw [zi1, lushr_lN hN (by omega), Nat.pow_one, pk_lDiv (by omega) hD (by omega), lshl_lN _ (by omega), Nat.pow_one]
  have h1 := Nat.div_add_mod (N / 2) D
  have h2 := Nat.mod_lt (N / 2) hD
  generalize hq : N / 2 / D = q at *
  generalize hr : N / 2 % D = r at *
  have h3 : q * 2 * D = 2 * (D * q) := by rw [Nat.mul_comm D q, Nat.mul_comm q 2, Nat.mul_assoc]
  have hNe : N = q * 2 * D + (2 * r + N % 2) := by omega
  have hrem : lN N - lN (q * 2) * lN D = lN (2 * r + N % 2) := by
    rw [lN_mul, lN_sub (by omega)]
    congr 1
    omega
  refine g_Wh_quotientWithoutSign_0 C Rm Q ⟨fun z => ?_, ?_⟩
  · have e : (lN D).toInt = 0 := by rw [z]; rfl
    rw [pf_lI (by omega)] at e
    omega
  · rw [eg, hrem, lg_cmp_lt, pk_lLT (by omega) (by omega)]
    refine ⟨fun z => ?_, fun z => ?_⟩
    · have : N / D = q * 2 := by
        rw [hNe, Nat.mul_comm (q * 2) D, Nat.mul_add_div hD, Nat.div_eq_of_lt z, Nat.add_zero]
      rwa [this] at K
    · have : N / D = q * 2 + 1 := by
        rw [hNe, Nat.mul_comm (q * 2) D, Nat.mul_add_div hD]
        congr 1
        rw [Nat.div_eq_iff hD]
        omega
      rw [this] at K
      rwa [show (1 : Int64) = lN 1 from rfl, lN_add]
theorem s_divWord {h : HP} {w D : Nat} {z : Int} {Φ : Int64 → HP → Prop} (hw : kd w = (0, 0)) (hz : WN h w z) (hD : 0 < D) (hD2 : D ≤ 4294967296) (K : ∀ h2, Fr [w, w + 1] h h2 → WN h2 w (if z < 0 then -((z.natAbs / D : Nat) : Int) else ((z.natAbs / D : Nat) : Int)) → Φ (lN (z.natAbs % D)) h2) : K_Wh_divideByWord [.ref w, .long (lN D)] h Φ := by
  refine I_Wh_divideByWord (fun X C Rm Q => ?_)
  refine g_Wh_divideByWord_0 C Rm Q hw ?_
  have hle := hz.le
  have hvl := hz.val
  have hlen := hz.len
  generalize hn : gc 32 z.natAbs = n at hle hvl hlen
  rw [hlen]
  have loop : ∀ (p rest : Nat) (h0 : HP), p ≤ n → Fr [w + 1] h h0 → (∀ k, k < p → h0 (w + 1) k = h (w + 1) k) → rest < D → ds 4294967296 (fun k => dW (h (w + 1)) (p + k)) (n - p) = ds 4294967296 (fun k => dW (h0 (w + 1)) (p + k)) (n - p) * D + rest →
      Wg X 0 0 h0 [(0, .ref w), (1, .long (lN D)), (3, .long (lN rest)), (5, .int (nI p - 1))] [] 10 := by
    intro p
    induction p with
    | zero =>
      intro rest h0 _ f hk hr hv
      have e1 : h0 w 1 = nI n := by rw [f w (by simp), hlen]
      refine g_Wh_divideByWord_10 C Rm Q hw ⟨fun _ => ?_, fun q => absurd (by decide) q⟩
      rw [e1]
      simp only [Nat.zero_add, Nat.sub_zero] at hv
      have hv2 : ds 4294967296 (dW (h (w + 1))) n = ds 4294967296 (dW (h0 (w + 1))) n * D + rest := hv
      rw [hvl] at hv2
      have hq : z.natAbs / D = ds 4294967296 (dW (h0 (w + 1))) n := by
        rw [hv2, Nat.mul_comm, Nat.mul_add_div hD, Nat.div_eq_of_lt hr, Nat.add_zero]
      have hm : z.natAbs % D = rest := by
        rw [hv2, Nat.mul_comm, Nat.mul_add_mod, Nat.mod_eq_of_lt hr]
      have e2 : h0 w 2 = (if z < 0 then 1 else 0) := by rw [f w (by simp), hz.sg]
      refine s_trim hw hle (by rw [e2]; exact sg_01 z) (fun h2 f2 W2 => ?_)
      rw [← hm]
      refine K h2 ((f.mono (by simp)).trans (f2.mono (by simp))) ?_
      rw [e2, ← hq] at W2
      by_cases q : z < 0
      · rw [if_pos q] at W2 ⊢
        rwa [if_neg (by decide)] at W2
      · rw [if_neg q] at W2 ⊢
        rwa [if_pos rfl] at W2
    | succ p ih =>
      intro rest h0 hp f hk hr hv
      have e1 : h0 w 1 = nI n := by rw [f w (by simp), hlen]
      rw [nI_pred]
      refine g_Wh_divideByWord_10 C Rm Q hw ⟨fun q => absurd q (nI_lt0 (by omega)), fun _ => ?_⟩
      refine s_wordAt hw e1 (by omega) (by omega) ?_
      have e2 : dW (h0 (w + 1)) p = dW (h (w + 1)) p := by unfold dW; rw [hk p (by omega)]
      have b1 : dW (h (w + 1)) p < 4294967296 := dW_lt _ _
      rw [if_pos (by omega), e2, l32, lshl_lN _ (by omega)]
      have eor : lN (rest * 2 ^ 32) ||| lN (dW (h (w + 1)) p) = lN (rest * 4294967296 + dW (h (w + 1)) p) := g_or (k := 32) (p := 4294967296) rfl b1 (by omega)
      rw [eor]
      generalize hN : rest * 4294967296 + dW (h (w + 1)) p = N at *
      have hN1 : N < D * 4294967296 := by omega
      refine s_quot (by omega) hD (by omega) ⟨vp_in_nI (by omega) (by omega), ?_⟩
      have hqlt : N / D < 4294967296 := (Nat.div_lt_iff_lt_mul hD).mpr (by rw [Nat.mul_comm]; exact hN1)
      have hdm := Nat.div_add_mod N D
      rw [nI_cl (by omega), lN_i, lN_mul, lN_sub (by rw [Nat.mul_comm]; omega), sub1]
      have e4 : N - N / D * D = N % D := by rw [Nat.mul_comm]; omega
      rw [e4]
      refine ih (N % D) _ (by omega) (f.up (by simp)) (fun k hk2 => by rw [up_at_ne (by omega)]; exact hk k (by omega)) (Nat.mod_lt _ hD) ?_
      have split1 : ∀ d : Nat → Nat, ds 4294967296 (fun k => d (p + k)) (n - p) = d p + 4294967296 * ds 4294967296 (fun k => d (p + 1 + k)) (n - (p + 1)) := by
        intro d
        rw [show n - p = n - (p + 1) + 1 by omega, ds_low]
        congr 2
        exact ds_cong (fun k _ => by rw [show p + (k + 1) = p + 1 + k by omega])
      rw [split1, split1, hv, up_self, dW_upd]
      simp only [if_pos]
      rw [ds_cong (d := fun k => if p + 1 + k = p then un (nI (N / D)) else dW (h0 (w + 1)) (p + 1 + k)) (e := fun k => dW (h0 (w + 1)) (p + 1 + k)) (fun k _ => if_neg (by omega)), un_nIl hqlt]
      generalize ds 4294967296 (fun k => dW (h0 (w + 1)) (p + 1 + k)) (n - (p + 1)) = S
      rw [Nat.add_mul, Nat.mul_add, Nat.mul_assoc, Nat.mul_comm (N / D) D]
      omega
  refine loop n 0 h (Nat.le_refl _) (Fr.rf _ _) (fun _ _ => rfl) hD ?_
  simp [ds_0]
