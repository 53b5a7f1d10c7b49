/-! The model's rows: bits, division by a limb, halves, long division. -/
theorem gc1_step {v : Nat} (h : v ≠ 0) : gc 1 v = gc 1 (v / 2) + 1 := by
  have key : ∀ n, gc 1 v ≤ n + 1 ↔ gc 1 (v / 2) ≤ n := by
    intro n
    rw [gc_le (by omega), gc_le (by omega), Nat.one_mul, Nat.one_mul, Nat.pow_succ]
    omega
  have h1 : gc 1 v ≠ 0 := by rw [Ne, gc_eq0]; exact h
  have a := (key (gc 1 v - 1)).mp (by omega)
  have b := (key (gc 1 (v / 2))).mpr (Nat.le_refl _)
  omega
theorem gc1_split {k l t : Nat} (hl : l < 2 ^ k) (ht : t ≠ 0) : gc 1 (l + t * 2 ^ k) = k + gc 1 t := by
  have hp : 0 < 2 ^ k := Nat.pow_pos (by decide)
  have key : ∀ n, gc 1 (l + t * 2 ^ k) ≤ k + n ↔ gc 1 t ≤ n := by
    intro n
    rw [gc_le (by omega), gc_le (by omega), Nat.one_mul, Nat.one_mul, Nat.pow_add]
    constructor
    · intro q
      refine Nat.lt_of_not_le (fun z => ?_)
      have := Nat.mul_le_mul_left (2 ^ k) z
      rw [Nat.mul_comm (2 ^ k) t] at this
      omega
    · intro q
      have := Nat.mul_le_mul_left (2 ^ k) q
      rw [Nat.mul_succ, Nat.mul_comm (2 ^ k) t] at this
      omega
  have h1 : k < gc 1 (l + t * 2 ^ k) := by
    rw [gc_lt (by omega), Nat.one_mul]
    have := Nat.mul_le_mul_right (2 ^ k) (Nat.pos_of_ne_zero ht)
    omega
  have a := (key (gc 1 (l + t * 2 ^ k) - k)).mp (by omega)
  have b := (key (gc 1 t)).mpr (Nat.le_refl _)
  omega
theorem p16 (n : Nat) : 65536 ^ n = 2 ^ (16 * n) := by rw [Nat.pow_mul]
theorem MU.top {h : HP} {r m : Nat} (k : MU h r m) (hm : m ≠ 0) : ∃ n, gc 16 m = n + 1 ∧ lb h r n ≠ 0 ∧ lb h r n < 65536 ∧ mv h r n < 65536 ^ n ∧ m = mv h r n + lb h r n * 65536 ^ n := by
  have h0 : gc 16 m ≠ 0 := by rw [Ne, gc_eq0]; exact hm
  obtain ⟨n, hn⟩ : ∃ n, gc 16 m = n + 1 := ⟨gc 16 m - 1, by omega⟩
  have hv := k.val
  rw [hn, mv_succ] at hv
  have hlt : mv h r n < 65536 ^ n := mv_lt (fun i hi => k.lt (by omega))
  refine ⟨n, hn, fun q => ?_, k.lt (by omega), hlt, hv.symm⟩
  rw [q, Nat.zero_mul, Nat.add_zero] at hv
  have := (gc_le (b := 16) (by omega) m n).mpr (by rw [← p16, ← hv]; exact hlt)
  omega
theorem s_bitsOf {h : HP} {r m : Nat} {Φ : Int32 → HP → Prop} (hr : r < 218) (hm : MU h r m) (K : Φ (nI (gc 1 m)) h) : K_Mo_bitsOf [.ref 0, .int (nI r)] h Φ := by
  have hle := hm.le
  refine I_Mo_bitsOf (fun X C Rm Q => g_Mo_bitsOf_0 C Rm Q ⟨vr hr, fun q => ?_, fun q => ?_⟩)
  · rw [nI_cl (by omega), hm.len, nI_e0 (by omega), gc16_0] at q
    obtain ⟨n, hn, t0, t1, t2, t3⟩ := hm.top q
    rw [nI_cl (by omega), hm.len, hn, ixl, show 100 * r + (n + 1) = 100 * r + n + 1 by omega, nI_pred, nI_pred, nI_cl (by omega), lb_is h, show (16 : Int32) = nI 16 from rfl, pk_mul]
    refine ⟨vr hr, vr hr, vl hr (by omega), ?_⟩
    have loop : ∀ (v k : Nat), v < 65536 → k + gc 1 v = gc 1 m → k ≤ 100000 → Wg X 0 0 h [(0, .ref 0), (1, .int (nI r)), (2, .int (nI k)), (3, .int (nI v))] [] 42 := by
      intro v
      induction v using Nat.strongRecOn with
      | _ v ih =>
        intro k hv hk hk2
        refine g_Mo_bitsOf_42 C Rm Q ⟨fun z => ?_, fun z => ?_⟩
        · rw [nI_le0 (by omega)] at z
          rw [z, gc_0, Nat.add_zero] at hk
          rw [hk]
          exact K
        · rw [nI_le0 (by omega)] at z
          have e := gc1_step z
          rw [nI_1, pk_shrN (by omega) _ 1 (by decide), Nat.pow_one]
          have hg1 : gc 1 v ≤ 16 := (gc_le (by omega) _ _).mpr (by omega)
          have hg2 : gc 1 m ≤ 1600 := (gc_le (by omega) _ _).mpr (by
            have := (gc_le (b := 16) (by omega) m 99).mp hle
            exact Nat.lt_of_lt_of_le this (Nat.pow_le_pow_right (by decide) (by omega)))
          exact ih (v / 2) (by omega) (k + 1) (by omega) (by omega) (by omega)
    refine loop _ _ t1 ?_ (by omega)
    rw [t3, p16]
    rw [p16] at t2
    rw [gc1_split t2 t0]
  · rw [nI_cl (by omega), hm.len, nI_e0 (by omega), gc16_0] at q
    rw [q, gc_0] at K
    exact K
theorem s_misLarge {h : HP} {r m : Nat} {Φ : Int32 → HP → Prop} (hr : r < 218) (hm : MU h r m) (K : Φ (if gc 32 m ≤ 20 then 0 else 1) h) : K_Mo_isLarge [.ref 0, .int (nI r)] h Φ := by
  have hle := hm.le
  have hg2 : gc 1 m ≤ 1600 := (gc_le (by omega) _ _).mpr (by
    have := (gc_le (b := 16) (by omega) m 99).mp hle
    exact Nat.lt_of_lt_of_le this (Nat.pow_le_pow_right (by decide) (by omega)))
  have e : gc 1 m ≤ 640 ↔ gc 32 m ≤ 20 := by rw [gc_le (by omega), gc_le (by omega)]
  refine I_Mo_isLarge (fun X C Rm Q => g_Mo_isLarge_0 C Rm Q (s_bitsOf hr hm ?_))
  rw [show (640 : Int32) = nI 640 from rfl, nI_leI (by omega) (by omega), e]
  exact ⟨fun q => by rwa [if_pos q] at K, fun q => by rwa [if_neg q] at K⟩
theorem ds_shift (B : Nat) (d : Nat → Nat) (p n : Nat) (h : p < n) : ds B (fun k => d (p + k)) (n - p) = d p + B * ds B (fun k => d (p + 1 + k)) (n - (p + 1)) := by
  rw [show n - p = n - (p + 1) + 1 by omega, ds_low]
  congr 2
  exact ds_cong (fun k _ => by rw [show p + (k + 1) = p + 1 + k by omega])
theorem s_mdivSmall {h : HP} {r m D : Nat} {Φ : Int32 → HP → Prop} (hr : r < 218) (hm : MU h r m) (hD : 0 < D) (hD2 : D < 65536) (K : ∀ h2, FR [r] h h2 → MU h2 r (m / D) → h2 10 r = (if m / D = 0 then 0 else h 10 r) → Φ (nI (m % D)) h2) : K_Mo_divideSmall [.ref 0, .int (nI r), .int (nI D)] h Φ := by
  refine I_Mo_divideSmall (fun X C Rm Q => g_Mo_divideSmall_0 C Rm Q ⟨vr hr, ?_⟩)
  have hle := hm.le
  have hval := hm.val
  have hlt : ∀ i, i < gc 16 m → lb h r i < 65536 := fun i hi => hm.lt hi
  rw [nI_cl (by omega), hm.len]
  have hlen := hm.len
  generalize gc 16 m = n at *
  have hD0 : ¬ Int32.toInt64 (nI D) = 0 := by
    rw [nI_l (by omega), show (0 : Int64) = lN 0 from rfl, pk_lEQ (by omega) (by omega)]
    omega
  have loop : ∀ (p rest : Nat) (h0 : HP), p ≤ n → FR [r] h h0 → h0 9 = h 9 → h0 10 = h 10 → (∀ k, k < p → lb h0 r k = lb h r k) → (∀ k, p ≤ k → k < n → lb h0 r k < 65536) → rest < D → ds 65536 (fun k => lb h r (p + k)) (n - p) = ds 65536 (fun k => lb h0 r (p + k)) (n - p) * D + rest →
      Wg X 0 0 h0 [(0, .ref 0), (1, .int (nI r)), (2, .int (nI D)), (3, .long (lN rest)), (5, .int (nI p - 1))] [] 12 := by
    intro p
    induction p with
    | zero =>
      intro rest h0 _ f e9 e10 hk hd hrest hv
      refine g_Mo_divideSmall_12 C Rm Q ⟨fun _ => ?_, fun q => absurd (by decide) q⟩
      simp only [Nat.zero_add, Nat.sub_zero] at hv
      have hv2 : mv h r n = mv h0 r n * D + rest := hv
      rw [hval] at hv2
      have hq : m / D = mv h0 r n := by
        rw [hv2, Nat.mul_comm, Nat.mul_add_div hD, Nat.div_eq_of_lt hrest, Nat.add_zero]
      have hmd : m % D = rest := by
        rw [hv2, Nat.mul_comm, Nat.mul_add_mod, Nat.mod_eq_of_lt hrest]
      refine s_mtrim hr hle (by rw [e9]; exact hlen) (fun i hi => hd i (Nat.zero_le _) hi) (fun h2 f2 e8 k2 s2 => ?_)
      rw [lN_i, ← hmd]
      rw [← hq] at k2 s2
      rw [e10] at s2
      exact K h2 (f.trans f2) k2 s2
    | succ p ih =>
      intro rest h0 hp f e9 e10 hk hd hrest hv
      rw [nI_pred]
      refine g_Mo_divideSmall_12 C Rm Q ⟨fun q => absurd q (nI_lt0 (by omega)), fun _ => ?_⟩
      have b1 := hlt p (by omega)
      rw [ixl]
      refine ⟨vl hr (by omega), hD0, vl hr (by omega), hD0, ?_⟩
      rw [nI_cl (by omega), lb_is h0, hk p (by omega), nI_l (by omega), nI_l (by omega), show (16 : Int32) = nI 16 from rfl, lshl_lN _ (by omega)]
      have eor : lN (rest * 2 ^ 16) ||| lN (lb h r p) = lN (rest * 65536 + lb h r p) := g_or (k := 16) (p := 65536) rfl b1 (by omega)
      rw [eor]
      generalize hN : rest * 65536 + lb h r p = N at *
      have hN1 : N < D * 65536 := by omega
      have hqlt : N / D < 65536 := (Nat.div_lt_iff_lt_mul hD).mpr (by rw [Nat.mul_comm]; exact hN1)
      have hdm := Nat.div_add_mod N D
      rw [pk_lDiv (by omega) hD (by omega), lN_mul, lN_sub (by rw [Nat.mul_comm]; omega), lN_i, sub1]
      have e4 : N - N / D * D = N % D := by rw [Nat.mul_comm]; omega
      rw [e4]
      refine ih (N % D) _ (by omega) (f.up8 (by simp) (by omega)) (by rw [← e9]; exact up_ne (by omega)) (by rw [← e10]; exact up_ne (by omega)) (fun k hk2 => by rw [lb_ne (by omega)]; exact hk k (by omega)) (fun k h1 h2 => ?_) (Nat.mod_lt _ hD) ?_
      · by_cases q : k = p
        · subst q
          rw [lb_at, un_nIl (by omega)]
          exact hqlt
        · rw [lb_ne q]
          exact hd k (by omega) h2
      · rw [ds_shift 65536 (lb h r) p n (by omega), ds_shift 65536 (lb (up h0 8 (100 * r + p) (nI (N / D))) r) p n (by omega), hv, lb_at, un_nIl (by omega)]
        rw [ds_cong (d := fun k => lb (up h0 8 (100 * r + p) (nI (N / D))) r (p + 1 + k)) (e := fun k => lb h0 r (p + 1 + k)) (fun k _ => lb_ne (by omega))]
        generalize ds 65536 (fun k => lb h0 r (p + 1 + k)) (n - (p + 1)) = S
        rw [Nat.add_mul, Nat.mul_add, Nat.mul_assoc, Nat.mul_comm (N / D) D]
        omega
  refine loop n 0 h (Nat.le_refl _) (FR.rf _ _) rfl rfl (fun _ _ => rfl) (fun k a b => absurd b (by omega)) hD ?_
  simp [ds_0]
theorem s_halve {h : HP} {r m : Nat} {Φ : HP → Prop} (hr : r < 218) (hm : MU h r m) (K : ∀ h2, FR [r] h h2 → MU h2 r (m / 2) → h2 10 r = (if m / 2 = 0 then 0 else h 10 r) → Φ h2) : K_Mo_halve [.ref 0, .int (nI r)] h Φ := by
  refine I_Mo_halve (fun X C Rm Q => g_Mo_halve_0 C Rm Q ⟨vr hr, ?_⟩)
  have hle := hm.le
  have hval := hm.val
  have hlt : ∀ i, i < gc 16 m → lb h r i < 65536 := fun i hi => hm.lt hi
  rw [nI_cl (by omega), hm.len]
  have hlen := hm.len
  generalize gc 16 m = n at *
  have loop : ∀ (p rest : Nat) (h0 : HP), p ≤ n → FR [r] h h0 → h0 9 = h 9 → h0 10 = h 10 → (∀ k, k < p → lb h0 r k = lb h r k) → (∀ k, p ≤ k → k < n → lb h0 r k < 65536) → rest < 2 → ds 65536 (fun k => lb h r (p + k)) (n - p) = ds 65536 (fun k => lb h0 r (p + k)) (n - p) * 2 + rest →
      Wg X 0 0 h0 [(0, .ref 0), (1, .int (nI r)), (2, .int (nI rest)), (3, .int (nI p - 1))] [] 11 := by
    intro p
    induction p with
    | zero =>
      intro rest h0 _ f e9 e10 hk hd hrest hv
      refine g_Mo_halve_11 C Rm Q ⟨fun _ => ?_, fun q => absurd (by decide) q⟩
      simp only [Nat.zero_add, Nat.sub_zero] at hv
      have hv2 : mv h r n = mv h0 r n * 2 + rest := hv
      rw [hval] at hv2
      have hq : m / 2 = mv h0 r n := by omega
      refine s_mtrim hr hle (by rw [e9]; exact hlen) (fun i hi => hd i (Nat.zero_le _) hi) (fun h2 f2 e8 k2 s2 => ?_)
      rw [← hq] at k2 s2
      rw [e10] at s2
      exact K h2 (f.trans f2) k2 s2
    | succ p ih =>
      intro rest h0 hp f e9 e10 hk hd hrest hv
      rw [nI_pred]
      refine g_Mo_halve_11 C Rm Q ⟨fun q => absurd q (nI_lt0 (by omega)), fun _ => ?_⟩
      have b1 := hlt p (by omega)
      rw [ixl]
      refine ⟨vl hr (by omega), vl hr (by omega), ?_⟩
      rw [nI_cl (by omega), lb_is h0, hk p (by omega), pk_shlN _ 16 (by decide) (by omega), show rest * 2 ^ 16 = 2 ^ 16 * rest by omega, fa_or_sum rest (by omega)]
      generalize hN : 2 ^ 16 * rest + lb h r p = N at *
      rw [pk_shrN (by omega) _ 1 (by decide), Nat.pow_one, show (1 : Int32) = nI 1 from rfl, show nI N &&& nI 1 = nI (N % 2) from pk_andN (by omega) 1 (by decide), show nI p + (-nI 1) = nI p - 1 from sub1 _]
      refine ih (N % 2) _ (by omega) (f.up8 (by simp) (by omega)) (by rw [← e9]; exact up_ne (by omega)) (by rw [← e10]; exact up_ne (by omega)) (fun k hk2 => by rw [lb_ne (by omega)]; exact hk k (by omega)) (fun k h1 h2 => ?_) (Nat.mod_lt _ (by decide)) ?_
      · by_cases q : k = p
        · subst q
          rw [lb_at, un_nIl (by omega)]
          omega
        · rw [lb_ne q]
          exact hd k (by omega) h2
      · rw [ds_shift 65536 (lb h r) p n (by omega), ds_shift 65536 (lb (up h0 8 (100 * r + p) (nI (N / 2))) r) p n (by omega), hv, lb_at, un_nIl (by omega)]
        rw [ds_cong (d := fun k => lb (up h0 8 (100 * r + p) (nI (N / 2))) r (p + 1 + k)) (e := fun k => lb h0 r (p + 1 + k)) (fun k _ => lb_ne (by omega))]
        generalize ds 65536 (fun k => lb h0 r (p + 1 + k)) (n - (p + 1)) = S
        omega
  refine loop n 0 h (Nat.le_refl _) (FR.rf _ _) rfl rfl (fun _ _ => rfl) (fun k a b => absurd b (by omega)) (by omega) ?_
  simp [ds_0]
theorem s_isEven {h : HP} {r m : Nat} {Φ : Int32 → HP → Prop} (hr : r < 218) (hm : MU h r m) (K : Φ (if m % 2 = 0 then 1 else 0) h) : K_Mo_isEven [.ref 0, .int (nI r)] h Φ := by
  have hle := hm.le
  refine I_Mo_isEven (fun X C Rm Q => g_Mo_isEven_0 C Rm Q ⟨vr hr, fun q => ?_, fun q => ?_⟩)
  · rw [nI_cl (by omega), hm.len, nI_e0 (by omega), gc16_0] at q
    rwa [if_pos (by omega)] at K
  · rw [nI_cl (by omega), hm.len, nI_e0 (by omega)] at q
    obtain ⟨n, hn⟩ : ∃ n, gc 16 m = n + 1 := ⟨gc 16 m - 1, by omega⟩
    have hv := hm.val
    have b := hm.lt (i := 0) (by omega)
    rw [hn] at hv
    unfold mv at hv
    rw [ds_low] at hv
    have e : h 8 (100 * r) = nI (lb h r 0) := lb_is h r 0
    rw [show (100 : Int32) = nI 100 from rfl, pk_mul]
    refine ⟨vl hr (i := 0) (by omega), ?_⟩
    rw [nI_cl (by omega), e, pk_andN (by omega) 1 (by decide), nI_e0 (by omega)]
    have p2 : 2 ^ 1 = 2 := rfl
    rw [p2]
    refine ⟨fun z => ?_, fun z => ?_⟩
    · rwa [if_neg (by omega)] at K
    · rwa [if_pos (by omega)] at K
