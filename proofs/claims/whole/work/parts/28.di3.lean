/-! Division, module three: word by word; the division itself. -/
theorem ds_of (B N : Nat) (hB : 0 < B) : ∀ n, ds B (fun i => N / B ^ i % B) n = N % B ^ n
  | 0 => by rw [ds_0, Nat.pow_zero, Nat.mod_one]
  | n + 1 => by
    rw [ds_succ, ds_of B N hB n, Nat.pow_succ, Nat.mod_mul, Nat.mul_comm (B ^ n)]
theorem win_div (f : Nat → Int32) (j m : Nat) : win f 0 (j + m) / 4294967296 ^ j = win f j m := by
  rw [win_split, Nat.add_mul_div_left _ _ (Nat.pow_pos (by decide)), Nat.div_eq_of_lt (win_lt _ _ _), Nat.zero_add, Nat.zero_add]
theorem shr_digit {f : Nat → Int32} {n j s : Nat} (hj : j < n) (hs : s < 32) : (dW f (j + 1) * 4294967296 + dW f j) / 2 ^ s % 4294967296 = win f 0 (n + 1) / 2 ^ s / 4294967296 ^ j % 4294967296 := by
  obtain ⟨t, rfl⟩ := Nat.exists_eq_add_of_lt hj
  rw [Nat.div_div_eq_div_mul, Nat.mul_comm (2 ^ s), ← Nat.div_div_eq_div_mul, show j + t + 1 + 1 = j + (t + 1 + 1) by omega, win_div, win_low, win_low]
  have e : 4294967296 = 2 ^ s * 2 ^ (32 - s) := by rw [← Nat.pow_add, show s + (32 - s) = 32 by omega]
  have e2 : dW f j + 4294967296 * (dW f (j + 1) + 4294967296 * win f (j + 1 + 1) t) = (dW f (j + 1) * 4294967296 + dW f j) + 2 ^ s * (4294967296 * (2 ^ (32 - s) * win f (j + 1 + 1) t)) := by
    have e3 : 4294967296 * (4294967296 * win f (j + 1 + 1) t) = 2 ^ s * (4294967296 * (2 ^ (32 - s) * win f (j + 1 + 1) t)) := by
      rw [Nat.mul_left_comm (2 ^ s), ← Nat.mul_assoc (2 ^ s), ← e]
    omega
  rw [e2, Nat.add_mul_div_left _ _ (Nat.pow_pos (by decide)), Nat.add_mul_mod_self_left]
theorem ne6 {p : Nat} (hp : kd p = (0, 0)) (h6 : p ≠ 46) (h8 : p ≠ 48) : p ∉ [46, 47, 48, 49, 50, 51] ∧ p + 1 ∉ [46, 47, 48, 49, 50, 51] := by
  have h7 : p ≠ 47 := kd_ne hp (show kd 47 = (10, 44) from rfl) (by omega)
  have h9 : p ≠ 49 := kd_ne hp (show kd 49 = (10, 44) from rfl) (by omega)
  have h0 : p ≠ 50 := kd_ne hp (show kd 50 = (10, 44) from rfl) (by omega)
  have h1 : p ≠ 51 := kd_ne hp (show kd 51 = (10, 44) from rfl) (by omega)
  have h5 : p ≠ 45 := kd_ne hp (show kd 45 = (2, 0) from rfl) (by omega)
  constructor <;> simp <;> omega
theorem nab (c : Prop) [Decidable c] (m : Nat) : (if c then (m : Int) else -(m : Int)).natAbs = m := by
  split
  · exact Int.natAbs_natCast m
  · rw [Int.natAbs_neg]; exact Int.natAbs_natCast m
theorem nab' (c : Prop) [Decidable c] (m : Nat) : (if c then -(m : Int) else (m : Int)).natAbs = m := by
  split
  · rw [Int.natAbs_neg]; exact Int.natAbs_natCast m
  · exact Int.natAbs_natCast m
theorem s_divWords {h : HP} {p1 p2 : Nat} {x y : Int} {Φ : HP → Prop} (hp1 : kd p1 = (0, 0)) (hp2 : kd p2 = (0, 0)) (n16 : p1 ≠ 46) (n18 : p1 ≠ 48) (n26 : p2 ≠ 46) (n28 : p2 ≠ 48) (hx : WN h p1 x) (hy : WN h p2 y)
    (hn : 2 ≤ gc 32 y.natAbs) (hle : gc 32 y.natAbs ≤ gc 32 x.natAbs) (hla : gc 32 x.natAbs ≤ 43) (sq : h 46 2 = 0 ∨ h 46 2 = 1) (sr : h 48 2 = 0 ∨ h 48 2 = 1)
    (K : ∀ (h2 : HP) (zq zr : Int), Fr [46, 47, 48, 49, 50, 51] h h2 → zq.natAbs = x.natAbs / y.natAbs → zr.natAbs = x.natAbs % y.natAbs → WN h2 46 zq → WN h2 48 zr → Φ h2) : K_Di_divideByWords [.ref 45, .ref p1, .ref p2] h Φ := by
  refine I_Di_divideByWords (fun X C Rm Q => ?_)
  have hk1 := ne6 hp1 n16 n18
  have hk2 := ne6 hp2 n26 n28
  have hxl := hx.len
  have hyl := hy.len
  have hxv := hx.val
  have hyv := hy.val
  have hytop : dW (h (p2 + 1)) (gc 32 y.natAbs - 1) ≠ 0 := by
    intro q
    have h1 : ds 4294967296 (dW (h (p2 + 1))) (gc 32 y.natAbs - 1 + 1) = ds 4294967296 (dW (h (p2 + 1))) (gc 32 y.natAbs - 1) := by rw [ds_succ, q]; simp
    rw [show gc 32 y.natAbs - 1 + 1 = gc 32 y.natAbs by omega, hyv] at h1
    have h2 := ds_lt (B := 4294967296) (d := dW (h (p2 + 1))) (n := gc 32 y.natAbs - 1) (fun _ _ => dW_lt _ _)
    rw [← h1] at h2
    have h3 := (gc_le (b := 32) (by omega) y.natAbs (gc 32 y.natAbs - 1)).mpr (by rw [Nat.pow_mul]; exact h2)
    omega
  generalize hgx : gc 32 x.natAbs = la at *
  generalize hgy : gc 32 y.natAbs = n at *
  refine g_Di_divideByWords_0 C Rm Q hp1 hp2 ?_
  rw [hyl, nI_subn n 1 (by omega) 1 rfl]
  refine ⟨vp_in_nI (by omega) (by omega), ?_⟩
  rw [nI_cl (by omega)]
  refine s_nlz hytop (fun L hL l1 l2 => ?_)
  have hyn : y.natAbs = ds 4294967296 (dW (h (p2 + 1))) (n - 1) + un (h (p2 + 1) (n - 1)) * 4294967296 ^ (n - 1) := by
    rw [← hyv, show n = n - 1 + 1 by omega, ds_succ]
    simp only [Nat.add_sub_cancel]
    rfl
  have hylow := ds_lt (B := 4294967296) (d := dW (h (p2 + 1))) (n := n - 1) (fun _ _ => dW_lt _ _)
  have hsL : 2 ^ (31 - L) * 2 ^ L = 2147483648 := by rw [← Nat.pow_add, show 31 - L + L = 31 by omega]
  have hs2 : 2 ^ (31 - L) * 2 ^ (L + 1) = 4294967296 := by rw [← Nat.pow_add, show 31 - L + (L + 1) = 32 by omega]
  have hs3 : 2 ^ (31 - L) ≤ 2147483648 := Nat.pow_le_pow_right (n := 2) (by decide) (show 31 - L ≤ 31 by omega)
  have hV1 : 2147483648 * 4294967296 ^ (n - 1) ≤ 2 ^ (31 - L) * y.natAbs := by
    have h1 : 2 ^ L * 4294967296 ^ (n - 1) ≤ y.natAbs := by
      have := Nat.mul_le_mul_right (4294967296 ^ (n - 1)) l1
      omega
    have h2 := Nat.mul_le_mul_left (2 ^ (31 - L)) h1
    rwa [← Nat.mul_assoc, hsL] at h2
  have hV2 : 2 ^ (31 - L) * y.natAbs < 4294967296 * 4294967296 ^ (n - 1) := by
    have h1 : y.natAbs < 2 ^ (L + 1) * 4294967296 ^ (n - 1) := by
      have := Nat.mul_le_mul_right (4294967296 ^ (n - 1)) l2
      rw [Nat.succ_mul] at this
      omega
    have h2 := (Nat.mul_lt_mul_left (Nat.pow_pos (n := 31 - L) (show 0 < 2 by decide))).mpr h1
    rwa [← Nat.mul_assoc, hs2] at h2
  have hsp : 0 < 2 ^ (31 - L) := Nat.pow_pos (by decide)
  have hs31 : 31 - L < 32 := by omega
  generalize 31 - L = s at *
  have nw1 : (50 : Nat) ≠ p1 + 1 := fun e => hk1.2 (by rw [← e]; simp)
  have nw2 : (51 : Nat) ≠ p2 + 1 := fun e => hk2.2 (by rw [← e]; simp)
  refine s_shiftUp hp1 (show kd 50 = (10, 44) from rfl) nw1 hxl hla rfl hs31 (fun h1 f1 d1 t1 => ?_)
  have hyl1 : h1 p2 1 = nI n := by rw [f1 p2 (fun q => hk2.1 (by simp at q; simp [q])), hyl]
  have e21 : h1 (p2 + 1) = h (p2 + 1) := f1 (p2 + 1) (fun q => hk2.2 (by simp at q; simp [q]))
  refine s_shiftUp hp2 (show kd 51 = (10, 44) from rfl) nw2 hyl1 (by omega) rfl hs31 (fun h' f2 d2 t2 => ?_)
  rw [e21, hyv] at d2
  rw [hxv] at d1
  have e50 : h' 50 = h1 50 := f2 50 (by simp)
  rw [← e50] at d1 t1
  have f12 : Fr [46, 47, 48, 49, 50, 51] h h' := (f1.mono (by simp)).trans (f2.mono (by simp))
  have hxl' : h' p1 1 = nI la := by rw [f12 p1 hk1.1, hxl]
  have hyl' : h' p2 1 = nI n := by rw [f12 p2 hk2.1, hyl]
  have hV : win (h' 51) 0 n = 2 ^ s * y.natAbs := by
    rw [← win_ds] at d2
    have hh := win_lt (h' 51) 0 n
    rw [win_succ] at d2
    by_cases q : dW (h' 51) (0 + n) = 0
    · rw [q] at d2
      omega
    · have h5 : 1 * 4294967296 ^ n ≤ dW (h' 51) (0 + n) * 4294967296 ^ n := Nat.mul_le_mul_right _ (Nat.pos_of_ne_zero q)
      rw [Nat.one_mul] at h5
      have h6 : 4294967296 ^ (n - 1 + 1) = 4294967296 * 4294967296 ^ (n - 1) := by rw [Nat.pow_succ, Nat.mul_comm]
      rw [show n - 1 + 1 = n by omega] at h6
      omega
  have htop : 2147483648 ≤ dW (h' 51) (n - 1) := by
    have h5 := win_succ (h' 51) 0 (n - 1)
    rw [show n - 1 + 1 = n by omega, hV, Nat.zero_add] at h5
    have h6 := win_lt (h' 51) 0 (n - 1)
    refine Nat.le_of_not_lt (fun q => ?_)
    have h7 : (dW (h' 51) (n - 1) + 1) * 4294967296 ^ (n - 1) ≤ 2147483648 * 4294967296 ^ (n - 1) := Nat.mul_le_mul_right _ q
    rw [Nat.add_mul, Nat.one_mul] at h7
    omega
  have hVlt : win (h' 51) 0 n < 4294967296 ^ n := win_lt _ _ _
  have hVpos : 0 < win (h' 51) 0 n := by
    have : 0 < 4294967296 ^ (n - 1) := Nat.pow_pos (by decide)
    omega
  have hU : win (h' 50) 0 (la + 1) = 2 ^ s * x.natAbs := by rw [win_ds, d1]
  rw [hxl', hyl', nI_sub hle]
  -- what is owed behind the loop
  have post : ∀ h0 : HP, Fr [47, 50] h' h0 → win (h0 50) 0 n < win (h' 51) 0 n → win (h' 50) 0 (la + 1) = win (h0 47) 0 (la + 1 - n) * win (h' 51) 0 n + win (h0 50) 0 n → dW (h0 50) n = 0 → Wg X 0 0 h0 [(0, .ref 45), (1, .ref p1), (2, .ref p2), (3, .int (nI s)), (4, .int (nI 0 - 1))] [] 44 := by
    intro h0 f w1 w2 w3
    have g0 : Fr [46, 47, 48, 49, 50, 51] h h0 := f12.trans (f.mono (by simp))
    have hq : x.natAbs / y.natAbs = win (h0 47) 0 (la + 1 - n) := by
      have := Nat.mul_div_mul_left x.natAbs y.natAbs hsp
      rw [← hU, ← hV, w2, Nat.mul_comm, Nat.mul_add_div hVpos, Nat.div_eq_of_lt w1, Nat.add_zero] at this
      exact this.symm
    have hr : 2 ^ s * (x.natAbs % y.natAbs) = win (h0 50) 0 n := by
      have := Nat.mul_mod_mul_left (2 ^ s) x.natAbs y.natAbs
      rw [← hU, ← hV, w2, Nat.mul_comm, Nat.mul_add_mod, Nat.mod_eq_of_lt w1] at this
      exact this.symm
    refine g_Di_divideByWords_44 C Rm Q hp1 hp2 ⟨fun _ => ?_, fun q => absurd (by decide) q⟩
    have hxl0 : h0 p1 1 = nI la := by rw [g0 p1 hk1.1, hxl]
    have hyl0 : h0 p2 1 = nI n := by rw [g0 p2 hk2.1, hyl]
    have sq0 : h0 46 2 = h 46 2 := by rw [f 46 (by simp), f2 46 (by simp), f1 46 (by simp)]
    have sr0 : h0 48 2 = h 48 2 := by rw [f 48 (by simp), f2 48 (by simp), f1 48 (by simp)]
    rw [hxl0, hyl0, nI_sub hle, nI_1]
    refine s_trim (show kd 46 = (0, 0) from rfl) (by omega) (by rw [sq0]; exact sq) (fun h3 f3 W3 => ?_)
    rw [show la - n + 1 = la + 1 - n by omega, ← win_ds, ← hq] at W3
    -- the remainder's words
    have loop2 : ∀ (r i : Nat) (h4 : HP), r + i = n → Fr [49] h3 h4 → (∀ j, j < i → dW (h4 49) j = win (h0 50) 0 n / 2 ^ s / 4294967296 ^ j % 4294967296) → Wg X 0 0 h4 [(0, .ref 45), (1, .ref p1), (2, .ref p2), (3, .int (nI s)), (4, .int (nI i))] [] 137 := by
      intro r
      induction r with
      | zero =>
        intro i h4 hr4 f4 dd
        have e1 : h4 p2 1 = nI n := by rw [f4 p2 (fun q => hk2.1 (by simp at q; simp [q])), f3 p2 (fun q => hk2.1 (by simp at q; simp [q])), hyl0]
        refine g_Di_divideByWords_137 C Rm Q hp1 hp2 ⟨fun _ => ?_, fun q => by rw [e1, nI_leI (by omega) (by omega)] at q; omega⟩
        rw [e1]
        have e2 : h4 48 2 = h 48 2 := by rw [f4 48 (by simp), f3 48 (by simp), sr0]
        refine s_trim (show kd 48 = (0, 0) from rfl) (by omega) (by rw [e2]; exact sr) (fun h5 f5 W5 => ?_)
        have e3 : ds 4294967296 (dW (h4 (48 + 1))) n = x.natAbs % y.natAbs := by
          rw [ds_cong (e := fun j => win (h0 50) 0 n / 2 ^ s / 4294967296 ^ j % 4294967296) (fun k hk => dd k (by omega)), ds_of _ _ (by decide), Nat.mod_eq_of_lt (Nat.lt_of_le_of_lt (Nat.div_le_self _ _) (win_lt _ _ _)), ← hr, Nat.mul_div_cancel_left _ hsp]
        rw [e3] at W5
        refine K h5 _ _ (g0.trans (((f3.mono (by simp)).trans (f4.mono (by simp))).trans (f5.mono (by simp)))) ?_ ?_ ((W3.fr f4 (by simp) (by simp)).fr f5 (by simp) (by simp)) W5
        · exact nab _ _
        · exact nab _ _
      | succ r ih =>
        intro i h4 hr4 f4 dd
        have e1 : h4 p2 1 = nI n := by rw [f4 p2 (fun q => hk2.1 (by simp at q; simp [q])), f3 p2 (fun q => hk2.1 (by simp at q; simp [q])), hyl0]
        have e5 : h4 50 = h0 50 := by rw [f4 50 (by simp), f3 50 (by simp)]
        refine g_Di_divideByWords_137 C Rm Q hp1 hp2 ⟨fun q => by rw [e1, nI_leI (by omega) (by omega)] at q; omega, fun _ => ?_⟩
        rw [nI_1]
        refine ⟨vp_in_nI (by omega) (by omega), vp_in_nI (by omega) (by omega), vp_in_nI (by omega) (by omega), ?_⟩
        rw [nI_cl (by omega), nI_cl (by omega), un_mask, un_mask, e5]
        have b1 := dW_lt (h0 50) (i + 1)
        have b2 := dW_lt (h0 50) i
        rw [show un (h0 50 (i + 1)) = dW (h0 50) (i + 1) from rfl, show un (h0 50 i) = dW (h0 50) i from rfl, l32, lshl_lN _ (by omega), g_or (k := 32) (p := 4294967296) rfl b2 (by omega), lushr_lN (by omega) (by omega), lN_i]
        refine ih (i + 1) _ (by omega) (f4.up (by simp)) (fun j hj => ?_)
        rw [up_self, dW_at]
        by_cases q : j = i
        · subst q
          simp only [if_true]
          rw [un_nI, shr_digit (n := n) (by omega) hs31]
          rw [win_succ (h0 50) 0 n, Nat.zero_add, w3, Nat.zero_mul, Nat.add_zero]
        · rw [if_neg q]
          exact dd j (by omega)
    exact loop2 n 0 h3 (by omega) (Fr.rf _ _) (fun j hj => absurd hj (by omega))
  have loop : ∀ (k : Nat) (h0 : HP), k ≤ la - n + 1 → Fr [47, 50] h' h0 → (∀ i, i < k → h0 50 i = h' 50 i) → win (h0 50) k n < win (h' 51) 0 n → win (h' 50) k (la + 1 - k) = win (h0 47) k (la + 1 - n - k) * win (h' 51) 0 n + win (h0 50) k n → (k = 0 → dW (h0 50) n = 0) → Wg X 0 0 h0 [(0, .ref 45), (1, .ref p1), (2, .ref p2), (3, .int (nI s)), (4, .int (nI k - 1))] [] 44 := by
    intro k
    induction k with
    | zero =>
      intro h0 _ f _ w1 w2 w3
      exact post h0 f w1 w2 (w3 rfl)
    | succ p ih =>
      intro h0 hk f lo w1 w2 _
      have e51 : h0 51 = h' 51 := f 51 (by simp)
      have hyl0 : h0 p2 1 = nI n := by
        have : p2 ≠ 47 ∧ p2 ≠ 50 := by have := hk2.1; simp at this; omega
        rw [f p2 (by simp; omega), hyl']
      rw [nI_pred]
      refine g_Di_divideByWords_44 C Rm Q hp1 hp2 ⟨fun q => absurd q (nI_lt0 (by omega)), fun _ => ?_⟩
      rw [hyl0, nI_add]
      refine s_guess (p := p) hn (by omega) (by rw [e51]; exact htop) (by rw [e51]; exact w1) (fun g g1 g2 g3 => ?_)
      rw [hyl0]
      rw [e51] at g1 g2
      refine s_subT g3 (by omega) (fun v c h2 f3 v1 v2 c1 ho hv => ?_)
      rw [e51] at hv
      have hXd : win (h0 50) p (n + 1) = dW (h' 50) p + 4294967296 * win (h0 50) (p + 1) n := by
        rw [win_low]
        congr 1
        unfold dW
        rw [lo p (by omega)]
      have hsplit : win (h' 50) p (la + 1 - p) = dW (h' 50) p + 4294967296 * win (h' 50) (p + 1) (la + 1 - (p + 1)) := by
        rw [show la + 1 - p = la + 1 - (p + 1) + 1 by omega, win_low]
      have hdm := Nat.div_add_mod (win (h0 50) p (n + 1)) (win (h' 51) 0 n)
      have hml := Nat.mod_lt (win (h0 50) p (n + 1)) hVpos
      -- the next round, from the right digit
      have next : ∀ (q : Nat) (h3 : HP), q < 4294967296 → Fr [50] h0 h3 → (∀ i, i < p ∨ p + n < i → h3 50 i = h0 50 i) → q = win (h0 50) p (n + 1) / win (h' 51) 0 n → win (h3 50) p (n + 1) = win (h0 50) p (n + 1) % win (h' 51) 0 n → Wg X 0 0 (up h3 47 p (nI q)) [(0, .ref 45), (1, .ref p1), (2, .ref p2), (3, .int (nI s)), (4, .int (nI p + (-1)))] [] 44 := by
        intro q h3 q1 f4 ho4 q2 q3
        have e50' : up h3 47 p (nI q) 50 = h3 50 := up_ne (by decide)
        have e47 : up h3 47 p (nI q) 47 = upd (h0 47) p (nI q) := by rw [up_self, f4 47 (by simp)]
        have ht := win_succ (h3 50) p n
        have htop0 : dW (h3 50) (p + n) = 0 := by
          refine Nat.eq_zero_of_not_pos (fun z => ?_)
          have h5 : 1 * 4294967296 ^ n ≤ dW (h3 50) (p + n) * 4294967296 ^ n := Nat.mul_le_mul_right _ z
          omega
        rw [htop0] at ht
        simp only [Nat.zero_mul, Nat.add_zero] at ht
        rw [sub1]
        refine ih _ (by omega) ((f.trans (f4.mono (by simp))).up (by simp)) ?_ ?_ ?_ ?_
        · intro i hi
          rw [e50', ho4 i (by omega), lo i (by omega)]
        · rw [e50', ← ht, q3]
          exact hml
        · rw [e50', ← ht, q3, e47]
          have e6 : la + 1 - n - p = la + 1 - n - (p + 1) + 1 := by omega
          rw [e6, win_low, win_out (by omega), dW_at, if_pos rfl, un_nIl q1, hsplit, w2, q2]
          generalize win (h0 47) (p + 1) (la + 1 - n - (p + 1)) = Qo at *
          generalize win (h' 51) 0 n = V at *
          generalize win (h0 50) p (n + 1) = X3 at *
          rw [Nat.add_mul, Nat.mul_assoc, Nat.mul_add]
          rw [Nat.mul_comm V] at hdm
          omega
        · intro z
          rw [e50']
          rw [z, Nat.zero_add] at htop0
          exact htop0
      have hX3lt := win_lt (h0 50) p (n + 1)
      have q0 : 0 ≤ win (h0 50) p (n + 1) / win (h' 51) 0 n := Nat.zero_le _
      have hX2lt := win_lt (h2 50) p (n + 1)
      refine ⟨fun r3 => ?_, fun r3 => ?_⟩
      · have hc : c = 0 := v2.mp (by rcases v1 with z | z; exact absurd z r3; exact z)
        subst hc
        have hle2 : g ≤ win (h0 50) p (n + 1) / win (h' 51) 0 n := (Nat.le_div_iff_mul_le hVpos).mpr (by omega)
        have hge : g = win (h0 50) p (n + 1) / win (h' 51) 0 n := Nat.le_antisymm hle2 g1
        refine ⟨vp_in_nI (by omega) (by omega), ?_⟩
        rw [nI_cl (by omega), lN_i]
        refine next g h2 g3 f3 ho hge ?_
        rw [hge, Nat.mul_comm] at hv
        omega
      · have hc : c = 1 := by
          have : ¬ c = 0 := fun z => by rw [v2.mpr z] at r3; exact absurd r3 (by decide)
          omega
        subst hc
        have hlt2 : win (h0 50) p (n + 1) / win (h' 51) 0 n < g := (Nat.div_lt_iff_lt_mul hVpos).mpr (by omega)
        have hge : g = win (h0 50) p (n + 1) / win (h' 51) 0 n + 1 := by omega
        have hyl2 : h2 p2 1 = nI n := by
          have : p2 ≠ 50 := by have := hk2.1; simp at this; omega
          rw [f3 p2 (by simpa using this), hyl0]
        rw [hyl2]
        refine s_addBack (by omega) (fun k2 h3 f5 ho5 hv5 => ⟨vp_in_nI (by omega) (by omega), ?_⟩)
        rw [show (1 : Int64) = lN 1 from rfl, lN_sub (by omega), nI_cl (by omega), lN_i]
        refine next (g - 1) h3 (by omega) (f3.trans f5) (fun i hi => by rw [ho5 i hi, ho i hi]) (by omega) ?_
        rw [show h2 51 = h' 51 by rw [f3 51 (by simp), e51]] at hv5
        have hX4lt := win_lt (h3 50) p (n + 1)
        have hVP : win (h' 51) 0 n < 4294967296 ^ (n + 1) := Nat.lt_of_lt_of_le hVlt (Nat.pow_le_pow_right (by decide) (by omega))
        rw [hge, Nat.add_mul, Nat.one_mul, Nat.mul_comm] at hv
        generalize win (h3 50) p (n + 1) = X4 at *
        generalize win (h2 50) p (n + 1) = X2 at *
        generalize win (h0 50) p (n + 1) = X3 at *
        generalize 4294967296 ^ (n + 1) = P at *
        generalize win (h' 51) 0 n = V at *
        rcases (show k2 = 0 ∨ k2 = 1 ∨ 2 ≤ k2 by omega) with z | z | z
        · subst z; omega
        · subst z; omega
        · have := Nat.mul_le_mul_right P z
          omega
  rw [show nI (la - n) = nI (la - n + 1) - 1 from (nI_pred _).symm]
  refine loop (la - n + 1) h' (Nat.le_refl _) (Fr.rf _ _) (fun _ _ => rfl) ?_ ?_ (fun z => absurd z (by omega))
  · have h5 := win_succ (h' 50) (la - n + 1) (n - 1)
    rw [show n - 1 + 1 = n by omega, show la - n + 1 + (n - 1) = la by omega] at h5
    have h6 := win_lt (h' 50) (la - n + 1) (n - 1)
    have h7 : (dW (h' 50) la + 1) * 4294967296 ^ (n - 1) ≤ 2147483648 * 4294967296 ^ (n - 1) := Nat.mul_le_mul_right _ (by
      have : dW (h' 50) la < 2 ^ s := t1
      omega)
    rw [Nat.add_mul, Nat.one_mul] at h7
    omega
  · rw [show la + 1 - (la - n + 1) = n by omega, show la + 1 - n - (la - n + 1) = 0 by omega, win_0, Nat.zero_mul, Nat.zero_add]
theorem WN.sign {h : HP} {w : Nat} {z z' : Int} {v : Int32} (k : WN h w z) (ha : z'.natAbs = z.natAbs) (hv : v = if z' < 0 then 1 else 0) : WN (up h w 2 v) w z' := ⟨by rw [up_at_ne (by omega), ha]; exact k.1, by rw [up_at, hv], by rw [up_ne (by omega), ha]; exact k.2.2.1, by rw [ha]; exact k.2.2.2⟩
theorem tdiv_cases (x y : Int) : x.tdiv y = if (x < 0 ↔ y < 0) then ((x.natAbs / y.natAbs : Nat) : Int) else -((x.natAbs / y.natAbs : Nat) : Int) := by
  rcases Int.natAbs_eq x with hx | hx <;> rcases Int.natAbs_eq y with hy | hy <;> generalize x.natAbs = a at * <;> generalize y.natAbs = b at * <;> subst hx <;> subst hy
  · rw [if_pos (by omega), Int.ofNat_tdiv]
  · rw [Int.tdiv_neg, ← Int.ofNat_tdiv]
    split
    · have : a / b = 0 := by
        rcases Nat.eq_zero_or_pos b with q | q
        · subst q; simp
        · omega
      omega
    · rfl
  · rw [Int.neg_tdiv, ← Int.ofNat_tdiv]
    split
    · have : a = 0 := by omega
      subst this; simp
    · rfl
  · rw [Int.neg_tdiv_neg, ← Int.ofNat_tdiv]
    split
    · rfl
    · have : a / b = 0 := by
        rcases Nat.eq_zero_or_pos b with q | q
        · subst q; simp
        · rcases Nat.eq_zero_or_pos a with q2 | q2
          · subst q2; simp
          · omega
      omega
theorem tmod_cases (x y : Int) : x.tmod y = if x < 0 then -((x.natAbs % y.natAbs : Nat) : Int) else ((x.natAbs % y.natAbs : Nat) : Int) := by
  rcases Int.natAbs_eq x with hx | hx <;> rcases Int.natAbs_eq y with hy | hy <;> generalize x.natAbs = a at * <;> generalize y.natAbs = b at * <;> subst hx <;> subst hy
  · rw [if_neg (by omega), Int.ofNat_tmod]
  · rw [if_neg (by omega), Int.tmod_neg, Int.ofNat_tmod]
  · rw [Int.neg_tmod, ← Int.ofNat_tmod]
    split
    · rfl
    · have : a = 0 := by omega
      subst this; simp
  · rw [Int.neg_tmod, Int.tmod_neg, ← Int.ofNat_tmod]
    split
    · rfl
    · have : a = 0 := by omega
      subst this; simp
def SB (h : HP) : Prop := (h 46 2 = 0 ∨ h 46 2 = 1) ∧ (h 48 2 = 0 ∨ h 48 2 = 1)
theorem WN.sgb {h : HP} {w : Nat} {z : Int} (k : WN h w z) : h w 2 = 0 ∨ h w 2 = 1 := by rw [k.sg]; exact sg_01 z
theorem s_divide {h : HP} {p1 p2 : Nat} {x y : Int} {Φ : HP → Prop} (hp1 : kd p1 = (0, 0)) (hp2 : kd p2 = (0, 0)) (n16 : p1 ≠ 46) (n18 : p1 ≠ 48) (n26 : p2 ≠ 46) (n28 : p2 ≠ 48) (hx : WN h p1 x) (hy : WN h p2 y)
    (hy0 : y ≠ 0) (hla : gc 32 x.natAbs ≤ 43) (hlb : gc 32 y.natAbs ≤ 43) (sb : SB h)
    (K : ∀ h2 : HP, Fr [46, 47, 48, 49, 50, 51] h h2 → WN h2 46 (x.tdiv y) → WN h2 48 (x.tmod y) → Φ h2) : K_Di_divide [.ref 45, .ref p1, .ref p2] h Φ := by
  refine I_Di_divide (fun X C Rm Q => ?_)
  have hk1 := ne6 hp1 n16 n18
  have hk2 := ne6 hp2 n26 n28
  have hyp : 0 < y.natAbs := by omega
  have end71 : ∀ (h0 : HP) (zq zr : Int), Fr [46, 47, 48, 49, 50, 51] h h0 → zq.natAbs = x.natAbs / y.natAbs → zr.natAbs = x.natAbs % y.natAbs → WN h0 46 zq → WN h0 48 zr → Wg X 0 0 h0 [(0, .ref 45), (1, .ref p1), (2, .ref p2)] [] 71 := by
    intro h0 zq zr f q1 r1 wq wr
    have hx0 := hx.fr f hk1.1 hk1.2
    have hy0' := hy.fr f hk2.1 hk2.2
    have hxy : (if x < 0 then 1 else 0 : Int32) = (if y < 0 then 1 else 0 : Int32) ↔ (x < 0 ↔ y < 0) := by
      by_cases q1 : x < 0 <;> by_cases q2 : y < 0 <;> simp [q1, q2]
    have td := tdiv_cases x y
    have tm := tmod_cases x y
    have c101 : ∀ t : Int32, t = (if x.tdiv y < 0 then 1 else 0) → Wg X 0 0 h0 [(0, .ref 45), (1, .ref p1), (2, .ref p2)] [.int t, .ref 46] 101 := by
      intro t ht
      have w46 : WN (up h0 46 2 t) 46 (x.tdiv y) := wq.sign (by rw [q1, td]; exact nab _ _) ht
      have f2 : Fr [46, 47, 48, 49, 50, 51] h (up h0 46 2 t) := f.up (by simp)
      have hx2 := hx.fr f2 hk1.1 hk1.2
      have w48 : WN (up h0 46 2 t) 48 zr := wr.cong (up_ne (by decide)) (up_ne (by decide))
      refine g_Di_divide_101 C Rm Q hp1 hp2 ⟨by rw [ht]; exact sg_01 _, fun c => ?_, fun c => ?_⟩
      · rw [hx2.sg, sg_ne] at c
        exact K _ (f2.up (by simp)) (w46.cong (up_ne (by decide)) (up_ne (by decide))) (w48.sign (by rw [r1, tm]; exact nab' _ _) (by rw [tm, if_neg (by omega)]))
      · rw [hx2.sg, sg_ne] at c
        refine s_isZero (show kd 48 = (0, 0) from rfl) w48 ⟨fun c2 => ?_, fun c2 => ?_⟩
        · have : zr = 0 := by
            by_cases q : zr = 0
            · exact q
            · rw [if_neg q] at c2; exact absurd rfl c2
          exact K _ (f2.up (by simp)) (w46.cong (up_ne (by decide)) (up_ne (by decide))) (w48.sign (by rw [r1, tm]; exact nab' _ _) (by rw [tm, if_neg (by omega)]))
        · have : zr ≠ 0 := by
            intro q
            rw [if_pos q] at c2
            exact absurd c2 (by decide)
          exact K _ (f2.up (by simp)) (w46.cong (up_ne (by decide)) (up_ne (by decide))) (w48.sign (by rw [r1, tm]; exact nab' _ _) (by rw [tm, if_pos (by omega)]))
    refine g_Di_divide_71 C Rm Q hp1 hp2 ⟨fun c => ?_, fun c => ?_⟩
    · rw [hx0.sg, hy0'.sg, hxy] at c
      exact c101 0 (by rw [td, if_pos c, if_neg (by omega)])
    · rw [hx0.sg, hy0'.sg, hxy] at c
      refine s_isZero (show kd 46 = (0, 0) from rfl) wq ⟨fun c2 => c101 0 ?_, fun c2 => c101 1 ?_⟩
      · have : zq = 0 := by
          by_cases q : zq = 0
          · exact q
          · rw [if_neg q] at c2; exact absurd rfl c2
        rw [td, if_neg c, if_neg (by omega)]
      · have : zq ≠ 0 := by
          intro q
          rw [if_pos q] at c2
          exact absurd c2 (by decide)
        rw [td, if_neg c, if_pos (by omega)]
  have hglt : ∀ {a b : Nat}, gc 32 a < gc 32 b → a < b := fun q => Nat.lt_of_lt_of_le (gc_self (by omega) _) ((gc_lt (by omega) _ _).mp q)
  have hgy0 : gc 32 y.natAbs ≠ 0 := fun q => by rw [gc_eq0] at q; omega
  refine g_Di_divide_0 C Rm Q hp1 hp2 ⟨fun c => ?_, fun c => ?_⟩
  · rw [hy.len, zi1, nI_eq (by omega) (by omega)] at c
    refine s_orderOfSizes hp1 hp2 hx hy ⟨fun q => ?_, fun q => ?_⟩
    · have hge : y.natAbs ≤ x.natAbs := by
        refine Nat.le_of_not_lt (fun z => ?_)
        unfold ordN at q
        rw [if_pos z] at q
        exact absurd q (by decide)
      exact s_divWords hp1 hp2 n16 n18 n26 n28 hx hy (by omega) (gc_mono (by omega) hge) hla sb.1 sb.2 (fun h2 zq zr f a b c d => end71 h2 zq zr f a b c d)
    · have hlt : x.natAbs < y.natAbs := by
        refine Nat.lt_of_not_le (fun z => q ?_)
        unfold ordN
        rw [if_neg (by omega)]
        split <;> decide
      refine s_setLong (show kd 46 = (0, 0) from rfl) (fun h3 f3 w3 => ?_)
      have hx3 := hx.fr (f3.mono (T := [46, 47, 48, 49, 50, 51]) (by simp)) hk1.1 hk1.2
      refine s_setTo (show kd 48 = (0, 0) from rfl) hp1 hx3 n18 (fun h4 f4 w4 => ?_)
      exact end71 h4 0 x ((f3.mono (by simp)).trans (f4.mono (by simp))) (by rw [Nat.div_eq_of_lt hlt]; rfl) (by rw [Nat.mod_eq_of_lt hlt]) (w3.fr f4 (by simp) (by simp)) w4
  · rw [hy.len, zi1, nI_eq (by omega) (by omega)] at c
    have hy1 := gc_one.mp c
    refine s_setTo (show kd 46 = (0, 0) from rfl) hp1 hx n16 (fun h5 f5 w5 => ?_)
    have hy5 := hy.fr (f5.mono (T := [46, 47, 48, 49, 50, 51]) (by simp)) hk2.1 hk2.2
    refine s_wordAt (k := 0) hp2 hy5.len (by omega) (by omega) ?_
    rw [if_pos (by omega), show dW (h5 (p2 + 1)) 0 = y.natAbs from hy5.one c]
    refine s_divWord (show kd 46 = (0, 0) from rfl) w5 hyp (by omega) (fun h7 f7 w7 => ?_)
    have hrl : x.natAbs % y.natAbs < 4294967296 := Nat.lt_of_lt_of_le (Nat.mod_lt _ hyp) (by omega)
    refine s_setLong (show kd 48 = (0, 0) from rfl) (fun h8 f8 w8 => ?_)
    rw [pf_lI (by omega)] at w8
    exact end71 h8 _ _ (((f5.mono (by simp)).trans (f7.mono (by simp))).trans (f8.mono (by simp))) (nab' _ _) (Int.natAbs_natCast _) (w7.fr f8 (by simp) (by simp)) w8
