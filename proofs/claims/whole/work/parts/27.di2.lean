/-! Division, module two: the guess, the subtraction, the addition back. -/
theorem kn_hi {P xl T3 vl T2 g : Nat} (hx : xl < P) (hg : T3 < g * T2) : (xl + P * T3) / (vl + P * T2) < g := by
  have hP : 0 < P := by omega
  refine Nat.div_lt_of_lt_mul ?_
  have h1 : P * (T3 + 1) ≤ P * (g * T2) := Nat.mul_le_mul_left P hg
  have h2 : P * (g * T2) ≤ (vl + P * T2) * g := by
    rw [Nat.add_mul, Nat.mul_assoc, Nat.mul_comm T2 g]
    omega
  rw [Nat.mul_add, Nat.mul_one] at h1
  omega
theorem kn_lo {P xl T3 vl T2 g : Nat} (hv : vl < P) (hT : 0 < T2) (hh : g * (T2 + 1) ≤ T3) : g ≤ (xl + P * T3) / (vl + P * T2) := by
  rw [Nat.le_div_iff_mul_le (by have := Nat.mul_le_mul_left P hT; omega)]
  have h1 : g * (vl + P * T2) ≤ g * (P * (T2 + 1)) := Nat.mul_le_mul_left g (by rw [Nat.mul_add]; omega)
  have h2 : g * (P * (T2 + 1)) = P * (g * (T2 + 1)) := Nat.mul_left_comm _ _ _
  have h3 : P * (g * (T2 + 1)) ≤ P * T3 := Nat.mul_le_mul_left P hh
  omega
/-- a guess that the three highest words allow is one too large at the most -/
theorem kn_ok {P xl T3 vl T2 g : Nat} (hv : vl < P) (hT : 0 < T2) (hg : g * T2 ≤ T3) (hs : g ≤ T2 + 1) : g ≤ (xl + P * T3) / (vl + P * T2) + 1 := by
  cases g with
  | zero => exact Nat.zero_le _
  | succ g =>
    have e1 : (g + 1) * T2 = g * T2 + T2 := by rw [Nat.add_mul, Nat.one_mul]
    have e2 : g * (T2 + 1) = g * T2 + g := by rw [Nat.mul_add, Nat.mul_one]
    have := kn_lo (P := P) (xl := xl) (T3 := T3) (vl := vl) (T2 := T2) (g := g) hv hT (by omega)
    omega
theorem kn_ok2 {P xl T3 vl T2 g : Nat} (hv : vl < P) (hT : 0 < T2) (hg : g * T2 ≤ T3) (hs : g ≤ 2 * T2 + 2) : g ≤ (xl + P * T3) / (vl + P * T2) + 2 := by
  rcases (show g ≤ 2 ∨ 2 ≤ g by omega) with q | q
  · exact Nat.le_trans q (Nat.le_add_left _ _)
  · obtain ⟨k, rfl⟩ := Nat.exists_eq_add_of_le q
    have e1 : (2 + k) * T2 = 2 * T2 + k * T2 := by rw [Nat.add_mul]
    have e2 : k * (T2 + 1) = k * T2 + k := by rw [Nat.mul_add, Nat.mul_one]
    have := kn_lo (P := P) (xl := xl) (T3 := T3) (vl := vl) (T2 := T2) (g := k) hv hT (by omega)
    omega
theorem uN_lN {n : Nat} (h : n < 2 ^ 64) : uN (lN n) = n := wb_tn h
theorem add63 {a : Nat} (h : a < 2 ^ 64) : (lN a + (-9223372036854775808)).toInt = (a : Int) - 9223372036854775808 := by
  have e := uN_int (lN a + (-9223372036854775808))
  rw [uN_add, uN_lN h, show uN (-9223372036854775808) = 9223372036854775808 from rfl] at e
  rw [e]
  split <;> omega
theorem ult63 {a b : Nat} (ha : a < 2 ^ 64) (hb : b < 2 ^ 64) : (lN a + (-9223372036854775808)) < (lN b + (-9223372036854775808)) ↔ a < b := by
  rw [Int64.lt_iff_toInt_lt, add63 ha, add63 hb]
  omega
def win (f : Nat → Int32) (p m : Nat) : Nat := ds 4294967296 (fun i => dW f (p + i)) m
theorem dW_at (f : Nat → Int32) (k : Nat) (v : Int32) (i : Nat) : dW (upd f k v) i = if i = k then un v else dW f i := by rw [dW_upd]
theorem win_0 (f : Nat → Int32) (p : Nat) : win f p 0 = 0 := rfl
theorem win_succ (f : Nat → Int32) (p m : Nat) : win f p (m + 1) = win f p m + dW f (p + m) * 4294967296 ^ m := ds_succ _ _ _
theorem win_low (f : Nat → Int32) (p m : Nat) : win f p (m + 1) = dW f p + 4294967296 * win f (p + 1) m := by
  unfold win
  rw [ds_low]
  congr 2
  exact ds_cong (fun k _ => by rw [show p + (k + 1) = p + 1 + k by omega])
theorem win_lt (f : Nat → Int32) (p m : Nat) : win f p m < 4294967296 ^ m := ds_lt (fun _ _ => dW_lt _ _)
theorem win_out {f : Nat → Int32} {p m i : Nat} {v : Int32} (h : i < p ∨ p + m ≤ i) : win (upd f i v) p m = win f p m := ds_cong (fun k hk => by rw [dW_upd]; exact if_neg (by omega))
theorem win_top (f : Nat → Int32) (p m : Nat) (v : Int32) : win (upd f (p + m) v) p (m + 1) = win f p m + un v * 4294967296 ^ m := by
  rw [win_succ, win_out (by omega), dW_at, if_pos rfl]
theorem win_cong {f g : Nat → Int32} {p m : Nat} (h : ∀ i, p ≤ i → i < p + m → f i = g i) : win f p m = win g p m := ds_cong (fun k hk => by unfold dW; rw [h (p + k) (by omega) (by omega)])
theorem win_ds (f : Nat → Int32) (m : Nat) : win f 0 m = ds 4294967296 (dW f) m := ds_cong (fun k _ => by rw [Nat.zero_add])
theorem win_split (f : Nat → Int32) (p m k : Nat) : win f p (m + k) = win f p m + 4294967296 ^ m * win f (p + m) k := by
  unfold win
  rw [ds_split]
  congr 2
  exact ds_cong (fun i _ => by rw [Nat.add_assoc])
theorem nI_subn (a b : Nat) (h : b ≤ a) (B : Int32) (hB : B = nI b) : nI a - B = nI (a - b) := by rw [hB, nI_sub h]
theorem s_guess {h : HP} {p n : Nat} {Φ : Int64 → HP → Prop} (hn : 2 ≤ n) (hpn : p + n ≤ 43) (hf : 2147483648 ≤ dW (h 51) (n - 1)) (hW : win (h 50) (p + 1) n < win (h 51) 0 n)
    (K : ∀ g, win (h 50) p (n + 1) / win (h 51) 0 n ≤ g → g ≤ win (h 50) p (n + 1) / win (h 51) 0 n + 1 → g < 4294967296 → Φ (lN g) h) : K_Di_guessQuotientWord [.ref 45, .int (nI (p + n)), .int (nI n)] h Φ := by
  refine I_Di_guessQuotientWord (fun X C Rm Q => ?_)
  obtain ⟨m, rfl⟩ := Nat.exists_eq_add_of_le hn
  have e1 : nI (p + (2 + m)) - 1 = nI (p + m + 1) := nI_subn _ 1 (by omega) 1 rfl |>.trans (congrArg nI (by omega))
  have e2 : nI (p + (2 + m)) - 2 = nI (p + m) := nI_subn _ 2 (by omega) 2 rfl |>.trans (congrArg nI (by omega))
  have e3 : nI (2 + m) - 1 = nI (m + 1) := nI_subn _ 1 (by omega) 1 rfl |>.trans (congrArg nI (by omega))
  have e4 : nI (2 + m) - 2 = nI m := nI_subn _ 2 (by omega) 2 rfl |>.trans (congrArg nI (by omega))
  have hX := win_split (h 50) p m 3
  have hV := win_split (h 51) 0 m 2
  have hX2 := win_split (h 50) p (m + 1) 2
  have hV2 := win_split (h 51) 0 (m + 1) 1
  have hWW := win_split (h 50) (p + 1) (m + 1) 1
  have t3 : win (h 50) (p + m) 3 = dW (h 50) (p + m) + 4294967296 * (dW (h 50) (p + m + 1) + 4294967296 * dW (h 50) (p + m + 2)) := by
    rw [win_low, win_low, win_low, win_0]
    rfl
  have t2 : win (h 51) (0 + m) 2 = dW (h 51) m + 4294967296 * dW (h 51) (m + 1) := by
    rw [win_low, win_low, win_0, Nat.mul_zero, Nat.add_zero, Nat.zero_add]
  have u3 : win (h 50) (p + (m + 1)) 2 = dW (h 50) (p + m + 1) + 4294967296 * dW (h 50) (p + m + 2) := by
    rw [win_low, win_low, win_0]
    rfl
  have u2 : win (h 51) (0 + (m + 1)) 1 = dW (h 51) (m + 1) := by
    rw [win_low, win_0, Nat.mul_zero, Nat.add_zero, Nat.zero_add]
  have w2 : win (h 50) (p + 1 + (m + 1)) 1 = dW (h 50) (p + m + 2) := by
    rw [win_low, win_0, Nat.mul_zero, Nat.add_zero]
    congr 1
    omega
  have hXlow : win (h 50) p (m + 3) = dW (h 50) p + 4294967296 * win (h 50) (p + 1) (m + 2) := win_low _ _ _
  have hd0 := dW_lt (h 50) p
  rw [show 2 + m - 1 = m + 1 by omega] at hf
  rw [show 2 + m + 1 = m + 3 by omega, show 2 + m = m + 2 by omega] at K
  rw [show 2 + m = m + 2 by omega] at hW
  have a0 := dW_lt (h 50) (p + m)
  have a1 := dW_lt (h 50) (p + m + 1)
  have a2 := dW_lt (h 50) (p + m + 2)
  have b0 := dW_lt (h 51) m
  have b1 := dW_lt (h 51) (m + 1)
  have l1 := win_lt (h 50) p m
  have l2 := win_lt (h 51) 0 m
  have l3 := win_lt (h 50) p (m + 1)
  have l4 := win_lt (h 51) 0 (m + 1)
  have l5 := win_lt (h 50) (p + 1) (m + 1)
  rw [t3] at hX
  rw [t2] at hV
  rw [show m + 1 + 2 = m + 3 from rfl, u3] at hX2
  rw [show m + 1 + 1 = m + 2 from rfl, u2] at hV2
  rw [show m + 1 + 1 = m + 2 from rfl, w2] at hWW
  have ew0 : un (h 50 (p + m)) = dW (h 50) (p + m) := rfl
  have ew1 : un (h 50 (p + m + 1)) = dW (h 50) (p + m + 1) := rfl
  have ew2 : un (h 50 (p + (2 + m))) = dW (h 50) (p + m + 2) := by unfold dW; rw [show p + (2 + m) = p + m + 2 by omega]
  have ev0 : un (h 51 m) = dW (h 51) m := rfl
  have ev1 : un (h 51 (m + 1)) = dW (h 51) (m + 1) := rfl
  refine g_Di_guessQuotientWord_0 C Rm Q ?_
  rw [e1, e3, e4]
  refine ⟨vp_in_nI (by omega) (by omega), vp_in_nI (by omega) (by omega), vp_in_nI (by omega) (by omega), vp_in_nI (by omega) (by omega), ?_⟩
  rw [nI_cl (by omega), nI_cl (by omega), nI_cl (by omega), nI_cl (by omega), un_mask, un_mask, un_mask, un_mask, ew1, ew2, ev0, ev1]
  generalize dW (h 50) (p + m) = r0 at *
  generalize dW (h 50) (p + m + 1) = r1 at *
  generalize dW (h 50) (p + m + 2) = r2 at *
  generalize dW (h 51) m = y0 at *
  generalize dW (h 51) (m + 1) = y1 at *
  generalize win (h 50) p (m + 3) = X3 at *
  generalize win (h 51) 0 (m + 2) = V2 at *
  generalize win (h 50) p m = xl at *
  generalize win (h 51) 0 m = vl at *
  generalize win (h 50) p (m + 1) = xl2 at *
  generalize win (h 51) 0 (m + 1) = vl2 at *
  generalize win (h 50) (p + 1) (m + 1) = wl at *
  generalize win (h 50) (p + 1) (m + 2) = ww at *
  have hP : 0 < 4294967296 ^ m := Nat.pow_pos (by decide)
  have hP2 : 0 < 4294967296 ^ (m + 1) := Nat.pow_pos (by decide)
  generalize 4294967296 ^ m = P at *
  generalize 4294967296 ^ (m + 1) = P2 at *
  have htop : r2 ≤ y1 := by
    refine Nat.le_of_not_lt (fun q => ?_)
    have : P2 * (y1 + 1) ≤ P2 * r2 := Nat.mul_le_mul_left _ q
    rw [Nat.mul_add, Nat.mul_one] at this
    omega
  have hqB : X3 / V2 < 4294967296 := by
    refine Nat.div_lt_of_lt_mul ?_
    have h1 : X3 < 4294967296 * (ww + 1) := by omega
    have h2 : 4294967296 * (ww + 1) ≤ 4294967296 * V2 := Nat.mul_le_mul_left _ hW
    rw [Nat.mul_comm V2]
    omega
  have eor : lshl (lN r2) 32 ||| lN r1 = lN (r1 + 4294967296 * r2) := by
    rw [l32, lshl_lN _ (by omega), g_or (k := 32) (p := 4294967296) rfl a1 (by omega)]
    congr 1
    omega
  rw [eor]
  have htwo : r1 + 4294967296 * r2 < 18446744073709551616 := by omega
  generalize htw : r1 + 4294967296 * r2 = two at *
  refine s_quot (by omega) (by omega) (by omega) ?_
  rw [lN_mul, lN_sub (Nat.div_mul_le_self _ _)]
  have hdm := Nat.div_add_mod two y1
  rw [Nat.mul_comm] at hdm
  have q0 : 0 ≤ X3 / V2 := Nat.zero_le _
  have q00 : 0 ≤ two / y1 := Nat.zero_le _
  have hmlt := Nat.mod_lt two (show 0 < y1 by omega)
  have g0up : two / y1 ≤ 4294967297 := by
    rw [← Nat.lt_succ_iff, Nat.div_lt_iff_lt_mul (by omega)]
    omega
  have hqg0 : X3 / V2 ≤ two / y1 := by
    have := kn_hi (P := P2) (xl := xl2) (T3 := two) (vl := vl2) (T2 := y1) (g := two / y1 + 1) l3 (by rw [Nat.add_mul]; omega)
    rw [← hX2, ← hV2] at this
    omega
  have hg0q : two / y1 ≤ X3 / V2 + 2 := by
    have := kn_ok2 (P := P2) (xl := xl2) (T3 := two) (vl := vl2) (T2 := y1) (g := two / y1) l4 (by omega) (Nat.div_mul_le_self _ _) (by omega)
    rwa [← hX2, ← hV2] at this
  have loop : ∀ (r step g left : Nat), r + step = 2 → left + g * y1 = two → X3 / V2 ≤ g → g ≤ X3 / V2 + r → g ≤ 4294967297 → left < 4294967296 * (step + 1) →
      Wg X 0 0 h [(0, .ref 45), (1, .int (nI (p + (2 + m)))), (2, .int (nI (2 + m))), (3, .long (lN two)), (5, .long (lN y1)), (7, .long (lN y0)), (9, .long (lN g)), (11, .long (lN left)), (13, .int (nI step))] [] 79 := by
    intro r
    induction r with
    | zero =>
      intro step g left hr hl h1 h2 h3 h4
      refine g_Di_guessQuotientWord_79 C Rm Q ⟨fun _ => K g h1 (by omega) (by omega), fun q => ?_⟩
      rw [show (2 : Int32) = nI 2 from rfl, nI_leI (by omega) (by omega)] at q
      omega
    | succ r ih =>
      intro step g left hr hl h1 h2 h3 h4
      have fin : left ≥ 4294967296 ∨ (g < 4294967296 ∧ g * y0 ≤ left * 4294967296 + r0) → Φ (lN g) h := by
        intro hc
        have hgB : g < 4294967296 := by
          rcases hc with q | q
          · have h5 : g * y1 < 4294967296 * y1 := by omega
            exact Nat.lt_of_mul_lt_mul_right h5
          · exact q.1
        have hy : g * y0 ≤ left * 4294967296 + r0 := by
          rcases hc with q | q
          · have : g * y0 ≤ 4294967296 * 4294967296 := Nat.mul_le_mul (by omega) (by omega)
            omega
          · exact q.2
        have e5 : g * (y0 + 4294967296 * y1) = g * y0 + 4294967296 * (g * y1) := by rw [Nat.mul_add, Nat.mul_left_comm]
        have := kn_ok (P := P) (xl := xl) (T3 := r0 + 4294967296 * two) (vl := vl) (T2 := y0 + 4294967296 * y1) (g := g) l2 (by omega) (by omega) (by omega)
        rw [← hX, ← hV] at this
        exact K g h1 this hgB
      have dec : X3 / V2 < g → left < 4294967296 → Wg X 0 0 h [(0, .ref 45), (1, .int (nI (p + (2 + m)))), (2, .int (nI (2 + m))), (3, .long (lN two)), (5, .long (lN y1)), (7, .long (lN y0)), (9, .long (lN g - 1)), (11, .long (lN left + lN y1)), (13, .int (nI step + 1))] [] 79 := by
        intro q q2
        rw [show (1 : Int64) = lN 1 from rfl, lN_sub (by omega), lN_add, nI_1]
        refine ih (step + 1) (g - 1) (left + y1) (by omega) ?_ (by omega) (by omega) (by omega) (by omega)
        obtain ⟨k, rfl⟩ := Nat.exists_eq_add_of_lt (Nat.lt_of_le_of_lt (Nat.zero_le _) q)
        rw [Nat.zero_add, Nat.add_sub_cancel]
        rw [Nat.zero_add, Nat.add_mul, Nat.one_mul] at hl
        omega
      refine g_Di_guessQuotientWord_79 C Rm Q ⟨fun q => ?_, fun q => ⟨fun q2 => ?_, fun q2 => ⟨?_, fun q3 => ?_, fun q3 => ⟨fun q4 => ?_, fun q4 => ?_⟩⟩⟩⟩
      · rw [show (2 : Int32) = nI 2 from rfl, nI_leI (by omega) (by omega)] at q
        omega
      · rw [lg_cmp_ge, show (4294967296 : Int64) = lN 4294967296 from rfl, llN (by omega) (by omega)] at q2
        exact fin (Or.inl q2)
      · rw [e2]
        exact vp_in_nI (by omega) (by omega)
      · rw [lg_cmp_ge, show (4294967296 : Int64) = lN 4294967296 from rfl, llN (by omega) (by omega)] at q2 q3
        exact dec (by omega) (by omega)
      · rw [lg_cmp_ge, show (4294967296 : Int64) = lN 4294967296 from rfl, llN (by omega) (by omega)] at q2 q3
        have hgy : g * y0 ≤ 4294967295 * 4294967295 := Nat.mul_le_mul (by omega) (by omega)
        rw [e2, nI_cl (by omega), un_mask, ew0, l32, lshl_lN _ (by omega), g_or (k := 32) (p := 4294967296) rfl a0 (by omega), lN_mul, lg_cmp_gt, ult63 (by omega) (by omega)] at q4
        refine dec ?_ (by omega)
        have e5 : g * (y0 + 4294967296 * y1) = g * y0 + 4294967296 * (g * y1) := by rw [Nat.mul_add, Nat.mul_left_comm]
        have := kn_hi (P := P) (xl := xl) (T3 := r0 + 4294967296 * two) (vl := vl) (T2 := y0 + 4294967296 * y1) (g := g) l1 (by omega)
        rwa [← hX, ← hV] at this
      · rw [lg_cmp_ge, show (4294967296 : Int64) = lN 4294967296 from rfl, llN (by omega) (by omega)] at q2 q3
        have hgy : g * y0 ≤ 4294967295 * 4294967295 := Nat.mul_le_mul (by omega) (by omega)
        rw [e2, nI_cl (by omega), un_mask, ew0, l32, lshl_lN _ (by omega), g_or (k := 32) (p := 4294967296) rfl a0 (by omega), lN_mul, lg_cmp_gt, ult63 (by omega) (by omega)] at q4
        exact fin (Or.inr ⟨by omega, by omega⟩)
  have := loop 2 0 (two / y1) (two - two / y1 * y1) (by omega) (Nat.sub_add_cancel (Nat.div_mul_le_self _ _)) hqg0 hg0q g0up (by omega)
  exact this
theorem un_l2i (x : Int64) : un (Int64.toInt32 x) = uN x % 4294967296 := by
  have q := uN_lt x
  have et : x = lN (uN x) := uN_inj (by rw [uN_lN q])
  rw [et, lN_i, un_nI, ← et]
/-- one word less two others: what is left and what is borrowed -/
theorem sub_word {r c b : Nat} (hr : r < 4294967296) (hc : c < 4294967296) (hb : b ≤ 1) : ∃ v k, v < 4294967296 ∧ k ≤ 1 ∧ v + c + b = r + k * 4294967296 ∧ Int64.toInt32 (lN r - lN c - lN b) = nI v ∧ ((0 : Int64) ≤ lN r - lN c - lN b ↔ k = 0) := by
  have e1 := pf_lI (a := r) (by omega)
  have e2 := pf_lI (a := c) (by omega)
  have e3 := pf_lI (a := b) (by omega)
  have e0 : (lN r - lN c - lN b).toInt = (r : Int) - c - b := by
    rw [fb_subL (by rw [fb_subL (by omega) (by omega)]; omega) (by rw [fb_subL (by omega) (by omega)]; omega), fb_subL (by omega) (by omega), e1, e2, e3]
  have hu := uN_int (lN r - lN c - lN b)
  have hu2 := uN_lt (lN r - lN c - lN b)
  rw [e0] at hu
  by_cases q : c + b ≤ r
  · refine ⟨r - c - b, 0, by omega, by omega, by omega, nI_is ?_, ?_⟩
    · rw [un_l2i]
      split at hu <;> omega
    · rw [Int64.le_iff_toInt_le, e0]
      constructor
      · intro; rfl
      · intro _
        show (0 : Int) ≤ _
        omega
  · refine ⟨r + 4294967296 - c - b, 1, by omega, by omega, by omega, nI_is ?_, ?_⟩
    · rw [un_l2i]
      split at hu <;> omega
    · rw [Int64.le_iff_toInt_le, e0]
      constructor
      · intro z
        have : (0 : Int) ≤ (r : Int) - c - b := z
        omega
      · intro z
        omega
theorem win_sub (f : Nat → Int32) (p i : Nat) (v : Nat) (hv : v < 4294967296) : win (upd f (p + i) (nI v)) p (i + 1) = win f p i + v * 4294967296 ^ i := by rw [win_top, un_nIl hv]
theorem s_subT {h : HP} {d p n : Nat} {Φ : Int32 → HP → Prop} (hd : d < 4294967296) (hpn : p + n ≤ 43)
    (K : ∀ (v : Int32) (k : Nat) (h2 : HP), Fr [50] h h2 → (v = 0 ∨ v = 1) → (v = 1 ↔ k = 0) → k ≤ 1 → (∀ i, i < p ∨ p + n < i → h2 50 i = h 50 i) → win (h2 50) p (n + 1) + d * win (h 51) 0 n = win (h 50) p (n + 1) + k * 4294967296 ^ (n + 1) → Φ v h2) : K_Di_subtractTimes [.ref 45, .long (lN d), .int (nI p), .int (nI n)] h Φ := by
  refine I_Di_subtractTimes (fun X C Rm Q => ?_)
  have loop : ∀ (r i c b : Nat) (h0 : HP), r + i = n → Fr [50] h h0 → c < 4294967296 → b ≤ 1 → (∀ j, j < p ∨ p + i ≤ j → h0 50 j = h 50 j) → win (h0 50) p i + d * win (h 51) 0 i = win (h 50) p i + (c + b) * 4294967296 ^ i →
      Wg X 0 0 h0 [(0, .ref 45), (1, .long (lN d)), (3, .int (nI p)), (4, .int (nI n)), (5, .long (lN c)), (7, .long (lN b)), (9, .int (nI i))] [] 9 := by
    intro r
    induction r with
    | zero =>
      intro i c b h0 hr f hc hb ho hv
      have hin : i = n := by omega
      subst hin
      refine g_Di_subtractTimes_9 C Rm Q ⟨fun _ => ?_, fun q => by rw [nI_leI (by omega) (by omega)] at q; omega⟩
      rw [nI_add]
      refine ⟨vp_in_nI (by omega) (by omega), vp_in_nI (by omega) (by omega), ?_⟩
      rw [nI_cl (by omega), un_mask]
      obtain ⟨v, k, z1, z2, z3, z4, z5⟩ := sub_word (un_lt (h0 50 (p + i))) hc hb
      have fin : ∀ v0 : Int32, (v0 = 0 ∨ v0 = 1) → (v0 = 1 ↔ k = 0) → Φ v0 (up h0 50 (p + i) (nI v)) := by
        intro v0 y1 y2
        refine K v0 k _ (f.up (by simp)) y1 y2 z2 (fun j hj => by rw [up_at_ne (by omega)]; exact ho j (by omega)) ?_
        rw [up_self, win_sub _ _ _ _ z1, win_succ (h 50)]
        have e1 : dW (h 50) (p + i) = un (h0 50 (p + i)) := by unfold dW; rw [ho (p + i) (by omega)]
        have e2 : (v + c + b) * 4294967296 ^ i = (un (h0 50 (p + i)) + k * 4294967296) * 4294967296 ^ i := by rw [z3]
        rw [e1, Nat.pow_succ]
        rw [Nat.add_mul, Nat.add_mul, Nat.add_mul, Nat.mul_assoc, Nat.mul_comm 4294967296] at e2
        rw [Nat.add_mul] at hv
        omega
      rw [z4]
      refine ⟨fun q => ?_, fun q => ?_⟩
      · rw [lg_cmp_lt, Int64.lt_iff_toInt_lt] at q
        refine fin 0 (Or.inl rfl) ⟨fun y => absurd y (by decide), fun y => ?_⟩
        have := z5.mpr y
        rw [Int64.le_iff_toInt_le] at this
        omega
      · rw [lg_cmp_lt, Int64.lt_iff_toInt_lt] at q
        refine fin 1 (Or.inr rfl) ⟨fun _ => z5.mp ?_, fun _ => rfl⟩
        rw [Int64.le_iff_toInt_le]
        omega
    | succ r ih =>
      intro i c b h0 hr f hc hb ho hv
      refine g_Di_subtractTimes_9 C Rm Q ⟨fun q => by rw [nI_leI (by omega) (by omega)] at q; omega, fun _ => ?_⟩
      rw [nI_add]
      refine ⟨vp_in_nI (by omega) (by omega), vp_in_nI (by omega) (by omega), vp_in_nI (by omega) (by omega), ?_⟩
      have e51 : h0 51 = h 51 := f 51 (by simp)
      rw [nI_cl (by omega), nI_cl (by omega), un_mask, un_mask, e51]
      have b1 := mul_lt_B hd (un_lt (h 51 i))
      rw [lN_mul, lN_add]
      have em : lN (c + d * un (h 51 i)) &&& 4294967295 = lN ((c + d * un (h 51 i)) % 4294967296) := uN_inj (by rw [uN_lo, uN_lN (by omega), uN_lN (by omega)])
      rw [em, l32, lushr_lN (by omega) (by omega), nI_1]
      generalize hs : c + d * un (h 51 i) = s at *
      obtain ⟨v, k, z1, z2, z3, z4, z5⟩ := sub_word (un_lt (h0 50 (p + i))) (Nat.mod_lt s (show 0 < 4294967296 by decide)) hb
      rw [z4]
      have go : Wg X 0 0 (up h0 50 (p + i) (nI v)) [(0, .ref 45), (1, .long (lN d)), (3, .int (nI p)), (4, .int (nI n)), (5, .long (lN (s / 4294967296))), (7, .long (lN k)), (9, .int (nI (i + 1)))] [] 9 := by
        refine ih (i + 1) (s / 4294967296) k _ (by omega) (f.up (by simp)) (by omega) z2 (fun j hj => by rw [up_at_ne (by omega)]; exact ho j (by omega)) ?_
        rw [up_self, win_sub _ _ _ _ z1, win_succ (h 50), win_succ (h 51), Nat.zero_add]
        have e1 : dW (h 50) (p + i) = un (h0 50 (p + i)) := by unfold dW; rw [ho (p + i) (by omega)]
        have e3 : dW (h 51) i = un (h 51 i) := rfl
        rw [e1, e3, Nat.pow_succ]
        have e4 : v + s + b = un (h0 50 (p + i)) + (s / 4294967296 + k) * 4294967296 := by omega
        have e2 : (v + s + b) * 4294967296 ^ i = (un (h0 50 (p + i)) + (s / 4294967296 + k) * 4294967296) * 4294967296 ^ i := by rw [e4]
        have es : s * 4294967296 ^ i = c * 4294967296 ^ i + d * (un (h 51 i) * 4294967296 ^ i) := by rw [← hs, Nat.add_mul, Nat.mul_assoc]
        rw [Nat.add_mul, Nat.add_mul, Nat.add_mul, Nat.mul_assoc (s / 4294967296 + k), Nat.mul_comm 4294967296] at e2
        rw [Nat.add_mul] at hv
        rw [Nat.mul_add]
        omega
      refine ⟨fun q => ?_, fun q => ?_⟩
      · rw [lg_cmp_ge] at q
        rw [z5.mp q] at go
        exact go
      · rw [lg_cmp_ge] at q
        have : k = 1 := by
          have : ¬ k = 0 := fun y => q (z5.mpr y)
          omega
        rw [this] at go
        exact go
  exact g_Di_subtractTimes_0 C Rm Q (loop n 0 0 0 h (by omega) (Fr.rf _ _) (by omega) (by omega) (fun _ _ => rfl) (by simp [win_0]))
theorem s_addBack {h : HP} {p n : Nat} {Φ : HP → Prop} (hpn : p + n ≤ 43)
    (K : ∀ (k : Nat) (h2 : HP), Fr [50] h h2 → (∀ i, i < p ∨ p + n < i → h2 50 i = h 50 i) → win (h2 50) p (n + 1) + k * 4294967296 ^ (n + 1) = win (h 50) p (n + 1) + win (h 51) 0 n → Φ h2) : K_Di_addBack [.ref 45, .int (nI p), .int (nI n)] h Φ := by
  refine I_Di_addBack (fun X C Rm Q => ?_)
  have loop : ∀ (r i c : Nat) (h0 : HP), r + i = n → Fr [50] h h0 → c ≤ 1 → (∀ j, j < p ∨ p + i ≤ j → h0 50 j = h 50 j) → win (h0 50) p i + c * 4294967296 ^ i = win (h 50) p i + win (h 51) 0 i →
      Wg X 0 0 h0 [(0, .ref 45), (1, .int (nI p)), (2, .int (nI n)), (3, .long (lN c)), (5, .int (nI i))] [] 5 := by
    intro r
    induction r with
    | zero =>
      intro i c h0 hr f hc ho hv
      have hin : i = n := by omega
      subst hin
      refine g_Di_addBack_5 C Rm Q ⟨fun _ => ?_, fun q => by rw [nI_leI (by omega) (by omega)] at q; omega⟩
      rw [nI_add]
      refine ⟨vp_in_nI (by omega) (by omega), vp_in_nI (by omega) (by omega), ?_⟩
      rw [nI_cl (by omega), lN_i]
      have b1 := un_lt (h0 50 (p + i))
      generalize hu : un (h0 50 (p + i)) = u at *
      rw [show h0 50 (p + i) = nI u from nI_is hu, nI_add, ← nI_mod]
      refine K ((u + c) / 4294967296) _ (f.up (by simp)) (fun j hj => by rw [up_at_ne (by omega)]; exact ho j (by omega)) ?_
      rw [up_self, win_sub _ _ _ _ (Nat.mod_lt _ (by decide)), win_succ (h 50)]
      have e1 : dW (h 50) (p + i) = u := by unfold dW; rw [← ho (p + i) (by omega), hu]
      have e2 := carry_step (P := 4294967296 ^ i) (show u + c = (u + c) % 4294967296 + (u + c) / 4294967296 * 4294967296 by omega)
      rw [e1, Nat.pow_succ]
      rw [Nat.add_mul] at e2
      omega
    | succ r ih =>
      intro i c h0 hr f hc ho hv
      refine g_Di_addBack_5 C Rm Q ⟨fun q => by rw [nI_leI (by omega) (by omega)] at q; omega, fun _ => ?_⟩
      rw [nI_add]
      refine ⟨vp_in_nI (by omega) (by omega), vp_in_nI (by omega) (by omega), vp_in_nI (by omega) (by omega), ?_⟩
      have e51 : h0 51 = h 51 := f 51 (by simp)
      rw [nI_cl (by omega), nI_cl (by omega), un_mask, un_mask, e51, lN_add, lN_add, lN_i]
      have b1 := un_lt (h0 50 (p + i))
      have b2 := un_lt (h 51 i)
      rw [l32, lushr_lN (by omega) (by omega), nI_1]
      refine ih (i + 1) ((c + (un (h0 50 (p + i)) + un (h 51 i))) / 4294967296) _ (by omega) (f.up (by simp)) (by omega) (fun j hj => by rw [up_at_ne (by omega)]; exact ho j (by omega)) ?_
      rw [up_self, win_top, win_succ (h 50), win_succ (h 51), Nat.zero_add]
      have e1 : dW (h 50) (p + i) = un (h0 50 (p + i)) := by unfold dW; rw [ho (p + i) (by omega)]
      have e3 : dW (h 51) i = un (h 51 i) := rfl
      rw [e1, e3, Nat.pow_succ]
      have e2 := carry_step (P := 4294967296 ^ i) (un_dm (c + (un (h0 50 (p + i)) + un (h 51 i))))
      rw [Nat.add_mul, Nat.add_mul] at e2
      omega
  exact g_Di_addBack_0 C Rm Q (loop n 0 0 h (by omega) (Fr.rf _ _) (by omega) (fun _ _ => rfl) (by simp [win_0]))
