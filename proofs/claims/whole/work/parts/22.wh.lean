/-! What the methods of Whole do. -/
theorem lushr_lN {n k : Nat} (hn : n < 2 ^ 64) (hk : k < 64) : lushr (lN n) (nI k) = lN (n / 2 ^ k) := wb_shr hn hk
theorem lshl_lN (n : Nat) {k : Nat} (hk : k < 64) : lshl (lN n) (nI k) = lN (n * 2 ^ k) := wb_shl n hk
theorem l32 : (32 : Int32) = nI 32 := rfl
theorem kd_ne {a b x n y m : Nat} (h1 : kd a = (x, n)) (h2 : kd b = (y, m)) (h : x ≠ y) : a ≠ b := fun e => by
  rw [e, h2] at h1
  exact h (Prod.mk.inj h1).1.symm
theorem sg_ne {z : Int} : ((if z < 0 then 1 else 0 : Int32) = 0) ↔ 0 ≤ z := by
  split
  · exact ⟨fun q => absurd q (by decide), fun q => by omega⟩
  · exact ⟨fun _ => by omega, fun _ => rfl⟩
theorem sg_01 (z : Int) : (if z < 0 then 1 else 0 : Int32) = 0 ∨ (if z < 0 then 1 else 0 : Int32) = 1 := by split <;> simp
theorem s_wordAt {h : HP} {w k n : Nat} {Φ : Int64 → HP → Prop} (hw : kd w = (0, 0)) (hn : h w 1 = nI n) (hn2 : n ≤ 44) (hk : k < 2147483648) (K : Φ (lN (if k < n then dW (h (w + 1)) k else 0)) h) : K_Wh_wordAt [.ref w, .int (nI k)] h Φ := by
  refine I_Wh_wordAt (fun X C Rm Q => ?_)
  refine g_Wh_wordAt_0 C Rm Q hw ⟨fun c => ?_, fun c => ?_⟩
  · rw [hn, nI_leI (by omega) (by omega)] at c
    rw [if_neg (by omega)] at K
    exact K
  · rw [hn, nI_leI (by omega) (by omega)] at c
    refine ⟨vp_in_nI (by omega) (by omega), ?_⟩
    rw [nI_clamp (by omega), un_mask]
    rw [if_pos (by omega)] at K
    exact K
theorem s_trim {h : HP} {w n : Nat} {Φ : HP → Prop} (hw : kd w = (0, 0)) (hn : n ≤ 44) (hb : h w 2 = 0 ∨ h w 2 = 1) (K : ∀ h2, Fr [w] h h2 → WN h2 w (if h w 2 = 0 then (ds 4294967296 (dW (h (w + 1))) n : Int) else -(ds 4294967296 (dW (h (w + 1))) n : Int)) → Φ h2) : K_Wh_trim [.ref w, .int (nI n)] h Φ := by
  refine I_Wh_trim (fun X C Rm Q => ?_)
  refine g_Wh_trim_0 C Rm Q hw ?_
  have done : ∀ (n0 : Nat) (h0 : HP), n0 ≤ 44 → Fr [w] h h0 → h0 w 2 = h w 2 → h0 w 1 = nI n0 → ds 4294967296 (dW (h (w + 1))) n0 = ds 4294967296 (dW (h (w + 1))) n → (n0 = 0 ∨ dW (h (w + 1)) (n0 - 1) ≠ 0) → Wg X 0 0 h0 [(0, .ref w), (1, .int (nI n))] [] 39 := by
    intro n0 h0 b1 b2 b3 b4 b5 b6
    have hg : gc 32 (ds 4294967296 (dW (h (w + 1))) n) = n0 := by rw [← b5]; exact gc_ds32 (fun k _ => dW_lt _ _) b6
    have hwd : h0 (w + 1) = h (w + 1) := b2 (w + 1) (by simp)
    have fin : ∀ (v : Int32), ((n0 = 0 ∨ h w 2 = 0) → v = 0) → (n0 ≠ 0 → h w 2 = 1 → v = 1) → Φ (up h0 w 2 v) := by
      intro v v0 v1
      refine K _ (b2.up (by simp)) ?_
      have key : ∀ z : Int, z.natAbs = ds 4294967296 (dW (h (w + 1))) n → v = (if z < 0 then 1 else 0) → WN (up h0 w 2 v) w z := by
        intro z hz hv
        refine ⟨?_, ?_, ?_, ?_⟩
        · rw [up_at_ne (by omega), b4, hz, hg]
        · rw [up_at, hv]
        · rw [up_ne (by omega), hwd, hz, hg, b5]
        · rw [hz, hg]; exact b1
      rcases hb with hb | hb
      · rw [if_pos hb]
        exact key _ (by simp) (by rw [v0 (Or.inr hb), if_neg (by omega)])
      · rw [if_neg (by rw [hb]; decide)]
        by_cases hz : n0 = 0
        · have : ds 4294967296 (dW (h (w + 1))) n = 0 := by rw [← b5, hz]; rfl
          refine key _ (by simp) ?_
          rw [v0 (Or.inl hz), this]
          rfl
        · have hp : 0 < ds 4294967296 (dW (h (w + 1))) n := Nat.pos_of_ne_zero (fun q => hz (by rw [← hg, q]; rfl))
          exact key _ (by simp) (by rw [v1 hz hb, if_pos (by omega)])
    refine g_Wh_trim_39 C Rm Q hw ⟨fun c => ?_, fun c => ⟨fun c2 => ?_, fun c2 => ?_⟩⟩
    · rw [b3] at c
      exact fin 0 (fun _ => rfl) (fun _ q => by rw [q] at c; exact absurd c (by decide))
    · rw [b4, nI_le0 (by omega)] at c2
      exact fin 0 (fun _ => rfl) (fun q _ => absurd c2 (by omega))
    · rw [b4, nI_le0 (by omega)] at c2
      rw [b3] at c
      exact fin 1 (fun q => by rcases q with q | q; exact absurd q (by omega); exact absurd q c) (fun _ _ => rfl)
  have loop : ∀ (n0 : Nat) (h0 : HP), n0 ≤ 44 → Fr [w] h h0 → h0 w 2 = h w 2 → h0 w 1 = nI n0 → ds 4294967296 (dW (h (w + 1))) n0 = ds 4294967296 (dW (h (w + 1))) n → Wg X 0 0 h0 [(0, .ref w), (1, .int (nI n))] [] 5 := by
    intro n0
    induction n0 with
    | zero =>
      intro h0 b1 b2 b3 b4 b5
      refine g_Wh_trim_5 C Rm Q hw ⟨fun c => done _ h0 b1 b2 b3 b4 b5 (Or.inl rfl), fun c => ?_⟩
      rw [b4] at c
      exact absurd (by decide) c
    | succ n0 ih =>
      intro h0 b1 b2 b3 b4 b5
      have hwd : h0 (w + 1) = h (w + 1) := b2 (w + 1) (by simp)
      refine g_Wh_trim_5 C Rm Q hw ⟨fun c => ?_, fun c => ?_⟩
      · rw [b4, nI_le0 (by omega)] at c
        omega
      · rw [b4, nI_pred]
        refine ⟨vp_in_nI (by omega) (by omega), fun c2 => ?_, fun c2 => ?_⟩
        · rw [nI_clamp (by omega), hwd] at c2
          exact done _ h0 b1 b2 b3 b4 b5 (Or.inr (fun q => c2 (un_eq0.mpr q)))
        · rw [nI_clamp (by omega), hwd] at c2
          refine ih _ (by omega) (b2.up (by simp)) (by rw [up_at_ne (by omega)]; exact b3) (up_at _ _ _ _) ?_
          rw [ds_succ, show dW (h (w + 1)) n0 = 0 from un_eq0.mp c2] at b5
          omega
        
  exact loop n _ hn ((Fr.rf _ _).up (by simp)) (up_at_ne (by omega)) (up_at _ _ _ _) rfl
theorem neg_uN (v : Int64) (h : v.toInt < 0) : uN (-v) = (-v.toInt).toNat := by
  have e : uN (-v) = (-v).toBitVec.toNat := rfl
  rw [e, Int64.toBitVec_neg, BitVec.toNat_neg]
  have e2 := uN_int v
  have e3 := uN_lt v
  have e4 : uN v = v.toBitVec.toNat := rfl
  split at e2 <;> omega
theorem s_setLong {h : HP} {w : Nat} {v : Int64} {Φ : HP → Prop} (hw : kd w = (0, 0)) (K : ∀ h2, Fr [w, w + 1] h h2 → WN h2 w v.toInt → Φ h2) : K_Wh_setLong [.ref w, .long v] h Φ := by
  refine I_Wh_setLong (fun X C Rm Q => ?_)
  have core : ∀ (t s : Int64) (b : Int32), (b = 0 ∨ b = 1) → (if b = 0 then (uN t : Int) else -(uN t : Int)) = v.toInt → Wg X 0 0 (up h w 2 b) [(0, .ref w), (1, .long v)] [.long t] 28 := by
    intro t s b hb hv
    have ht := uN_lt t
    have et : t = lN (uN t) := uN_inj (by rw [show uN (lN (uN t)) = (lN (uN t)).toBitVec.toNat from rfl, wb_tn ht])
    refine g_Wh_setLong_28 C Rm Q hw ⟨vp0 (by omega) (by omega), vp_in_nI (n := 1) (by omega) (by omega), ?_⟩
    rw [c_0, c_1]
    have hd : ∀ k, k < 2 → dW (up (up (up h w 2 b) (w + 1) 0 (Int64.toInt32 t)) (w + 1) 1 (Int64.toInt32 (lushr t 32)) (w + 1)) k = if k = 0 then uN t % 4294967296 else uN t / 4294967296 := by
      intro k hk
      unfold dW
      have e1 : un (Int64.toInt32 t) = uN t % 4294967296 := by rw [et, lN_i, un_nI, ← et]
      have e2 : un (Int64.toInt32 (lushr t 32)) = uN t / 4294967296 := by
        rw [et, l32, lushr_lN (by omega) (by omega), lN_i, un_nI, ← et]
        omega
      rcases (show k = 0 ∨ k = 1 by omega) with rfl | rfl
      · rw [up_at_ne (by omega), up_at, e1]; rfl
      · rw [up_at, e2]; rfl
    have hval : ds 4294967296 (dW (up (up (up h w 2 b) (w + 1) 0 (Int64.toInt32 t)) (w + 1) 1 (Int64.toInt32 (lushr t 32)) (w + 1))) 2 = uN t := by
      rw [ds_succ, ds_succ, ds_0, hd 0 (by omega), hd 1 (by omega)]
      simp only [if_true]
      rw [if_neg (by omega)]
      omega
    have hb2 : up (up (up h w 2 b) (w + 1) 0 (Int64.toInt32 t)) (w + 1) 1 (Int64.toInt32 (lushr t 32)) w 2 = b := by
      rw [up_ne (by omega), up_ne (by omega), up_at]
    refine s_trim (n := 2) hw (by omega) (by rw [hb2]; exact hb) (fun h2 f W2 => ?_)
    rw [hb2, hval, hv] at W2
    exact K h2 ((((Fr.rf _ _).up (by simp)).up (by simp)).up (by simp) |>.trans (f.mono (by simp))) W2
  refine g_Wh_setLong_0 C Rm Q hw ⟨fun c => ⟨fun c2 => ?_, fun c2 => ?_⟩, fun c => ⟨fun c2 => ?_, fun c2 => ?_⟩⟩
  · rw [lg_cmp_ge, Int64.le_iff_toInt_le] at c
    refine core v v 0 (Or.inl rfl) ?_
    have := uN_int v
    have := uN_lt v
    have c3 : (0 : Int) ≤ v.toInt := c
    rw [if_pos rfl]
    split at * <;> omega
  · exact absurd (up_at _ _ _ _) c2
  · rw [up_at] at c2; exact absurd c2 (by decide)
  · rw [lg_cmp_ge, Int64.le_iff_toInt_le] at c
    have c3 : ¬ (0 : Int) ≤ v.toInt := c
    refine core (-v) v 1 (Or.inr rfl) ?_
    rw [if_neg (by decide), neg_uN v (by omega)]
    omega
theorem s_setWords {h : HP} {w f n0 b m : Nat} {Φ : HP → Prop} (hw : kd w = (0, 0)) (hf : kd f = (10, n0)) (h1 : b + m ≤ n0) (h2 : m ≤ 44) (h3 : n0 < 2147483648) (K : ∀ h2, Fr [w, w + 1] h h2 → h2 w 1 = nI m → h2 w 2 = 0 → (∀ i, i < m → h2 (w + 1) i = h f (b + i)) → Φ h2) : K_Wh_setWords [.ref w, .ref f, .int (nI b), .int (nI m)] h Φ := by
  refine I_Wh_setWords (n1 := n0) (fun X C Rm Q => ?_)
  have hcl : ∀ n, n < 2147483648 → (nI n).toNatClampNeg = n := fun n hn => nI_clamp (by omega)
  refine g_Wh_setWords_0 C Rm Q hw hf ⟨⟨nI_pos (by omega), nI_pos (by omega), by rw [hcl _ (by omega), hcl _ (by omega)]; exact h1⟩, ⟨by decide, nI_pos (by omega), by rw [hcl _ (by omega), c_0]; omega⟩, ?_⟩
  rw [hcl _ (by omega), hcl _ (by omega), c_0]
  refine K _ ((((Fr.rf _ _).hs (by simp)).up (by simp)).up (by simp)) (by rw [up_at_ne (by omega), up_at]) (up_at _ _ _ _) (fun i hi => ?_)
  rw [up_ne (by omega), up_ne (by omega), hs_self, pk_cpy_in (by omega) (by omega)]
  rw [Nat.sub_zero]
theorem s_setTo {h : HP} {w o : Nat} {z : Int} {Φ : HP → Prop} (hw : kd w = (0, 0)) (ho : kd o = (0, 0)) (hz : WN h o z) (hne : o ≠ w) (K : ∀ h2, Fr [w, w + 1] h h2 → WN h2 w z → Φ h2) : K_Wh_setTo [.ref w, .ref o] h Φ := by
  refine I_Wh_setTo (fun X C Rm Q => ?_)
  refine g_Wh_setTo_0 C Rm Q hw ho ?_
  obtain ⟨z1, z2, z3, z4⟩ := id hz
  rw [z1]
  refine s_setWords (b := 0) hw (kWh1 ho) (by omega) z4 (by omega) (fun h2 f e1 e2 e3 => ?_)
  have ho1 : o ≠ w + 1 := kd_ne ho (kWh1 hw) (by omega)
  have ho2 : h2 o = h o := f o (by simp; omega)
  rw [ho2, z2]
  refine ⟨sg_01 z, K _ (f.up (by simp)) ⟨?_, ?_, ?_, z4⟩⟩
  · rw [up_at_ne (by omega), e1]
  · rw [up_at]
  · rw [up_ne (by omega)]
    refine (ds_cong (fun k hk => ?_)).trans z3
    unfold dW
    rw [e3 k hk, Nat.zero_add]
