/-! The model's greatest common divisor, lowest terms, what is fixed, cells. -/
theorem cop2 {s : Nat} (h : s % 2 = 1) : Nat.Coprime 2 s := by
  show Nat.gcd 2 s = 1
  rw [Nat.gcd_rec, h]
  exact Nat.gcd_one_left 2
theorem gcd_half_l {p s : Nat} (hp : p % 2 = 0) (hs : s % 2 = 1) : Nat.gcd (p / 2) s = Nat.gcd p s := by
  have e : p = 2 * (p / 2) := by omega
  conv => rhs; rw [e]
  exact (Nat.Coprime.gcd_mul_left_cancel (p / 2) (cop2 hs)).symm
theorem gcd_half_r {p s : Nat} (hp : p % 2 = 1) (hs : s % 2 = 0) : Nat.gcd p (s / 2) = Nat.gcd p s := by
  rw [Nat.gcd_comm, gcd_half_l hs hp, Nat.gcd_comm]
theorem gcd_half_b {p s : Nat} (hp : p % 2 = 0) (hs : s % 2 = 0) : 2 * Nat.gcd (p / 2) (s / 2) = Nat.gcd p s := by
  rw [← Nat.gcd_mul_left, show 2 * (p / 2) = p by omega, show 2 * (s / 2) = s by omega]
set_option maxHeartbeats 4000000 in
theorem s_mdivisor {h : HP} {a b : Nat} {x y : Int} {Φ : HP → Prop} (ha : a < 218) (hb : b < 218) (ha10 : a ≠ 10) (ha11 : a ≠ 11) (hb10 : b ≠ 10) (hb11 : b ≠ 11) (hx : MN h a x) (hy : MN h b y) (gx : gc 16 x.natAbs ≤ 98) (gy : gc 16 y.natAbs ≤ 98)
    (K : ∀ h2, FR [10, 11] h h2 → MN h2 10 (Nat.gcd x.natAbs y.natAbs : Int) → Φ h2) : K_Mo_divisor [.ref 0, .int (nI a), .int (nI b)] h Φ := by
  have e10 : (10 : Int32).toNatClampNeg = 10 := rfl
  have e11 : (11 : Int32).toNatClampNeg = 11 := rfl
  have cp : ∀ {t r : Nat} {z : Int} {h : HP} {Ψ : HP → Prop}, t < 218 → r < 218 → MN h r z → (∀ h2, FR [t] h h2 → MN h2 t z → Ψ h2) → K_Mo_copyRow [.ref 0, .int (nI t), .int (nI r)] h Ψ := fun ht hr hz k => s_mcopy ht hr hz k
  refine I_Mo_divisor (fun X C Rm Q => g_Mo_divisor_0 C Rm Q (cp (t := 10) (by omega) ha hx (fun h1 f1 w1 => ?_)))
  have hy1 : MN h1 b y := hy.fr f1 (by simpa using hb10)
  have hx1 : MN h1 a x := hx.fr f1 (by simpa using ha10)
  refine cp (t := 11) (by omega) hb hy1 (fun h2 f2 w2 => ?_)
  have hx2 : MN h2 a x := hx1.fr f2 (by simpa using ha11)
  have hy2 : MN h2 b y := hy1.fr f2 (by simpa using hb11)
  have w12 : MU h2 10 x.natAbs := w1.u.fr f2 (by simp)
  have w22 : MU h2 11 y.natAbs := w2.u
  rw [narb0, e10, e11]
  have f3 : FR [10, 11] h (up (up h2 10 10 0) 10 11 0) := ((((f1.mono (by simp)).trans (f2.mono (by simp))).up10 (by simp)).up10 (by simp))
  have k10 : MU (up (up h2 10 10 0) 10 11 0) 10 x.natAbs := w12.cong (by rw [up_ne (by omega), up_ne (by omega)]) (fun j _ => by rw [up_ne (by omega), up_ne (by omega)])
  have k11 : MU (up (up h2 10 10 0) 10 11 0) 11 y.natAbs := w22.cong (by rw [up_ne (by omega), up_ne (by omega)]) (fun j _ => by rw [up_ne (by omega), up_ne (by omega)])
  have s10 : up (up h2 10 10 0) 10 11 0 10 10 = 0 := by rw [up_at_ne (by omega), up_at]
  have s11 : up (up h2 10 10 0) 10 11 0 10 11 = 0 := up_at _ _ _ _
  have la : up (up h2 10 10 0) 10 11 0 9 a = nI (gc 16 x.natAbs) := by rw [up_ne (by omega), up_ne (by omega)]; exact hx2.u.len
  have lbb : up (up h2 10 10 0) 10 11 0 9 b = nI (gc 16 y.natAbs) := by rw [up_ne (by omega), up_ne (by omega)]; exact hy2.u.len
  generalize up (up h2 10 10 0) 10 11 0 = h3 at *
  have kN : ∀ {h0 : HP} {r m : Nat}, MU h0 r m → h0 10 r = 0 → MN h0 r (m : Int) := fun {h0 r m} k s => ⟨by rw [Int.natAbs_natCast]; exact k, by rw [s, if_neg (by omega)]⟩
  rw [nI_cl (by omega), nI_cl (by omega), la, lbb, k10.len]
  refine ⟨vr (r := 10) (by omega), vr (r := 11) (by omega), vr ha, ?_⟩
  have bx : gc 1 x.natAbs ≤ 1600 := (gc_le (by omega) _ _).mpr (by
    have := (gc_le (b := 16) (by omega) x.natAbs 98).mp gx
    exact Nat.lt_of_lt_of_le this (Nat.pow_le_pow_right (by decide) (by omega)))
  have hx1600 : x.natAbs < 2 ^ 1600 := by have := (gc_le (b := 1) (by omega) x.natAbs 1600).mp bx; rwa [Nat.one_mul] at this
  refine ⟨fun q => ?_, fun q => ⟨vr hb, fun q2 => ?_, fun q2 => ?_⟩⟩
  · rw [nI_e0 (by omega), gc16_0] at q
    refine ⟨vr (r := 10) (by omega), fun q2 => absurd (show nI (gc 16 x.natAbs) = 0 by rw [q, gc_0]; rfl) q2, fun _ => ?_⟩
    refine cp (t := 10) (r := 11) (by omega) (by omega) (kN k11 s11) (fun h4 f4 w4 => K h4 (f3.trans (f4.mono (by simp))) ?_)
    rw [q, Nat.gcd_zero_left]
    exact w4
  · rw [nI_e0 (by omega), gc16_0] at q
    rw [nI_e0 (by omega), gc16_0] at q2
    have hxp : 0 < x.natAbs := Nat.pos_of_ne_zero q
    have hyp : 0 < y.natAbs := Nat.pos_of_ne_zero q2
    generalize hg : Nat.gcd x.natAbs y.natAbs = g at *
    have hgle : g ≤ x.natAbs := by rw [← hg]; exact Nat.gcd_le_left _ hxp
    have hgpos : 0 < g := by rw [← hg]; exact Nat.gcd_pos_of_pos_left _ hxp
    -- the twos put back
    have c216 : ∀ (r i tw p : Nat) (h0 : HP), r + i = tw → tw < 1700 → FR [10, 11] h h0 → MU h0 10 p → h0 10 10 = 0 → p * 2 ^ r = g → Wg X 0 0 h0 [(0, .ref 0), (1, .int (nI a)), (2, .int (nI b)), (3, .int (nI tw)), (4, .int (nI i))] [] 216 := by
      intro r
      induction r with
      | zero =>
        intro i tw p h0 hr ht f k s hp
        refine g_Mo_divisor_216 C Rm Q ⟨fun _ => K h0 f ?_, fun z => absurd ?_ z⟩
        · rw [Nat.pow_zero, Nat.mul_one] at hp
          rw [← hp]
          exact kN k s
        · rw [nI_leI (by omega) (by omega)]
          omega
      | succ r ih =>
        intro i tw p h0 hr ht f k s hp
        refine g_Mo_divisor_216 C Rm Q ⟨fun z => ?_, fun _ => ?_⟩
        · rw [nI_leI (by omega) (by omega)] at z
          omega
        · have hple : p ≤ x.natAbs := by
            have : p * 1 ≤ p * 2 ^ (r + 1) := Nat.mul_le_mul_left p (Nat.pow_pos (by decide))
            omega
          have gp : gc 16 p ≤ 98 := Nat.le_trans (gc_mono (by omega) hple) gx
          have m10 : K_Mo_addSizes [.ref 0, .int (nI 10), .int (nI 10), .int (nI 10)] h0 (fun h1 => Wg X 0 0 h1 [(0, .ref 0), (1, .int (nI a)), (2, .int (nI b)), (3, .int (nI tw)), (4, .int (nI i + 1))] [] 216) := by
            refine s_madd (by omega) (by omega) (by omega) k k gp gp (fun h4 f4 k4 s4 => ?_)
            rw [nI_1]
            refine ih (i + 1) tw (p + p) h4 (by omega) ht (f.trans (f4.mono (by simp))) k4 ?_ ?_
            · rw [s4, s]
              split <;> rfl
            · rw [← hp, Nat.pow_succ, ← Nat.two_mul, Nat.mul_comm 2 p, Nat.mul_assoc, Nat.mul_comm 2]
          exact m10
    -- the heart
    have c110 : ∀ (N p s tw : Nat) (h0 : HP), p + s ≤ N → tw < 1700 → FR [10, 11] h h0 → MU h0 10 p → h0 10 10 = 0 → MU h0 11 s → h0 10 11 = 0 → 0 < p → (p % 2 = 1 ∨ s % 2 = 1) → Nat.gcd p s * 2 ^ tw = g → Wg X 0 0 h0 [(0, .ref 0), (1, .int (nI a)), (2, .int (nI b)), (3, .int (nI tw))] [] 110 := by
      intro N
      induction N with
      | zero =>
        intro p s tw h0 hN _ _ _ _ _ _ hp
        omega
      | succ N ihN =>
        intro p s tw h0 hN ht f k1 s1 k2 s2 hp hodd hgg
        refine g_Mo_divisor_110 C Rm Q ⟨vr (r := 11) (by omega), fun z => ?_, fun z => ?_⟩
        · have := k2.le
          rw [e11, k2.len, nI_le0 (by omega), gc16_0] at z
          rw [z, Nat.gcd_zero_right] at hgg
          exact c216 tw 0 tw p h0 (Nat.add_zero _) ht f k1 s1 hgg
        · have := k2.le
          rw [e11, k2.len, nI_le0 (by omega), gc16_0] at z
          -- both odd
          have c166 : ∀ (p s : Nat) (h0 : HP), p + s ≤ N + 1 → FR [10, 11] h h0 → MU h0 10 p → h0 10 10 = 0 → MU h0 11 s → h0 10 11 = 0 → p % 2 = 1 → s % 2 = 1 → Nat.gcd p s * 2 ^ tw = g → Wg X 0 0 h0 [(0, .ref 0), (1, .int (nI a)), (2, .int (nI b)), (3, .int (nI tw))] [] 166 := by
            intro p s h0 hN f k1 s1 k2 s2 hp hs hgg
            refine g_Mo_divisor_166 C Rm Q ⟨vr (r := 11) (by omega), fun z => ?_, fun _ => ?_⟩
            · have := k2.le
              rw [e11, k2.len, nI_le0 (by omega), gc16_0] at z
              omega
            · have mc : K_Mo_compareSizes [.ref 0, .int (nI 10), .int (nI 11)] h0 (fun r1 h1 => (r1 ≤ 0 → K_Mo_subtractSizes [.ref 0, .int (nI 11), .int (nI 11), .int (nI 10)] h1 (fun h2 => Wg X 0 0 h2 [(0, .ref 0), (1, .int (nI a)), (2, .int (nI b)), (3, .int (nI tw))] [] 110)) ∧ (¬ r1 ≤ 0 → K_Mo_subtractSizes [.ref 0, .int (nI 10), .int (nI 10), .int (nI 11)] h1 (fun h3 => Wg X 0 0 h3 [(0, .ref 0), (1, .int (nI a)), (2, .int (nI b)), (3, .int (nI tw))] [] 110))) := by
                refine s_mcmp (by omega) (by omega) k1 k2 ⟨fun z => ?_, fun z => ?_⟩
                · have hle : p ≤ s := by
                    refine Nat.le_of_not_lt (fun w => ?_)
                    unfold ordN at z
                    rw [if_neg (by omega), if_neg (by omega)] at z
                    exact absurd z (by decide)
                  refine s_msub (by omega) (by omega) (by omega) k2 k1 hle (fun h4 f4 k4 s4 => ?_)
                  refine ihN p (s - p) tw h4 (by omega) ht (f.trans (f4.mono (by simp))) (k1.fr f4 (by simp)) (by rw [(f4.2 10 (by simp)).2.1]; exact s1) k4 ?_ (by omega) (Or.inl hp) ?_
                  · rw [s4, s2]
                    split <;> rfl
                  · rw [Nat.gcd_sub_self_right hle]
                    exact hgg
                · have hlt : s < p := by
                    refine Nat.lt_of_not_le (fun w => z ?_)
                    unfold ordN
                    split
                    · decide
                    · rw [if_pos (by omega)]; decide
                  refine s_msub (by omega) (by omega) (by omega) k1 k2 (by omega) (fun h4 f4 k4 s4 => ?_)
                  refine ihN (p - s) s tw h4 (by omega) ht (f.trans (f4.mono (by simp))) k4 ?_ (k2.fr f4 (by simp)) (by rw [(f4.2 11 (by simp)).2.1]; exact s2) (by omega) (Or.inr hs) ?_
                  · rw [s4, s1]
                    split <;> rfl
                  · rw [Nat.gcd_sub_self_left (by omega)]
                    exact hgg
              exact mc
          have c138 : ∀ (s p : Nat) (h0 : HP), 0 < s → p + s ≤ N + 1 → FR [10, 11] h h0 → MU h0 10 p → h0 10 10 = 0 → MU h0 11 s → h0 10 11 = 0 → p % 2 = 1 → Nat.gcd p s * 2 ^ tw = g → Wg X 0 0 h0 [(0, .ref 0), (1, .int (nI a)), (2, .int (nI b)), (3, .int (nI tw))] [] 138 := by
            intro s
            induction s using Nat.strongRecOn with
            | _ s ih =>
              intro p h0 hs0 hN f k1 s1 k2 s2 hp hgg
              refine g_Mo_divisor_138 C Rm Q ⟨vr (r := 11) (by omega), fun z => ?_, fun _ => ?_⟩
              · have := k2.le
                rw [e11, k2.len, nI_le0 (by omega), gc16_0] at z
                omega
              · have me : K_Mo_isEven [.ref 0, .int (nI 11)] h0 (fun r1 h1 => (r1 = 0 → Wg X 0 0 h1 [(0, .ref 0), (1, .int (nI a)), (2, .int (nI b)), (3, .int (nI tw))] [] 166) ∧ (¬ r1 = 0 → K_Mo_halve [.ref 0, .int (nI 11)] h1 (fun h2 => Wg X 0 0 h2 [(0, .ref 0), (1, .int (nI a)), (2, .int (nI b)), (3, .int (nI tw))] [] 138))) := by
                  refine s_isEven (by omega) k2 ⟨fun z => ?_, fun z => ?_⟩
                  · have : s % 2 = 1 := by
                      by_cases w : s % 2 = 0
                      · rw [if_pos w] at z; exact absurd z (by decide)
                      · omega
                    exact c166 p s h0 hN f k1 s1 k2 s2 hp this hgg
                  · have hev : s % 2 = 0 := by
                      by_cases w : s % 2 = 0
                      · exact w
                      · rw [if_neg w] at z; exact absurd rfl z
                    refine s_halve (by omega) k2 (fun h4 f4 k4 s4 => ih (s / 2) (by omega) p h4 (by omega) (by omega) (f.trans (f4.mono (by simp))) (k1.fr f4 (by simp)) (by rw [(f4.2 10 (by simp)).2.1]; exact s1) k4 ?_ hp ?_)
                    · rw [s4, s2]
                      split <;> rfl
                    · rw [gcd_half_r hp hev]
                      exact hgg
                exact me
          have c120 : ∀ (p s : Nat) (h0 : HP), 0 < p → 0 < s → p + s ≤ N + 1 → FR [10, 11] h h0 → MU h0 10 p → h0 10 10 = 0 → MU h0 11 s → h0 10 11 = 0 → (p % 2 = 1 ∨ s % 2 = 1) → Nat.gcd p s * 2 ^ tw = g → Wg X 0 0 h0 [(0, .ref 0), (1, .int (nI a)), (2, .int (nI b)), (3, .int (nI tw))] [] 120 := by
            intro p
            induction p using Nat.strongRecOn with
            | _ p ih =>
              intro s h0 hp0 hs0 hN f k1 s1 k2 s2 hodd hgg
              have me : K_Mo_isEven [.ref 0, .int (nI 10)] h0 (fun r1 h1 => (r1 = 0 → Wg X 0 0 h1 [(0, .ref 0), (1, .int (nI a)), (2, .int (nI b)), (3, .int (nI tw))] [] 138) ∧ (¬ r1 = 0 → K_Mo_halve [.ref 0, .int (nI 10)] h1 (fun h2 => Wg X 0 0 h2 [(0, .ref 0), (1, .int (nI a)), (2, .int (nI b)), (3, .int (nI tw))] [] 120))) := by
                refine s_isEven (by omega) k1 ⟨fun z => ?_, fun z => ?_⟩
                · have : p % 2 = 1 := by
                    by_cases w : p % 2 = 0
                    · rw [if_pos w] at z; exact absurd z (by decide)
                    · omega
                  exact c138 s p h0 hs0 hN f k1 s1 k2 s2 this hgg
                · have hev : p % 2 = 0 := by
                    by_cases w : p % 2 = 0
                    · exact w
                    · rw [if_neg w] at z; exact absurd rfl z
                  have hs1 : s % 2 = 1 := by omega
                  refine s_halve (by omega) k1 (fun h4 f4 k4 s4 => ih (p / 2) (by omega) s h4 (by omega) hs0 (by omega) (f.trans (f4.mono (by simp))) k4 ?_ (k2.fr f4 (by simp)) (by rw [(f4.2 11 (by simp)).2.1]; exact s2) (Or.inr hs1) ?_)
                  · rw [s4, s1]
                    split <;> rfl
                  · rw [gcd_half_l hev hs1]
                    exact hgg
              exact g_Mo_divisor_120 C Rm Q me
          exact c120 p s h0 hp (by omega) hN f k1 s1 k2 s2 hodd hgg
    -- the common twos
    have c74 : ∀ (p s tw : Nat) (h0 : HP), 0 < p → 0 < s → FR [10, 11] h h0 → MU h0 10 p → h0 10 10 = 0 → MU h0 11 s → h0 10 11 = 0 → Nat.gcd p s * 2 ^ tw = g → Wg X 0 0 h0 [(0, .ref 0), (1, .int (nI a)), (2, .int (nI b)), (3, .int (nI tw))] [] 74 := by
      intro p
      induction p using Nat.strongRecOn with
      | _ p ih =>
        intro s tw h0 hp0 hs0 f k1 s1 k2 s2 hgg
        have htw : tw < 1700 := by
          refine Nat.lt_of_not_le (fun w => ?_)
          have h5 : 1 * 2 ^ tw ≤ Nat.gcd p s * 2 ^ tw := Nat.mul_le_mul_right _ (Nat.gcd_pos_of_pos_left _ hp0)
          have h6 : 2 ^ 1600 ≤ 2 ^ tw := Nat.pow_le_pow_right (by decide) (by omega)
          omega
        have me : K_Mo_isEven [.ref 0, .int (nI 10)] h0 (fun r1 h1 => (r1 = 0 → Wg X 0 0 h1 [(0, .ref 0), (1, .int (nI a)), (2, .int (nI b)), (3, .int (nI tw))] [] 110) ∧ (¬ r1 = 0 → K_Mo_isEven [.ref 0, .int (nI 11)] h1 (fun r2 h2 => (r2 = 0 → Wg X 0 0 h2 [(0, .ref 0), (1, .int (nI a)), (2, .int (nI b)), (3, .int (nI tw))] [] 110) ∧ (¬ r2 = 0 → K_Mo_halve [.ref 0, .int (nI 10)] h2 (fun h3 => K_Mo_halve [.ref 0, .int (nI 11)] h3 (fun h4 => Wg X 0 0 h4 [(0, .ref 0), (1, .int (nI a)), (2, .int (nI b)), (3, .int (nI tw + 1))] [] 74)))))) := by
          refine s_isEven (by omega) k1 ⟨fun z => ?_, fun z => s_isEven (by omega) k2 ⟨fun z2 => ?_, fun z2 => ?_⟩⟩
          · have : p % 2 = 1 := by
              by_cases w : p % 2 = 0
              · rw [if_pos w] at z; exact absurd z (by decide)
              · omega
            exact c110 _ p s tw h0 (Nat.le_refl _) htw f k1 s1 k2 s2 hp0 (Or.inl this) hgg
          · have : s % 2 = 1 := by
              by_cases w : s % 2 = 0
              · rw [if_pos w] at z2; exact absurd z2 (by decide)
              · omega
            exact c110 _ p s tw h0 (Nat.le_refl _) htw f k1 s1 k2 s2 hp0 (Or.inr this) hgg
          · have hev : p % 2 = 0 := by
              by_cases w : p % 2 = 0
              · exact w
              · rw [if_neg w] at z; exact absurd rfl z
            have hev2 : s % 2 = 0 := by
              by_cases w : s % 2 = 0
              · exact w
              · rw [if_neg w] at z2; exact absurd rfl z2
            refine s_halve (by omega) k1 (fun h4 f4 k4 s4 => s_halve (by omega) (k2.fr f4 (by simp)) (fun h5 f5 k5 s5 => ?_))
            rw [nI_1]
            refine ih (p / 2) (by omega) (s / 2) (tw + 1) h5 (by omega) (by omega) ((f.trans (f4.mono (by simp))).trans (f5.mono (by simp))) (k4.fr f5 (by simp)) ?_ k5 ?_ ?_
            · rw [(f5.2 10 (by simp)).2.1, s4, s1]
              split <;> rfl
            · rw [s5, (f4.2 11 (by simp)).2.1, s2]
              split <;> rfl
            · rw [← hgg, ← gcd_half_b hev hev2, Nat.pow_succ, Nat.mul_comm 2, Nat.mul_assoc, Nat.mul_comm 2]
        exact g_Mo_divisor_74 C Rm Q me
    exact c74 x.natAbs y.natAbs 0 h3 hxp hyp f3 k10 s10 k11 s11 (by rw [Nat.pow_zero, Nat.mul_one, hg])
  · rw [nI_e0 (by omega), gc16_0] at q2
    rw [nI_e0 (by omega), gc16_0] at q
    refine ⟨vr (r := 10) (by omega), fun _ => ?_, fun q3 => absurd (gc16_0.mp ((nI_e0 (by omega)).mp q3)) q⟩
    refine cp (t := 10) (r := 10) (by omega) (by omega) (kN k10 s10) (fun h4 f4 w4 => K h4 (f3.trans (f4.mono (by simp))) ?_)
    rw [q2, Nat.gcd_zero_right]
    exact w4
theorem MN.one_iff {h : HP} {r : Nat} {m : Nat} (k : MU h r m) : (h 9 r = 1 ∧ h 8 (100 * r) = 1) ↔ m = 1 := by
  have hle := k.le
  have e : h 8 (100 * r) = nI (lb h r 0) := lb_is h r 0
  have hv := k.val
  rw [k.len, e, show (1 : Int32) = nI 1 from rfl, nI_eq (by omega) (by omega)]
  constructor
  · rintro ⟨a, b⟩
    rw [a, mv_succ, mv_0] at hv
    have hb := k.lt (i := 0) (by omega)
    rw [nI_eq (by omega) (by omega)] at b
    rw [b] at hv
    simpa using hv.symm
  · intro q
    have hg : gc 16 m = 1 := by
      rw [q]
      have a := (gc_le (b := 16) (by omega) 1 1).mpr (by omega)
      have b := (gc_lt (b := 16) (by omega) 1 0).mpr (by omega)
      omega
    refine ⟨hg, ?_⟩
    rw [hg, mv_succ, mv_0] at hv
    congr 1
    rw [← q]
    simpa using hv
theorem s_mreduce {h : HP} {u d : Int} {Φ : HP → Prop} (hu : MN h 4 u) (hd : MN h 5 d) (d0 : d ≠ 0) (gu : gc 16 u.natAbs ≤ 97) (gd : gc 16 d.natAbs ≤ 97) (K : ∀ h2, FR [4, 5, 9, 10, 11, 12] h h2 → MN h2 4 (rU u d) → MN h2 5 (rD u d) → Φ h2) : K_Mo_reduce [.ref 0] h Φ := by
  refine I_Mo_reduce (fun X C Rm Q => ?_)
  have e4 : (4 : Int32).toNatClampNeg = 4 := rfl
  have e5 : (5 : Int32).toNatClampNeg = 5 := rfl
  have e10 : (10 : Int32).toNatClampNeg = 10 := rfl
  have e1000 : (1000 : Int32).toNatClampNeg = 100 * 10 := rfl
  have core : ∀ (h0 : HP) (u' : Int), FR [4, 5] h h0 → MN h0 4 u' → MN h0 5 (d.natAbs : Int) → u' = (if d < 0 then -u else u) → Wg X 0 0 h0 [(0, .ref 0)] [] 45 := by
    intro h0 u' f wu wd hu'
    have hua : u'.natAbs = u.natAbs := by rw [hu']; split <;> simp
    have eU : rU u d = u'.tdiv (Nat.gcd u.natAbs d.natAbs : Int) := by unfold rU; rw [hu']
    have gpos : 0 < Nat.gcd u.natAbs d.natAbs := Nat.gcd_pos_of_pos_right _ (by omega)
    have gle : Nat.gcd u.natAbs d.natAbs ≤ d.natAbs := Nat.gcd_le_right _ (by omega)
    refine g_Mo_reduce_45 C Rm Q ?_
    have md : K_Mo_divisor [.ref 0, .int (nI 4), .int (nI 5)] h0 (fun h1 => vp_in 10 218 ∧ ((¬ ((h1 9 (10 : Int32).toNatClampNeg)) = (1 : Int32) → Wg X 0 0 h1 [(0, .ref 0)] [] 75) ∧ (((h1 9 (10 : Int32).toNatClampNeg)) = (1 : Int32) → vp_in 1000 21800 ∧ ((¬ ((h1 8 (1000 : Int32).toNatClampNeg)) = (1 : Int32) → Wg X 0 0 h1 [(0, .ref 0)] [] 75) ∧ (((h1 8 (1000 : Int32).toNatClampNeg)) = (1 : Int32) → Φ h1))))) := by
      refine s_mdivisor (by omega) (by omega) (by omega) (by omega) (by omega) (by omega) wu wd (by rw [hua]; omega) (by rw [Int.natAbs_natCast]; omega) (fun h1 f1 w1 => ?_)
      rw [hua, Int.natAbs_natCast] at w1
      have w1u : MU h1 10 (Nat.gcd u.natAbs d.natAbs) := by have := w1.u; rwa [Int.natAbs_natCast] at this
      have wu1 : MN h1 4 u' := wu.fr f1 (by simp)
      have wd1 : MN h1 5 (d.natAbs : Int) := wd.fr f1 (by simp)
      have ff : FR [4, 5, 9, 10, 11, 12] h h1 := (f.mono (by simp)).trans (f1.mono (by simp))
      have h1iff := MN.one_iff w1u
      rw [e10, e1000]
      have big : ¬ Nat.gcd u.natAbs d.natAbs = 1 → Wg X 0 0 h1 [(0, .ref 0)] [] 75 := by
        intro g1
        refine g_Mo_reduce_75 C Rm Q ⟨vr (r := 4) (by omega), ?_⟩
        rw [e4, wu1.sg]
        have gg : gc 16 (Nat.gcd u.natAbs d.natAbs) ≤ 97 := Nat.le_trans (gc_mono (by omega) gle) gd
        have second : ∀ (h3 : HP) , FR [4, 5, 9, 10, 11, 12] h h3 → MN h3 4 (rU u d) → MN h3 5 (d.natAbs : Int) → MU h3 10 (Nat.gcd u.natAbs d.natAbs) → K_Mo_divide [.ref 0, .int (nI 12), .int (nI 5), .int (nI 10)] h3 (fun h4 => K_Mo_copyRow [.ref 0, .int (nI 5), .int (nI 12)] h4 (fun h5 => Φ h5)) := by
          intro h3 f3 w4 w5 w10
          refine s_mdivide (by omega) (by omega) (by omega) (by omega) (by omega) (by omega) (by omega) (by omega) w5 w10 (by omega) gg (fun h4 f4 k12 k9 s12 s9 => ?_)
          rw [Int.natAbs_natCast] at k12
          have eD : rD u d = ((d.natAbs / Nat.gcd u.natAbs d.natAbs : Nat) : Int) := by unfold rD; rw [Int.ofNat_tdiv]
          have w12 : MN h4 12 (rD u d) := by
            rw [eD]
            exact ⟨by rw [Int.natAbs_natCast]; exact k12, by rw [s12, if_neg (Int.not_lt.mpr (Int.natCast_nonneg _))]⟩
          refine s_mcopy (by omega) (by omega) w12 (fun h5 f5 w55 => ?_)
          exact K h5 ((f3.trans (f4.mono (by simp))).trans (f5.mono (by simp))) ((w4.fr f4 (by simp)).fr f5 (by simp)) w55
        have first : K_Mo_divide [.ref 0, .int (nI 12), .int (nI 4), .int (nI 10)] h1 (fun h2 => K_Mo_copyRow [.ref 0, .int (nI 4), .int (nI 12)] h2 (fun h3 => ((if u' < 0 then 1 else 0 : Int32) = 0 → vp_in 4 218 ∧ (K_Mo_divide [.ref 0, .int 12, .int 5, .int 10] (up h3 10 4 (vp_nar .boolean 0)) (fun h3 => K_Mo_copyRow [.ref 0, .int 5, .int 12] h3 (fun h4 => Φ h4)))) ∧ (¬ (if u' < 0 then 1 else 0 : Int32) = 0 → vp_in 4 218 ∧ ((h3 9 4 ≤ 0 → vp_in 4 218 ∧ (K_Mo_divide [.ref 0, .int 12, .int 5, .int 10] (up h3 10 4 (vp_nar .boolean 0)) (fun h5 => K_Mo_copyRow [.ref 0, .int 5, .int 12] h5 (fun h6 => Φ h6)))) ∧ (¬ h3 9 4 ≤ 0 → vp_in 4 218 ∧ (K_Mo_divide [.ref 0, .int 12, .int 5, .int 10] (up h3 10 4 (vp_nar .boolean 1)) (fun h7 => K_Mo_copyRow [.ref 0, .int 5, .int 12] h7 (fun h8 => Φ h8)))))))) := by
          refine s_mdivide (by omega) (by omega) (by omega) (by omega) (by omega) (by omega) (by omega) (by omega) wu1 w1u (by omega) gg (fun h2 f2 k12 k9 s12 s9 => ?_)
          have w12 : MN h2 12 ((u'.natAbs / Nat.gcd u.natAbs d.natAbs : Nat) : Int) := ⟨by rw [Int.natAbs_natCast]; exact k12, by rw [s12, if_neg (Int.not_lt.mpr (Int.natCast_nonneg _))]⟩
          refine s_mcopy (by omega) (by omega) w12 (fun h3 f3 w4 => ?_)
          have k4 : MU h3 4 (u'.natAbs / Nat.gcd u.natAbs d.natAbs) := by have := w4.u; rwa [Int.natAbs_natCast] at this
          have td := tdiv_cases u' (Nat.gcd u.natAbs d.natAbs : Int)
          rw [Int.natAbs_natCast, ← eU] at td
          have hA : (rU u d).natAbs = u'.natAbs / Nat.gcd u.natAbs d.natAbs := by rw [td]; exact nab _ _
          have go : ∀ s : Int32, s = (if rU u d < 0 then 1 else 0) → vp_in 4 218 ∧ (K_Mo_divide [.ref 0, .int 12, .int 5, .int 10] (up h3 10 4 s) (fun h3 => K_Mo_copyRow [.ref 0, .int 5, .int 12] h3 (fun h4 => Φ h4))) := by
            intro s hs
            refine ⟨vr (r := 4) (by omega), second _ ?_ (k4.put hA hs) ?_ ?_⟩
            · exact ((ff.trans (f2.mono (by simp))).trans (f3.mono (by simp))).up10 (by simp)
            · exact ((wd1.fr f2 (by simp)).fr f3 (by simp)).fr ((FR.rf [4] _).up10 (by simp)) (by simp)
            · exact ((w1u.fr f2 (by simp)).fr f3 (by simp)).fr ((FR.rf [4] _).up10 (by simp)) (by simp)
          have hle := k4.le
          rw [sg_ne, k4.len, nI_le0 (by omega), gc16_0, narb0, narb1]
          generalize u'.natAbs / Nat.gcd u.natAbs d.natAbs = qq at *
          have td1 : 0 ≤ u' → rU u d = (qq : Int) := fun z => by rw [td, if_pos (by omega)]
          have td2 : ¬ 0 ≤ u' → rU u d = -(qq : Int) := fun z => by rw [td, if_neg (by omega)]
          refine ⟨fun q => go 0 ?_, fun q => ⟨vr (r := 4) (by omega), fun q2 => go 0 ?_, fun q2 => go 1 ?_⟩⟩
          · rw [td1 q, if_neg (by omega)]
          · rw [td2 q, if_neg (by omega)]
          · rw [td2 q, if_pos (by omega)]
        exact first
      refine ⟨vr (r := 10) (by omega), fun q => big (fun z => q ((h1iff.mpr z).1)), fun q => ⟨vp_in_nI (n := 1000) (by omega) (by omega), fun q2 => big (fun z => q2 ((h1iff.mpr z).2)), fun q2 => ?_⟩⟩
      have g1 := h1iff.mp ⟨q, q2⟩
      exact K h1 ff (by rw [eU, g1, tdiv_one']; exact wu1) (by unfold rD; rw [g1, tdiv_one']; exact wd1)
    exact md
  have hul := hu.u.le
  refine g_Mo_reduce_0 C Rm Q ⟨vr (r := 5) (by omega), fun q => ?_, fun q => ⟨vr (r := 5) (by omega), vr (r := 4) (by omega), ?_⟩⟩
  · rw [e5, hd.sg, sg_ne] at q
    exact core h u (FR.rf _ _) hu (by rwa [show (d.natAbs : Int) = d by omega]) (by rw [if_neg (by omega)])
  · rw [e5, hd.sg, sg_ne] at q
    rw [e4, e5, narb0, narb1, up_ne (by omega), hu.u.len, nI_le0 (by omega), gc16_0, up_at_ne (by omega), hu.sg, sg_ne]
    have go : ∀ s : Int32, s = (if -u < 0 then 1 else 0) → Wg X 0 0 (up (up h 10 5 0) 10 4 s) [(0, .ref 0)] [] 45 := by
      intro s hs
      have f5 : FR [5] h (up h 10 5 0) := (FR.rf _ _).up10 (by simp)
      have w5 : MN (up h 10 5 0) 5 (d.natAbs : Int) := hd.u.put (Int.natAbs_natCast _) (by rw [if_neg (by omega)])
      have k4 : MU (up h 10 5 0) 4 u.natAbs := hu.u.fr f5 (by simp)
      exact core _ (-u) ((f5.mono (by simp)).up10 (by simp)) (k4.put (Int.natAbs_neg u) hs) (w5.fr ((FR.rf [4] _).up10 (by simp)) (by simp)) (by rw [if_pos (by omega)])
    refine ⟨fun q2 => ⟨vr (r := 4) (by omega), go 0 (by rw [if_neg (by omega)])⟩, fun q2 => ⟨vr (r := 4) (by omega), fun q3 => ⟨vr (r := 4) (by omega), go 0 (by rw [if_neg (by omega)])⟩, fun q3 => ⟨vr (r := 4) (by omega), go 1 (by rw [if_pos (by omega)])⟩⟩⟩
