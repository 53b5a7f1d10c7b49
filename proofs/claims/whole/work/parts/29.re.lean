/-! The reckoner: greatest common divisors, lowest terms, the four ways on fractions, the three on whole numbers. -/
theorem SB.fr {S : List Nat} {h h2 : HP} (k : SB h) (f : Fr S h h2) (h6 : 46 ∉ S) (h8 : 48 ∉ S) : SB h2 := by
  unfold SB
  rw [f 46 h6, f 48 h8]
  exact k
theorem gc_mul (a b : Nat) : gc 32 (a * b) ≤ gc 32 a + gc 32 b := by
  rw [gc_le (by omega), Nat.mul_add, Nat.pow_add]
  exact Nat.mul_lt_mul'' (gc_self (by omega) a) (gc_self (by omega) b)
theorem gc_add (a b n : Nat) (ha : gc 32 a ≤ n) (hb : gc 32 b ≤ n) : gc 32 (a + b) ≤ n + 1 := by
  rw [gc_le (by omega)] at ha hb ⊢
  rw [Nat.mul_add, Nat.pow_add]
  omega
theorem gc_abs_mul (x y : Int) : gc 32 (x * y).natAbs ≤ gc 32 x.natAbs + gc 32 y.natAbs := by
  rw [Int.natAbs_mul]
  exact gc_mul _ _
theorem gc_abs_add (x y : Int) (n : Nat) (ha : gc 32 x.natAbs ≤ n) (hb : gc 32 y.natAbs ≤ n) : gc 32 (x + y).natAbs ≤ n + 1 := Nat.le_trans (gc_mono (by omega) (Int.natAbs_add_le x y)) (gc_add _ _ n ha hb)
theorem gc_1 : gc 32 1 = 1 := gc_one.mpr (by omega)
theorem s_findDivisor {h : HP} {p1 p2 : Nat} {x y : Int} {Φ : HP → Prop} (hp1 : kd p1 = (0, 0)) (hp2 : kd p2 = (0, 0)) (n1 : p1 ≠ 41) (n2 : p2 ≠ 41) (n3 : p2 ≠ 43) (hx : WN h p1 x) (hy : WN h p2 y)
    (hla : gc 32 x.natAbs ≤ 43) (hlb : gc 32 y.natAbs ≤ 43) (sb : SB h)
    (K : ∀ h2 : HP, Fr [41, 42, 43, 44, 46, 47, 48, 49, 50, 51] h h2 → SB h2 → WN h2 41 (Nat.gcd x.natAbs y.natAbs : Int) → Φ h2) : K_Re_findDivisor [.ref 23, .ref p1, .ref p2] h Φ := by
  refine I_Re_findDivisor (fun X C Rm Q => ?_)
  have k41 : kd 41 = (0, 0) := rfl
  have k43 : kd 43 = (0, 0) := rfl
  have fin : ∀ (h0 : HP) (a b : Int), Fr [41, 42, 43, 44, 46, 47, 48, 49, 50, 51] h h0 → SB h0 → WN h0 41 a → Nat.gcd a.natAbs b.natAbs = Nat.gcd x.natAbs y.natAbs → b = 0 → Φ (up h0 41 2 0) := by
    intro h0 a b f s0 wa hg hb
    subst hb
    refine K _ (f.up (by simp)) (s0.fr ((Fr.rf [41] h0).up (by simp)) (by simp) (by simp)) (wa.sign ?_ ?_)
    · rw [← hg, Int.natAbs_natCast]; simp
    · rw [if_neg (by omega)]
  have one : ∀ (h0 : HP) (a b : Int) (step : Nat), step < 3000 → Fr [41, 42, 43, 44, 46, 47, 48, 49, 50, 51] h h0 → SB h0 → WN h0 41 a → WN h0 43 b → gc 32 a.natAbs ≤ 43 → gc 32 b.natAbs ≤ 43 → Nat.gcd a.natAbs b.natAbs = Nat.gcd x.natAbs y.natAbs →
      (∀ (h2 : HP), b ≠ 0 → Fr [41, 42, 43, 44, 46, 47, 48, 49, 50, 51] h h2 → SB h2 → WN h2 41 b → WN h2 43 (a.tmod b) → gc 32 (a.tmod b).natAbs ≤ 43 → Nat.gcd b.natAbs (a.tmod b).natAbs = Nat.gcd x.natAbs y.natAbs → Wg X 0 0 h2 [(0, .ref 23), (1, .ref p1), (2, .ref p2), (3, .int (nI (step + 1)))] [] 18) →
      Wg X 0 0 h0 [(0, .ref 23), (1, .ref p1), (2, .ref p2), (3, .int (nI step))] [] 18 := by
    intro h0 a b step hs f s0 wa wb ga gb hg kk
    refine g_Re_findDivisor_18 C Rm Q hp1 hp2 ⟨fun q => ?_, fun _ => ?_⟩
    · rw [show (3000 : Int32) = nI 3000 from rfl, nI_leI (by omega) (by omega)] at q
      omega
    · refine s_isZero k43 wb ⟨fun q => ?_, fun q => ?_⟩
      · have hb : b = 0 := by
          by_cases z : b = 0
          · exact z
          · rw [if_neg z] at q; exact absurd rfl q
        exact fin h0 a b f s0 wa hg hb
      · have hb : b ≠ 0 := by
          intro z
          rw [if_pos z] at q
          exact absurd q (by decide)
        refine s_divide k41 k43 (by decide) (by decide) (by decide) (by decide) wa wb hb ga gb s0 (fun h2 f2 w46 w48 => ?_)
        have wb2 : WN h2 43 b := wb.fr f2 (by simp) (by simp)
        refine s_setTo k41 k43 wb2 (by decide) (fun h3 f3 w3 => ?_)
        have w48' : WN h3 48 (a.tmod b) := w48.fr f3 (by simp) (by simp)
        refine s_setTo k43 (show kd 48 = (0, 0) from rfl) w48' (by decide) (fun h4 f4 w4 => ?_)
        have f24 : Fr [41, 42, 43, 44, 46, 47, 48, 49, 50, 51] h0 h4 := (f2.mono (by simp)).trans ((f3.mono (by simp)).trans (f4.mono (by simp)))
        have hm : (a.tmod b).natAbs = a.natAbs % b.natAbs := by rw [tmod_cases]; exact nab' _ _
        rw [nI_1]
        refine kk h4 hb (f.trans f24) ?_ (w3.fr f4 (by simp) (by simp)) w4 ?_ ?_
        · exact ⟨by rw [f4 46 (by simp), f3 46 (by simp)]; exact w46.sgb, by rw [f4 48 (by simp), f3 48 (by simp)]; exact w48.sgb⟩
        · exact Nat.le_trans (gc_mono (by omega) (by rw [hm]; exact Nat.mod_le _ _)) ga
        · rw [hm, ← hg, Nat.gcd_comm, ← Nat.gcd_rec, Nat.gcd_comm]
  have loop : ∀ (k : Nat) (h0 : HP) (a b : Int) (step : Nat), step + 2 * k < 3000 → b.natAbs < 2 ^ k → Fr [41, 42, 43, 44, 46, 47, 48, 49, 50, 51] h h0 → SB h0 → WN h0 41 a → WN h0 43 b → gc 32 a.natAbs ≤ 43 → gc 32 b.natAbs ≤ 43 → Nat.gcd a.natAbs b.natAbs = Nat.gcd x.natAbs y.natAbs →
      Wg X 0 0 h0 [(0, .ref 23), (1, .ref p1), (2, .ref p2), (3, .int (nI step))] [] 18 := by
    intro k
    induction k with
    | zero =>
      intro h0 a b step hs hb f s0 wa wb ga gb hg
      exact one h0 a b step (by omega) f s0 wa wb ga gb hg (fun _ q => absurd (by omega) q)
    | succ k ih =>
      intro h0 a b step hs hb f s0 wa wb ga gb hg
      refine one h0 a b step (by omega) f s0 wa wb ga gb hg (fun h2 hb0 f2 s2 wa2 wb2 g2 hg2 => ?_)
      refine one h2 b (a.tmod b) (step + 1) (by omega) f2 s2 wa2 wb2 gb g2 hg2 (fun h3 hb3 f3 s3 wa3 wb3 g3 hg3 => ?_)
      have hm : (a.tmod b).natAbs = a.natAbs % b.natAbs := by rw [tmod_cases]; exact nab' _ _
      have hm2 : (b.tmod (a.tmod b)).natAbs = b.natAbs % (a.tmod b).natAbs := by rw [tmod_cases]; exact nab' _ _
      refine ih h3 _ _ (step + 1 + 1) (by omega) ?_ f3 s3 wa3 wb3 g2 g3 hg3
      have h1 : (a.tmod b).natAbs < b.natAbs := by rw [hm]; exact Nat.mod_lt _ (by omega)
      have h0' : 0 < (a.tmod b).natAbs := by omega
      rw [hm2]
      generalize (a.tmod b).natAbs = r at *
      generalize b.natAbs = t at *
      have e1 := Nat.div_add_mod t r
      have e2 := Nat.mod_lt t h0'
      have e3 : 1 ≤ t / r := (Nat.le_div_iff_mul_le h0').mpr (by omega)
      have e4 : r * 1 ≤ r * (t / r) := Nat.mul_le_mul_left r e3
      rw [Nat.pow_succ] at hb
      omega
  refine g_Re_findDivisor_0 C Rm Q hp1 hp2 ?_
  refine s_setTo k41 hp1 hx n1 (fun h1 f1 w1 => ?_)
  have hy1 : WN h1 p2 y := hy.fr f1 (by simp; exact ⟨n2, kd_ne hp2 (show kd 42 = (10, 44) from rfl) (by omega)⟩) (by have := kd_ne (kWh1 hp2) k41 (by omega); simp; omega)
  refine s_setTo k43 hp2 hy1 n3 (fun h2 f2 w2 => ?_)
  have ff : Fr [41, 42, 43, 44, 46, 47, 48, 49, 50, 51] h h2 := (f1.mono (by simp)).trans (f2.mono (by simp))
  refine loop 1376 h2 x y 0 (by omega) ?_ ff ?_ (w1.fr f2 (by simp) (by simp)) w2 hla hlb rfl
  · have := (gc_le (b := 32) (by omega) y.natAbs 43).mp hlb
    exact this
  · exact ⟨by rw [f2 46 (by simp), f1 46 (by simp)]; exact sb.1, by rw [f2 48 (by simp), f1 48 (by simp)]; exact sb.2⟩
/-- lowest terms: the upper and the lower one -/
def rU (u d : Int) : Int := (if d < 0 then -u else u).tdiv (Nat.gcd u.natAbs d.natAbs : Int)
def rD (u d : Int) : Int := (d.natAbs : Int).tdiv (Nat.gcd u.natAbs d.natAbs : Int)
theorem tdiv_one' (x : Int) : x.tdiv ((1 : Nat) : Int) = x := Int.tdiv_one x
theorem s_lowest {h : HP} {u d : Int} {Φ : HP → Prop} (hu : WN h 35 u) (hd : WN h 37 d) (d0 : d ≠ 0) (gu : gc 32 u.natAbs ≤ 43) (gd : gc 32 d.natAbs ≤ 43) (sb : SB h)
    (K : ∀ h2 : HP, Fr [35, 36, 37, 38, 41, 42, 43, 44, 46, 47, 48, 49, 50, 51] h h2 → SB h2 → WN h2 35 (rU u d) → WN h2 37 (rD u d) → Φ h2) : K_Re_bringToLowestTerms [.ref 23] h Φ := by
  refine I_Re_bringToLowestTerms (fun X C Rm Q => ?_)
  have k35 : kd 35 = (0, 0) := rfl
  have k37 : kd 37 = (0, 0) := rfl
  have k41 : kd 41 = (0, 0) := rfl
  have core : ∀ (h0 : HP) (u' : Int), Fr [35, 37] h h0 → WN h0 35 u' → WN h0 37 (d.natAbs : Int) → u' = (if d < 0 then -u else u) → Wg X 0 0 h0 [(0, .ref 23)] [] 33 := by
    intro h0 u' f wu wd hu'
    have hua : u'.natAbs = u.natAbs := by rw [hu']; split <;> simp
    have eU : rU u d = u'.tdiv (Nat.gcd u.natAbs d.natAbs : Int) := by unfold rU; rw [hu']
    refine g_Re_bringToLowestTerms_33 C Rm Q ?_
    refine s_isOne k37 wd ⟨fun q => ?_, fun q => ?_⟩
    · refine s_findDivisor k35 k37 (by decide) (by decide) (by decide) wu wd (by rw [hua]; exact gu) (by rw [Int.natAbs_natCast]; exact gd) (sb.fr f (by simp) (by simp)) (fun h2 f2 s2 w2 => ?_)
      rw [hua, Int.natAbs_natCast] at w2
      have wu2 : WN h2 35 u' := wu.fr f2 (by simp) (by simp)
      have wd2 : WN h2 37 (d.natAbs : Int) := wd.fr f2 (by simp) (by simp)
      have ff : Fr [35, 36, 37, 38, 41, 42, 43, 44, 46, 47, 48, 49, 50, 51] h h2 := (f.mono (by simp)).trans (f2.mono (by simp))
      have gpos : 0 < Nat.gcd u.natAbs d.natAbs := Nat.gcd_pos_of_pos_right _ (by omega)
      have gle : Nat.gcd u.natAbs d.natAbs ≤ d.natAbs := Nat.gcd_le_right _ (by omega)
      refine s_isOne k41 w2 ⟨fun q2 => ?_, fun q2 => ?_⟩
      · have g1 : Nat.gcd u.natAbs d.natAbs = 1 := by
          by_cases z : (Nat.gcd u.natAbs d.natAbs : Int) = 1
          · omega
          · rw [if_neg z] at q2; exact absurd rfl q2
        exact K h2 ff s2 (by rw [eU, g1, tdiv_one']; exact wu2) (by unfold rD; rw [g1, tdiv_one']; exact wd2)
      · refine s_divide k35 k41 (by decide) (by decide) (by decide) (by decide) wu2 w2 (by omega) (by rw [hua]; exact gu) (Nat.le_trans (gc_mono (by omega) (by rw [Int.natAbs_natCast]; exact gle)) gd) s2 (fun h4 f4 w46 w48 => ?_)
        refine s_setTo k35 (show kd 46 = (0, 0) from rfl) w46 (by decide) (fun h5 f5 w5 => ?_)
        have wd5 : WN h5 37 (d.natAbs : Int) := (wd2.fr f4 (by simp) (by simp)).fr f5 (by simp) (by simp)
        have w41 : WN h5 41 (Nat.gcd u.natAbs d.natAbs : Int) := (w2.fr f4 (by simp) (by simp)).fr f5 (by simp) (by simp)
        have s5 : SB h5 := ⟨by rw [f5 46 (by simp)]; exact w46.sgb, by rw [f5 48 (by simp)]; exact w48.sgb⟩
        refine s_divide k37 k41 (by decide) (by decide) (by decide) (by decide) wd5 w41 (by omega) (by rw [Int.natAbs_natCast]; exact gd) (Nat.le_trans (gc_mono (by omega) (by rw [Int.natAbs_natCast]; exact gle)) gd) s5 (fun h6 f6 w46' w48' => ?_)
        refine s_setTo k37 (show kd 46 = (0, 0) from rfl) w46' (by decide) (fun h7 f7 w7 => ?_)
        have s7 : SB h7 := ⟨by rw [f7 46 (by simp)]; exact w46'.sgb, by rw [f7 48 (by simp)]; exact w48'.sgb⟩
        exact K h7 (ff.trans (((f4.mono (by simp)).trans (f5.mono (by simp))).trans ((f6.mono (by simp)).trans (f7.mono (by simp))))) s7 (by rw [eU]; exact (w5.fr f6 (by simp) (by simp)).fr f7 (by simp) (by simp)) w7
    · have d1 : d.natAbs = 1 := by
        by_cases z : (d.natAbs : Int) = 1
        · omega
        · rw [if_neg z] at q; exact absurd rfl q
      have g1 : Nat.gcd u.natAbs d.natAbs = 1 := by rw [d1, Nat.gcd_one_right]
      exact K h0 (f.mono (by simp)) (sb.fr f (by simp) (by simp)) (by rw [eU, g1, tdiv_one']; exact wu) (by unfold rD; rw [g1, tdiv_one']; exact wd)
  refine g_Re_bringToLowestTerms_0 C Rm Q ⟨fun q => ?_, fun q => ?_⟩
  · rw [hd.sg, sg_ne] at q
    exact core h u (Fr.rf _ _) hu (by rwa [show (d.natAbs : Int) = d by omega]) (by rw [if_neg (by omega)])
  · rw [hd.sg, sg_ne] at q
    refine s_flipSign k35 hu (fun h1 f1 w1 => ?_)
    refine s_flipSign k37 (hd.fr f1 (by simp) (by simp)) (fun h2 f2 w2 => ?_)
    exact core h2 (-u) ((f1.mono (by simp)).trans (f2.mono (by simp))) (w1.fr f2 (by simp) (by simp)) (by rwa [show (d.natAbs : Int) = -d by omega]) (by rw [if_pos (by omega)])
/-- the operands as the reckoner holds them -/
def OP (h : HP) (a b c d : Int) : Prop := (WN h 25 a ∧ WN h 27 b ∧ WN h 30 c ∧ WN h 32 d) ∧ gc 32 a.natAbs ≤ 20 ∧ gc 32 b.natAbs ≤ 20 ∧ gc 32 c.natAbs ≤ 20 ∧ gc 32 d.natAbs ≤ 20
theorem OP.fr {S : List Nat} {h h2 : HP} {a b c d : Int} (k : OP h a b c d) (f : Fr S h h2) (hs : ∀ j, j ∈ S → j < 25 ∨ 33 < j) : OP h2 a b c d := by
  have q : ∀ j, 25 ≤ j → j ≤ 33 → j ∉ S := fun j h1 h3 hj => by have := hs j hj; omega
  exact ⟨⟨k.1.1.fr f (q _ (by omega) (by omega)) (q _ (by omega) (by omega)), k.1.2.1.fr f (q _ (by omega) (by omega)) (q _ (by omega) (by omega)), k.1.2.2.1.fr f (q _ (by omega) (by omega)) (q _ (by omega) (by omega)), k.1.2.2.2.fr f (q _ (by omega) (by omega)) (q _ (by omega) (by omega))⟩, k.2⟩
theorem s_orderOfOperands {h : HP} {a b c d : Int} {Φ : Int32 → HP → Prop} (o : OP h a b c d) (K : ∀ h2 : HP, Fr [35, 36, 39, 40] h h2 → Φ (ordZ (a * d) (c * b)) h2) : K_Re_orderOfOperands [.ref 23] h Φ := by
  refine I_Re_orderOfOperands (fun X C Rm Q => ?_)
  obtain ⟨⟨wa, wb, wc, wd⟩, ga, gb, gc', gd⟩ := id o
  refine g_Re_orderOfOperands_0 C Rm Q ?_
  refine s_setProduct (show kd 35 = (0, 0) from rfl) (show kd 25 = (0, 0) from rfl) (show kd 32 = (0, 0) from rfl) (by decide) (by decide) wa wd (by omega) (fun h1 f1 w1 => ?_)
  obtain ⟨⟨wa1, wb1, wc1, wd1⟩, -⟩ := o.fr f1 (by simp)
  refine s_setProduct (show kd 39 = (0, 0) from rfl) (show kd 30 = (0, 0) from rfl) (show kd 27 = (0, 0) from rfl) (by decide) (by decide) wc1 wb1 (by omega) (fun h2 f2 w2 => ?_)
  refine s_orderTo (show kd 35 = (0, 0) from rfl) (show kd 39 = (0, 0) from rfl) (w1.fr f2 (by simp) (by simp)) w2 ?_
  exact K h2 ((f1.mono (by simp)).trans (f2.mono (by simp)))
/-- what the ways make, before lowest terms -/
def wkU (way : Nat) (a b c d : Int) : Int := if way = 0 then a * d + c * b else if way = 1 then a * d - c * b else if way = 2 then a * c else if way = 3 then a * d else if way = 4 then a.tdiv c else if way = 5 then a.tmod c else (Nat.gcd a.natAbs c.natAbs : Int)
def wkD (way : Nat) (b c d : Int) : Int := if way ≤ 2 then b * d else if way = 3 then b * c else 1
theorem nI_ne {a b : Nat} (ha : a < 2147483648) (hb : b < 2147483648) : (¬ nI a = nI b) ↔ a ≠ b := by rw [nI_eq (by omega) (by omega)]
theorem s_ratios {h : HP} {a b c d : Int} {way : Nat} {Φ : HP → Prop} (hw : way ≤ 3) (o : OP h a b c d)
    (K : ∀ h2 : HP, Fr [35, 36, 37, 38, 39, 40] h h2 → WN h2 35 (wkU way a b c d) → WN h2 37 (wkD way b c d) → gc 32 (wkU way a b c d).natAbs ≤ 43 → gc 32 (wkD way b c d).natAbs ≤ 43 → Φ h2) : K_Re_workOnRatios [.ref 23, .int (nI way)] h Φ := by
  refine I_Re_workOnRatios (fun X C Rm Q => ?_)
  obtain ⟨⟨wa, wb, wc, wd⟩, ga, gb, gc', gd⟩ := id o
  have gad := gc_abs_mul a d
  have gcb := gc_abs_mul c b
  have gac := gc_abs_mul a c
  have gbd := gc_abs_mul b d
  have gbc := gc_abs_mul b c
  have k35 : kd 35 = (0, 0) := rfl
  have k37 : kd 37 = (0, 0) := rfl
  have k39 : kd 39 = (0, 0) := rfl
  have k25 : kd 25 = (0, 0) := rfl
  have k27 : kd 27 = (0, 0) := rfl
  have k30 : kd 30 = (0, 0) := rfl
  have k32 : kd 32 = (0, 0) := rfl
  have tail : ∀ (h0 : HP) (z : Int), Fr [35, 36, 39, 40] h h0 → WN h0 35 (a * d) → WN h0 39 z → gc 32 z.natAbs ≤ 40 → wkU way a b c d = a * d + z → way ≤ 1 → Wg X 0 0 h0 [(0, .ref 23), (1, .int (nI way))] [] 165 := by
    intro h0 z f w1 w2 gz e hw1
    refine g_Re_workOnRatios_165 C Rm Q ?_
    refine s_setSum k35 k35 k39 w1 w2 (by omega) (by omega) (fun h1 f1 w3 => ?_)
    have o1 := o.fr (f.trans (f1.mono (by simp))) (by simp)
    refine s_setProduct k37 k27 k32 (by decide) (by decide) o1.1.2.1 o1.1.2.2.2 (by omega) (fun h2 f2 w4 => ?_)
    have eD : wkD way b c d = b * d := by unfold wkD; rw [if_pos (by omega)]
    refine K h2 (((f.mono (by simp)).trans (f1.mono (by simp))).trans (f2.mono (by simp))) (by rw [e]; exact w3.fr f2 (by simp) (by simp)) (by rw [eD]; exact w4) ?_ (by rw [eD]; omega)
    rw [e]
    have := gc_abs_add (a * d) z 40 (by omega) gz
    omega
  refine g_Re_workOnRatios_0 C Rm Q ⟨fun q2 => ⟨fun q3 => ?_, fun q3 => ?_⟩, fun q2 => ?_⟩
  · rw [show (2 : Int32) = nI 2 from rfl, nI_ne (by omega) (by omega)] at q2
    rw [show (3 : Int32) = nI 3 from rfl, nI_ne (by omega) (by omega)] at q3
    refine s_setProduct k35 k25 k32 (by decide) (by decide) wa wd (by omega) (fun h1 f1 w1 => ?_)
    have o1 := o.fr f1 (by simp)
    refine s_setProduct k39 k30 k27 (by decide) (by decide) o1.1.2.2.1 o1.1.2.1 (by omega) (fun h2 f2 w2 => ?_)
    have w1' : WN h2 35 (a * d) := w1.fr f2 (by simp) (by simp)
    refine ⟨fun q1 => ?_, fun q1 => ?_⟩
    · rw [zi1, nI_ne (by omega) (by omega)] at q1
      refine tail h2 (c * b) ((f1.mono (by simp)).trans (f2.mono (by simp))) w1' w2 (by omega) ?_ (by omega)
      unfold wkU
      rw [if_pos (by omega)]
    · rw [zi1, nI_eq (by omega) (by omega)] at q1
      refine s_flipSign k39 w2 (fun h3 f3 w3 => ?_)
      refine tail h3 (-(c * b)) (((f1.mono (by simp)).trans (f2.mono (by simp))).trans (f3.mono (by simp))) (w1'.fr f3 (by simp) (by simp)) w3 (by rw [Int.natAbs_neg]; omega) ?_ (by omega)
      unfold wkU
      rw [if_neg (by omega), if_pos (by omega), Int.sub_eq_add_neg]
  · rw [show (3 : Int32) = nI 3 from rfl, nI_eq (by omega) (by omega)] at q3
    subst q3
    refine s_setProduct k35 k25 k32 (by decide) (by decide) wa wd (by omega) (fun h1 f1 w1 => ?_)
    have o1 := o.fr f1 (by simp)
    refine s_setProduct k37 k27 k30 (by decide) (by decide) o1.1.2.1 o1.1.2.2.1 (by omega) (fun h2 f2 w2 => ?_)
    have eU : wkU 3 a b c d = a * d := rfl
    have eD : wkD 3 b c d = b * c := rfl
    exact K h2 ((f1.mono (by simp)).trans (f2.mono (by simp))) (w1.fr f2 (by simp) (by simp)) w2 (by rw [eU]; omega) (by rw [eD]; omega)
  · rw [show (2 : Int32) = nI 2 from rfl, nI_eq (by omega) (by omega)] at q2
    subst q2
    refine s_setProduct k35 k25 k30 (by decide) (by decide) wa wc (by omega) (fun h1 f1 w1 => ?_)
    have o1 := o.fr f1 (by simp)
    refine s_setProduct k37 k27 k32 (by decide) (by decide) o1.1.2.1 o1.1.2.2.2 (by omega) (fun h2 f2 w2 => ?_)
    have eU : wkU 2 a b c d = a * c := rfl
    have eD : wkD 2 b c d = b * d := rfl
    exact K h2 ((f1.mono (by simp)).trans (f2.mono (by simp))) (w1.fr f2 (by simp) (by simp)) w2 (by rw [eU]; omega) (by rw [eD]; omega)
theorem s_wholes {h : HP} {a b c d : Int} {way : Nat} {Φ : HP → Prop} (hw : 4 ≤ way) (hw2 : way ≤ 6) (o : OP h a b c d) (sb : SB h) (c0 : way ≠ 6 → c ≠ 0)
    (K : ∀ h2 : HP, Fr [35, 36, 37, 38, 41, 42, 43, 44, 46, 47, 48, 49, 50, 51] h h2 → SB h2 → WN h2 35 (wkU way a b c d) → WN h2 37 1 → Φ h2) : K_Re_workOnWholes [.ref 23, .int (nI way)] h Φ := by
  refine I_Re_workOnWholes (fun X C Rm Q => ?_)
  have k35 : kd 35 = (0, 0) := rfl
  have k37 : kd 37 = (0, 0) := rfl
  have k25 : kd 25 = (0, 0) := rfl
  have k30 : kd 30 = (0, 0) := rfl
  refine g_Re_workOnWholes_0 C Rm Q ?_
  refine s_setLong k37 (fun h1 f1 w1 => ?_)
  have w1 : WN h1 37 1 := w1
  have o1 := o.fr f1 (by simp)
  have s1 : SB h1 := sb.fr f1 (by simp) (by simp)
  obtain ⟨⟨wa, wb, wc, wd⟩, ga, gb, gc', gd⟩ := id o1
  refine ⟨fun q6 => ?_, fun q6 => ?_⟩
  · rw [show (6 : Int32) = nI 6 from rfl, nI_ne (by omega) (by omega)] at q6
    refine s_divide k25 k30 (by decide) (by decide) (by decide) (by decide) wa wc (c0 q6) (by omega) (by omega) s1 (fun h2 f2 w46 w48 => ⟨fun q4 => ?_, fun q4 => ?_⟩)
    · rw [show (4 : Int32) = nI 4 from rfl, nI_ne (by omega) (by omega)] at q4
      refine s_setTo k35 (show kd 48 = (0, 0) from rfl) w48 (by decide) (fun h3 f3 w3 => ?_)
      have e5 : way = 5 := by omega
      subst e5
      exact K h3 (((f1.mono (by simp)).trans (f2.mono (by simp))).trans (f3.mono (by simp))) ⟨by rw [f3 46 (by simp)]; exact w46.sgb, by rw [f3 48 (by simp)]; exact w48.sgb⟩ w3 ((w1.fr f2 (by simp) (by simp)).fr f3 (by simp) (by simp))
    · rw [show (4 : Int32) = nI 4 from rfl, nI_eq (by omega) (by omega)] at q4
      refine s_setTo k35 (show kd 46 = (0, 0) from rfl) w46 (by decide) (fun h3 f3 w3 => ?_)
      subst q4
      exact K h3 (((f1.mono (by simp)).trans (f2.mono (by simp))).trans (f3.mono (by simp))) ⟨by rw [f3 46 (by simp)]; exact w46.sgb, by rw [f3 48 (by simp)]; exact w48.sgb⟩ w3 ((w1.fr f2 (by simp) (by simp)).fr f3 (by simp) (by simp))
  · rw [show (6 : Int32) = nI 6 from rfl, nI_eq (by omega) (by omega)] at q6
    subst q6
    refine s_findDivisor k25 k30 (by decide) (by decide) (by decide) wa wc (by omega) (by omega) s1 (fun h2 f2 s2 w2 => ?_)
    refine s_setTo k35 (show kd 41 = (0, 0) from rfl) w2 (by decide) (fun h3 f3 w3 => ?_)
    exact K h3 (((f1.mono (by simp)).trans (f2.mono (by simp))).trans (f3.mono (by simp))) (s2.fr f3 (by simp) (by simp)) w3 ((w1.fr f2 (by simp) (by simp)).fr f3 (by simp) (by simp))
theorem s_raSetLong {h : HP} {p : Nat} {v : Int64} {Φ : HP → Prop} (hp : kd p = (1, 0)) (K : ∀ h2, Fr [p + 1, p + 2, p + 3, p + 4] h h2 → WN h2 (p + 1) v.toInt → WN h2 (p + 3) 1 → Φ h2) : K_Ra_setLong [.ref p, .long v] h Φ := by
  refine I_Ra_setLong (fun X C Rm Q => g_Ra_setLong_0 C Rm Q hp ?_)
  refine s_setLong (kRa1 hp) (fun h1 f1 w1 => s_setLong (kRa3 hp) (fun h2 f2 w2 => ?_))
  exact K h2 ((f1.mono (by simp)).trans (f2.mono (by simp))) (w1.fr f2 (by simp) (by simp)) w2
theorem s_raIsWhole {h : HP} {p : Nat} {d : Int} {Φ : Int32 → HP → Prop} (hp : kd p = (1, 0)) (hd : WN h (p + 3) d) (K : Φ (if d = 1 then 1 else 0) h) : K_Ra_isWhole [.ref p] h Φ := by
  refine I_Ra_isWhole (fun X C Rm Q => g_Ra_isWhole_0 C Rm Q hp ?_)
  exact s_isOne (kRa3 hp) hd ⟨by split <;> simp, K⟩
theorem s_raIsLarge {h : HP} {p : Nat} {u d : Int} {Φ : Int32 → HP → Prop} (hp : kd p = (1, 0)) (hu : WN h (p + 1) u) (hd : WN h (p + 3) d) (K : Φ (if gc 32 u.natAbs ≤ 20 ∧ gc 32 d.natAbs ≤ 20 then 0 else 1) h) : K_Ra_isLarge [.ref p] h Φ := by
  have g1 := hu.le
  have g2 := hd.le
  refine I_Ra_isLarge (fun X C Rm Q => g_Ra_isLarge_0 C Rm Q hp ⟨fun q => ?_, fun q => ⟨fun q2 => ?_, fun q2 => ?_⟩⟩)
  · rw [hu.len, show (20 : Int32) = nI 20 from rfl, nI_ltI (by omega) (by omega)] at q
    rwa [if_neg (by omega)] at K
  · rw [hu.len, show (20 : Int32) = nI 20 from rfl, nI_ltI (by omega) (by omega)] at q
    rw [hd.len, show (20 : Int32) = nI 20 from rfl, nI_leI (by omega) (by omega)] at q2
    rwa [if_pos (by omega)] at K
  · rw [hd.len, show (20 : Int32) = nI 20 from rfl, nI_leI (by omega) (by omega)] at q2
    rwa [if_neg (by omega)] at K
