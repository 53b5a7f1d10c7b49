/-! The model's calls: work, compare, whole. -/
theorem s_mops {h : HP} {A : AS} {o : Nat → Nat} {L O : List Nat} {p q : Nat} {Φ : HP → Prop} (S : MS h A o L O) (hp : p < 8) (hq : q < 8) (n1 : isNm A (ar A p)) (n2 : isNm A (ar A q)) (K : ∀ h2, FR [0, 1, 2, 3] h h2 → OPm h2 (nU A (ar A p)) (nD A (ar A p)) (nU A (ar A q)) (nD A (ar A q)) → Φ h2) : K_Mo_take [.ref 0, .int 0, .int 1, .int (nI p)] h (fun h1 => K_Mo_take [.ref 0, .int 2, .int 3, .int (nI q)] h1 Φ) := by
  have hv := S.1.2.2 p hp
  have hw := S.1.2.2 q hq
  obtain ⟨g1, g2, _⟩ := num_gc S.1 hv n1.1 n1.2
  obtain ⟨g3, g4, _⟩ := num_gc S.1 hw n2.1 n2.2
  refine s_mtake (u := 0) (d := 1) S.pm.1 S.1 (by omega) (by omega) (by omega) (by omega) (S.pm.reg hp) hv n1.1 n1.2 (fun h1 f1 w1 w2 => ?_)
  have S1 := FR.ms S f1 (by simp)
  refine s_mtake (u := 2) (d := 3) S1.pm.1 S1.1 (by omega) (by omega) (by omega) (by omega) (S1.pm.reg hq) hw n2.1 n2.2 (fun h2 f2 w3 w4 => ?_)
  exact K h2 ((f1.mono (by simp)).trans (f2.mono (by simp))) ⟨⟨w1.fr f2 (by simp), w2.fr f2 (by simp), w3, w4⟩, g1, g2, g3, g4⟩
def oCmp (A : AS) (x y : Vl) : Int32 := if ¬ (isNm A x ∧ isNm A y) then -4 else ordZ (nU A x * nD A y) (nU A y * nD A x)
theorem s_mcompareR {h : HP} {A : AS} {o : Nat → Nat} {L O : List Nat} {x y : Int32} {Φ : Int32 → HP → Prop} (S : MS h A o L O) (bad : ¬ (isr x ∧ isr y) → ∀ h2, FM h h2 → h2 0 0 = 1 → MS h2 A o L O → Φ 0 h2) (good : ∀ p q, p < 8 → x = nI p → q < 8 → y = nI q → ∀ h2, FM h h2 → h2 0 0 = 0 → MS h2 A o L O → Φ (oCmp A (ar A p) (ar A q)) h2) : K_Mo_compare [.ref 0, .int x, .int y] h Φ := by
  refine I_Mo_compare (fun X C Rm Q => ?_)
  have c1 : ¬ (isr x ∧ isr y) → Wg X 0 0 h [(0, .ref 0), (1, .int x), (2, .int y)] [.int 1, .ref 0] 20 := fun q => g_Mo_compare_20 C Rm Q (s_mref1 ⟨fun z => absurd z (by decide), fun _ => bad q _ FM.ref (up_at _ _ _ _) S.ref⟩)
  refine g_Mo_compare_0 C Rm Q (s_misR (fun q => ⟨fun z => absurd z (by decide), fun _ => s_misR (fun q2 => ⟨fun z => absurd z (by decide), fun _ => ?_⟩) (fun q2 => ⟨fun _ => c1 (fun y => q2 y.2), fun z => absurd rfl z⟩)⟩) (fun q => ⟨fun _ => c1 (fun y => q y.1), fun z => absurd rfl z⟩))
  obtain ⟨p, hp, rfl⟩ := q
  obtain ⟨f, hf, rfl⟩ := q2
  have S0 := S.ref (v := 0)
  have go := good p f hp rfl hf rfl
  have hv := S.1.2.2 p hp
  have hw := S.1.2.2 f hf
  unfold oCmp at go
  have no : ¬ (isNm A (ar A p) ∧ isNm A (ar A f)) → Φ (-4) (up h 0 0 0) := fun z => by
    simp only [if_pos z] at go
    exact go _ FM.ref (up_at _ _ _ _) S0
  refine g_Mo_compare_20 C Rm Q (s_mref0 ⟨fun _ => s_misNumber S0.pm.1 S.1 (by omega) (S0.pm.reg hp) hv ⟨fun z => no (fun y => ?_), fun z => s_misNumber S0.pm.1 S.1 (by omega) (S0.pm.reg hf) hw ⟨fun z2 => ?_, fun z2 => no (fun y => ?_)⟩⟩, fun z => absurd rfl z⟩)
  · rw [if_pos y.1] at z; exact absurd z (by decide)
  · have n1 : isNm A (ar A p) := by
      by_cases q : isNm A (ar A p)
      · exact q
      · rw [if_neg q] at z; exact absurd rfl z
    have n2 : isNm A (ar A f) := by
      by_cases q : isNm A (ar A f)
      · exact q
      · rw [if_neg q] at z2; exact absurd rfl z2
    simp only [if_neg (show ¬ ¬ (isNm A (ar A p) ∧ isNm A (ar A f)) from fun z => z ⟨n1, n2⟩)] at go
    refine s_mops S0 hp hf n1 n2 (fun h2 f2 op => ?_)
    generalize nU A (ar A p) = a at *
    generalize nD A (ar A p) = b at *
    generalize nU A (ar A f) = c at *
    generalize nD A (ar A f) = d at *
    obtain ⟨⟨wa, wb, wc, wd⟩, ga, gb, gC, gd⟩ := id op
    have ga' := gc16 ga
    have gb' := gc16 gb
    have gc' := gc16 gC
    have gd' := gc16 gd
    have gad := gc16 (gc_abs_mul a d)
    have gcb := gc16 (gc_abs_mul c b)
    refine s_mprod (t := 6) (a := 0) (b := 3) (by omega) (by omega) (by omega) (by omega) (by omega) wa wd (by omega) (fun h3 f3 w3 => ?_)
    obtain ⟨⟨wa1, wb1, wc1, wd1⟩, -⟩ := op.fr f3 (by simp)
    refine s_mprod (t := 7) (a := 2) (b := 1) (by omega) (by omega) (by omega) (by omega) (by omega) wc1 wb1 (by omega) (fun h4 f4 w4 => ?_)
    have sm : K_Mo_sum [.ref 0, .int (nI 8), .int (nI 6), .int (nI 7), .int (if true then 1 else 0)] h4 (fun h8 => vp_in 8 218 ∧ ((¬ (h8 9 (8 : Int32).toNatClampNeg) = 0 → vp_in 8 218 ∧ (((h8 10 (8 : Int32).toNatClampNeg) = 0 → Φ 1 h8) ∧ (¬ (h8 10 (8 : Int32).toNatClampNeg) = 0 → Φ ((-1)) h8))) ∧ ((h8 9 (8 : Int32).toNatClampNeg) = 0 → Φ 0 h8))) := by
      refine s_msum (less := true) (by omega) (by omega) (by omega) (by omega) (by omega) (w3.fr f4 (by simp)) w4 (by omega) (by omega) (fun h5 f5 w5 => ?_)
      have w5 : MN h5 8 (a * d - c * b) := w5
      have ff : FR [0, 1, 2, 3, 6, 7, 8] (up h 0 0 0) h5 := (((f2.mono (by simp)).trans (f3.mono (by simp))).trans (f4.mono (by simp))).trans (f5.mono (by simp))
      have mk := MK.ofFR ff
      have S5 := FR.ms S0 ff (by simp)
      have k := go h5 (FM.ref.trans mk.fm) (mk.2.1.trans (up_at _ _ _ _)) S5
      have e8 : (8 : Int32).toNatClampNeg = 8 := rfl
      rw [e8, w5.u.len, nI_e0 (by have := w5.u.le; omega), gc_eq0, w5.sg, sg_ne]
      unfold ordZ at k
      generalize a * d = u at *
      generalize c * b = v at *
      refine ⟨vr (r := 8) (by omega), fun z => ⟨vr (r := 8) (by omega), fun z2 => ?_, fun z2 => ?_⟩, fun z => ?_⟩
      · rw [if_neg (by omega), if_neg (by omega)] at k; exact k
      · rw [if_pos (by omega)] at k; exact k
      · rw [if_neg (by omega), if_pos (by omega)] at k; exact k
    exact sm
  · rw [if_pos y.2] at z2; exact absurd z2 (by decide)
theorem s_mwork {h : HP} {A : AS} {o : Nat → Nat} {L O : List Nat} {x y z w : Int32} {Φ : Int32 → HP → Prop} (S : MS h A o L O) (bad : ¬ (isr x ∧ isr y ∧ isr z ∧ isn 7 w) → ∀ h2, FM h h2 → h2 0 0 = 1 → MS h2 A o L O → Φ 0 h2) (good : ∀ t p q way, t < 8 → x = nI t → p < 8 → y = nI p → q < 8 → z = nI q → way < 7 → w = nI way → ∀ h2 o2, FM h h2 → h2 0 0 = 0 → MS h2 (oWkA A t (ar A p) (ar A q) way) o2 L O → Φ (Int32.ofInt (oWkR A (ar A p) (ar A q) way)) h2) : K_Mo_work [.ref 0, .int x, .int y, .int z, .int w] h Φ := by
  refine I_Mo_work (fun X C Rm Q => ?_)
  have c1 : ¬ (isr x ∧ isr y ∧ isr z ∧ isn 7 w) → Wg X 0 0 h [(0, .ref 0), (1, .int x), (2, .int y), (3, .int z), (4, .int w)] [.int 1, .ref 0] 39 := fun q => g_Mo_work_39 C Rm Q (s_mref1 ⟨fun z => absurd z (by decide), fun _ => bad q _ FM.ref (up_at _ _ _ _) S.ref⟩)
  refine g_Mo_work_0 C Rm Q (s_misR (fun q => ⟨fun z => absurd z (by decide), fun _ => s_misR (fun q2 => ⟨fun z => absurd z (by decide), fun _ => s_misR (fun q3 => ⟨fun z => absurd z (by decide), fun _ => ⟨fun n => c1 (fun z => ((isn_iff (by omega)).mp z.2.2.2).1 n), fun n => ⟨fun n2 => c1 (fun z => ((isn_iff (by omega)).mp z.2.2.2).2 n2), fun n2 => ?_⟩⟩⟩) (fun q3 => ⟨fun _ => c1 (fun y => q3 y.2.2.1), fun z => absurd rfl z⟩)⟩) (fun q2 => ⟨fun _ => c1 (fun y => q2 y.2.1), fun z => absurd rfl z⟩)⟩) (fun q => ⟨fun _ => c1 (fun y => q y.1), fun z => absurd rfl z⟩))
  obtain ⟨t, ht, rfl⟩ := q
  obtain ⟨p, hp, rfl⟩ := q2
  obtain ⟨f, hf, rfl⟩ := q3
  obtain ⟨way, hway, rfl⟩ := (isn_iff (n := 6) (by omega)).mpr ⟨n, n2⟩
  have S0 := S.ref (v := 0)
  have go := fun h2 o2 => good t p f way ht rfl hp rfl hf rfl hway rfl h2 o2
  clear good bad
  have hv := S.1.2.2 p hp
  have hw := S.1.2.2 f hf
  have l1 := vs_lt S.1 hv
  have l2 := vs_lt S.1 hw
  unfold oWkA oWkR at go
  have no : ¬ wkK A (ar A p) (ar A f) way → Φ (-4) (up h 0 0 0) := fun z => by
    simp only [if_pos z] at go
    exact go _ o FM.ref (up_at _ _ _ _) S0
  -- the work itself
  have body : wkK A (ar A p) (ar A f) way → Wg X 0 0 (up h 0 0 0) [(0, .ref 0), (1, .int (nI t)), (2, .int (nI p)), (3, .int (nI f)), (4, .int (nI way))] [] 90 := by
    intro kk
    simp only [if_neg (show ¬ ¬ wkK A (ar A p) (ar A f) way from fun z => z kk)] at go
    obtain ⟨n1, n2, -⟩ := id kk
    obtain ⟨-, -, b0⟩ := num_gc S.1 hv n1.1 n1.2
    obtain ⟨-, -, d0⟩ := num_gc S.1 hw n2.1 n2.2
    refine g_Mo_work_90 C Rm Q (s_mops S0 hp hf n1 n2 (fun h2 f2 op => ?_))
    generalize nU A (ar A p) = a at *
    generalize nD A (ar A p) = b at *
    generalize nU A (ar A f) = c at *
    generalize nD A (ar A f) = d at *
    have S2 := FR.ms S0 f2 (by simp)
    have mk2 := MK.ofFR f2
    have zero : 3 ≤ way ∧ way ≤ 5 ∧ c = 0 → Φ (-5) h2 := fun z => by
      simp only [if_pos z] at go
      exact go _ o (FM.ref.trans mk2.fm) (mk2.2.1.trans (up_at _ _ _ _)) S2
    have rat : way ≤ 3 → (way = 3 → c ≠ 0) → Wg X 0 0 h2 [(0, .ref 0), (1, .int (nI t)), (2, .int (nI p)), (3, .int (nI f)), (4, .int (nI way))] [] 136 := by
      intro h3 c0
      simp only [if_neg (show ¬ (3 ≤ way ∧ way ≤ 5 ∧ c = 0) from fun z => c0 (by omega) z.2.2), wU, wD, if_pos h3] at go
      exact s_mworkR C Rm Q S0 f2 op b0 d0 c0 ht h3 (fun h4 o4 mk4 S4 => go h4 o4 (FM.ref.trans mk4.fm) (mk4.2.1.trans (up_at _ _ _ _)) S4)
    have e2 : (2 : Int32).toNatClampNeg = 2 := rfl
    have lc := op.1.2.2.1.u.len
    have gC := gc16 op.2.2.2.1
    rw [e2, lc, nI_e0 (by omega), gc_eq0, show (3 : Int32) = nI 3 from rfl, nI_leI (by omega) (by omega), nI_eq (show way < 2147483648 by omega) (by omega)]
    refine ⟨fun h3 => ⟨fun q3 => rat h3 (fun z => absurd z q3), fun q3 => ⟨vr (r := 2) (by omega), fun c0 => rat h3 (fun _ => by omega), fun c0 => zero ⟨by omega, by omega, by omega⟩⟩⟩, fun h3 => ?_⟩
    refine s_mworkWhole S0 f2 (by simp) op ht (by omega) (by omega) (fun h5 c0 => zero ⟨by omega, h5, c0⟩) (fun nz h4 o4 mk4 S4 => ?_)
    simp only [if_neg (show ¬ (3 ≤ way ∧ way ≤ 5 ∧ c = 0) from fun z => nz z.2), wU, wD, if_neg h3] at go
    exact go h4 o4 (FM.ref.trans mk4.fm) (mk4.2.1.trans (up_at _ _ _ _)) S4
  have num : ∀ v : Vl, ¬ (if vs A v ≠ 0 ∧ vs A v ≠ 4 then 1 else 0 : Int32) = 0 → isNm A v := fun v z => by
    by_cases q : isNm A v
    · exact q
    · rw [if_neg q] at z; exact absurd rfl z
  refine g_Mo_work_39 C Rm Q (s_mref0 ⟨fun _ => s_misNumber S0.pm.1 S.1 (by omega) (S0.pm.reg hp) hv ⟨fun z => no (fun y => ?_), fun z => s_misNumber S0.pm.1 S.1 (by omega) (S0.pm.reg hf) hw ⟨fun z2 => no (fun y => ?_), fun z2 => ?_⟩⟩, fun z => absurd rfl z⟩)
  · rw [if_pos y.1] at z; exact absurd z (by decide)
  · rw [if_pos y.2.1] at z2; exact absurd z2 (by decide)
  · have n1 := num _ z
    have n2 := num _ z2
    rw [show (3 : Int32) = nI 3 from rfl, nI_leI (by omega) (by omega)]
    refine ⟨fun h3 => body ⟨n1, n2, Or.inl h3⟩, fun h3 => s_msortOf S0.pm.1 (by omega) (S0.pm.reg hp) hv ?_⟩
    rw [nI_eq (by omega) (by omega)]
    refine ⟨fun q => no (fun y => ?_), fun q => s_msortOf S0.pm.1 (by omega) (S0.pm.reg hf) hw ?_⟩
    · rcases y.2.2 with y | y
      · exact h3 y
      · exact y.1 q
    rw [nI_eq (by omega) (by omega)]
    refine ⟨fun q2 => body ⟨n1, n2, Or.inr ⟨q, q2⟩⟩, fun q2 => no (fun y => ?_)⟩
    rcases y.2.2 with y | y
    · exact h3 y
    · exact y.2 q2
