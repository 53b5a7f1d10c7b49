/-! The model's calls: work, compare. -/
theorem FR.ms {g h3 : HP} {A : AS} {o : Nat → Nat} {L O : List Nat} {S' : List Nat} (S : MS g A o L O) (f : FR S' g h3) (hs : ∀ r, r ∈ S' → r < 13) : MS h3 A o L O :=
  S.mk (MK.ofFR f) S.1 ⟨S.pm.1.fr S.1 f hs, fun r hr => (S.pm.reg hr).fr f⟩
theorem MS.fin {g h3 : HP} {A : AS} {o : Nat → Nat} {L O : List Nat} {S' : List Nat} {t : Nat} {u d : Int} {Φ : Int32 → HP → Prop} (S : MS g A o L O) (f : FR S' g h3) (hs : ∀ r, r ∈ S' → r < 13) (ht : t < 8) (hu : MN h3 4 u) (hd : MN h3 5 d) (d0 : 0 < d) (K : ∀ h4 o4, MK g h4 → MS h4 (nkA A t u d) o4 L O → Φ (Int32.ofInt (nkR A u d)) h4) : K_Mo_finish [.ref 0, .int (nI t)] h3 Φ := by
  have S3 := FR.ms S f hs
  refine s_mfinish S3.pm S.1 ht hu hd d0 (fun h4 o4 mk4 P4 => ?_)
  exact K h4 o4 ((MK.ofFR f).trans mk4) (S3.mk mk4 (nkA_WF S.1 (by omega)) P4)
theorem rD_pos {u d : Int} (h : d ≠ 0) : 0 < rD u d := by
  unfold rD
  have gpos : 0 < Nat.gcd u.natAbs d.natAbs := Nat.gcd_pos_of_pos_right _ (by omega)
  have gle : Nat.gcd u.natAbs d.natAbs ≤ d.natAbs := Nat.gcd_le_right _ (by omega)
  rw [← Int.ofNat_tdiv]
  have := Nat.div_pos gle gpos
  omega
theorem MS.red {g h3 : HP} {A : AS} {o : Nat → Nat} {L O : List Nat} {S' : List Nat} {t : Nat} {u d : Int} {Φ : Int32 → HP → Prop} (S : MS g A o L O) (f : FR S' g h3) (hs : ∀ r, r ∈ S' → r < 13) (ht : t < 8) (hu : MN h3 4 u) (hd : MN h3 5 d) (d0 : d ≠ 0) (gu : gc 16 u.natAbs ≤ 97) (gd : gc 16 d.natAbs ≤ 97) (K : ∀ h4 o4, MK g h4 → MS h4 (nkA A t (rU u d) (rD u d)) o4 L O → Φ (Int32.ofInt (nkR A (rU u d) (rD u d))) h4) : K_Mo_reduce [.ref 0] h3 (fun h5 => K_Mo_finish [.ref 0, .int (nI t)] h5 Φ) := by
  refine s_mreduce hu hd d0 gu gd (fun h4 f4 w4 w5 => ?_)
  refine S.fin (S' := S' ++ [4, 5, 9, 10, 11, 12]) ((f.mono (by intro j hj; simp [hj])).trans (f4.mono (by intro j hj; exact List.mem_append_right _ hj))) (fun r hr => ?_) ht w4 w5 (rD_pos d0) K
  rcases List.mem_append.mp hr with z | z
  · exact hs r z
  · simp at z; omega
theorem num_gc {A : AS} {v : Vl} (w : WF A) (hv : VW (an A) v) (hn : vs A v ≠ 0) (h4 : vs A v ≠ 4) : gc 32 (nU A v).natAbs ≤ 20 ∧ gc 32 (nD A v).natAbs ≤ 20 ∧ nD A v ≠ 0 := by
  rcases num_cases w hv hn h4 with ⟨_, hh, eU, eD⟩ | ⟨k, t, rfl, _, hk, he, ha, hb, h0, eU, eD⟩
  · rw [eU, eD]
    exact ⟨hh.gcB w, by rw [show (1 : Int).natAbs = 1 from rfl, gc_1]; omega, by omega⟩
  · rw [eU, eD]
    exact ⟨ha.gcB w, hb.gcB w, h0⟩
theorem gc16 {m n : Nat} (h : gc 32 m ≤ n) : gc 16 m ≤ 2 * n := by
  have := (gc_le (b := 32) (by omega) m n).mp h
  refine (gc_le (by omega) _ _).mpr ?_
  rwa [show 16 * (2 * n) = 32 * n by omega]
def OPm (h : HP) (a b c d : Int) : Prop := (MN h 0 a ∧ MN h 1 b ∧ MN h 2 c ∧ MN h 3 d) ∧ gc 32 a.natAbs ≤ 20 ∧ gc 32 b.natAbs ≤ 20 ∧ gc 32 c.natAbs ≤ 20 ∧ gc 32 d.natAbs ≤ 20
theorem OPm.fr {S : List Nat} {h h2 : HP} {a b c d : Int} (k : OPm h a b c d) (f : FR S h h2) (hs : ∀ j, j ∈ S → 4 ≤ j) : OPm h2 a b c d := by
  have q : ∀ j, j < 4 → j ∉ S := fun j h1 hj => by have := hs j hj; omega
  exact ⟨⟨k.1.1.fr f (q _ (by omega)), k.1.2.1.fr f (q _ (by omega)), k.1.2.2.1.fr f (q _ (by omega)), k.1.2.2.2.fr f (q _ (by omega))⟩, k.2⟩
def wU (way : Nat) (a b c d : Int) : Int := if way ≤ 3 then rU (wkU way a b c d) (wkD way b c d) else wkU way a b c d
def wD (way : Nat) (a b c d : Int) : Int := if way ≤ 3 then rD (wkU way a b c d) (wkD way b c d) else 1
theorem gc_1' : gc 16 1 ≤ 97 := by
  have := gc16 (m := 1) (n := 1) (by rw [gc_1]; omega)
  omega
theorem s_mworkWhole {g h : HP} {A : AS} {o : Nat → Nat} {L O : List Nat} {S' : List Nat} {t way : Nat} {a b c d : Int} {Φ : Int32 → HP → Prop} (S : MS g A o L O) (f : FR S' g h) (hs : ∀ r, r ∈ S' → r < 13) (op : OPm h a b c d) (ht : t < 8) (hw : 4 ≤ way) (hw6 : way ≤ 6)
    (K5 : way ≤ 5 → c = 0 → Φ (-5) h) (K : ¬ (way ≤ 5 ∧ c = 0) → ∀ h4 o4, MK g h4 → MS h4 (nkA A t (wkU way a b c d) 1) o4 L O → Φ (Int32.ofInt (nkR A (wkU way a b c d) 1)) h4) : K_Mo_workWhole [.ref 0, .int (nI t), .int (nI way)] h Φ := by
  refine I_Mo_workWhole (fun X C Rm Q => ?_)
  obtain ⟨⟨wa, wb, wc, wd⟩, ga, gb, gC, gd⟩ := id op
  have ga' := gc16 ga
  have gc' := gc16 gC
  have e2 : (2 : Int32).toNatClampNeg = 2 := rfl
  have e0 : (0 : Int32).toNatClampNeg = 0 := rfl
  have e4 : (4 : Int32).toNatClampNeg = 4 := rfl
  refine g_Mo_workWhole_0 C Rm Q ⟨fun q6 => ⟨vr (r := 2) (by omega), fun c0 => ⟨vr (r := 0) (by omega), vr (r := 2) (by omega), ?_⟩, fun c0 => ?_⟩, fun q6 => ?_⟩
  · rw [show (6 : Int32) = nI 6 from rfl, nI_ne (by omega) (by omega)] at q6
    rw [e2, wc.u.len, nI_e0 (by omega), gc_eq0] at c0
    have cz : c ≠ 0 := by omega
    have k := K (fun z => cz z.2)
    refine s_mdivide (q := 12) (a := 0) (b := 2) (by omega) (by omega) (by omega) (by omega) (by omega) (by omega) (by omega) (by omega) wa wc.u c0 (by omega) (fun h1 f1 k12 k9 s12 s9 => ?_)
    rw [e0, e2, wa.sg, wc.sg]
    have ff1 : FR (S' ++ [9, 12]) g h1 := (f.mono (by intro j hj; simp [hj])).trans (f1.mono (by intro j hj; simp at hj; simp; omega))
    have hs1 : ∀ r, r ∈ S' ++ [9, 12] ++ [4] ++ [5] → r < 13 := fun r hr => by
      simp only [List.mem_append] at hr
      rcases hr with ((z | z) | z) | z
      · exact hs r z
      · simp at z; omega
      · simp at z; omega
      · simp at z; omega
    -- the tail
    have tail : ∀ (t2 m : Nat), (t2 = 9 ∧ way = 5 ∧ m = a.natAbs % c.natAbs) ∨ (t2 = 12 ∧ way = 4 ∧ m = a.natAbs / c.natAbs) → Wg X 0 0 h1 [(0, .ref 0), (1, .int (nI t)), (2, .int (nI way)), (3, .int (if a < 0 then 1 else 0)), (4, .int (if c < 0 then 1 else 0))] [.int (nI t2), .int (nI 4), .ref 0] 71 := by
      intro t2 m ht2
      have km : MN h1 t2 (m : Int) := by
        rcases ht2 with ⟨rfl, _, rfl⟩ | ⟨rfl, _, rfl⟩
        · exact ⟨by rw [Int.natAbs_natCast]; exact k9, by rw [s9, if_neg (Int.not_lt.mpr (Int.natCast_nonneg _))]⟩
        · exact ⟨by rw [Int.natAbs_natCast]; exact k12, by rw [s12, if_neg (Int.not_lt.mpr (Int.natCast_nonneg _))]⟩
      have t2l : t2 < 218 := by omega
      refine g_Mo_workWhole_71 C Rm Q (s_mcopy (by omega) t2l km (fun h2 f2 w2 => ⟨vr (r := 4) (by omega), ?_⟩))
      have ku : MU h2 4 m := by have := w2.u; rwa [Int.natAbs_natCast] at this
      have hZ : (wkU way a b c d).natAbs = m ∧ (m = 0 → ¬ wkU way a b c d < 0) ∧ (m ≠ 0 → (wkU way a b c d < 0 ↔ if way = 5 then a < 0 else ¬ (a < 0 ↔ c < 0))) := by
        rcases ht2 with ⟨_, rfl, rfl⟩ | ⟨_, rfl, rfl⟩
        · have e : wkU 5 a b c d = a.tmod c := rfl
          rw [e, tmod_cases]
          refine ⟨nab' _ _, fun z => ?_, fun z => ?_⟩
          · rw [z]; split <;> omega
          · rw [if_pos rfl]
            split <;> omega
        · have e : wkU 4 a b c d = a.tdiv c := rfl
          rw [e, tdiv_cases]
          refine ⟨nab _ _, fun z => ?_, fun z => ?_⟩
          · rw [z]; split <;> omega
          · rw [if_neg (show ¬ (4 : Nat) = 5 by omega)]
            generalize a.natAbs / c.natAbs = m at *
            split <;> omega
      generalize wkU way a b c d = Z at *
      have ff2 : FR (S' ++ [9, 12] ++ [4]) g h2 := (ff1.mono (by intro j hj; exact List.mem_append_left _ hj)).trans (f2.mono (by intro j hj; exact List.mem_append_right _ hj))
      have fin : ∀ s : Int32, s = (if Z < 0 then 1 else 0) → vp_in 4 218 ∧ (K_Mo_setLong [.ref 0, .int 5, .long 1] (up h2 10 4 s) (fun h2 => K_Mo_finish [.ref 0, .int (nI t)] h2 (fun r3 h3 => Φ r3 h3))) := by
        intro s hsg
        refine ⟨vr (r := 4) (by omega), ?_⟩
        have w4 : MN (up h2 10 4 s) 4 Z := ku.put hZ.1 hsg
        have ff3 : FR (S' ++ [9, 12] ++ [4]) g (up h2 10 4 s) := ff2.up10 (by simp)
        refine s_msetLong (r := 5) (by omega) (fun h3 f3 w5 => ?_)
        have ff4 : FR (S' ++ [9, 12] ++ [4] ++ [5]) g h3 := (ff3.mono (by intro j hj; exact List.mem_append_left _ hj)).trans (f3.mono (by intro j hj; exact List.mem_append_right _ hj))
        exact S.fin ff4 hs1 ht (w4.fr f3 (by simp)) w5 (by decide) k
      rw [e4, ku.len, nI_le0 (by have := ku.le; omega), gc_eq0]
      refine ⟨fun m0 => fin 0 (by rw [if_neg (hZ.2.1 m0)]), fun m0 => ?_⟩
      have hz2 := hZ.2.2 m0
      rw [show (4 : Int32) = nI 4 from rfl, nI_eq (by omega) (by omega)]
      have sg0 : ∀ z : Int, ((if z < 0 then 1 else 0 : Int32) = 0) ↔ ¬ z < 0 := fun z => by rw [sg_ne]; omega
      refine ⟨fun q4 => ⟨fun s => fin 0 ?_, fun s => fin 1 ?_⟩, fun q4 => ⟨fun s => fin 0 ?_, fun s => fin 1 ?_⟩⟩
      · rw [sg0] at s
        rw [if_pos (by omega)] at hz2
        rw [if_neg (by omega)]
      · rw [sg0] at s
        rw [if_pos (by omega)] at hz2
        rw [if_pos (by omega)]
      · rw [if_neg (by omega)] at hz2
        have : a < 0 ↔ c < 0 := by
          by_cases p : a < 0 <;> by_cases q : c < 0 <;> simp [p, q] at s ⊢
        rw [if_neg (by omega)]
      · rw [if_neg (by omega)] at hz2
        have : ¬ (a < 0 ↔ c < 0) := by
          by_cases p : a < 0 <;> by_cases q : c < 0 <;> simp [p, q] at s ⊢
        rw [if_pos (by omega)]
    refine ⟨fun q4 => ?_, fun q4 => ?_⟩
    · rw [show (4 : Int32) = nI 4 from rfl, nI_ne (by omega) (by omega)] at q4
      exact tail 9 _ (Or.inl ⟨rfl, by omega, rfl⟩)
    · rw [show (4 : Int32) = nI 4 from rfl, nI_eq (by omega) (by omega)] at q4
      exact tail 12 _ (Or.inr ⟨rfl, q4, rfl⟩)
  · rw [show (6 : Int32) = nI 6 from rfl, nI_ne (by omega) (by omega)] at q6
    rw [e2, wc.u.len, nI_e0 (by have := wc.u.le; omega), gc_eq0] at c0
    exact K5 (by omega) (by omega)
  · rw [show (6 : Int32) = nI 6 from rfl, nI_eq (by omega) (by omega)] at q6
    have k := K (by omega)
    have eZ : wkU way a b c d = (Nat.gcd a.natAbs c.natAbs : Int) := by subst q6; rfl
    rw [eZ] at k
    refine s_mdivisor (a := 0) (b := 2) (by omega) (by omega) (by omega) (by omega) (by omega) (by omega) wa wc (by omega) (by omega) (fun h2 f2 w10 => ?_)
    refine s_mcopy (t := 4) (r := 10) (by omega) (by omega) w10 (fun h3 f3 w4 => ?_)
    refine s_msetLong (r := 5) (by omega) (fun h4 f4 w5 => ?_)
    have ff : FR (S' ++ [4, 5, 10, 11]) g h4 := ((f.mono (by intro j hj; simp [hj])).trans ((f2.mono (T := S' ++ [4, 5, 10, 11]) (by intro j hj; simp at hj; simp; omega)).trans (f3.mono (by intro j hj; simp at hj; simp; omega)))).trans (f4.mono (by intro j hj; simp at hj; simp; omega))
    refine S.fin ff (fun r hr => ?_) ht (w4.fr f4 (by simp)) w5 (by decide) k
    rcases List.mem_append.mp hr with z | z
    · exact hs r z
    · simp at z; omega
abbrev isNm (A : AS) (v : Vl) : Prop := vs A v ≠ 0 ∧ vs A v ≠ 4
abbrev wkK (A : AS) (x y : Vl) (way : Nat) : Prop := isNm A x ∧ isNm A y ∧ (way ≤ 3 ∨ (vs A x ≠ 3 ∧ vs A y ≠ 3))
noncomputable def oWkR (A : AS) (x y : Vl) (way : Nat) : Int := if ¬ wkK A x y way then -4 else if 3 ≤ way ∧ way ≤ 5 ∧ nU A y = 0 then -5 else nkR A (wU way (nU A x) (nD A x) (nU A y) (nD A y)) (wD way (nU A x) (nD A x) (nU A y) (nD A y))
noncomputable def oWkA (A : AS) (t : Nat) (x y : Vl) (way : Nat) : AS := if ¬ wkK A x y way then A else if 3 ≤ way ∧ way ≤ 5 ∧ nU A y = 0 then A else nkA A t (wU way (nU A x) (nD A x) (nU A y) (nD A y)) (wD way (nU A x) (nD A x) (nU A y) (nD A y))
theorem mul_ne {x y : Int} (a : x ≠ 0) (b : y ≠ 0) : x * y ≠ 0 := Int.mul_ne_zero a b
set_option maxHeartbeats 2000000 in
theorem s_mworkR {g h : HP} {A : AS} {o : Nat → Nat} {L O : List Nat} {t way p q : Nat} {a b c d : Int} {X : CX} {Φ : Int32 → HP → Prop} (C : Cok X b_Mo_work 5 R_Mo (some .int)) (Rm : xR X = rml 6 0 0) (Q : Qok X 0 0 (fun r h2 => ∃ v, r = some (.int v) ∧ Φ v h2)) (S : MS g A o L O) (f : FR [0, 1, 2, 3] g h) (op : OPm h a b c d) (b0 : b ≠ 0) (d0 : d ≠ 0) (c0 : way = 3 → c ≠ 0) (ht : t < 8) (hw : way ≤ 3)
    (K : ∀ h4 o4, MK g h4 → MS h4 (nkA A t (rU (wkU way a b c d) (wkD way b c d)) (rD (wkU way a b c d) (wkD way b c d))) o4 L O → Φ (Int32.ofInt (nkR A (rU (wkU way a b c d) (wkD way b c d)) (rD (wkU way a b c d) (wkD way b c d)))) h4) : Wg X 0 0 h [(0, .ref 0), (1, .int (nI t)), (2, .int (nI p)), (3, .int (nI q)), (4, .int (nI way))] [] 136 := by
  obtain ⟨⟨wa, wb, wc, wd⟩, ga, gb, gC, gd⟩ := id op
  have ga' := gc16 ga
  have gb' := gc16 gb
  have gc' := gc16 gC
  have gd' := gc16 gd
  have gad := gc_abs_mul a d
  have gcb := gc_abs_mul c b
  have gac := gc_abs_mul a c
  have gbd := gc_abs_mul b d
  have gbc := gc_abs_mul b c
  have m40 : ∀ z : Int, gc 32 z.natAbs ≤ 41 → gc 16 z.natAbs ≤ 82 := fun z hz => by have := gc16 hz; omega
  have ht12 : ∀ r, r ∈ [0, 1, 2, 3, 4, 5, 6, 7] → r < 13 := fun r hr => by simp at hr; omega
  refine g_Mo_work_136 C Rm Q ⟨fun q2 => ?_, fun q2 => ?_⟩
  · rw [show (2 : Int32) = nI 2 from rfl, nI_leI (by omega) (by omega)] at q2
    refine ⟨fun q3 => ?_, fun q3 => ?_⟩
    · rw [show (2 : Int32) = nI 2 from rfl, nI_ne (by omega) (by omega)] at q3
      have e : way = 3 := by omega
      subst e
      refine g_Mo_work_202 C Rm Q ?_
      refine s_mprod (t := 4) (a := 0) (b := 3) (by omega) (by omega) (by omega) (by omega) (by omega) wa wd (by omega) (fun h1 f1 w1 => ⟨fun _ => ?_, fun z => absurd z (by decide)⟩)
      obtain ⟨⟨wa1, wb1, wc1, wd1⟩, -⟩ := op.fr f1 (by simp)
      refine s_mprod (t := 5) (a := 1) (b := 2) (by omega) (by omega) (by omega) (by omega) (by omega) wb1 wc1 (by omega) (fun h2 f2 w2 => ?_)
      exact S.red (S' := [0, 1, 2, 3, 4, 5, 6, 7]) (((f.mono (by simp)).trans (f1.mono (by simp))).trans (f2.mono (by simp))) ht12 ht (w1.fr f2 (by simp)) w2 (mul_ne b0 (c0 rfl)) (by have := m40 (a * d) (by omega); omega) (by have := m40 (b * c) (by omega); omega) K
    · rw [show (2 : Int32) = nI 2 from rfl, nI_eq (by omega) (by omega)] at q3
      subst q3
      refine g_Mo_work_202 C Rm Q ?_
      refine s_mprod (t := 4) (a := 0) (b := 2) (by omega) (by omega) (by omega) (by omega) (by omega) wa wc (by omega) (fun h1 f1 w1 => ⟨fun z => absurd rfl z, fun _ => ?_⟩)
      obtain ⟨⟨wa1, wb1, wc1, wd1⟩, -⟩ := op.fr f1 (by simp)
      refine s_mprod (t := 5) (a := 1) (b := 3) (by omega) (by omega) (by omega) (by omega) (by omega) wb1 wd1 (by omega) (fun h2 f2 w2 => ?_)
      exact S.red (S' := [0, 1, 2, 3, 4, 5, 6, 7]) (((f.mono (by simp)).trans (f1.mono (by simp))).trans (f2.mono (by simp))) ht12 ht (w1.fr f2 (by simp)) w2 (mul_ne b0 d0) (by have := m40 (a * c) (by omega); omega) (by have := m40 (b * d) (by omega); omega) K
  · rw [show (2 : Int32) = nI 2 from rfl, nI_leI (by omega) (by omega)] at q2
    refine s_mprod (t := 6) (a := 0) (b := 3) (by omega) (by omega) (by omega) (by omega) (by omega) wa wd (by omega) (fun h1 f1 w1 => ?_)
    have op1 := op.fr f1 (by simp)
    obtain ⟨⟨wa1, wb1, wc1, wd1⟩, -⟩ := op1
    refine s_mprod (t := 7) (a := 2) (b := 1) (by omega) (by omega) (by omega) (by omega) (by omega) wc1 wb1 (by omega) (fun h2 f2 w2 => ?_)
    have w1' : MN h2 6 (a * d) := w1.fr f2 (by simp)
    have op2 := (op.fr f1 (by simp)).fr f2 (by simp)
    have g6 := m40 (a * d) (by omega)
    have g7 := m40 (c * b) (by omega)
    have g5 := m40 (b * d) (by omega)
    refine ⟨fun q1 => ?_, fun q1 => ?_⟩
    · rw [zi1, nI_ne (by omega) (by omega)] at q1
      have e : way = 0 := by omega
      subst e
      have sm : K_Mo_sum [.ref 0, .int (nI 4), .int (nI 6), .int (nI 7), .int (if false then 1 else 0)] h2 (fun h3 => K_Mo_product [.ref 0, .int 5, .int 1, .int 3] h3 (fun h4 => K_Mo_reduce [.ref 0] h4 (fun h5 => K_Mo_finish [.ref 0, .int (nI t)] h5 (fun r6 h6 => Φ r6 h6)))) := by
        refine s_msum (less := false) (by omega) (by omega) (by omega) (by omega) (by omega) w1' w2 (by omega) (by omega) (fun h3 f3 w3 => ?_)
        obtain ⟨⟨wa3, wb3, wc3, wd3⟩, -⟩ := op2.fr f3 (by simp)
        have w3 : MN h3 4 (a * d + c * b) := w3
        refine s_mprod (t := 5) (a := 1) (b := 3) (by omega) (by omega) (by omega) (by omega) (by omega) wb3 wd3 (by omega) (fun h4 f4 w4 => ?_)
        exact S.red (S' := [0, 1, 2, 3, 4, 5, 6, 7]) (((((f.mono (by simp)).trans (f1.mono (by simp))).trans (f2.mono (by simp))).trans (f3.mono (by simp))).trans (f4.mono (by simp))) ht12 ht (w3.fr f4 (by simp)) w4 (mul_ne b0 d0) (by have := m40 (a * d + c * b) (by have := gc_abs_add (a * d) (c * b) 40 (by omega) (by omega); omega); omega) (by omega) K
      exact sm
    · rw [zi1, nI_eq (by omega) (by omega)] at q1
      subst q1
      have sm : K_Mo_sum [.ref 0, .int (nI 4), .int (nI 6), .int (nI 7), .int (if true then 1 else 0)] h2 (fun h3 => K_Mo_product [.ref 0, .int 5, .int 1, .int 3] h3 (fun h4 => K_Mo_reduce [.ref 0] h4 (fun h5 => K_Mo_finish [.ref 0, .int (nI t)] h5 (fun r6 h6 => Φ r6 h6)))) := by
        refine s_msum (less := true) (by omega) (by omega) (by omega) (by omega) (by omega) w1' w2 (by omega) (by omega) (fun h3 f3 w3 => ?_)
        obtain ⟨⟨wa3, wb3, wc3, wd3⟩, -⟩ := op2.fr f3 (by simp)
        have w3 : MN h3 4 (a * d - c * b) := w3
        refine s_mprod (t := 5) (a := 1) (b := 3) (by omega) (by omega) (by omega) (by omega) (by omega) wb3 wd3 (by omega) (fun h4 f4 w4 => ?_)
        exact S.red (S' := [0, 1, 2, 3, 4, 5, 6, 7]) (((((f.mono (by simp)).trans (f1.mono (by simp))).trans (f2.mono (by simp))).trans (f3.mono (by simp))).trans (f4.mono (by simp))) ht12 ht (w3.fr f4 (by simp)) w4 (mul_ne b0 d0) (by have := m40 (a * d - c * b) (by have := gc_abs_add (a * d) (-(c * b)) 40 (by omega) (by rw [Int.natAbs_neg]; omega); rw [← Int.sub_eq_add_neg] at this; omega); omega) (by omega) K
      exact sm
