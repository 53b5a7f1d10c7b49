/-! The model's calls: same, value, count, collect, output, erase. -/
def isn (n : Nat) (v : Int32) : Prop := ∃ a, a < n ∧ v = nI a
theorem isn_iff {n : Nat} {v : Int32} (hn : n < 1000) : isn (n + 1) v ↔ ¬ v < 0 ∧ ¬ nI n < v := by
  constructor
  · rintro ⟨a, ha, rfl⟩
    refine ⟨nI_lt0 (by omega), fun z => ?_⟩
    rw [nI_ltI (by omega) (by omega)] at z
    omega
  · rintro ⟨h1, h2⟩
    rw [Int32.lt_iff_toInt_lt] at h1 h2
    have h1 : ¬ v.toInt < 0 := h1
    rw [nI_toInt (by omega)] at h2
    refine ⟨v.toInt.toNat, by omega, i32_ext_int ?_⟩
    rw [nI_toInt (by omega)]
    omega
theorem VM.same {h : HP} {A : AS} {o : Nat → Nat} {i j : Nat} {u v : Vl} (P : PN h A o) (w : WF A) (hu : VW (an A) u) (hv : VW (an A) v) (a : VM h o i u) (b : VM h o j v) : u = v ↔ h 1 i = h 1 j ∧ (h 1 i = 0 ∨ h 2 i = h 2 j) := by
  have n0 : ¬ (0 : Int32) = 1 := by decide
  have n1 : ¬ (0 : Int32) = 2 := by decide
  have n2 : ¬ (1 : Int32) = 2 := by decide
  have n3 : ¬ (1 : Int32) = 0 := by decide
  have n4 : ¬ (2 : Int32) = 0 := by decide
  have n5 : ¬ (2 : Int32) = 1 := by decide
  match u, v, hu, hv, a, b with
  | none, none, _, _, a, b =>
    have a : h 1 i = 0 := a
    have b : h 1 j = 0 := b
    rw [a, b]
    simp
  | none, some (.inl y), _, _, a, b =>
    have a : h 1 i = 0 := a
    rw [a, b.1]
    simp [n0]
  | none, some (.inr y), _, _, a, b =>
    have a : h 1 i = 0 := a
    rw [a, b.1]
    simp [n1]
  | some (.inl x), none, _, _, a, b =>
    have b : h 1 j = 0 := b
    rw [a.1, b]
    simp [n3]
  | some (.inr x), none, _, _, a, b =>
    have b : h 1 j = 0 := b
    rw [a.1, b]
    simp [n4]
  | some (.inl x), some (.inr y), _, _, a, b =>
    rw [a.1, b.1]
    simp [n2]
  | some (.inr x), some (.inl y), _, _, a, b =>
    rw [a.1, b.1]
    simp [n5]
  | some (.inl x), some (.inl y), hu, hv, a, b =>
    have hu : fxd x := hu
    have hv : fxd y := hv
    rw [a.1, b.1, a.2, b.2]
    constructor
    · intro e
      cases e
      exact ⟨rfl, Or.inr rfl⟩
    · rintro ⟨-, e | e⟩
      · exact absurd e n3
      · have := congrArg Int32.toInt e
        rw [ofInt_toInt (by omega) (by omega), ofInt_toInt (by omega) (by omega)] at this
        rw [this]
  | some (.inr x), some (.inr y), hu, hv, a, b =>
    have hu : x < an A := hu
    have hv : y < an A := hv
    have l1 := P.lt hu
    have l2 := P.lt hv
    rw [a.1, b.1, a.2, b.2]
    constructor
    · intro e
      cases e
      exact ⟨rfl, Or.inr rfl⟩
    · rintro ⟨-, e | e⟩
      · exact absurd e n4
      · rw [nI_eq (by omega) (by omega)] at e
        rw [P.inj hu hv e]
theorem s_msame {h : HP} {A : AS} {o : Nat → Nat} {L O : List Nat} {x y : Int32} {Φ : Int32 → HP → Prop} (S : MS h A o L O) (bad : ¬ (isr x ∧ isr y) → ∀ h2, FM h h2 → h2 0 0 = 1 → MS h2 A o L O → Φ 0 h2) (good : ∀ p q, p < 8 → x = nI p → q < 8 → y = nI q → ∀ h2, FM h h2 → h2 0 0 = 0 → MS h2 A o L O → (ar A p = ar A q → Φ 1 h2) ∧ (¬ ar A p = ar A q → Φ 0 h2)) : K_Mo_same [.ref 0, .int x, .int y] h Φ := by
  refine I_Mo_same (fun X C Rm Q => ?_)
  have c1 : ¬ (isr x ∧ isr y) → Wg X 0 0 h [(0, .ref 0), (1, .int x), (2, .int y)] [.int 1, .ref 0] 20 := fun q => g_Mo_same_20 C Rm Q (s_mref1 ⟨fun z => absurd z (by decide), fun _ => bad q _ FM.ref (up_at _ _ _ _) S.ref⟩)
  refine g_Mo_same_0 C Rm Q (s_misR (fun q => ⟨fun z => absurd z (by decide), fun _ => s_misR (fun q2 => ⟨fun z => absurd z (by decide), fun _ => ?_⟩) (fun q2 => ⟨fun _ => c1 (fun y => q2 y.2), fun z => absurd rfl z⟩)⟩) (fun q => ⟨fun _ => c1 (fun y => q y.1), fun z => absurd rfl z⟩))
  obtain ⟨p, hp, rfl⟩ := q
  obtain ⟨f, hf, rfl⟩ := q2
  have S0 := S.ref (v := 0)
  obtain ⟨g1, g0⟩ := good p f hp rfl hf rfl _ FM.ref (up_at _ _ _ _) S0
  have i := VM.same S0.pm.1 S.1 (S.1.2.2 p hp) (S.1.2.2 f hf) (S0.pm.reg hp) (S0.pm.reg hf)
  have vp : vp_in (nI p) 416 := vp_in_nI (by omega) (by omega)
  have vf : vp_in (nI f) 416 := vp_in_nI (by omega) (by omega)
  refine g_Mo_same_20 C Rm Q (s_mref0 ⟨fun _ => ⟨vp, vf, ?_⟩, fun z => absurd rfl z⟩)
  rw [nI_cl (by omega), nI_cl (by omega)]
  refine ⟨fun z => g0 (fun e => z (i.mp e).1), fun z => ⟨vp, fun z0 => g1 (i.mpr ⟨z, Or.inl z0⟩), fun z0 => ⟨vp, vf, fun z2 => g0 (fun e => ?_), fun z2 => g1 (i.mpr ⟨z, Or.inr z2⟩)⟩⟩⟩
  rcases (i.mp e).2 with y | y
  · exact z0 y
  · exact z2 y
def oVal (A : AS) (v : Vl) (w : Nat) : Int32 := if w = 0 then nI (vs A v) else match v with
  | none => if w = 1 then -1 else 0
  | some (.inl z) => if w = 1 then -1 else if w = 2 then 0 else Int32.ofInt z
  | some (.inr k) => if w = 1 then nI (ad A k) else if w = 2 then nI (osz (ao A k)) else 0
theorem s_mvalue {h : HP} {A : AS} {o : Nat → Nat} {L O : List Nat} {x y : Int32} {Φ : Int32 → HP → Prop} (S : MS h A o L O) (bad : ¬ (isr x ∧ isn 4 y) → ∀ h2, FM h h2 → h2 0 0 = 1 → MS h2 A o L O → Φ 0 h2) (good : ∀ p q, p < 8 → x = nI p → q < 4 → y = nI q → ∀ h2, FM h h2 → h2 0 0 = 0 → MS h2 A o L O → Φ (oVal A (ar A p) q) h2) : K_Mo_value [.ref 0, .int x, .int y] h Φ := by
  refine I_Mo_value (fun X C Rm Q => ?_)
  have r1 : ∀ {Ψ : HP → Prop}, ¬ (isr x ∧ isn 4 y) → K_Mo_refused [.ref 0, .int 1] h (fun r2 h2 => (r2 = 0 → Ψ h2) ∧ (¬ r2 = 0 → Φ 0 h2)) := fun q => s_mref1 ⟨fun z => absurd z (by decide), fun _ => bad q _ FM.ref (up_at _ _ _ _) S.ref⟩
  refine g_Mo_value_0 C Rm Q (s_misR (fun q => ⟨fun z => absurd z (by decide), fun _ => ⟨fun n => r1 (fun z => ((isn_iff (by omega)).mp z.2).1 n), fun n => ⟨fun n2 => r1 (fun z => ((isn_iff (by omega)).mp z.2).2 n2), fun n2 => s_mref0 ⟨fun _ => ?_, fun z => absurd rfl z⟩⟩⟩⟩) (fun q => ⟨fun _ => r1 (fun z => q z.1), fun z => absurd rfl z⟩))
  obtain ⟨p, hp, rfl⟩ := q
  obtain ⟨w, hw, rfl⟩ := (isn_iff (n := 3) (by omega)).mpr ⟨n, n2⟩
  have S0 := S.ref (v := 0)
  have go := good p w hp rfl hw rfl _ FM.ref (up_at _ _ _ _) S0
  have hv := S.1.2.2 p hp
  have km := S0.pm.reg hp
  have vp : vp_in (nI p) 416 := vp_in_nI (by omega) (by omega)
  have P := S0.pm.1
  have key : ∀ t : Int32, (t = 0 ↔ ¬ up h 0 0 0 1 p = 2) → Wg X 0 0 (up h 0 0 0) [(0, .ref 0), (1, .int (nI p)), (2, .int (nI w))] [.int t] 45 := by
    intro t ht
    refine g_Mo_value_45 C Rm Q ?_
    rw [nI_e0 (show w < 2147483648 by omega), show (1 : Int32) = nI 1 from rfl, nI_eq (show w < 2147483648 by omega) (by omega), show (2 : Int32) = nI 2 from rfl, nI_eq (show w < 2147483648 by omega) (by omega)]
    unfold oVal at go
    rw [nI_cl (show p < 2147483648 by omega)]
    generalize hvv : ar A p = v at *
    refine ⟨fun w0 => ?_, fun w0 => s_msortOf P (by omega) km hv ?_⟩
    · rw [if_neg w0] at go
      match v, hv, km, go with
      | none, _, km, go =>
        have km : up h 0 0 0 1 p = 0 := km
        have t0 : t = 0 := ht.mpr (by rw [km]; decide)
        refine ⟨fun w1 => ⟨fun w2 => ⟨vp, fun _ => ?_, fun z => ?_⟩, fun w2 => ⟨fun _ => ?_, fun z => absurd t0 z⟩⟩, fun w1 => ⟨fun _ => ?_, fun z => absurd t0 z⟩⟩
        · simp only [if_neg w1] at go; exact go
        · rw [km] at z; exact absurd z (by decide)
        · simp only [if_neg w1] at go; exact go
        · simp only [if_pos w1] at go; exact go
      | some (.inl z), _, km, go =>
        have t0 : t = 0 := ht.mpr (by rw [km.1]; decide)
        refine ⟨fun w1 => ⟨fun w2 => ⟨vp, fun z => absurd km.1 z, fun _ => ⟨vp, ?_⟩⟩, fun w2 => ⟨fun _ => ?_, fun z => absurd t0 z⟩⟩, fun w1 => ⟨fun _ => ?_, fun z => absurd t0 z⟩⟩
        · simp only [if_neg w1, if_neg w2] at go
          rw [km.2]
          exact go
        · simp only [if_neg w1, if_pos w2] at go; exact go
        · simp only [if_pos w1] at go; exact go
      | some (.inr k), hv, km, go =>
        have hk : k < an A := hv
        have hl := P.lt hk
        have t0 : ¬ t = 0 := fun z => ht.mp z km.1
        rw [km.2, nI_cl (by omega)]
        refine ⟨fun w1 => ⟨fun w2 => ⟨vp, fun _ => ?_, fun z => ?_⟩, fun w2 => ⟨fun z => absurd z t0, fun _ => ⟨vp, vp_in_nI (by omega) (by omega), ?_⟩⟩⟩, fun w1 => ⟨fun z => absurd z t0, fun _ => ⟨vp, s_mcellOf P S.1 hk ?_⟩⟩⟩
        · simp only [if_neg w1, if_neg w2] at go; exact go
        · rw [km.1] at z; exact absurd z (by decide)
        · simp only [if_neg w1, if_pos w2] at go
          rw [P.siz hk]
          exact go
        · simp only [if_pos w1] at go; exact go
    · rw [if_pos w0] at go
      exact go
  refine ⟨vp, ?_⟩
  rw [nI_cl (by omega)]
  exact ⟨fun z => key 0 ⟨fun _ => z, fun _ => rfl⟩, fun z => key 1 ⟨fun y => absurd y (by decide), fun y => absurd z y⟩⟩
noncomputable def oCnt (A : AS) (w : Nat) : Nat := if w = 0 then ad A (an A) else if w = 1 then ac A else if w = 2 then an A else ix A (an A)
theorem s_mcount {h : HP} {A : AS} {o : Nat → Nat} {L O : List Nat} {y : Int32} {Φ : Int32 → HP → Prop} (S : MS h A o L O) (bad : ¬ isn 4 y → ∀ h2, FM h h2 → h2 0 0 = 1 → MS h2 A o L O → Φ 0 h2) (good : ∀ q, q < 4 → y = nI q → ∀ h2, FM h h2 → h2 0 0 = 0 → MS h2 A o L O → Φ (nI (oCnt A q)) h2) : K_Mo_count [.ref 0, .int y] h Φ := by
  refine I_Mo_count (fun X C Rm Q => ?_)
  have c1 : ¬ isn 4 y → Wg X 0 0 h [(0, .ref 0), (1, .int y)] [.int 1, .ref 0] 15 := fun q => g_Mo_count_15 C Rm Q (s_mref1 ⟨fun z => absurd z (by decide), fun _ => bad q _ FM.ref (up_at _ _ _ _) S.ref⟩)
  refine g_Mo_count_0 C Rm Q ⟨fun n => c1 (fun z => ((isn_iff (by omega)).mp z).1 n), fun n => ⟨fun n2 => c1 (fun z => ((isn_iff (by omega)).mp z).2 n2), fun n2 => ?_⟩⟩
  obtain ⟨w, hw, rfl⟩ := (isn_iff (n := 3) (by omega)).mpr ⟨n, n2⟩
  have S0 := S.ref (v := 0)
  have go := good w hw rfl
  unfold oCnt at go
  refine g_Mo_count_15 C Rm Q (s_mref0 ⟨fun _ => ?_, fun z => absurd rfl z⟩)
  rw [nI_e0 (show w < 2147483648 by omega), show (1 : Int32) = nI 1 from rfl, nI_eq (show w < 2147483648 by omega) (by omega), show (2 : Int32) = nI 2 from rfl, nI_eq (show w < 2147483648 by omega) (by omega)]
  have P := S0.pm.1
  have g0 := go _ FM.ref (up_at _ _ _ _) S0
  refine ⟨fun w0 => ⟨fun w1 => ⟨fun w2 => s_mmark S0.pm S.1 (fun h2 f2 _ => ?_), fun w2 => ?_⟩, fun w1 => ?_⟩, fun w0 => ?_⟩
  · simp only [if_neg w0, if_neg w1, if_neg w2] at go
    have mk : MK (up h 0 0 0) h2 := MK.ofFr f2 (by simp) (by simp)
    exact go h2 (FM.ref.trans mk.fm) (mk.2.1.trans (up_at _ _ _ _)) (S0.mk mk S.1 (S0.pm.cong S.1 (fun j a b c d => f2 j (by simp; omega)) (by rw [f2 0 (by simp)]) (by rw [f2 0 (by simp)]) (by rw [f2 0 (by simp)])))
  · simp only [if_neg w0, if_neg w1, if_pos w2] at g0
    rw [P.many]
    exact g0
  · simp only [if_neg w0, if_pos w1] at g0
    rw [P.coll]
    exact g0
  · simp only [if_pos w0] at g0
    rw [P.top]
    exact g0
theorem s_mcollect {h : HP} {A : AS} {o : Nat → Nat} {L O : List Nat} {Φ : Int32 → HP → Prop} (S : MS h A o L O) (good : ∀ h2 o2, FM h h2 → MS h2 (gcA A) o2 L O → Φ (nI (ad A (an A) - na A (an A))) h2) : K_Mo_collect [.ref 0] h Φ := by
  refine I_Mo_collect (fun X C Rm Q => g_Mo_collect_0 C Rm Q (s_mclean S.ref.pm S.1 (fun h2 f2 g2 P2 => ?_)))
  have mk : MK (up h 0 0 0) h2 := ⟨f2.mono (by simp), g2 0 (by omega) (by omega) (by omega), g2 15 (by omega) (by omega) (by omega), g2 17 (by omega) (by omega) (by omega)⟩
  exact good h2 _ (FM.ref.trans mk.fm) (S.ref.mk mk (gcA_WF S.1) P2)
theorem s_merase {h : HP} {A : AS} {o : Nat → Nat} {L O : List Nat} {Φ : Int32 → HP → Prop} (S : MS h A o L O) (good : ∀ h2, FM h h2 → MS h2 A o [] O → Φ (nI L.length) h2) : K_Mo_erase [.ref 0] h Φ := by
  refine I_Mo_erase (fun X C Rm Q => g_Mo_erase_0 C Rm Q ?_)
  rw [S.ref.2.2.1.2.1]
  have S0 := S.ref (v := 0)
  have f : Fr [0] h (up (up h 0 0 0) 0 15 0) := ((Fr.rf _ _).up (by simp)).up (by simp)
  have e : ∀ i, i ≠ 15 → up (up h 0 0 0) 0 15 0 0 i = up h 0 0 0 0 i := fun i hi => up_at_ne hi
  exact good _ (f.mono (by simp)) ⟨S.1, S0.pm.cong S.1 (fun j hj _ _ _ => up_ne hj) (e 3 (by omega)) (e 9 (by omega)) (e 10 (by omega)), ⟨Nat.zero_le _, up_at _ _ _ _, fun i c z => nomatch z⟩, S0.2.2.2.cong (e 17 (by omega)) (up_ne (by omega))⟩
/-- the character asked for -/
def och (O : List Nat) (v : Int32) : Int32 := if v < 0 then 32 else nI (O.getD v.toNatClampNeg 32)
theorem cl_of {v : Int32} (h : ¬ v < 0) : v = nI v.toNatClampNeg := by
  rw [Int32.lt_iff_toInt_lt] at h
  have h : ¬ v.toInt < 0 := h
  have := v.toInt_lt
  refine i32_ext_int ?_
  have e : v.toNatClampNeg = v.toInt.toNat := rfl
  rw [nI_toInt (by omega), e]
  omega
theorem s_moutput {h : HP} {A : AS} {o : Nat → Nat} {L O : List Nat} {v : Int32} {Φ : Int32 → HP → Prop} (S : MS h A o L O) (good : ∀ h2, FM h h2 → MS h2 A o L O → Φ (och O v) h2) : K_Mo_output [.ref 0, .int v] h Φ := by
  have go := good _ (FM.ref (v := 0)) S.ref
  obtain ⟨m1, m2, m3⟩ := S.ref (v := 0).2.2.2
  unfold och at go
  refine I_Mo_output (fun X C Rm Q => g_Mo_output_0 C Rm Q ⟨fun z => ⟨rfl, by rw [if_pos z] at go; exact go⟩, fun z => ?_⟩)
  rw [if_neg z] at go
  have hc := cl_of z
  have hb : v.toNatClampNeg < 2147483648 := by
    have := v.toInt_lt
    have e : v.toNatClampNeg = v.toInt.toNat := rfl
    omega
  rw [m2]
  generalize v.toNatClampNeg = i at *
  subst hc
  rw [nI_leI (by omega) (by omega)]
  refine ⟨fun y => ⟨rfl, ?_⟩, fun y => ⟨vp_in_nI (by omega) (by omega), ?_⟩⟩
  · rw [List.getD_eq_getElem?_getD, List.getElem?_eq_none y] at go
    exact go
  · obtain ⟨c, hc⟩ : ∃ c, O[i]? = some c := ⟨O[i]'(by omega), List.getElem?_eq_getElem (by omega)⟩
    have e := m3 i c hc
    rw [e.1]
    refine ⟨nar_c (by omega), ?_⟩
    rw [List.getD_eq_getElem?_getD, hc] at go
    exact go
