/-! The model's calls. -/
def isr (v : Int32) : Prop := ∃ a, a < 8 ∧ v = nI a
def ML (h : HP) (L : List Nat) : Prop := L.length ≤ 200 ∧ h 0 15 = nI L.length ∧ ∀ i c, L[i]? = some c → h 11 i = nI c ∧ c < 256
def MO (h : HP) (O : List Nat) : Prop := O.length ≤ 400 ∧ h 0 17 = nI O.length ∧ ∀ i c, O[i]? = some c → h 12 i = nI c ∧ c < 256
def MS (h : HP) (A : AS) (o : Nat → Nat) (L O : List Nat) : Prop := WF A ∧ PM h A o ∧ ML h L ∧ MO h O
def FM (h h2 : HP) : Prop := Fr [0, 1, 2, 3, 4, 5, 6, 7, 8, 9, 10, 11, 12, 13] h h2
theorem FM.rf (h : HP) : FM h h := Fr.rf _ _
theorem FM.trans {h h2 h3 : HP} (a : FM h h2) (b : FM h2 h3) : FM h h3 := Fr.trans a b
theorem MK.fm {h h2 : HP} (k : MK h h2) : FM h h2 := k.1.mono (by simp)
theorem PM.cong {h h2 : HP} {A : AS} {o : Nat → Nat} (P : PM h A o) (w : WF A) (e : ∀ j, j ≠ 0 → j ≠ 6 → j ≠ 7 → j < 11 → h2 j = h j) (c3 : h2 0 3 = h 0 3) (c9 : h2 0 9 = h 0 9) (c10 : h2 0 10 = h 0 10) : PM h2 A o := by
  have e1 := e 1 (by omega) (by omega) (by omega) (by omega)
  have e2 := e 2 (by omega) (by omega) (by omega) (by omega)
  refine ⟨P.1.cong w (e 3 (by omega) (by omega) (by omega) (by omega)) (e 4 (by omega) (by omega) (by omega) (by omega)) (e 5 (by omega) (by omega) (by omega) (by omega)) c3 c9 c10 (fun i _ _ => by rw [e1, e2]; exact ⟨rfl, rfl⟩) (fun r _ _ => ⟨by rw [e 9 (by omega) (by omega) (by omega) (by omega)], by rw [e 10 (by omega) (by omega) (by omega) (by omega)], fun i _ => by rw [e 8 (by omega) (by omega) (by omega) (by omega)]⟩), fun r hr => ?_⟩
  exact (P.reg hr).cong (w.2.2 r hr) (by rw [e1]) (by rw [e2]) (fun _ _ => rfl)
theorem ML.cong {h h2 : HP} {L : List Nat} (P : ML h L) (a : h2 0 15 = h 0 15) (b : h2 11 = h 11) : ML h2 L := ⟨P.1, a.trans P.2.1, fun i c e => by rw [b]; exact P.2.2 i c e⟩
theorem MO.cong {h h2 : HP} {L : List Nat} (P : MO h L) (a : h2 0 17 = h 0 17) (b : h2 12 = h 12) : MO h2 L := ⟨P.1, a.trans P.2.1, fun i c e => by rw [b]; exact P.2.2 i c e⟩
theorem MS.wf {h : HP} {A : AS} {o : Nat → Nat} {L O : List Nat} (S : MS h A o L O) : WF A := S.1
theorem MS.pm {h : HP} {A : AS} {o : Nat → Nat} {L O : List Nat} (S : MS h A o L O) : PM h A o := S.2.1
theorem MS.mk {h h2 : HP} {A A2 : AS} {o o2 : Nat → Nat} {L O : List Nat} (S : MS h A o L O) (k : MK h h2) (w : WF A2) (P : PM h2 A2 o2) : MS h2 A2 o2 L O := ⟨w, P, S.2.2.1.cong k.2.2.1 (k.1 11 (by simp)), S.2.2.2.cong k.2.2.2 (k.1 12 (by simp))⟩
theorem MS.ref {h : HP} {A : AS} {o : Nat → Nat} {L O : List Nat} {v : Int32} (S : MS h A o L O) : MS (up h 0 0 v) A o L O := by
  have e : ∀ i, i ≠ 0 → up h 0 0 v 0 i = h 0 i := fun i hi => up_at_ne hi
  exact ⟨S.1, S.2.1.cong S.1 (fun j hj _ _ _ => up_ne hj) (e 3 (by omega)) (e 9 (by omega)) (e 10 (by omega)), S.2.2.1.cong (e 15 (by omega)) (up_ne (by omega)), S.2.2.2.cong (e 17 (by omega)) (up_ne (by omega))⟩
theorem FM.ref {h : HP} {v : Int32} : FM h (up h 0 0 v) := (Fr.rf _ _).up (by simp)
theorem s_mref0 {h : HP} {Φ : Int32 → HP → Prop} (K : Φ 0 (up h 0 0 0)) : K_Mo_refused [.ref 0, .int 0] h Φ :=
  I_Mo_refused (fun X C Rm Q => g_Mo_refused_0 C Rm Q ⟨fun _ => K, fun z => absurd (Int32.le_refl 0) z⟩)
theorem s_mref1 {h : HP} {Φ : Int32 → HP → Prop} (K : Φ 1 (up h 0 0 1)) : K_Mo_refused [.ref 0, .int 1] h Φ :=
  I_Mo_refused (fun X C Rm Q => g_Mo_refused_0 C Rm Q ⟨fun z => absurd z (by decide), fun _ => K⟩)
theorem isr_iff {v : Int32} : isr v ↔ ¬ v < 0 ∧ ¬ (8 : Int32) ≤ v := by
  constructor
  · rintro ⟨a, ha, rfl⟩
    refine ⟨nI_lt0 (by omega), fun z => ?_⟩
    rw [show (8 : Int32) = nI 8 from rfl, nI_leI (by omega) (by omega)] at z
    omega
  · rintro ⟨h1, h2⟩
    rw [Int32.lt_iff_toInt_lt] at h1
    rw [Int32.le_iff_toInt_le] at h2
    have h1 : ¬ v.toInt < 0 := h1
    have h2 : ¬ (8 : Int) ≤ v.toInt := h2
    refine ⟨v.toInt.toNat, by omega, i32_ext_int ?_⟩
    rw [nI_toInt (by omega)]
    omega
theorem s_misR {h : HP} {v : Int32} {Φ : Int32 → HP → Prop} (K1 : isr v → Φ 1 h) (K0 : ¬ isr v → Φ 0 h) : K_Mo_isRegister [.int v] h Φ := by
  refine I_Mo_isRegister (fun X C Rm Q => g_Mo_isRegister_0 C Rm Q ⟨fun z => K0 (fun q => (isr_iff.mp q).1 z), fun z => ⟨fun y => K0 (fun q => (isr_iff.mp q).2 y), fun y => K1 (isr_iff.mpr ⟨z, y⟩)⟩⟩)
theorem s_mthrown {h : HP} {Φ : Int32 → HP → Prop} (K : Φ (h 0 0) h) : K_Mo_thrown [.ref 0] h Φ := I_Mo_thrown (fun X C Rm Q => g_Mo_thrown_0 C Rm Q K)
/-- a register set -/
theorem MS.set {h : HP} {A : AS} {o : Nat → Nat} {L O : List Nat} {t : Nat} {v : Vl} {a b : Int32} (S : MS h A o L O) (ht : t < 8) (hv : VW (an A) v) (k : VM (up (up h 1 t a) 2 t b) o t v) : MS (up (up h 1 t a) 2 t b) (sr A t v) o L O := by
  have f : Fr [1, 2] h (up (up h 1 t a) 2 t b) := ((Fr.rf _ _).up (by simp)).up (by simp)
  have sl : ∀ i, i ≠ t → up (up h 1 t a) 2 t b 1 i = h 1 i ∧ up (up h 1 t a) 2 t b 2 i = h 2 i := fun i hi => by
    rw [up_ne (by omega), up_at_ne hi, up_at_ne hi, up_ne (by omega)]
    exact ⟨rfl, rfl⟩
  have e0 := f 0 (by simp)
  refine ⟨sr_WF S.1 hv, S.2.1.sreg S.1 (S.2.1.1.cong S.1 (f 3 (by simp)) (f 4 (by simp)) (f 5 (by simp)) (by rw [e0]) (by rw [e0]) (by rw [e0]) (fun i h1 _ => sl i (by omega)) (fun r _ _ => ⟨by rw [f 9 (by simp)], by rw [f 10 (by simp)], fun i _ => by rw [f 8 (by simp)]⟩)) rfl k (fun _ _ => rfl) (fun i _ hi => sl i hi), S.2.2.1.cong (by rw [e0]) (f 11 (by simp)), S.2.2.2.cong (by rw [e0]) (f 12 (by simp))⟩
theorem FM.set {h : HP} {i : Nat} {a b : Int32} : FM h (up (up h 1 i a) 2 i b) := ((Fr.rf _ _).up (by simp)).up (by simp)
theorem set_00 {h : HP} {i : Nat} {a b : Int32} : up (up h 1 i a) 2 i b 0 0 = h 0 0 := by rw [up_ne (by omega), up_ne (by omega)]
theorem s_mnil {h : HP} {A : AS} {o : Nat → Nat} {L O : List Nat} {v : Int32} {Φ : HP → Prop} (S : MS h A o L O) (bad : ¬ isr v → ∀ h2, FM h h2 → h2 0 0 = 1 → MS h2 A o L O → Φ h2) (good : ∀ a, a < 8 → v = nI a → ∀ h2, FM h h2 → h2 0 0 = 0 → MS h2 (sr A a none) o L O → Φ h2) : K_Mo_nil [.ref 0, .int v] h Φ := by
  refine I_Mo_nil (fun X C Rm Q => g_Mo_nil_0 C Rm Q (s_misR (fun q => ⟨fun z => absurd z (by decide), fun _ => s_mref0 ⟨fun _ => ?_, fun z => absurd rfl z⟩⟩) (fun q => ⟨fun _ => s_mref1 ⟨fun z => absurd z (by decide), fun _ => bad q _ FM.ref (up_at _ _ _ _) S.ref⟩, fun z => absurd rfl z⟩)))
  obtain ⟨a, ha, rfl⟩ := q
  refine s_mset (by omega) (good a ha rfl _ (FM.ref.trans FM.set) (set_00.trans (up_at _ _ _ _)) (S.ref.set ha trivial ?_))
  show up (up (up h 0 0 0) 1 a 0) 2 a 0 1 a = 0
  rw [up_ne (by omega), up_at]
theorem s_mload {h : HP} {A : AS} {o : Nat → Nat} {L O : List Nat} {v : Int32} {z : Int64} {Φ : Int32 → HP → Prop} (S : MS h A o L O) (bad : ¬ isr v → ∀ h2, FM h h2 → h2 0 0 = 1 → MS h2 A o L O → Φ 0 h2) (good : ∀ a, a < 8 → v = nI a → ∀ h2 o2, FM h h2 → h2 0 0 = 0 → MS h2 (nkA A a z.toInt 1) o2 L O → Φ (Int32.ofInt (nkR A z.toInt 1)) h2) : K_Mo_load [.ref 0, .int v, .long z] h Φ := by
  refine I_Mo_load (fun X C Rm Q => g_Mo_load_0 C Rm Q (s_misR (fun q => ⟨fun z => absurd z (by decide), fun _ => ?_⟩) (fun q => ⟨fun _ => ?_, fun z => absurd rfl z⟩)))
  · obtain ⟨a, ha, rfl⟩ := q
    refine g_Mo_load_13 C Rm Q (s_mref0 ⟨fun _ => ?_, fun z => absurd rfl z⟩)
    have go : K_Mo_setLong [.ref 0, .int (nI 4), .long z] (up h 0 0 0) (fun h2 => K_Mo_setLong [.ref 0, .int (nI 5), .long 1] h2 (fun h3 => K_Mo_finish [.ref 0, .int (nI a)] h3 (fun r4 h4 => Φ r4 h4))) := by
      refine s_msetLong (by omega) (fun h2 f2 w2 => s_msetLong (by omega) (fun h3 f3 w3 => ?_))
      have f := (f2.mono (T := [4, 5]) (by simp)).trans (f3.mono (by simp))
      have P : PM h3 A o := S.ref.pm.1.fr S.1 f (by simp) |> fun p => ⟨p, fun r hr => (S.ref.pm.reg hr).fr f⟩
      refine s_mfinish P S.1 ha (w2.fr f3 (by simp)) w3 (by decide) (fun h4 o4 mk4 P4 => ?_)
      have mk := (MK.ofFR f).trans mk4
      exact good a ha rfl h4 o4 (FM.ref.trans mk.fm) (mk.2.1.trans (up_at _ _ _ _)) (S.ref.mk mk (nkA_WF S.1 (by decide)) P4)
    exact go
  · exact g_Mo_load_13 C Rm Q (s_mref1 ⟨fun z => absurd z (by decide), fun _ => bad q _ FM.ref (up_at _ _ _ _) S.ref⟩)
theorem s_mcopyR {h : HP} {A : AS} {o : Nat → Nat} {L O : List Nat} {v u : Int32} {Φ : HP → Prop} (S : MS h A o L O) (bad : ¬ (isr v ∧ isr u) → ∀ h2, FM h h2 → h2 0 0 = 1 → MS h2 A o L O → Φ h2) (good : ∀ a b, a < 8 → v = nI a → b < 8 → u = nI b → ∀ h2, FM h h2 → h2 0 0 = 0 → MS h2 (sr A a (ar A b)) o L O → Φ h2) : K_Mo_copy [.ref 0, .int v, .int u] h Φ := by
  refine I_Mo_copy (fun X C Rm Q => g_Mo_copy_0 C Rm Q (s_misR (fun q => ⟨fun z => absurd z (by decide), fun _ => s_misR (fun q2 => ⟨fun z => absurd z (by decide), fun _ => s_mref0 ⟨fun _ => ?_, fun z => absurd rfl z⟩⟩) (fun q2 => ⟨fun _ => s_mref1 ⟨fun z => absurd z (by decide), fun _ => bad (fun y => q2 y.2) _ FM.ref (up_at _ _ _ _) S.ref⟩, fun z => absurd rfl z⟩)⟩) (fun q => ⟨fun _ => s_mref1 ⟨fun z => absurd z (by decide), fun _ => bad (fun y => q y.1) _ FM.ref (up_at _ _ _ _) S.ref⟩, fun z => absurd rfl z⟩)))
  obtain ⟨a, ha, rfl⟩ := q
  obtain ⟨b, hb, rfl⟩ := q2
  refine s_mcopyV (by omega) (by omega) (good a b ha rfl hb rfl _ (FM.ref.trans FM.set) (set_00.trans (up_at _ _ _ _)) (S.ref.set ha (S.1.2.2 b hb) ?_))
  exact (S.ref.pm.reg hb).set (S.1.2.2 b hb) (fun _ _ => rfl)
