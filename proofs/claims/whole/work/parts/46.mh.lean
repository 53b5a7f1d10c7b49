/-! The model's heap: how it holds what a heap of cells is; reads, what is made. -/
theorem nI_or16 {a b : Nat} (ha : a < 65536) (hb : b < 65536) : nI a ||| (nI b <<< (16 &&& (31 : Int32))) = nI (a + 65536 * b) := by
  rw [pk_shlN _ 16 (by decide) (by omega), show b * 2 ^ 16 = 2 ^ 16 * b by omega]
  have e : nI a ||| nI (2 ^ 16 * b) = nI (2 ^ 16 * b) ||| nI a := Int32.or_comm _ _
  rw [e, fa_or_sum b (by omega)]
  congr 1
  omega
theorem two_limbs {h : HP} {r m : Nat} (k : MU h r m) (hg : gc 16 m ≤ 2) : (if 0 < gc 16 m then lb h r 0 else 0) + 65536 * (if 1 < gc 16 m then lb h r 1 else 0) = m := by
  have hv := k.val
  rcases (show gc 16 m = 0 ∨ gc 16 m = 1 ∨ gc 16 m = 2 by omega) with q | q | q
  · rw [q, mv_0] at hv
    rw [q, ← hv]
    rfl
  · rw [q, mv_succ, mv_0] at hv
    rw [q, if_pos (by omega), if_neg (by omega)]
    omega
  · rw [q, mv_succ, mv_succ, mv_0] at hv
    rw [q, if_pos (by omega), if_pos (by omega)]
    omega
theorem lim_lt {h : HP} {r m i : Nat} (k : MU h r m) : (if i < gc 16 m then lb h r i else 0) < 65536 := by
  split
  · exact k.lt (by assumption)
  · omega
theorem s_misFixed {h : HP} {r : Nat} {z : Int} {Φ : Int32 → HP → Prop} (hr : r < 218) (hz : MN h r z) (K : Φ (if fxd z then 1 else 0) h) : K_Mo_isFixed [.ref 0, .int (nI r)] h Φ := by
  have hle := hz.u.le
  have ku := hz.u
  refine I_Mo_isFixed (fun X C Rm Q => g_Mo_isFixed_0 C Rm Q ⟨vr hr, fun q => ?_, fun q => ⟨vr hr, ?_⟩⟩)
  · rw [nI_cl (by omega), ku.len, show (2 : Int32) = nI 2 from rfl, nI_ltI (by omega) (by omega)] at q
    have := (gc_lt (b := 16) (by omega) z.natAbs 2).mp q
    rwa [if_neg (by omega)] at K
  · rw [nI_cl (by omega), ku.len, show (2 : Int32) = nI 2 from rfl, nI_ltI (by omega) (by omega)] at q
    have g2 : gc 16 z.natAbs ≤ 2 := by omega
    have hm := two_limbs ku g2
    have l0 := lim_lt (i := 0) ku
    have l1 := lim_lt (i := 1) ku
    have c39 : (if 1 < gc 16 z.natAbs then lb h r 1 else 0) ≤ 16384 → Wg X 0 0 h [(0, .ref 0), (1, .int (nI r))] [] 39 := by
      intro hb
      have s0 : K_Mo_limbOf [.ref 0, .int (nI r), .int (nI 0)] h (fun r1 h1 => K_Mo_limbOf [.ref 0, .int (nI r), .int (nI 1)] h1 (fun r2 h2 => vp_in (nI r) 218 ∧ (((h2 10 (nI r).toNatClampNeg) = 0 → ((1073741824 : Int32) ≤ ((r1 ||| (r2 <<< (16 &&& (31 : Int32))))) → Φ 0 h2) ∧ (¬ (1073741824 : Int32) ≤ ((r1 ||| (r2 <<< (16 &&& (31 : Int32))))) → ((r1 ||| (r2 <<< (16 &&& (31 : Int32)))) < 0 → Φ 0 h2) ∧ (¬ (r1 ||| (r2 <<< (16 &&& (31 : Int32)))) < 0 → Φ 1 h2))) ∧ (¬ (h2 10 (nI r).toNatClampNeg) = 0 → ((1073741824 : Int32) < ((r1 ||| (r2 <<< (16 &&& (31 : Int32))))) → Φ 0 h2) ∧ (¬ (1073741824 : Int32) < ((r1 ||| (r2 <<< (16 &&& (31 : Int32))))) → ((r1 ||| (r2 <<< (16 &&& (31 : Int32)))) < 0 → Φ 0 h2) ∧ (¬ (r1 ||| (r2 <<< (16 &&& (31 : Int32)))) < 0 → Φ 1 h2)))))) := by
        refine s_limbOf hr ku.len hle (by omega) (s_limbOf hr ku.len hle (by omega) ?_)
        rw [nI_or16 l0 l1, hm, nI_cl (by omega), hz.sg, sg_ne, show (1073741824 : Int32) = nI 1073741824 from rfl, nI_leI (by omega) (by omega), nI_ltI (by omega) (by omega)]
        refine ⟨vr hr, fun q1 => ⟨fun q2 => ?_, fun q2 => ⟨fun q3 => absurd q3 (nI_lt0 (by omega)), fun _ => ?_⟩⟩, fun q1 => ⟨fun q2 => ?_, fun q2 => ⟨fun q3 => absurd q3 (nI_lt0 (by omega)), fun _ => ?_⟩⟩⟩
        · rwa [if_neg (by omega)] at K
        · rwa [if_pos (by omega)] at K
        · rwa [if_neg (by omega)] at K
        · rwa [if_pos (by omega)] at K
      exact g_Mo_isFixed_39 C Rm Q s0
    rw [nI_cl (by omega), ku.len, show (2 : Int32) = nI 2 from rfl, nI_eq (by omega) (by omega), show (1 : Int32) = nI 1 from rfl, ixl]
    refine ⟨fun q2 => c39 (by rw [if_neg (by omega)]; omega), fun q2 => ⟨vl hr (by omega), ?_⟩⟩
    rw [if_pos (show 1 < gc 16 z.natAbs by omega)] at c39 l1 hm
    rw [nI_cl (by omega), lb_is h, show (16384 : Int32) = nI 16384 from rfl, nI_leI (by omega) (by omega)]
    refine ⟨fun q3 => c39 q3, fun q3 => ?_⟩
    rwa [if_neg (by omega)] at K
theorem gc_32_1 (m : Nat) : gc 32 m = (gc 1 m + 31) / 32 := by
  have key : ∀ n, gc 32 m ≤ n ↔ (gc 1 m + 31) / 32 ≤ n := by
    intro n
    rw [gc_le (by omega)]
    have := gc_le (b := 1) (by omega) m (32 * n)
    rw [Nat.one_mul] at this
    rw [← this]
    omega
  have a := (key (gc 32 m)).mp (Nat.le_refl _)
  have b := (key ((gc 1 m + 31) / 32)).mpr (Nat.le_refl _)
  omega
theorem s_mcellsOf {h : HP} {r : Nat} {z : Int} {Φ : Int32 → HP → Prop} (hr : r < 218) (hz : MN h r z) (K : Φ (nI (cfw z)) h) : K_Mo_cellsOf [.ref 0, .int (nI r)] h Φ := by
  have hle := hz.u.le
  have hg2 : gc 1 z.natAbs ≤ 1600 := (gc_le (by omega) _ _).mpr (by
    have := (gc_le (b := 16) (by omega) z.natAbs 99).mp hle
    exact Nat.lt_of_lt_of_le this (Nat.pow_le_pow_right (by decide) (by omega)))
  refine I_Mo_cellsOf (fun X C Rm Q => g_Mo_cellsOf_0 C Rm Q (s_misFixed hr hz ?_))
  unfold cfw at K
  by_cases f : fxd z
  · rw [if_pos f] at K
    rw [if_pos f]
    exact ⟨fun q => absurd q (by decide), fun _ => K⟩
  · rw [if_neg f] at K
    rw [if_neg f]
    refine ⟨fun _ => s_bitsOf hr hz.u ?_, fun q => absurd rfl q⟩
    rw [show (31 : Int32) = nI 31 from rfl, nI_add, show (32 : Int32) = nI 32 from rfl, pk_div (by omega) (by omega) (by omega), show (1 : Int32) = nI 1 from rfl, nI_add, ← gc_32_1]
    exact K
/-! ## The picture -/
def VM (h : HP) (o : Nat → Nat) (i : Nat) : Vl → Prop
  | none => h 1 i = 0
  | some (.inl z) => h 1 i = 1 ∧ h 2 i = Int32.ofInt z
  | some (.inr k) => h 1 i = 2 ∧ h 2 i = nI (o k)
def OM (h : HP) (o : Nat → Nat) (x : Nat) : Ob → Prop
  | .inl z => MN h (13 + x) z
  | .inr t => VM h o (8 + 2 * x) t.2.1 ∧ VM h o (9 + 2 * x) t.2.2
/-- all but the registers -/
def PN (h : HP) (A : AS) (o : Nat → Nat) : Prop := (∀ i j, i < an A → j < an A → o i = o j → i = j) ∧ (∀ k, k < an A → o k < 200 ∧ h 3 k = nI (o k) ∧ h 4 (o k) = nI (osrt (ao A k)) ∧ h 5 (o k) = nI (osz (ao A k)) ∧ OM h o (o k) (ao A k)) ∧ (∀ x, x < 204 → (∀ k, k < an A → o k ≠ x) → h 4 x = 0) ∧ h 0 3 = nI (an A) ∧ h 0 9 = nI (ad A (an A)) ∧ h 0 10 = nI (ac A)
def PM (h : HP) (A : AS) (o : Nat → Nat) : Prop := PN h A o ∧ ∀ r, r < 8 → VM h o r (ar A r)
theorem PN.inj {h : HP} {A : AS} {o : Nat → Nat} (P : PN h A o) {i j : Nat} (hi : i < an A) (hj : j < an A) (e : o i = o j) : i = j := P.1 i j hi hj e
theorem PN.lt {h : HP} {A : AS} {o : Nat → Nat} (P : PN h A o) {k : Nat} (hk : k < an A) : o k < 200 := (P.2.1 k hk).1
theorem PN.ord {h : HP} {A : AS} {o : Nat → Nat} (P : PN h A o) {k : Nat} (hk : k < an A) : h 3 k = nI (o k) := (P.2.1 k hk).2.1
theorem PN.srt {h : HP} {A : AS} {o : Nat → Nat} (P : PN h A o) {k : Nat} (hk : k < an A) : h 4 (o k) = nI (osrt (ao A k)) := (P.2.1 k hk).2.2.1
theorem PN.siz {h : HP} {A : AS} {o : Nat → Nat} (P : PN h A o) {k : Nat} (hk : k < an A) : h 5 (o k) = nI (osz (ao A k)) := (P.2.1 k hk).2.2.2.1
theorem PN.obj {h : HP} {A : AS} {o : Nat → Nat} (P : PN h A o) {k : Nat} (hk : k < an A) : OM h o (o k) (ao A k) := (P.2.1 k hk).2.2.2.2
theorem PN.free {h : HP} {A : AS} {o : Nat → Nat} (P : PN h A o) {x : Nat} (hx : x < 204) (hn : ∀ k, k < an A → o k ≠ x) : h 4 x = 0 := P.2.2.1 x hx hn
theorem PN.many {h : HP} {A : AS} {o : Nat → Nat} (P : PN h A o) : h 0 3 = nI (an A) := P.2.2.2.1
theorem PN.top {h : HP} {A : AS} {o : Nat → Nat} (P : PN h A o) : h 0 9 = nI (ad A (an A)) := P.2.2.2.2.1
theorem PN.coll {h : HP} {A : AS} {o : Nat → Nat} (P : PN h A o) : h 0 10 = nI (ac A) := P.2.2.2.2.2
theorem PM.reg {h : HP} {A : AS} {o : Nat → Nat} (P : PM h A o) {r : Nat} (hr : r < 8) : VM h o r (ar A r) := P.2 r hr
theorem VM.cong {h h2 : HP} {o o2 : Nat → Nat} {i n : Nat} {v : Vl} (k : VM h o i v) (hv : VW n v) (e1 : h2 1 i = h 1 i) (e2 : h2 2 i = h 2 i) (eo : ∀ k, k < n → o2 k = o k) : VM h2 o2 i v := by
  match v, hv, k with
  | none, _, k => exact e1.trans k
  | some (.inl z), _, k => exact ⟨e1.trans k.1, e2.trans k.2⟩
  | some (.inr j), hv, k => exact ⟨e1.trans k.1, by rw [e2, eo j hv]; exact k.2⟩
theorem osrt_lt {A : AS} {o : Ob} (w : OW A o) : 2 ≤ osrt o ∧ osrt o ≤ 4 := by
  match o, w with
  | .inl z, _ => exact ⟨Nat.le_refl _, by show 2 ≤ 4; omega⟩
  | .inr t, w =>
    show 2 ≤ t.1 ∧ t.1 ≤ 4
    rcases w with ⟨e, -⟩ | ⟨e, -⟩ <;> omega
theorem vs_lt {A : AS} {v : Vl} (w : WF A) (hv : VW (an A) v) : vs A v ≤ 4 := by
  match v, hv with
  | none, _ => exact Nat.zero_le _
  | some (.inl z), _ => show 1 ≤ 4; omega
  | some (.inr k), hv => exact (osrt_lt (w.2.1 k hv)).2
theorem s_msortOf {h : HP} {A : AS} {o : Nat → Nat} {i : Nat} {v : Vl} {Φ : Int32 → HP → Prop} (P : PN h A o) (hi : i < 416) (k : VM h o i v) (hv : VW (an A) v) (K : Φ (nI (vs A v)) h) : K_Mo_sortOf [.ref 0, .int (nI i)] h Φ := by
  refine I_Mo_sortOf (fun X C Rm Q => g_Mo_sortOf_0 C Rm Q ⟨vp_in_nI hi (by omega), ?_⟩)
  rw [nI_cl (by omega)]
  match v, hv, k, K with
  | none, _, k, K =>
    have k : h 1 i = 0 := k
    rw [k]
    exact ⟨fun _ => ⟨vp_in_nI hi (by omega), K⟩, fun q => absurd q (by decide)⟩
  | some (.inl z), _, k, K =>
    rw [k.1]
    exact ⟨fun _ => ⟨vp_in_nI hi (by omega), K⟩, fun q => absurd q (by decide)⟩
  | some (.inr j), hv, k, K =>
    have hj : j < an A := hv
    have := P.lt hj
    rw [k.1, k.2]
    refine ⟨fun q => absurd rfl q, fun _ => ⟨vp_in_nI hi (by omega), vp_in_nI (by omega) (by omega), ?_⟩⟩
    rw [nI_cl (by omega), P.srt hj]
    exact K
theorem ofInt64 {z : Int} (hz : fxd z) : (Int32.toInt64 (Int32.ofInt z)).toInt = z := by
  rw [Int32.toInt_toInt64, ofInt_toInt (by omega) (by omega)]
theorem s_mtakeWhole {h : HP} {A : AS} {o : Nat → Nat} {i r : Nat} {v : Vl} {Φ : HP → Prop} (P : PN h A o) (hi : i < 416) (hr : r < 13) (k : VM h o i v) (hv : VH A v) (K : ∀ h2, FR [r] h h2 → MN h2 r (wz A v) → Φ h2) : K_Mo_takeWhole [.ref 0, .int (nI r), .int (nI i)] h Φ := by
  refine I_Mo_takeWhole (fun X C Rm Q => g_Mo_takeWhole_0 C Rm Q ⟨vp_in_nI hi (by omega), ?_⟩)
  rw [nI_cl (by omega)]
  match v, hv, k, K with
  | some (.inl z), hv, k, K =>
    rw [k.1, k.2]
    refine ⟨fun q => absurd rfl q, fun _ => ⟨vp_in_nI hi (by omega), s_msetLong (by omega) (fun h2 f w => K h2 f ?_)⟩⟩
    rw [ofInt64 hv] at w
    exact w
  | some (.inr j), hv, k, K =>
    obtain ⟨hj, z, hz⟩ := hv
    have hl := P.lt hj
    rw [k.1, k.2]
    have ew : wz A (some (.inr j)) = z := by show (match ao A j with | .inl z => z | .inr _ => 0) = z; rw [hz]
    rw [ew] at K
    have om := P.obj hj
    rw [hz] at om
    have om : MN h (13 + o j) z := om
    refine ⟨fun _ => ⟨vp_in_nI hi (by omega), ?_⟩, fun q => absurd q (by decide)⟩
    refine I_Mo_rowOf (fun X C Rm Q => g_Mo_rowOf_0 C Rm Q ?_)
    rw [show (13 : Int32) = nI 13 from rfl, nI_add]
    exact s_mcopy (by omega) (by omega) om K
theorem s_mslot {h : HP} {x j : Nat} {Φ : Int32 → HP → Prop} (K : Φ (nI (8 + 2 * x + j)) h) : K_Mo_slotOf [.int (nI x), .int (nI j)] h Φ := by
  refine I_Mo_slotOf (fun X C Rm Q => g_Mo_slotOf_0 C Rm Q ?_)
  rw [show (8 : Int32) = nI 8 from rfl, show (2 : Int32) = nI 2 from rfl, pk_mul, nI_add, nI_add]
  exact K
