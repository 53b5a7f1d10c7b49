/-! The class' heap: how it holds what a heap of cells is; reads. -/
def enc (A : AS) : Vl → Int32
  | none => 0
  | some (.inl z) => Int32.ofInt (2 * z + 1)
  | some (.inr k) => nI (2 * (ad A k + 1))
def hb : Ob → Nat
  | .inl z => if z < 0 then 10 else 2
  | .inr t => t.1
def OC (c : Nat → Int32) (A : AS) (a : Nat) (o : Ob) : Prop := c a = nI (16 * osz o + hb o) ∧ match o with
  | .inl z => win c (a + 1) (gc 32 z.natAbs) = z.natAbs
  | .inr t => c (a + 1) = enc A t.2.1 ∧ c (a + 2) = enc A t.2.2
def PC (h : HP) (A : AS) : Prop := WF A ∧ h 15 2 = nI (ad A (an A)) ∧ h 15 3 = nI (ac A) ∧ (∀ r, r < 8 → h 17 r = enc A (ar A r)) ∧ ∀ k, k < an A → OC (h 16) A (ad A k) (ao A k)
theorem PC.wf {h : HP} {A : AS} (P : PC h A) : WF A := P.1
theorem PC.top {h : HP} {A : AS} (P : PC h A) : h 15 2 = nI (ad A (an A)) := P.2.1
theorem PC.coll {h : HP} {A : AS} (P : PC h A) : h 15 3 = nI (ac A) := P.2.2.1
theorem PC.reg {h : HP} {A : AS} (P : PC h A) {r : Nat} (hr : r < 8) : h 17 r = enc A (ar A r) := P.2.2.2.1 r hr
theorem PC.obj {h : HP} {A : AS} (P : PC h A) {k : Nat} (hk : k < an A) : OC (h 16) A (ad A k) (ao A k) := P.2.2.2.2 k hk
theorem PC.cong {h h2 : HP} {A : AS} (P : PC h A) (e2 : h2 15 2 = h 15 2) (e3 : h2 15 3 = h 15 3) (e16 : h2 16 = h 16) (e17 : h2 17 = h 17) : PC h2 A := by
  unfold PC
  rw [e2, e3, e16, e17]
  exact P
theorem PC.fr {S : List Nat} {h h2 : HP} {A : AS} (P : PC h A) (f : Fr S h h2) (a : 15 ∉ S) (b : 16 ∉ S) (c : 17 ∉ S) : PC h2 A := P.cong (by rw [f 15 a]) (by rw [f 15 a]) (f 16 b) (f 17 c)
theorem hb_mod {A : AS} {o : Ob} (w : OW A o) : hb o % 8 = osrt o ∧ hb o < 16 := by
  match o, w with
  | .inl z, w =>
    show (if z < 0 then 10 else 2) % 8 = 2 ∧ (if z < 0 then 10 else 2) < 16
    split <;> omega
  | .inr t, w =>
    show t.1 % 8 = t.1 ∧ t.1 < 16
    rcases w with ⟨e, -⟩ | ⟨e, -⟩ <;> omega
theorem hb_mvo (f : Nat → Nat) (o : Ob) : hb (mvo f o) = hb o := by
  match o with
  | .inl z => rfl
  | .inr t => rfl
theorem OC.same {c c' : Nat → Int32} {A A' : AS} {a : Nat} {o : Ob} (k : OC c A a o) (hc : ∀ i, a ≤ i → i < a + osz o → c' i = c i) (he : ∀ t, o = .inr t → enc A' t.2.1 = enc A t.2.1 ∧ enc A' t.2.2 = enc A t.2.2) : OC c' A' a o := by
  have hp := osz_pos o
  refine ⟨by rw [hc a (Nat.le_refl _) (by omega)]; exact k.1, ?_⟩
  obtain ⟨-, k2⟩ := k
  match o, hc, he, k2 with
  | .inl z, hc, he, k2 =>
    show win c' (a + 1) (gc 32 z.natAbs) = z.natAbs
    rw [win_cong (fun i h1 h2 => hc i (by omega) (by show i < a + (1 + _); omega))]
    exact k2
  | .inr t, hc, he, k2 =>
    have hs : ∀ i, a ≤ i → i < a + 3 → c' i = c i := hc
    obtain ⟨e1, e2⟩ := he t rfl
    exact ⟨by rw [hs _ (by omega) (by omega), e1]; exact k2.1, by rw [hs _ (by omega) (by omega), e2]; exact k2.2⟩
theorem enc_fix {A : AS} {z : Int} (hz : fxd z) : ¬ enc A (some (.inl z)) = 0 ∧ ¬ (enc A (some (.inl z)) &&& 1) = 0 ∧ enc A (some (.inl z)) >>> (1 &&& (31 : Int32)) = Int32.ofInt z := by
  show ¬ Int32.ofInt (2 * z + 1) = 0 ∧ ¬ (Int32.ofInt (2 * z + 1) &&& 1) = 0 ∧ Int32.ofInt (2 * z + 1) >>> (1 &&& (31 : Int32)) = Int32.ofInt z
  have e : (Int32.ofInt (2 * z + 1)).toInt = 2 * z + 1 := ofInt_toInt (by omega) (by omega)
  generalize Int32.ofInt (2 * z + 1) = x at *
  refine ⟨fun q => ?_, ?_, ?_⟩
  · rw [q] at e
    have : (0 : Int) = 2 * z + 1 := e
    omega
  · rw [pk_and x 1 (by decide), nI_e0 (by omega)]
    have := un_toInt x
    have e4 : x.toBitVec.toNat = un x := rfl
    rw [e4]
    rw [e] at this
    split at this <;> omega
  · apply i32_ext_int
    rw [pk_shr x _ 1 (by decide), e, ofInt_toInt (by omega) (by omega), Int.shiftRight_eq_div_pow]
    show (2 * z + 1) / 2 = z
    omega
theorem enc_obj {m : Nat} (h : m < 1000) : ¬ nI (2 * (m + 1)) = 0 ∧ (nI (2 * (m + 1)) &&& 1) = 0 ∧ (nI (2 * (m + 1)) >>> (1 &&& (31 : Int32))) - 1 = nI m := by
  refine ⟨by rw [nI_e0 (by omega)]; omega, ?_, ?_⟩
  · rw [pk_andN (by omega) 1 (by decide), nI_e0 (by omega)]
    omega
  · rw [pk_shrN (by omega) _ 1 (by decide), Nat.pow_one, Nat.mul_div_cancel_left _ (by decide), nI_pred]
def isob : Vl → Bool
  | some (.inr _) => true
  | _ => false
theorem s_isObject {h : HP} {A : AS} {v : Vl} {Φ : Int32 → HP → Prop} (w : WF A) (hv : VW (an A) v) (K : Φ (if isob v then 1 else 0) h) : K_He_isObject [.int (enc A v)] h Φ := by
  refine I_He_isObject (fun X C Rm Q => ?_)
  match v, hv, K with
  | none, _, K => exact g_He_isObject_0 C Rm Q ⟨fun _ => K, fun q => absurd rfl q⟩
  | some (.inl z), hv, K =>
    obtain ⟨a, b, -⟩ := enc_fix (A := A) hv
    exact g_He_isObject_0 C Rm Q ⟨fun q => absurd q a, fun _ => ⟨fun _ => K, fun q => absurd q b⟩⟩
  | some (.inr k), hv, K =>
    obtain ⟨a, b, -⟩ := enc_obj (m := ad A k) (by have := w.adl hv; omega)
    exact g_He_isObject_0 C Rm Q ⟨fun q => absurd q a, fun _ => ⟨fun q => absurd b q, fun _ => K⟩⟩
theorem s_cellOf {h : HP} {A : AS} {k : Nat} {Φ : Int32 → HP → Prop} (w : WF A) (hk : k < an A) (K : Φ (nI (ad A k)) h) : K_He_cellOf [.int (enc A (some (.inr k)))] h Φ := by
  refine I_He_cellOf (fun X C Rm Q => g_He_cellOf_0 C Rm Q ?_)
  obtain ⟨-, -, c⟩ := enc_obj (m := ad A k) (by have := w.adl hk; omega)
  show Φ ((nI (2 * (ad A k + 1)) >>> (1 &&& (31 : Int32))) - 1) h
  rw [c]
  exact K
theorem s_objectAt {h : HP} {m : Nat} {Φ : Int32 → HP → Prop} (hm : m < 1000) (K : Φ (nI (2 * (m + 1))) h) : K_He_objectAt [.int (nI m)] h Φ := by
  refine I_He_objectAt (fun X C Rm Q => g_He_objectAt_0 C Rm Q ?_)
  rw [nI_1, pk_shlN _ 1 (by decide) (by omega), Nat.pow_one, Nat.mul_comm]
  exact K
theorem s_fixedOf {h : HP} {A : AS} {z : Int} {Φ : Int32 → HP → Prop} (hz : fxd z) (K : Φ (Int32.ofInt z) h) : K_He_fixedOf [.int (enc A (some (.inl z)))] h Φ := by
  refine I_He_fixedOf (fun X C Rm Q => g_He_fixedOf_0 C Rm Q ?_)
  rw [(enc_fix hz).2.2]
  exact K
theorem s_sizeAt' {h : HP} {a s b : Nat} {Φ : Int32 → HP → Prop} (ha : a < 400) (e : h 16 a = nI (16 * s + b)) (hb : b < 16) (hs : s < 1000) (K : Φ (nI s) h) : K_He_sizeAt [.ref 15, .int (nI a)] h Φ := by
  refine I_He_sizeAt (fun X C Rm Q => g_He_sizeAt_0 C Rm Q ⟨vp_in_nI ha (by omega), ?_⟩)
  rw [nI_cl (by omega), e, pk_shrN (by omega) _ 4 (by decide), show (16 * s + b) / 2 ^ 4 = s by omega]
  exact K
theorem s_sortAt' {h : HP} {a s b : Nat} {Φ : Int32 → HP → Prop} (ha : a < 400) (e : h 16 a = nI (16 * s + b)) (hs : s < 1000) (hb : b < 16) (K : Φ (nI (b % 8)) h) : K_He_sortAt [.ref 15, .int (nI a)] h Φ := by
  refine I_He_sortAt (fun X C Rm Q => g_He_sortAt_0 C Rm Q ⟨vp_in_nI ha (by omega), ?_⟩)
  rw [nI_cl (by omega), e, pk_andN (by omega) 3 (by decide), show (16 * s + b) % 2 ^ 3 = b % 8 by omega]
  exact K
theorem s_sizeAt {h : HP} {A : AS} {k : Nat} {Φ : Int32 → HP → Prop} (w : WF A) (hk : k < an A) (o : OC (h 16) A (ad A k) (ao A k)) (K : Φ (nI (osz (ao A k))) h) : K_He_sizeAt [.ref 15, .int (nI (ad A k))] h Φ :=
  s_sizeAt' (w.adl hk) o.1 (hb_mod (w.2.1 k hk)).2 (by have := osz_21 (w.2.1 k hk); omega) K
theorem s_sortAt {h : HP} {A : AS} {k : Nat} {Φ : Int32 → HP → Prop} (w : WF A) (hk : k < an A) (o : OC (h 16) A (ad A k) (ao A k)) (K : Φ (nI (osrt (ao A k))) h) : K_He_sortAt [.ref 15, .int (nI (ad A k))] h Φ :=
  s_sortAt' (w.adl hk) o.1 (by have := osz_21 (w.2.1 k hk); omega) (hb_mod (w.2.1 k hk)).2 (by rw [(hb_mod (w.2.1 k hk)).1]; exact K)
theorem s_sortOf {h : HP} {A : AS} {v : Vl} {Φ : Int32 → HP → Prop} (P : PC h A) (hv : VW (an A) v) (K : Φ (nI (vs A v)) h) : K_He_sortOf [.ref 15, .int (enc A v)] h Φ := by
  refine I_He_sortOf (fun X C Rm Q => g_He_sortOf_0 C Rm Q (s_isObject P.wf hv ?_))
  match v, hv, K with
  | none, _, K => exact ⟨fun _ => ⟨fun q => absurd rfl q, fun _ => K⟩, fun q => absurd rfl q⟩
  | some (.inl z), hv, K => exact ⟨fun _ => ⟨fun _ => K, fun q => absurd q (enc_fix hv).1⟩, fun q => absurd rfl q⟩
  | some (.inr k), hv, K => exact ⟨fun q => absurd q (show ¬ (1 : Int32) = 0 by decide), fun _ => s_cellOf P.wf hv (s_sortAt P.wf hv (P.obj hv) K)⟩
theorem s_firstOf {h : HP} {A : AS} {k : Nat} {t : Nat × Vl × Vl} {Φ : Int32 → HP → Prop} (w : WF A) (hk : k < an A) (o : OC (h 16) A (ad A k) (ao A k)) (e : ao A k = .inr t) (K : Φ (enc A t.2.1) h) : K_He_firstOf [.ref 15, .int (enc A (some (.inr k)))] h Φ := by
  refine I_He_firstOf (fun X C Rm Q => g_He_firstOf_0 C Rm Q (s_cellOf w hk ?_))
  have hs := w.sz hk
  rw [e] at o hs
  have hs : ad A k + 3 ≤ 400 := hs
  rw [nI_1]
  refine ⟨vp_in_nI (by omega) (by omega), ?_⟩
  rw [nI_cl (by omega), o.2.1]
  exact K
theorem s_secondOf {h : HP} {A : AS} {k : Nat} {t : Nat × Vl × Vl} {Φ : Int32 → HP → Prop} (w : WF A) (hk : k < an A) (o : OC (h 16) A (ad A k) (ao A k)) (e : ao A k = .inr t) (K : Φ (enc A t.2.2) h) : K_He_secondOf [.ref 15, .int (enc A (some (.inr k)))] h Φ := by
  refine I_He_secondOf (fun X C Rm Q => g_He_secondOf_0 C Rm Q (s_cellOf w hk ?_))
  have hs := w.sz hk
  rw [e] at o hs
  have hs : ad A k + 3 ≤ 400 := hs
  rw [show (2 : Int32) = nI 2 from rfl, nI_add]
  refine ⟨vp_in_nI (by omega) (by omega), ?_⟩
  rw [nI_cl (by omega), o.2.2]
  exact K
theorem win_ds0 (f : Nat → Int32) (g : Nat → Int32) (a m : Nat) (h : ∀ i, i < m → g i = f (a + i)) : ds 4294967296 (dW g) m = win f a m := ds_cong (fun k hk => by unfold dW; rw [h k hk])
theorem s_fetchWhole {h : HP} {A : AS} {v : Vl} {p : Nat} {Φ : HP → Prop} (P : PC h A) (hv : VH A v) (hp : kd p = (0, 0)) (K : ∀ h2, Fr [p, p + 1] h h2 → WN h2 p (wz A v) → Φ h2) : K_He_fetchWhole [.ref 15, .int (enc A v), .ref p] h Φ := by
  refine I_He_fetchWhole (fun X C Rm Q => g_He_fetchWhole_0 C Rm Q hp (s_sortOf P hv.toVW ?_))
  match v, hv, K with
  | some (.inl z), hv, K =>
    refine ⟨fun q => absurd q (show ¬ (1 : Int32) = 2 by decide), fun _ => s_fixedOf hv (s_setLong hp (fun h2 f w => K h2 f ?_))⟩
    rw [Int32.toInt_toInt64, ofInt_toInt (by have := hv.1; omega) (by have := hv.2; omega)] at w
    exact w
  | some (.inr k), hv, K =>
    obtain ⟨hk, z, hz⟩ := hv
    have o := P.obj hk
    have wo := P.wf.2.1 k hk
    have hs := P.wf.sz hk
    have hvs : vs A (some (.inr k)) = 2 := by show osrt (ao A k) = 2; rw [hz]; rfl
    have hwz : wz A (some (.inr k)) = z := by show (match ao A k with | .inl z => z | .inr _ => 0) = z; rw [hz]
    rw [hvs]
    rw [hwz] at K
    refine ⟨fun _ => s_cellOf P.wf hk (s_sizeAt P.wf hk o ?_), fun q => absurd rfl q⟩
    rw [hz] at o wo hs ⊢
    have hs : ad A k + (1 + gc 32 z.natAbs) ≤ 400 := hs
    have hg := wo.2
    have z0 : gc 32 z.natAbs ≠ 0 := by
      rw [Ne, gc_eq0]
      exact fun q => wo.1 ⟨by omega, by omega⟩
    rw [nI_1, show osz (.inl z) = gc 32 z.natAbs + 1 from Nat.add_comm _ _, nI_pred]
    have h16 : p ≠ 16 := kd_ne hp (show kd 16 = (10, 400) from rfl) (by omega)
    have h16' : p + 1 ≠ 16 := fun q => by
      have := kd_ne (show kd 15 = (4, 0) from rfl) hp (by omega)
      omega
    refine s_setWords hp (show kd 16 = (10, 400) from rfl) (by omega) (by omega) (by omega) (fun h2 f e1 e2 e3 => ?_)
    have e16 : h2 16 = h 16 := f 16 (by simp; omega)
    have hv2 := win_ds0 (h 16) (h2 (p + 1)) (ad A k + 1) (gc 32 z.natAbs) e3
    rw [show win (h 16) (ad A k + 1) (gc 32 z.natAbs) = z.natAbs from o.2] at hv2
    refine ⟨vp_in_nI (by omega) (by omega), ?_⟩
    rw [nI_cl (by omega), e16, o.1, show (8 : Int32) = nI (2 ^ 3) from rfl, fa_bit (by omega), Nat.testBit_eq_decide_div_mod_eq]
    have fin : ∀ s : Int32, s = (if z < 0 then 1 else 0) → Φ (up h2 p 2 s) := fun s hs => K _ (f.up (by simp)) ⟨by rw [up_at_ne (by omega), e1], by rw [up_at, hs], by rw [up_ne (by omega), hv2], by omega⟩
    by_cases q : z < 0
    · have e4 : hb (.inl z) = 10 := if_pos q
      rw [e4]
      refine ⟨fun q2 => absurd q2 ?_, fun _ => fin 1 (by rw [if_pos q])⟩
      simp
      omega
    · have e4 : hb (.inl z) = 2 := if_neg q
      rw [e4]
      refine ⟨fun _ => fin 0 (by rw [if_neg q]), fun q2 => absurd ?_ q2⟩
      simp
      omega
theorem kd_15 {p c n : Nat} (hp : kd p = (c, n)) (hc : c ≠ 4) : p ≠ 15 := kd_ne hp (show kd 15 = (4, 0) from rfl) hc
theorem num_cases {A : AS} {v : Vl} (w : WF A) (hv : VW (an A) v) (hn : vs A v ≠ 0) (h4 : vs A v ≠ 4) : (vs A v ≠ 3 ∧ VH A v ∧ nU A v = wz A v ∧ nD A v = 1) ∨ (∃ k t, v = some (.inr k) ∧ vs A v = 3 ∧ k < an A ∧ ao A k = .inr t ∧ VH A t.2.1 ∧ VH A t.2.2 ∧ wz A t.2.2 ≠ 0 ∧ nU A v = wz A t.2.1 ∧ nD A v = wz A t.2.2) := by
  match v, hv, hn, h4 with
  | none, _, hn, _ => exact absurd rfl hn
  | some (.inl z), hv, _, _ => exact Or.inl ⟨by show 1 ≠ 3; omega, hv, rfl, rfl⟩
  | some (.inr k), hv, hn, h4 =>
    have wo := w.2.1 k hv
    have e1 : vs A (some (.inr k)) = osrt (ao A k) := rfl
    have e2 : nU A (some (.inr k)) = match ao A k with | .inl z => z | .inr t => wz A t.2.1 := rfl
    have e3 : nD A (some (.inr k)) = match ao A k with | .inl _ => 1 | .inr t => wz A t.2.2 := rfl
    have e4 : wz A (some (.inr k)) = match ao A k with | .inl z => z | .inr _ => 0 := rfl
    rw [e1] at h4 ⊢
    rw [e2, e3, e4]
    generalize he : ao A k = o at *
    match o, he, wo, h4 with
    | .inl z, he, _, _ => exact Or.inl ⟨by show 2 ≠ 3; omega, ⟨hv, z, he⟩, rfl, rfl⟩
    | .inr t, he, wo, h4 =>
      rcases wo with ⟨e, -⟩ | ⟨e, a, b, c⟩
      · exact absurd e h4
      · exact Or.inr ⟨k, t, rfl, e, hv, he, a, b, c, rfl, rfl⟩
theorem s_fetchNumber {h : HP} {A : AS} {v : Vl} {p : Nat} {Φ : HP → Prop} (P : PC h A) (hv : VW (an A) v) (hn : vs A v ≠ 0) (h4 : vs A v ≠ 4) (hp : kd p = (1, 0)) (K : ∀ h2, Fr [p + 1, p + 2, p + 3, p + 4] h h2 → WN h2 (p + 1) (nU A v) → WN h2 (p + 3) (nD A v) → Φ h2) : K_He_fetchNumber [.ref 15, .int (enc A v), .ref p] h Φ := by
  refine I_He_fetchNumber (fun X C Rm Q => g_He_fetchNumber_0 C Rm Q hp (s_sortOf P hv ?_))
  have k1 := kRa1 hp
  have k2 := kRa2 hp
  have k3 := kRa3 hp
  have k4 := kRa4 hp
  have hp15 : p + 1 ≠ 15 ∧ p + 2 ≠ 15 ∧ p + 1 ≠ 16 ∧ p + 2 ≠ 16 ∧ p + 1 ≠ 17 ∧ p + 2 ≠ 17 := by
    have a1 := kd_ne k1 (show kd 15 = (4, 0) from rfl) (by omega)
    have a2 := kd_ne k2 (show kd 15 = (4, 0) from rfl) (by omega)
    have a3 := kd_ne k1 (show kd 16 = (10, 400) from rfl) (by omega)
    have a4 := kd_ne k1 (show kd 17 = (10, 8) from rfl) (by omega)
    omega
  have hvs : vs A v < 5 := by
    match v, hv with
    | none, _ => show 0 < 5; omega
    | some (.inl z), _ => show 1 < 5; omega
    | some (.inr k), hv =>
      show osrt (ao A k) < 5
      have wo := P.wf.2.1 k hv
      generalize ao A k = o at wo
      match o, wo with
      | .inl z, _ => show 2 < 5; omega
      | .inr t, wo => show t.1 < 5; rcases wo with ⟨e, -⟩ | ⟨e, -⟩ <;> omega
  rw [show (3 : Int32) = nI 3 from rfl, nI_eq (by omega) (by omega)]
  rcases num_cases P.wf hv hn h4 with ⟨n3, hh, eU, eD⟩ | ⟨k, t, rfl, n3, hk, he, ha, hb, -, eU, eD⟩
  · rw [eU, eD] at K
    refine ⟨fun _ => s_fetchWhole P hh k1 (fun h2 f2 w2 => s_setLong k3 (fun h3 f3 w3 => ?_)), fun q => absurd q n3⟩
    exact K h3 ((f2.mono (by simp)).trans (f3.mono (by simp))) (w2.fr f3 (by simp) (by simp)) w3
  · rw [eU, eD] at K
    refine ⟨fun q => absurd n3 q, fun _ => s_firstOf P.wf hk (P.obj hk) he (s_fetchWhole P ha k1 (fun h2 f2 w2 => ?_))⟩
    have P2 : PC h2 A := P.fr f2 (by simp; omega) (by simp; omega) (by simp; omega)
    refine s_secondOf P2.wf hk (P2.obj hk) he (s_fetchWhole P2 hb k3 (fun h3 f3 w3 => ?_))
    exact K h3 ((f2.mono (by simp)).trans (f3.mono (by simp))) (w2.fr f3 (by simp) (by simp)) w3
