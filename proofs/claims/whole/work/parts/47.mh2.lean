/-! The model's heap: numbers taken, objects made. -/
def RWs (h h2 : HP) (r : Nat) : Prop := h2 9 r = h 9 r ∧ h2 10 r = h 10 r ∧ ∀ i, i < 100 → h2 8 (100 * r + i) = h 8 (100 * r + i)
def MK (h h2 : HP) : Prop := Fr [0, 1, 2, 3, 4, 5, 6, 7, 8, 9, 10, 13] h h2 ∧ h2 0 0 = h 0 0 ∧ h2 0 15 = h 0 15 ∧ h2 0 17 = h 0 17
theorem MK.rf (h : HP) : MK h h := ⟨Fr.rf _ _, rfl, rfl, rfl⟩
theorem MK.trans {h h2 h3 : HP} (a : MK h h2) (b : MK h2 h3) : MK h h3 := ⟨a.1.trans b.1, b.2.1.trans a.2.1, b.2.2.1.trans a.2.2.1, b.2.2.2.trans a.2.2.2⟩
theorem MK.ofFr {S : List Nat} {h h2 : HP} (f : Fr S h h2) (h0 : 0 ∉ S) (hs : ∀ j, j ∈ S → j ∈ [0, 1, 2, 3, 4, 5, 6, 7, 8, 9, 10, 13]) : MK h h2 := ⟨f.mono hs, by rw [f 0 h0], by rw [f 0 h0], by rw [f 0 h0]⟩
theorem MK.ofFR {S : List Nat} {h h2 : HP} (f : FR S h h2) : MK h h2 := MK.ofFr f.1 (by simp) (by simp)
theorem MN.rw {h h2 : HP} {r : Nat} {z : Int} (k : MN h r z) (e : RWs h h2 r) : MN h2 r z := ⟨k.1.cong e.1 e.2.2, e.2.1.trans k.2⟩
theorem OM.cong {h h2 : HP} {A : AS} {o o2 : Nat → Nat} {x : Nat} {ob : Ob} (k : OM h o x ob) (w : OW A ob) (e1 : h2 1 (8 + 2 * x) = h 1 (8 + 2 * x)) (e2 : h2 2 (8 + 2 * x) = h 2 (8 + 2 * x)) (e3 : h2 1 (9 + 2 * x) = h 1 (9 + 2 * x)) (e4 : h2 2 (9 + 2 * x) = h 2 (9 + 2 * x)) (er : RWs h h2 (13 + x)) (eo : ∀ k, k < an A → o2 k = o k) : OM h2 o2 x ob := by
  match ob, w, k with
  | .inl z, _, k =>
    have k : MN h (13 + x) z := k
    exact k.rw er
  | .inr t, w, k =>
    have ht : VW (an A) t.2.1 ∧ VW (an A) t.2.2 := by
      rcases w with ⟨-, a, b⟩ | ⟨-, a, b, -⟩
      · exact ⟨a, b⟩
      · exact ⟨a.toVW, b.toVW⟩
    exact ⟨k.1.cong ht.1 e1 e2 eo, k.2.cong ht.2 e3 e4 eo⟩
theorem PN.cong {h h2 : HP} {A : AS} {o : Nat → Nat} (P : PN h A o) (w : WF A) (e3 : h2 3 = h 3) (e4 : h2 4 = h 4) (e5 : h2 5 = h 5) (c3 : h2 0 3 = h 0 3) (c9 : h2 0 9 = h 0 9) (c10 : h2 0 10 = h 0 10) (sl : ∀ i, 8 ≤ i → i < 408 → h2 1 i = h 1 i ∧ h2 2 i = h 2 i) (er : ∀ r, 13 ≤ r → r < 213 → RWs h h2 r) : PN h2 A o := by
  refine ⟨P.1, fun k hk => ?_, fun x hx hn => by rw [e4]; exact P.free hx hn, c3.trans P.many, c9.trans P.top, c10.trans P.coll⟩
  have hl := P.lt hk
  refine ⟨hl, by rw [e3]; exact P.ord hk, by rw [e4]; exact P.srt hk, by rw [e5]; exact P.siz hk, ?_⟩
  exact (P.obj hk).cong (w.2.1 k hk) (sl _ (by omega) (by omega)).1 (sl _ (by omega) (by omega)).2 (sl _ (by omega) (by omega)).1 (sl _ (by omega) (by omega)).2 (er _ (by omega) (by omega)) (fun _ _ => rfl)
theorem PN.fr {S : List Nat} {h h2 : HP} {A : AS} {o : Nat → Nat} (P : PN h A o) (w : WF A) (f : FR S h h2) (hs : ∀ r, r ∈ S → r < 13) : PN h2 A o :=
  P.cong w (f.1 3 (by simp)) (f.1 4 (by simp)) (f.1 5 (by simp)) (by rw [f.1 0 (by simp)]) (by rw [f.1 0 (by simp)]) (by rw [f.1 0 (by simp)]) (fun i _ _ => by rw [f.1 1 (by simp), f.1 2 (by simp)]; exact ⟨rfl, rfl⟩) (fun r h1 _ => f.2 r (fun q => by have := hs r q; omega))
theorem VM.fr {S : List Nat} {h h2 : HP} {o : Nat → Nat} {i : Nat} {v : Vl} (k : VM h o i v) (f : FR S h h2) : VM h2 o i v := by
  have e1 := f.1 1 (by simp)
  have e2 := f.1 2 (by simp)
  match v, k with
  | none, k => show h2 1 i = 0; rw [e1]; exact k
  | some (.inl z), k => show h2 1 i = 1 ∧ h2 2 i = _; rw [e1, e2]; exact k
  | some (.inr j), k => show h2 1 i = 2 ∧ h2 2 i = _; rw [e1, e2]; exact k
theorem s_mtake {h : HP} {A : AS} {o : Nat → Nat} {i u d : Nat} {v : Vl} {Φ : HP → Prop} (P : PN h A o) (w : WF A) (hi : i < 416) (hu : u < 13) (hd : d < 13) (hud : u ≠ d) (k : VM h o i v) (hv : VW (an A) v) (hn : vs A v ≠ 0) (h4 : vs A v ≠ 4) (K : ∀ h2, FR [u, d] h h2 → MN h2 u (nU A v) → MN h2 d (nD A v) → Φ h2) : K_Mo_take [.ref 0, .int (nI u), .int (nI d), .int (nI i)] h Φ := by
  have hvs := vs_lt w hv
  refine I_Mo_take (fun X C Rm Q => g_Mo_take_0 C Rm Q (s_msortOf P hi k hv ?_))
  rw [show (3 : Int32) = nI 3 from rfl, nI_eq (by omega) (by omega)]
  rcases num_cases w hv hn h4 with ⟨n3, hh, eU, eD⟩ | ⟨j, t, rfl, n3, hj, he, ha, hb, -, eU, eD⟩
  · rw [eU, eD] at K
    refine ⟨fun _ => s_mtakeWhole P hi hu k hh (fun h2 f2 w2 => s_msetLong (by omega) (fun h3 f3 w3 => ?_)), fun q => absurd q n3⟩
    exact K h3 ((f2.mono (by simp)).trans (f3.mono (by simp))) (w2.fr f3 (by simpa using hud)) w3
  · rw [eU, eD] at K
    have hl := P.lt hj
    have om := P.obj hj
    rw [he] at om
    refine ⟨fun q => absurd n3 q, fun _ => ⟨vp_in_nI hi (by omega), ?_⟩⟩
    rw [nI_cl (by omega), k.2]
    refine s_mslot (j := 0) (s_mtakeWhole (i := 8 + 2 * o j + 0) P (by omega) hu om.1 ha (fun h2 f2 w2 => ⟨vp_in_nI hi (by omega), ?_⟩))
    have P2 := P.fr w f2 (by simp; omega)
    have om2 := P2.obj hj
    rw [he] at om2
    rw [(k.fr f2).2]
    refine s_mslot (j := 1) (s_mtakeWhole (i := 8 + 2 * o j + 1) P2 (by omega) hd (by rw [show 8 + 2 * o j + 1 = 9 + 2 * o j by omega]; exact om2.2) hb (fun h3 f3 w3 => ?_))
    exact K h3 ((f2.mono (by simp)).trans (f3.mono (by simp))) (w2.fr f3 (by simpa using hud)) w3
theorem s_misNumber {h : HP} {A : AS} {o : Nat → Nat} {i : Nat} {v : Vl} {Φ : Int32 → HP → Prop} (P : PN h A o) (w : WF A) (hi : i < 416) (k : VM h o i v) (hv : VW (an A) v) (K : Φ (if vs A v ≠ 0 ∧ vs A v ≠ 4 then 1 else 0) h) : K_Mo_isNumber [.ref 0, .int (nI i)] h Φ := by
  have hvs := vs_lt w hv
  refine I_Mo_isNumber (fun X C Rm Q => g_Mo_isNumber_0 C Rm Q (s_msortOf P hi k hv ?_))
  rw [show (1 : Int32) = nI 1 from rfl, show (3 : Int32) = nI 3 from rfl, nI_ltI (by omega) (by omega)]
  refine ⟨fun q => ?_, fun q => s_msortOf P hi k hv ?_⟩
  · rwa [if_neg (by omega)] at K
  · rw [nI_ltI (by omega) (by omega)]
    refine ⟨fun q2 => ?_, fun q2 => ?_⟩
    · rwa [if_neg (by omega)] at K
    · rwa [if_pos (by omega)] at K
theorem s_mmake {h : HP} {A : AS} {o : Nat → Nat} {kd' sz : Nat} {Φ : Int32 → HP → Prop} (P : PN h A o) (w : WF A) (hn : an A ≤ 199) (K : ∀ x, x < 200 → (∀ k, k < an A → o k ≠ x) → Φ (nI x) (up (up (up (up (up h 4 x (nI kd')) 5 x (nI sz)) 3 (an A) (nI x)) 0 3 (nI (an A + 1))) 0 9 (nI (ad A (an A) + sz)))) : K_Mo_make [.ref 0, .int (nI kd'), .int (nI sz)] h Φ := by
  refine I_Mo_make (fun X C Rm Q => g_Mo_make_0 C Rm Q ?_)
  have bound : ∀ x, (∀ y, y < x → ∃ k, k < an A ∧ o k = y) → x ≤ an A := by
    intro x hx
    refine fb_holes (an A) x (fun y => if hy : y < x then Classical.choose (hx y hy) else 0) (fun i hi => ?_) (fun i j hij hj => ?_)
    · simp only [dif_pos hi]
      exact (Classical.choose_spec (hx i hi)).1
    · simp only [dif_pos hj, dif_pos (show i < x by omega)]
      intro e
      have a := (Classical.choose_spec (hx i (by omega))).2
      have b := (Classical.choose_spec (hx j hj)).2
      rw [e, b] at a
      omega
  have loop : ∀ r x, r + x = 200 → (∀ y, y < x → ∃ k, k < an A ∧ o k = y) → Wg X 0 0 h [(0, .ref 0), (1, .int (nI kd')), (2, .int (nI sz)), (3, .int (nI x))] [] 2 := by
    intro r
    induction r with
    | zero =>
      intro x hx hall
      have := bound x hall
      omega
    | succ r ih =>
      intro x hx hall
      have hxb := bound x hall
      have h199 : x < 204 := by omega
      by_cases hf : ∃ k, k < an A ∧ o k = x
      · obtain ⟨k, hk, rfl⟩ := hf
        have hs := (osrt_lt (w.2.1 k hk))
        refine g_Mo_make_2 C Rm Q ⟨vp_in_nI h199 (by omega), fun q => ?_, fun _ => ?_⟩
        · rw [nI_cl (by omega), P.srt hk, nI_e0 (by omega)] at q
          omega
        · rw [nI_1]
          refine ih (o k + 1) (by omega) (fun y hy => ?_)
          by_cases e : y = o k
          · exact ⟨k, hk, e.symm⟩
          · exact hall y (by omega)
      · have hfree : ∀ k, k < an A → o k ≠ x := fun k hk e => hf ⟨k, hk, e⟩
        refine g_Mo_make_2 C Rm Q ⟨vp_in_nI h199 (by omega), fun _ => ⟨vp_in_nI h199 (by omega), vp_in_nI h199 (by omega), ?_⟩, fun q => absurd ?_ q⟩
        · rw [nI_cl (by omega), up_ne (by omega), up_ne (by omega), P.many]
          refine ⟨vp_in_nI (by omega) (by omega), ?_⟩
          rw [nI_cl (by omega), up_ne (by omega), up_ne (by omega), up_ne (by omega), P.many, nI_1, up_at_ne (by omega), up_ne (by omega), up_ne (by omega), up_ne (by omega), P.top, nI_add]
          exact K x (by omega) hfree
        · rw [nI_cl (by omega)]
          exact P.free h199 hfree
  exact loop 200 0 rfl (fun y hy => absurd hy (by omega))
/-- the objects' names behind one more -/
def oadd (A : AS) (o : Nat → Nat) (x : Nat) : Nat → Nat := fun k => if k = an A then x else o k
theorem oadd_lt {A : AS} {o : Nat → Nat} {x k : Nat} (h : k < an A) : oadd A o x k = o k := if_neg (by omega)
theorem oadd_n (A : AS) (o : Nat → Nat) (x : Nat) : oadd A o x (an A) = x := if_pos rfl
theorem PN.inMk {h h2 : HP} {A : AS} {o : Nat → Nat} {x : Nat} {ob : Ob} (P : PN h A o) (w : WF A) (hn : an A ≤ 199) (hx : x < 200) (hf : ∀ k, k < an A → o k ≠ x)
    (e4 : h2 4 = upd (h 4) x (nI (osrt ob))) (e5 : h2 5 = upd (h 5) x (nI (osz ob))) (e3 : h2 3 = upd (h 3) (an A) (nI x)) (c3 : h2 0 3 = nI (an A + 1)) (c9 : h2 0 9 = nI (ad A (an A) + osz ob)) (c10 : h2 0 10 = h 0 10)
    (sl : ∀ i, 8 ≤ i → i < 408 → i ≠ 8 + 2 * x → i ≠ 9 + 2 * x → h2 1 i = h 1 i ∧ h2 2 i = h 2 i) (er : ∀ r, 13 ≤ r → r < 213 → r ≠ 13 + x → RWs h h2 r) (cont : OM h2 (oadd A o x) x ob) : PN h2 (mk A ob) (oadd A o x) := by
  have hne : ∀ {i j}, i < an A + 1 → j < an A + 1 → oadd A o x i = oadd A o x j → i = j := by
    intro i j hi hj e
    by_cases a : i = an A <;> by_cases b : j = an A
    · omega
    · subst a
      rw [oadd_n, oadd_lt (by omega)] at e
      exact absurd e.symm (hf j (by omega))
    · subst b
      rw [oadd_n, oadd_lt (by omega)] at e
      exact absurd e (hf i (by omega))
    · rw [oadd_lt (by omega), oadd_lt (by omega)] at e
      exact P.inj (by omega) (by omega) e
  refine ⟨fun i j hi hj e => hne hi hj e, fun k hk => ?_, fun y hy hn' => ?_, ?_, ?_, ?_⟩
  · rw [an_mk] at hk
    by_cases q : k = an A
    · subst q
      rw [oadd_n, ao_mk_self]
      exact ⟨hx, by rw [e3, pk_us], by rw [e4, pk_us], by rw [e5, pk_us], cont⟩
    · have hk2 : k < an A := by omega
      have hl := P.lt hk2
      have hxk := hf k hk2
      rw [oadd_lt hk2, ao_mk A ob hk2]
      refine ⟨hl, by rw [e3, pk_un q]; exact P.ord hk2, by rw [e4, pk_un hxk]; exact P.srt hk2, by rw [e5, pk_un hxk]; exact P.siz hk2, ?_⟩
      exact (P.obj hk2).cong (w.2.1 k hk2) (sl _ (by omega) (by omega) (by omega) (by omega)).1 (sl _ (by omega) (by omega) (by omega) (by omega)).2 (sl _ (by omega) (by omega) (by omega) (by omega)).1 (sl _ (by omega) (by omega) (by omega) (by omega)).2 (er _ (by omega) (by omega) (by omega)) (fun j hj => oadd_lt hj)
  · have h1 : y ≠ x := by
      intro e
      exact hn' (an A) (by rw [an_mk]; omega) (by rw [oadd_n, e])
    rw [e4, pk_un h1]
    exact P.free hy (fun k hk e => hn' k (by rw [an_mk]; omega) (by rw [oadd_lt hk, e]))
  · exact c3
  · rw [c9, an_mk, ad_mk_top]
  · exact c10.trans P.coll
theorem room_n {A : AS} (w : WF A) {c : Nat} (hc : 2 ≤ c) (hs : ad A (an A) + c ≤ 400) : an A ≤ 199 := by
  have := w.two (an A) (Nat.le_refl _)
  omega
theorem s_mset {h : HP} {i : Nat} {a b : Int32} {Φ : HP → Prop} (hi : i < 416) (K : Φ (up (up h 1 i a) 2 i b)) : K_Mo_setValue [.ref 0, .int (nI i), .int a, .int b] h Φ := by
  refine I_Mo_setValue (fun X C Rm Q => g_Mo_setValue_0 C Rm Q ⟨vp_in_nI hi (by omega), vp_in_nI hi (by omega), ?_⟩)
  rw [nI_cl (by omega)]
  exact K
theorem s_mcopyV {h : HP} {i j : Nat} {Φ : HP → Prop} (hi : i < 416) (hj : j < 416) (K : Φ (up (up h 1 i (h 1 j)) 2 i (h 2 j))) : K_Mo_copyValue [.ref 0, .int (nI i), .int (nI j)] h Φ := by
  refine I_Mo_copyValue (fun X C Rm Q => g_Mo_copyValue_0 C Rm Q ⟨vp_in_nI hj (by omega), vp_in_nI hi (by omega), vp_in_nI hj (by omega), vp_in_nI hi (by omega), ?_⟩)
  rw [nI_cl (by omega), nI_cl (by omega), up_ne (by omega)]
  exact K
theorem VM.set {h : HP} {o o2 : Nat → Nat} {i j n : Nat} {v : Vl} (k : VM h o j v) (hv : VW n v) (eo : ∀ k, k < n → o2 k = o k) : VM (up (up h 1 i (h 1 j)) 2 i (h 2 j)) o2 i v := by
  have e1 : up (up h 1 i (h 1 j)) 2 i (h 2 j) 1 i = h 1 j := by rw [up_ne (by omega), up_at]
  have e2 : up (up h 1 i (h 1 j)) 2 i (h 2 j) 2 i = h 2 j := up_at _ _ _ _
  match v, hv, k with
  | none, _, k => exact e1.trans k
  | some (.inl z), _, k => exact ⟨e1.trans k.1, e2.trans k.2⟩
  | some (.inr q), hv, k => exact ⟨e1.trans k.1, by rw [e2, eo q hv]; exact k.2⟩
theorem s_mplace {h : HP} {A : AS} {o : Nat → Nat} {t r : Nat} {z : Int} {Φ : HP → Prop} (P : PN h A o) (w : WF A) (ht : t < 8 ∨ t = 414 ∨ t = 415) (hr : r < 13) (hz : MN h r z) (gz : gc 32 z.natAbs ≤ 20) (hs : ad A (an A) + cfw z ≤ 400)
    (K : ∀ h2 o2, MK h h2 → PN h2 (aw A z).2 o2 → VM h2 o2 t (aw A z).1 → (∀ k, k < an A → o2 k = o k) → (∀ i, (i < 8 ∨ 414 ≤ i) → i ≠ t → h2 1 i = h 1 i ∧ h2 2 i = h 2 i) → (∀ r, r < 13 → RWs h h2 r) → Φ h2) : K_Mo_place [.ref 0, .int (nI t), .int (nI r)] h Φ := by
  refine I_Mo_place (fun X C Rm Q => g_Mo_place_0 C Rm Q (s_misFixed (by omega) hz ?_))
  have ht416 : t < 416 := by omega
  have htn : t < 8 ∨ 408 ≤ t := by omega
  unfold aw at K
  unfold cfw at hs
  by_cases f : fxd z
  · rw [if_pos f] at K
    rw [if_pos f]
    refine ⟨fun q => absurd q (by decide), fun _ => ?_⟩
    have ku := hz.u
    have hle := ku.le
    have g2 : gc 16 z.natAbs ≤ 2 := (gc_le (by omega) _ _).mpr (by omega)
    have hm := two_limbs ku g2
    have l0 := lim_lt (i := 0) ku
    have l1 := lim_lt (i := 1) ku
    have fin : ∀ v : Int32, v = Int32.ofInt z → K_Mo_setValue [.ref 0, .int (nI t), .int 1, .int v] h (fun h9 => Φ h9) := by
      intro v hv
      refine s_mset ht416 ?_
      have fr : Fr [1, 2] h (up (up h 1 t 1) 2 t v) := ((Fr.rf _ _).up (by simp)).up (by simp)
      refine K _ o (MK.ofFr fr (by simp) (by simp)) (P.cong w (fr 3 (by simp)) (fr 4 (by simp)) (fr 5 (by simp)) (by rw [fr 0 (by simp)]) (by rw [fr 0 (by simp)]) (by rw [fr 0 (by simp)]) (fun i a b => ?_) (fun r _ _ => ?_)) ⟨by rw [up_ne (by omega), up_at], by rw [up_at, hv]⟩ (fun _ _ => rfl) (fun i a b => ?_) (fun r _ => ?_)
      · rw [up_ne (by omega), up_at_ne (by omega), up_at_ne (by omega), up_ne (by omega)]
        exact ⟨rfl, rfl⟩
      · exact ⟨by rw [fr 9 (by simp)], by rw [fr 10 (by simp)], fun i _ => by rw [fr 8 (by simp)]⟩
      · rw [up_ne (by omega), up_at_ne b, up_at_ne b, up_ne (by omega)]
        exact ⟨rfl, rfl⟩
      · exact ⟨by rw [fr 9 (by simp)], by rw [fr 10 (by simp)], fun i _ => by rw [fr 8 (by simp)]⟩
    have s0 : K_Mo_limbOf [.ref 0, .int (nI r), .int (nI 0)] h (fun r7 h7 => K_Mo_limbOf [.ref 0, .int (nI r), .int (nI 1)] h7 (fun r8 h8 => vp_in (nI r) 218 ∧ (((h8 10 (nI r).toNatClampNeg) = 0 → K_Mo_setValue [.ref 0, .int (nI t), .int 1, .int (r7 ||| (r8 <<< (16 &&& (31 : Int32))))] h8 (fun h9 => Φ h9)) ∧ (¬ (h8 10 (nI r).toNatClampNeg) = 0 → K_Mo_setValue [.ref 0, .int (nI t), .int 1, .int (-(r7 ||| (r8 <<< (16 &&& (31 : Int32)))))] h8 (fun h10 => Φ h10))))) := by
      refine s_limbOf (by omega) ku.len hle (by omega) (s_limbOf (by omega) ku.len hle (by omega) ?_)
      rw [nI_or16 l0 l1, hm, nI_cl (by omega), hz.sg, sg_ne]
      have hti : (nI z.natAbs).toInt = z.natAbs := nI_toInt (by omega)
      refine ⟨vr (by omega), fun q => fin _ (i32_ext_int ?_), fun q => fin _ (i32_ext_int ?_)⟩
      · rw [hti, ofInt_toInt (by omega) (by omega)]
        omega
      · rw [fb_negI (by rw [hti]; omega), hti, ofInt_toInt (by omega) (by omega)]
        omega
    exact s0
  · rw [if_neg f] at K hs
    rw [if_neg f]
    refine ⟨fun _ => s_mcellsOf (by omega) hz ?_, fun q => absurd rfl q⟩
    have ec : cfw z = osz (.inl z) := by unfold cfw; rw [if_neg f]; rfl
    have z0 : gc 32 z.natAbs ≠ 0 := by
      rw [Ne, gc_eq0]
      exact fun q => f ⟨by omega, by omega⟩
    have hn := room_n w (c := 1 + gc 32 z.natAbs) (by omega) hs
    rw [ec]
    have mm : K_Mo_make [.ref 0, .int (nI 2), .int (nI (osz (.inl z)))] h (fun r3 h3 => K_Mo_rowOf [.int r3] h3 (fun r4 h4 => K_Mo_copyRow [.ref 0, .int r4, .int (nI r)] h4 (fun h5 => K_Mo_setValue [.ref 0, .int (nI t), .int 2, .int r3] h5 (fun h6 => Φ h6)))) := by
      refine s_mmake P w hn (fun x hx hf => ?_)
      generalize hh1 : up (up (up (up (up h 4 x (nI 2)) 5 x (nI (osz (.inl z)))) 3 (an A) (nI x)) 0 3 (nI (an A + 1))) 0 9 (nI (ad A (an A) + osz (.inl z))) = h1
      have g1 : ∀ j, j ≠ 0 → j ≠ 3 → j ≠ 4 → j ≠ 5 → h1 j = h j := fun j a b c d => by rw [← hh1, up_ne a, up_ne a, up_ne b, up_ne d, up_ne c]
      have g4 : h1 4 = upd (h 4) x (nI 2) := by rw [← hh1, up_ne (by omega), up_ne (by omega), up_ne (by omega), up_ne (by omega), up_self]
      have g5 : h1 5 = upd (h 5) x (nI (osz (.inl z))) := by rw [← hh1, up_ne (by omega), up_ne (by omega), up_ne (by omega), up_self, up_ne (by omega)]
      have g3 : h1 3 = upd (h 3) (an A) (nI x) := by rw [← hh1, up_ne (by omega), up_ne (by omega), up_self, up_ne (by omega), up_ne (by omega)]
      have g09 : h1 0 9 = nI (ad A (an A) + osz (.inl z)) := by rw [← hh1, up_at]
      have g03 : h1 0 3 = nI (an A + 1) := by rw [← hh1, up_at_ne (by omega), up_at]
      have g0 : ∀ i, i ≠ 9 → i ≠ 3 → h1 0 i = h 0 i := fun i a b => by rw [← hh1, up_at_ne a, up_at_ne b, up_ne (by omega), up_ne (by omega), up_ne (by omega)]
      have hzr : MN h1 r z := hz.rw ⟨by rw [g1 9 (by omega) (by omega) (by omega) (by omega)], by rw [g1 10 (by omega) (by omega) (by omega) (by omega)], fun i _ => by rw [g1 8 (by omega) (by omega) (by omega) (by omega)]⟩
      refine I_Mo_rowOf (fun X C Rm Q => g_Mo_rowOf_0 C Rm Q ?_)
      rw [show (13 : Int32) = nI 13 from rfl, nI_add]
      refine s_mcopy (by omega) (by omega) hzr (fun h2 f2 w2 => s_mset ht416 ?_)
      have fr : Fr [1, 2] h2 (up (up h2 1 t 2) 2 t (nI x)) := ((Fr.rf _ _).up (by simp)).up (by simp)
      have all : ∀ j, j ∉ [0, 1, 2, 3, 4, 5, 8, 9, 10] → up (up h2 1 t 2) 2 t (nI x) j = h j := fun j hj => by
        simp at hj
        rw [fr j (by simp; omega), f2.1 j (by simp; omega), g1 j (by omega) (by omega) (by omega) (by omega)]
      have e0 : up (up h2 1 t 2) 2 t (nI x) 0 = h1 0 := by rw [fr 0 (by simp), f2.1 0 (by simp)]
      have rws : ∀ q, q ≠ 13 + x → RWs h (up (up h2 1 t 2) 2 t (nI x)) q := fun q hq => by
        have a := f2.2 q (by simpa using hq)
        exact ⟨by rw [fr 9 (by simp), a.1, g1 9 (by omega) (by omega) (by omega) (by omega)], by rw [fr 10 (by simp), a.2.1, g1 10 (by omega) (by omega) (by omega) (by omega)], fun i hi => by rw [fr 8 (by simp), a.2.2 i hi, g1 8 (by omega) (by omega) (by omega) (by omega)]⟩
      have sls : ∀ i, i ≠ t → up (up h2 1 t 2) 2 t (nI x) 1 i = h 1 i ∧ up (up h2 1 t 2) 2 t (nI x) 2 i = h 2 i := fun i hi => by
        rw [up_ne (by omega), up_at_ne hi, up_at_ne hi, up_ne (by omega), f2.1 1 (by simp), f2.1 2 (by simp), g1 1 (by omega) (by omega) (by omega) (by omega), g1 2 (by omega) (by omega) (by omega) (by omega)]
        exact ⟨rfl, rfl⟩
      refine K _ (oadd A o x) ⟨fun j hj => all j (fun z => hj (by simp at z; simp; omega)), by rw [e0, g0 0 (by omega) (by omega)], by rw [e0, g0 15 (by omega) (by omega)], by rw [e0, g0 17 (by omega) (by omega)]⟩ ?_ ⟨by rw [up_ne (by omega), up_at], by rw [up_at, oadd_n]⟩ (fun k hk => oadd_lt hk) (fun i _ b => sls i b) (fun q hq => rws q (by omega))
      refine P.inMk w hn hx hf ?_ ?_ ?_ (by rw [e0, g03]) (by rw [e0, g09]) (by rw [e0, g0 10 (by omega) (by omega)]) (fun i a b _ _ => sls i (by omega)) (fun q a b c => rws q c) ?_
      · rw [fr 4 (by simp), f2.1 4 (by simp), g4]
        rfl
      · rw [fr 5 (by simp), f2.1 5 (by simp), g5]
      · rw [fr 3 (by simp), f2.1 3 (by simp), g3]
      · exact w2.rw ⟨by rw [fr 9 (by simp)], by rw [fr 10 (by simp)], fun i _ => by rw [fr 8 (by simp)]⟩
    exact mm
