/-! The class' collector. -/
/-- what marking may change -/
def KM (h h2 : HP) : Prop := Fr [15, 18, 20] h h2 ∧ ∀ i, i ≠ 7 → h2 15 i = h 15 i
theorem KM.rf (h : HP) : KM h h := ⟨Fr.rf _ _, fun _ _ => rfl⟩
theorem KM.trans {h h2 h3 : HP} (a : KM h h2) (b : KM h2 h3) : KM h h3 := ⟨a.1.trans b.1, fun i hi => (b.2 i hi).trans (a.2 i hi)⟩
theorem KM.pc {h h2 : HP} {A : AS} (P : PC h A) (k : KM h h2) : PC h2 A := P.cong (k.2 2 (by omega)) (k.2 3 (by omega)) (k.1 16 (by simp)) (k.1 17 (by simp))
def MI (h : HP) (A : AS) (M : Nat → Bool) (fc : Nat) : Prop := h 15 7 = nI fc ∧ fc = fb_ct M (an A) ∧ (∀ k, k < an A → h 18 (ad A k) = if M k then 1 else 0) ∧ (∀ i, i < fc → ∃ k, k < an A ∧ M k = true ∧ h 20 i = nI (ad A k)) ∧ (∀ k, k < an A → M k = true → ∃ i, i < fc ∧ h 20 i = nI (ad A k)) ∧ (∀ k, k < an A → M k = true → Rch A k)
theorem s_reach {h : HP} {A : AS} {M : Nat → Bool} {fc : Nat} {v : Vl} {Φ : HP → Prop} (P : PC h A) (I : MI h A M fc) (hv : VW (an A) v) (hr : ∀ k, v = some (.inr k) → Rch A k)
    (K : ∀ h2 M2 fc2, KM h h2 → MI h2 A M2 fc2 → (∀ k, M k = true → M2 k = true) → (∀ k, v = some (.inr k) → M2 k = true) → fc ≤ fc2 → (∀ i, i < fc → h2 20 i = h 20 i) → Φ h2) : K_He_reach [.ref 15, .int (enc A v)] h Φ := by
  refine I_He_reach (fun X C Rm Q => g_He_reach_0 C Rm Q (s_isObject P.wf hv ?_))
  have no : (∀ k, v ≠ some (.inr k)) → Φ h := fun q => K h M fc (KM.rf h) I (fun _ a => a) (fun k e => absurd e (q k)) (Nat.le_refl _) (fun _ _ => rfl)
  match v, hv, hr, K, no with
  | none, _, _, _, no => exact ⟨fun _ => no (fun k q => by cases q), fun q => absurd rfl q⟩
  | some (.inl z), _, _, _, no => exact ⟨fun _ => no (fun k q => by cases q), fun q => absurd rfl q⟩
  | some (.inr k), hv, hr, K, _ =>
    obtain ⟨i1, i2, i3, i4, i5, i6⟩ := id I
    have hk : k < an A := hv
    have ha := P.wf.adl hk
    have hn := P.wf.n
    have hfn : fc ≤ an A := by rw [i2]; exact fb_ct_le _ _
    refine ⟨fun q => absurd q (show ¬ (1 : Int32) = 0 by decide), fun _ => s_cellOf P.wf hk ⟨vp_in_nI ha (by omega), ?_⟩⟩
    rw [nI_cl (by omega), i3 k hk]
    refine ⟨fun q => ?_, fun q => ?_⟩
    · have hm : M k = true := by
        cases hm : M k
        · rw [hm] at q; exact absurd rfl q
        · rfl
      exact K h M fc (KM.rf h) I (fun _ a => a) (fun j e => by cases e; exact hm) (Nat.le_refl _) (fun _ _ => rfl)
    · have hm : M k = false := by
        cases hm : M k
        · rfl
        · rw [hm] at q; exact absurd q (by decide)
      refine s_cellOf P.wf hk ⟨vp_in_nI ha (by omega), s_cellOf P.wf hk ?_⟩
      rw [nI_cl (by omega), up_ne (by omega), i1]
      refine ⟨vp_in_nI (by omega) (by omega), ?_⟩
      rw [nI_cl (by omega), up_ne (by omega), up_ne (by omega), i1, nI_1]
      have e18 : vp_nar .boolean 1 = 1 := rfl
      rw [e18]
      have n1 : ∀ i, i < fc → up (up (up h 18 (ad A k) 1) 20 fc (nI (ad A k))) 15 7 (nI (fc + 1)) 20 i = h 20 i := fun i hi => by rw [up_ne (by omega), up_at_ne (by omega), up_ne (by omega)]
      have n2 : up (up (up h 18 (ad A k) 1) 20 fc (nI (ad A k))) 15 7 (nI (fc + 1)) 20 fc = nI (ad A k) := by rw [up_ne (by omega), up_at]
      have hc := fb_ct_upd M true (i := k) (n := an A) hk
      rw [hm] at hc
      refine K _ (fun j => if j = k then true else M j) (fc + 1) ⟨(((Fr.rf _ _).up (by simp)).up (by simp)).up (by simp), fun i hi => by rw [up_at_ne hi, up_ne (by omega), up_ne (by omega)]⟩ ⟨up_at _ _ _ _, ?_, ?_, ?_, ?_, ?_⟩ ?_ ?_ (Nat.le_succ _) n1
      · simp only [Bool.false_eq_true, if_false, if_true] at hc
        omega
      · intro j hj
        rw [up_ne (by omega), up_ne (by omega)]
        by_cases e : j = k
        · subst e
          rw [up_at]; simp
        · rw [up_at_ne (fun q => e (ad_inj q)), i3 j hj]
          show _ = if (if j = k then true else M j) = true then 1 else 0
          rw [if_neg e]
      · intro i hi
        by_cases e : i = fc
        · subst e
          exact ⟨k, hk, by simp, n2⟩
        · obtain ⟨j, j1, j2, j3⟩ := i4 i (by omega)
          exact ⟨j, j1, by simp [j2], by rw [n1 i (by omega)]; exact j3⟩
      · intro j hj hmj
        by_cases e : j = k
        · subst e
          exact ⟨fc, Nat.lt_succ_self _, n2⟩
        · simp only [if_neg e] at hmj
          obtain ⟨i, j1, j2⟩ := i5 j hj hmj
          exact ⟨i, by omega, by rw [n1 i j1]; exact j2⟩
      · intro j hj hmj
        by_cases e : j = k
        · subst e
          exact hr j rfl
        · simp only [if_neg e] at hmj
          exact i6 j hj hmj
      · intro j hmj
        by_cases e : j = k
        · simp [e]
        · simp [e, hmj]
      · intro j e
        cases e
        simp
theorem s_markLiving {h : HP} {A : AS} {Φ : Int32 → HP → Prop} (P : PC h A) (K : ∀ h2, KM h h2 → (∀ k, k < an A → h2 18 (ad A k) = if lve A k then 1 else 0) → Φ (nI (ix A (an A))) h2) : K_He_markLiving [.ref 15] h Φ := by
  refine I_He_markLiving (fun X C Rm Q => g_He_markLiving_0 C Rm Q ?_)
  have hn := P.wf.n
  have fin : ∀ (h0 : HP) (M : Nat → Bool) (fc : Nat), KM h h0 → MI h0 A M fc → (∀ r k, r < 8 → ar A r = some (.inr k) → M k = true) → (∀ i k j, i < fc → k < an A → h0 20 i = nI (ad A k) → suc A k j → M j = true) → Φ (h0 15 7) h0 := by
    intro h0 M fc km I hroot hall
    obtain ⟨i1, i2, i3, i4, i5, i6⟩ := I
    have hM : ∀ k, k < an A → M k = lve A k := by
      intro k hk
      cases hm : M k
      · symm
        rw [lve_no]
        intro hr
        have : k < an A ∧ M k = true := hr (fun k => k < an A ∧ M k = true) (fun r j hr e => ⟨(Rch.root hr e).lt P.wf, hroot r j hr e⟩) (fun i j hi e => ⟨suc_lt P.wf hi.1 e, by
          obtain ⟨q, q1, q2⟩ := i5 i hi.1 hi.2
          exact hall q i j q1 hi.1 q2 e⟩)
        rw [hm] at this
        exact absurd this.2 (by decide)
      · symm
        rw [lve_iff]
        exact i6 k hk hm
    rw [i1, i2, fb_ct_cong (q := lve A) hM]
    exact K h0 km (fun k hk => by rw [i3 k hk, hM k hk])
  have l53 : ∀ (r i : Nat) (h0 : HP) (M : Nat → Bool) (fc : Nat), r + i = 400 → KM h h0 → MI h0 A M fc → (∀ r k, r < 8 → ar A r = some (.inr k) → M k = true) → (∀ q k j, q < i → q < fc → k < an A → h0 20 q = nI (ad A k) → suc A k j → M j = true) → Wg X 0 0 h0 [(0, .ref 15), (1, .int (nI i))] [] 53 := by
    intro r
    induction r with
    | zero =>
      intro i h0 M fc hi km I hroot hall
      have hfc : fc ≤ an A := by rw [I.2.1]; exact fb_ct_le _ _
      have g := fin h0 M fc km I hroot (fun q k j a b c d => hall q k j (by omega) a b c d)
      refine g_He_markLiving_53 C Rm Q ⟨fun _ => g, fun _ => ⟨fun _ => g, fun q => absurd ?_ q⟩⟩
      rw [show (400 : Int32) = nI 400 from rfl, nI_leI (by omega) (by omega)]
      omega
    | succ r ih =>
      intro i h0 M fc hi km I hroot hall
      have P0 : PC h0 A := km.pc P
      obtain ⟨i1, i2, i3, i4, i5, i6⟩ := id I
      have hfc : fc ≤ an A := by rw [i2]; exact fb_ct_le _ _
      have g : fc ≤ i → Φ (h0 15 7) h0 := fun q => fin h0 M fc km I hroot (fun q k j a b c d => hall q k j (by omega) a b c d)
      refine g_He_markLiving_53 C Rm Q ⟨fun q => g ?_, fun q => ⟨fun q2 => g ?_, fun _ => ?_⟩⟩
      · rw [i1, nI_leI (by omega) (by omega)] at q
        exact q
      · rw [show (400 : Int32) = nI 400 from rfl, nI_leI (by omega) (by omega)] at q2
        omega
      · rw [i1, nI_leI (by omega) (by omega)] at q
        obtain ⟨k, hk, hmk, hq⟩ := i4 i (by omega)
        refine ⟨vp_in_nI (by omega) (by omega), ?_⟩
        rw [nI_cl (by omega), hq, nI_1]
        have one : ∀ k2, h0 20 i = nI (ad A k2) → k2 < an A → k2 = k := fun k2 e hk2 => by
          rw [hq, nI_eq (by have := P.wf.adl hk; omega) (by have := P.wf.adl hk2; omega)] at e
          exact (ad_inj e).symm
        have wo := P.wf.2.1 k hk
        have hrk := i6 k hk hmk
        refine s_sortAt P.wf hk (P0.obj hk) ⟨fun q2 => ?_, fun q2 => ?_⟩
        · refine ih (i + 1) h0 M fc (by omega) km I hroot (fun q' k2 j a b c d e => ?_)
          by_cases q3 : q' = i
          · subst q3
            rw [one k2 d c] at e
            unfold suc at e
            generalize ao A k = o at *
            match o, wo, q2, e with
            | .inr t, wo, q2, e =>
              have q2 : nI t.1 = nI 2 := q2
              rcases wo with ⟨z, -⟩ | ⟨z, -⟩ <;> rw [z] at q2 <;> exact absurd q2 (by decide)
          · exact hall q' k2 j (by omega) b c d e
        · generalize he : ao A k = o at wo
          match o, he, wo with
          | .inl z, he, _ => rw [he] at q2; exact absurd rfl q2
          | .inr t, he, wo =>
            have ht : VW (an A) t.2.1 ∧ VW (an A) t.2.2 := by
              rcases wo with ⟨-, a, b⟩ | ⟨-, a, b, -⟩
              · exact ⟨a, b⟩
              · exact ⟨a.toVW, b.toVW⟩
            have hs := P.wf.sz hk
            rw [he] at hs
            have hs : ad A k + 3 ≤ 400 := hs
            have oc := P0.obj hk
            rw [he] at oc
            rw [nI_1]
            refine ⟨vp_in_nI (by omega) (by omega), ?_⟩
            rw [nI_cl (by omega), oc.2.1]
            refine s_reach P0 I ht.1 (fun j e => hrk.step (by unfold suc; rw [he]; exact Or.inl e)) (fun h2 M2 fc2 km2 I2 m2 v2 f2 s2 => ?_)
            rw [show (2 : Int32) = nI 2 from rfl, nI_add]
            refine ⟨vp_in_nI (by omega) (by omega), ?_⟩
            have P2 : PC h2 A := km2.pc P0
            have oc2 := P2.obj hk
            rw [he] at oc2
            rw [nI_cl (by omega), oc2.2.2]
            refine s_reach P2 I2 ht.2 (fun j e => hrk.step (by unfold suc; rw [he]; exact Or.inr e)) (fun h3 M3 fc3 km3 I3 m3 v3 f3 s3 => ?_)
            refine ih (i + 1) h3 M3 fc3 (by omega) (km.trans (km2.trans km3)) I3 (fun r j a b => m3 j (m2 j (hroot r j a b))) (fun q' k2 j a b c d e => ?_)
            have hfc3 : fc ≤ fc3 := Nat.le_trans f2 f3
            have old : ∀ x, x < fc → h3 20 x = h0 20 x := fun x hx => by rw [s3 x (by omega), s2 x hx]
            by_cases q3 : q' = i
            · subst q3
              rw [old q' (by omega)] at d
              rw [one k2 d c] at e
              unfold suc at e
              rw [he] at e
              rcases e with e | e
              · exact m3 j (v2 j e)
              · exact v3 j e
            · rw [old q' (by omega)] at d
              exact m3 j (m2 j (hall q' k2 j (by omega) (by omega) c d e))
  have l29 : ∀ (r i : Nat) (h0 : HP) (M : Nat → Bool) (fc : Nat), r + i = 8 → KM h h0 → MI h0 A M fc → (∀ r k, r < i → ar A r = some (.inr k) → M k = true) → Wg X 0 0 h0 [(0, .ref 15), (1, .int (nI i))] [] 29 := by
    intro r
    induction r with
    | zero =>
      intro i h0 M fc hi km I hroot
      refine g_He_markLiving_29 C Rm Q ⟨fun _ => l53 400 0 h0 M fc rfl km I (fun r k a b => hroot r k (by omega) b) (fun q k j a => absurd a (by omega)), fun q => absurd ?_ q⟩
      rw [show (8 : Int32) = nI 8 from rfl, nI_leI (by omega) (by omega)]
      omega
    | succ r ih =>
      intro i h0 M fc hi km I hroot
      have P0 : PC h0 A := km.pc P
      refine g_He_markLiving_29 C Rm Q ⟨fun q => ?_, fun _ => ⟨vp_in_nI (by omega) (by omega), ?_⟩⟩
      · rw [show (8 : Int32) = nI 8 from rfl, nI_leI (by omega) (by omega)] at q
        omega
      · rw [nI_cl (by omega), P0.reg (by omega), nI_1]
        refine s_reach P0 I (P.wf.2.2 i (by omega)) (fun k e => Rch.root (show i < 8 by omega) e) (fun h2 M2 fc2 km2 I2 m2 v2 f2 s2 => ?_)
        refine ih (i + 1) h2 M2 fc2 (by omega) (km.trans km2) I2 (fun r' k a b => ?_)
        by_cases q : r' = i
        · subst q; exact v2 k b
        · exact m2 k (hroot r' k (by omega) b)
  have l2 : ∀ (r i : Nat) (h0 : HP), r + i = 400 → KM h h0 → (∀ j, j < i → h0 18 j = 0) → Wg X 0 0 h0 [(0, .ref 15), (1, .int (nI i))] [] 2 := by
    intro r
    induction r with
    | zero =>
      intro i h0 hi km hz
      refine g_He_markLiving_2 C Rm Q ⟨fun _ => ?_, fun q => absurd ?_ q⟩
      · refine l29 8 0 _ (fun _ => false) 0 rfl (km.trans ⟨(Fr.rf _ _).up (by simp), fun i hi => up_at_ne hi⟩) ⟨up_at _ _ _ _, ?_, ?_, fun i a => absurd a (by omega), fun k _ a => absurd a Bool.false_ne_true, fun k _ a => absurd a Bool.false_ne_true⟩ (fun r k a => absurd a (by omega))
        · exact (fb_ct_zero.mpr (fun _ _ => rfl)).symm
        · intro k hk
          rw [up_ne (by omega), hz _ (by have := P.wf.adl hk; omega)]
          rfl
      · rw [show (400 : Int32) = nI 400 from rfl, nI_leI (by omega) (by omega)]
        omega
    | succ r ih =>
      intro i h0 hi km hz
      refine g_He_markLiving_2 C Rm Q ⟨fun q => ?_, fun _ => ⟨vp_in_nI (by omega) (by omega), ?_⟩⟩
      · rw [show (400 : Int32) = nI 400 from rfl, nI_leI (by omega) (by omega)] at q
        omega
      · rw [nI_cl (by omega), nI_1]
        refine ih (i + 1) _ (by omega) (km.trans ⟨(Fr.rf _ _).up (by simp), fun i hi => by rw [up_ne (by omega)]⟩) (fun j hj => ?_)
        by_cases q : j = i
        · subst q; exact up_at _ _ _ _
        · rw [up_at_ne q]; exact hz j (by omega)
  exact l2 400 0 h rfl (KM.rf h) (fun j hj => absurd hj (by omega))
theorem s_chooseNewPlaces {h : HP} {A : AS} {Φ : HP → Prop} (P : PC h A) (hl : ∀ k, k < an A → h 18 (ad A k) = if lve A k then 1 else 0) (K : ∀ h2, Fr [19] h h2 → (∀ k, k < an A → h2 19 (ad A k) = nI (na A k)) → Φ h2) : K_He_chooseNewPlaces [.ref 15] h Φ := by
  refine I_He_chooseNewPlaces (fun X C Rm Q => g_He_chooseNewPlaces_0 C Rm Q ?_)
  have hn := P.wf.n
  have loop : ∀ (r k : Nat) (h0 : HP), r + k = an A → Fr [19] h h0 → (∀ j, j < k → h0 19 (ad A j) = nI (na A j)) → Wg X 0 0 h0 [(0, .ref 15), (1, .int (nI (na A k))), (2, .int (nI (ad A k))), (3, .int (nI k))] [] 6 := by
    intro r
    induction r with
    | zero =>
      intro k h0 hk f hj
      have g : Φ h0 := K h0 f (fun j q => hj j (by omega))
      refine g_He_chooseNewPlaces_6 C Rm Q ⟨fun _ => g, fun _ => ⟨fun _ => g, fun q => absurd ?_ q⟩⟩
      rw [f 15 (by simp), P.top, show k = an A by omega]
      exact Int32.le_refl _
    | succ r ih =>
      intro k h0 hk f hj
      have hkn : k < an A := by omega
      have ha := P.wf.adl hkn
      have hlt := ad_lt (A := A) hkn
      have hp := osz_pos (ao A k)
      have h4 := P.wf.1
      refine g_He_chooseNewPlaces_6 C Rm Q ⟨fun q => ?_, fun _ => ⟨fun q => ?_, fun _ => ⟨vp_in_nI ha (by omega), ?_⟩⟩⟩
      · rw [show (400 : Int32) = nI 400 from rfl, nI_leI (by omega) (by omega)] at q
        omega
      · rw [f 15 (by simp), P.top, nI_leI (by omega) (by omega)] at q
        omega
      · rw [nI_cl (by omega)]
        have f2 : Fr [19] h (up h0 19 (ad A k) (nI (na A k))) := f.up (by simp)
        have oc := P.obj hkn
        rw [← f2 16 (by simp)] at oc
        refine s_sizeAt P.wf hkn oc ⟨vp_in_nI ha (by omega), ?_⟩
        have go : Wg X 0 0 (up h0 19 (ad A k) (nI (na A k))) [(0, .ref 15), (1, .int (nI (na A (k + 1)))), (2, .int (nI (ad A (k + 1)))), (3, .int (nI (k + 1)))] [] 6 := by
          refine ih (k + 1) _ (by omega) f2 (fun j q => ?_)
          by_cases e : j = k
          · subst e; exact up_at _ _ _ _
          · rw [up_at_ne (fun q => e (ad_inj q))]
            exact hj j (by omega)
        rw [f2 18 (by simp), hl k hkn, nI_1, nI_add, nI_add, ← ad_succ]
        rw [na_succ] at go
        refine ⟨fun q => ?_, fun q => ?_⟩
        · cases hv : lve A k
          · rw [hv] at go
            exact go
          · rw [hv] at q
            exact absurd q (by decide)
        · cases hv : lve A k
          · rw [hv] at q
            exact absurd rfl q
          · rw [hv] at go
            exact go
  exact loop (an A) 0 h (Nat.add_zero _) (Fr.rf _ _) (fun j q => absurd q (by omega))
theorem s_moved {h : HP} {A : AS} {v : Vl} {Φ : Int32 → HP → Prop} (w : WF A) (h19 : ∀ k, k < an A → h 19 (ad A k) = nI (na A k)) (hv : VW (an A) v) (l : VL A v) (K : Φ (enc (gcA A) (mvv (ix A) v)) h) : K_He_moved [.ref 15, .int (enc A v)] h Φ := by
  refine I_He_moved (fun X C Rm Q => g_He_moved_0 C Rm Q (s_isObject w hv ?_))
  match v, hv, l, K with
  | none, _, _, K => exact ⟨fun _ => K, fun q => absurd rfl q⟩
  | some (.inl z), _, _, K => exact ⟨fun _ => K, fun q => absurd rfl q⟩
  | some (.inr k), hv, l, K =>
    have hk : k < an A := hv
    have ha := w.adl hk
    have hna := na_le A k
    refine ⟨fun q => absurd q (show ¬ (1 : Int32) = 0 by decide), fun _ => s_cellOf w hk ⟨vp_in_nI ha (by omega), ?_⟩⟩
    rw [nI_cl (by omega), h19 k hk]
    refine s_objectAt (by omega) ?_
    have e : enc (gcA A) (mvv (ix A) (some (.inr k))) = nI (2 * (na A k + 1)) := by
      show nI (2 * (ad (gcA A) (ix A k) + 1)) = _
      rw [ad_gc k (by omega)]
    rw [← e]
    exact K
theorem na_mono (A : AS) {j k : Nat} (h : j ≤ k) : na A j ≤ na A k := by
  obtain ⟨m, rfl⟩ := Nat.exists_eq_add_of_le h
  exact fb_sm_mono _ _ _
theorem na_lt (A : AS) {j k : Nat} (h : j < k) (hl : lve A j = true) : na A j + osz (ao A j) ≤ na A k := by
  have h1 := na_mono A (show j + 1 ≤ k from h)
  rw [na_succ, hl] at h1
  exact h1
set_option maxHeartbeats 4000000 in
theorem s_moveLiving {h : HP} {A : AS} {Φ : HP → Prop} (w : WF A) (htop : h 15 2 = nI (ad A (an A))) (hob : ∀ k, k < an A → OC (h 16) A (ad A k) (ao A k)) (h19 : ∀ k, k < an A → h 19 (ad A k) = nI (na A k)) (hl : ∀ k, k < an A → h 18 (ad A k) = if lve A k then 1 else 0)
    (K : ∀ h2, Fr [15, 16] h h2 → (∀ i, i ≠ 2 → h2 15 i = h 15 i) → h2 15 2 = nI (na A (an A)) → (∀ j, j < an A → lve A j = true → OC (h2 16) (gcA A) (na A j) (mvo (ix A) (ao A j))) → Φ h2) : K_He_moveLiving [.ref 15] h Φ := by
  refine I_He_moveLiving (fun X C Rm Q => g_He_moveLiving_0 C Rm Q ?_)
  have hn := w.n
  have h4 := w.1
  have loop : ∀ (r k : Nat) (h0 : HP), r + k = an A → Fr [16] h h0 → (∀ j, j < k → lve A j = true → OC (h0 16) (gcA A) (na A j) (mvo (ix A) (ao A j))) → (∀ c, ad A k ≤ c → h0 16 c = h 16 c) → Wg X 0 0 h0 [(0, .ref 15), (1, .int (nI (na A k))), (2, .int (nI (ad A k))), (3, .int (nI k))] [] 6 := by
    intro r
    induction r with
    | zero =>
      intro k h0 hk f hj _
      have g : Φ (up h0 15 2 (nI (na A k))) := K _ ((f.mono (by simp)).up (by simp)) (fun i hi => by rw [up_at_ne hi, f 15 (by simp)]) (by rw [up_at, show k = an A by omega]) (fun j q1 q2 => by rw [up_ne (by omega)]; exact hj j (by omega) q2)
      refine g_He_moveLiving_6 C Rm Q ⟨fun _ => g, fun _ => ⟨fun _ => g, fun q => absurd ?_ q⟩⟩
      rw [f 15 (by simp), htop, show k = an A by omega]
      exact Int32.le_refl _
    | succ r ih =>
      intro k h0 hk f hj hc
      have hkn : k < an A := by omega
      have ha := w.adl hkn
      have hsz := w.sz hkn
      have hlt := ad_lt (A := A) hkn
      have hp := osz_pos (ao A k)
      have wo := w.2.1 k hkn
      have hna := na_le A k
      have oc := (hob k hkn).same (c' := h0 16) (A' := A) (fun i h1 h2 => hc i h1) (fun t _ => ⟨rfl, rfl⟩)
      refine g_He_moveLiving_6 C Rm Q ⟨fun q => ?_, fun _ => ⟨fun q => ?_, fun _ => s_sizeAt w hkn oc ⟨vp_in_nI ha (by omega), ?_⟩⟩⟩
      · rw [show (400 : Int32) = nI 400 from rfl, nI_leI (by omega) (by omega)] at q
        omega
      · rw [f 15 (by simp), htop, nI_leI (by omega) (by omega)] at q
        omega
      · rw [nI_cl (by omega), f 18 (by simp), hl k hkn]
        refine ⟨fun q => ?_, fun q => ?_⟩
        · have hv : lve A k = false := by
            cases hv : lve A k
            · rfl
            · rw [hv] at q; exact absurd q (by decide)
          have go := ih (k + 1) h0 (by omega) f (fun j q1 q2 => hj j (by
            rcases Nat.lt_succ_iff_lt_or_eq.mp q1 with z | z
            · exact z
            · rw [z, hv] at q2; exact absurd q2 (by decide)) q2) (fun c q1 => hc c (by rw [ad_succ] at q1; omega))
          rw [na_succ, hv, ad_succ] at go
          rw [nI_1, nI_add]
          exact go
        · have hv : lve A k = true := by
            cases hv : lve A k
            · rw [hv] at q; exact absurd rfl q
            · rfl
          -- the copy, from cells that hold the object with its values moved
          have copy : ∀ h2 : HP, Fr [16] h h2 → (∀ c, (c < ad A k ∨ ad A k + osz (ao A k) ≤ c) → h2 16 c = h0 16 c) → OC (h2 16) (gcA A) (ad A k) (mvo (ix A) (ao A k)) → Wg X 0 0 h2 [(0, .ref 15), (1, .int (nI (na A k))), (2, .int (nI (ad A k))), (3, .int (nI k)), (4, .int (nI (osz (ao A k))))] [] 86 := by
            intro h2 f2 hout oc2
            refine g_He_moveLiving_86 C Rm Q ⟨⟨nI_pos (by omega), nI_pos (by omega), by rw [nI_cl (by omega), nI_cl (by omega)]; omega⟩, ⟨nI_pos (by omega), nI_pos (by omega), by rw [nI_cl (by omega), nI_cl (by omega)]; omega⟩, ?_⟩
            rw [nI_cl (by omega), nI_cl (by omega), nI_cl (by omega), nI_1, nI_add, nI_add, ← ad_succ]
            have go := ih (k + 1) (hs h2 16 (va_cpy (h2 16) (h2 16) (ad A k) (na A k) (osz (ao A k)))) (by omega) (f2.hs (by simp)) ?_ ?_
            · rw [na_succ, hv] at go
              exact go
            · intro j q1 q2
              rw [hs_self]
              rcases Nat.lt_succ_iff_lt_or_eq.mp q1 with z | z
              · have hjl := na_lt A z q2
                refine (hj j z q2).same (fun i a b => ?_) (fun t _ => ⟨rfl, rfl⟩)
                rw [osz_mvo] at b
                rw [pk_cpy_out (by omega), hout i (by omega)]
              · subst z
                have osz' := osz_mvo (ix A) (ao A j)
                obtain ⟨o1, o2⟩ := oc2
                refine ⟨by rw [pk_cpy_in (Nat.le_refl _) (by omega), Nat.sub_self]; exact o1, ?_⟩
                generalize mvo (ix A) (ao A j) = o at o2 osz'
                match o, o2, osz' with
                | .inl z, o2, osz' =>
                  have osz' : 1 + gc 32 z.natAbs = osz (ao A j) := osz'
                  have e : ∀ i, i < gc 32 z.natAbs → va_cpy (h2 16) (h2 16) (ad A j) (na A j) (osz (ao A j)) (na A j + 1 + i) = h2 16 (ad A j + 1 + i) := fun i hi => by
                    rw [pk_cpy_in (by omega) (by omega)]
                    congr 1
                    omega
                  have o2 : win (h2 16) (ad A j + 1) (gc 32 z.natAbs) = z.natAbs := o2
                  show win _ (na A j + 1) (gc 32 z.natAbs) = z.natAbs
                  refine Eq.trans ?_ o2
                  unfold win
                  exact ds_cong (fun i hi => by unfold dW; rw [e i hi])
                | .inr t, o2, osz' =>
                  have osz' : 3 = osz (ao A j) := osz'
                  have o2 : h2 16 (ad A j + 1) = enc (gcA A) t.2.1 ∧ h2 16 (ad A j + 2) = enc (gcA A) t.2.2 := o2
                  refine ⟨?_, ?_⟩
                  · rw [pk_cpy_in (by omega) (by omega), show ad A j + (na A j + 1 - na A j) = ad A j + 1 by omega]
                    exact o2.1
                  · rw [pk_cpy_in (by omega) (by omega), show ad A j + (na A j + 2 - na A j) = ad A j + 2 by omega]
                    exact o2.2
            · intro c q1
              rw [ad_succ] at q1
              rw [hs_self, pk_cpy_out (by omega), hout c (by omega), hc c (by omega)]
          refine s_sortAt w hkn oc ⟨fun q2 => ?_, fun q2 => ?_⟩
          · refine copy h0 f (fun _ _ => rfl) ?_
            generalize ao A k = o at *
            match o, wo, oc, q2 with
            | .inl z, _, oc, _ => exact oc
            | .inr t, wo, _, q2 =>
              have q2 : nI t.1 = nI 2 := q2
              rcases wo with ⟨z, -⟩ | ⟨z, -⟩ <;> rw [z] at q2 <;> exact absurd q2 (by decide)
          · generalize he : ao A k = o at *
            match o, he, wo, oc, q2, hsz, copy with
            | .inl z, _, _, _, q2, _, _ => exact absurd rfl q2
            | .inr (s, a, b), he, wo, oc, q2, hsz, copy =>
              have hsz : ad A k + 3 ≤ 400 := hsz
              obtain ⟨la, lb⟩ := obj_VL w hv he
              have ht : VW (an A) a ∧ VW (an A) b := by
                rcases wo with ⟨-, x, y⟩ | ⟨-, x, y, -⟩
                · exact ⟨x, y⟩
                · exact ⟨x.toVW, y.toVW⟩
              obtain ⟨o1, o2, o3⟩ := oc
              rw [nI_1, show (2 : Int32) = nI 2 from rfl, nI_add]
              refine ⟨vp_in_nI (by omega) (by omega), ?_⟩
              rw [nI_cl (by omega), o2]
              refine s_moved w (by rw [f 19 (by simp)]; exact h19) ht.1 la ⟨vp_in_nI (by omega) (by omega), vp_in_nI (by omega) (by omega), ?_⟩
              rw [nI_cl (by omega), up_at_ne (by omega), o3]
              refine s_moved w (by rw [up_ne (by omega), f 19 (by simp)]; exact h19) ht.2 lb ⟨vp_in_nI (by omega) (by omega), ?_⟩
              refine copy _ ((f.up (by simp)).up (by simp)) (fun c hc2 => ?_) ⟨?_, ?_, ?_⟩
              · have hc2 : c < ad A k ∨ ad A k + 3 ≤ c := hc2
                rw [up_at_ne (by omega), up_at_ne (by omega)]
              · rw [up_at_ne (by omega), up_at_ne (by omega)]
                exact o1
              · show up _ 16 (ad A k + 2) _ 16 (ad A k + 1) = _
                rw [up_at_ne (by omega), up_at]
              · show up _ 16 (ad A k + 2) _ 16 (ad A k + 2) = _
                rw [up_at]
  exact loop (an A) 0 h (Nat.add_zero _) (Fr.rf _ _) (fun j q => absurd q (by omega)) (fun _ _ => rfl)
theorem s_slideLiving {h : HP} {A : AS} {Φ : HP → Prop} (P : PC h A) (K : ∀ h2, Fr [15, 16, 17, 18, 19, 20] h h2 → PC h2 (gcA A) → Φ h2) : K_He_slideLiving [.ref 15] h Φ := by
  refine I_He_slideLiving (fun X C Rm Q => g_He_slideLiving_0 C Rm Q (s_markLiving P (fun h1 km1 l1 => s_chooseNewPlaces (km1.pc P) l1 (fun h2 f2 l2 => ?_))))
  have P1 := km1.pc P
  have P2 : PC h2 A := P1.fr f2 (by simp) (by simp) (by simp)
  have loop : ∀ (r i : Nat) (h0 : HP), r + i = 8 → Fr [17] h2 h0 → (∀ r, r < i → h0 17 r = enc (gcA A) (mvv (ix A) (ar A r))) → (∀ r, i ≤ r → h0 17 r = h2 17 r) → Wg X 0 0 h0 [(0, .ref 15), (1, .int (nI i))] [] 11 := by
    intro r
    induction r with
    | zero =>
      intro i h0 hi f hr _
      have f18 : h0 18 = h1 18 := by rw [f 18 (by simp), f2 18 (by simp)]
      refine g_He_slideLiving_11 C Rm Q ⟨fun _ => ?_, fun q => absurd ?_ q⟩
      · refine s_moveLiving P.wf (by rw [f 15 (by simp)]; exact P2.top) (by rw [f 16 (by simp)]; exact fun k hk => P2.obj hk) (by rw [f 19 (by simp)]; exact l2) (by rw [f18]; exact l1) (fun h3 f3 k3 t3 o3 => ?_)
        refine K _ (((((km1.1.mono (by simp)).trans (f2.mono (by simp))).trans (f.mono (by simp))).trans (f3.mono (by simp))).up (by simp)) ⟨gcA_WF P.wf, ?_, ?_, ?_, ?_⟩
        · rw [up_at_ne (by omega), t3, ← ad_gc _ (Nat.le_refl _)]
          rfl
        · rw [up_at, k3 3 (by omega), f 15 (by simp), P2.coll, nI_1]
          rfl
        · intro r hr8
          rw [up_ne (by omega), f3 17 (by simp), hr r (by omega)]
          rfl
        · intro j hj
          obtain ⟨k, hk, hl, rfl⟩ := ix_kth hj
          rw [up_ne (by omega), ad_gc k (by omega), ao_gc hk hl]
          exact o3 k hk hl
      · rw [show (8 : Int32) = nI 8 from rfl, nI_leI (by omega) (by omega)]
        omega
    | succ r ih =>
      intro i h0 hi f hr hr2
      refine g_He_slideLiving_11 C Rm Q ⟨fun q => ?_, fun _ => ⟨vp_in_nI (by omega) (by omega), ?_⟩⟩
      · rw [show (8 : Int32) = nI 8 from rfl, nI_leI (by omega) (by omega)] at q
        omega
      · rw [nI_cl (by omega), hr2 i (Nat.le_refl _), P2.reg (by omega)]
        refine s_moved P.wf (by rw [f 19 (by simp)]; exact l2) (P.wf.2.2 i (by omega)) (reg_VL P.wf (by omega)) ⟨vp_in_nI (by omega) (by omega), ?_⟩
        rw [nI_1]
        refine ih (i + 1) _ (by omega) (f.up (by simp)) (fun r' q => ?_) (fun r' q => by rw [up_at_ne (by omega)]; exact hr2 r' (by omega))
        by_cases e : r' = i
        · subst e; exact up_at _ _ _ _
        · rw [up_at_ne e]; exact hr r' (by omega)
  exact loop 8 0 h2 rfl (Fr.rf _ _) (fun r q => absurd q (by omega)) (fun _ _ => rfl)
