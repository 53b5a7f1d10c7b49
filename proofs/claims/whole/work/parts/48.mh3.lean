/-! The model's collector. -/
/-- marks, and what is still to be marked -/
def MM (h : HP) (A : AS) (o : Nat → Nat) (M : Nat → Bool) (dp : Nat) : Prop := (∀ k, k < an A → h 6 (o k) = if M k then 1 else 0) ∧ (∀ i, i < dp → ∃ k, k < an A ∧ Rch A k ∧ h 7 i = nI (o k)) ∧ (∀ k, k < an A → M k = true → Rch A k) ∧ dp ≤ 8 + 2 * fb_ct M (an A)
/-- marked, or to be marked -/
def TB (h : HP) (o : Nat → Nat) (M : Nat → Bool) (dp k : Nat) : Prop := M k = true ∨ ∃ i, i < dp ∧ h 7 i = nI (o k)
set_option maxHeartbeats 4000000 in
theorem s_mmark {h : HP} {A : AS} {o : Nat → Nat} {Φ : Int32 → HP → Prop} (P : PM h A o) (w : WF A) (K : ∀ h2, Fr [6, 7] h h2 → (∀ k, k < an A → h2 6 (o k) = if lve A k then 1 else 0) → Φ (nI (ix A (an A))) h2) : K_Mo_mark [.ref 0] h Φ := by
  refine I_Mo_mark (fun X C Rm Q => g_Mo_mark_0 C Rm Q ?_)
  have hn := w.n
  have PN' := P.1
  -- the end
  have fin : ∀ (h0 : HP) (M : Nat → Bool), Fr [6, 7] h h0 → MM h0 A o M 0 → (∀ r k, r < 8 → ar A r = some (.inr k) → TB h0 o M 0 k) → (∀ k j, k < an A → M k = true → suc A k j → TB h0 o M 0 j) → Φ (nI (fb_ct M (an A))) h0 := by
    intro h0 M f I hroot hall
    have tb : ∀ k, TB h0 o M 0 k → M k = true := fun k t => by
      rcases t with t | ⟨i, a, -⟩
      · exact t
      · omega
    have hM : ∀ k, k < an A → M k = lve A k := by
      intro k hk
      cases hm : M k
      · symm
        rw [lve_no]
        intro hr
        have : k < an A ∧ M k = true := hr (fun k => k < an A ∧ M k = true) (fun r j hr e => ⟨(Rch.root hr e).lt w, tb _ (hroot r j hr e)⟩) (fun i j hi e => ⟨suc_lt w hi.1 e, tb _ (hall i j hi.1 hi.2 e)⟩)
        rw [hm] at this
        exact absurd this.2 (by decide)
      · symm
        rw [lve_iff]
        exact I.2.2.1 k hk hm
    rw [fb_ct_cong (q := lve A) hM]
    exact K h0 f (fun k hk => by rw [I.1 k hk, hM k hk])
  -- the two values of an object
  have ctle : ∀ M : Nat → Bool, fb_ct M (an A) ≤ an A := fun M => fb_ct_le _ _
  have c65 : ∀ (N : Nat) (h0 : HP) (M : Nat → Bool) (dp : Nat) (locs : List (Nat × Value)), 3 * (an A - fb_ct M (an A)) + dp ≤ N → Fr [6, 7] h h0 → MM h0 A o M dp → (∀ r k, r < 8 → ar A r = some (.inr k) → TB h0 o M dp k) → (∀ k j, k < an A → M k = true → suc A k j → TB h0 o M dp j) →
      ∀ v3 : Int32, Wg X 0 0 h0 [(0, .ref 0), (1, .int (nI (fb_ct M (an A)))), (2, .int (nI dp)), (3, .int v3)] [] 65 := by
    intro N
    induction N with
    | zero =>
      intro h0 M dp _ hN f I hroot hall v3
      have hd0 : dp = 0 := by omega
      subst hd0
      exact g_Mo_mark_65 C Rm Q ⟨fun _ => fin h0 M f I hroot hall, fun q => absurd (by decide) q⟩
    | succ N ih =>
      intro h0 M dp locs hN f I hroot hall v3
      obtain ⟨i1, i2, i3, i4⟩ := id I
      have hct := ctle M
      cases dp with
      | zero => exact g_Mo_mark_65 C Rm Q ⟨fun _ => fin h0 M f I hroot hall, fun q => absurd (by decide) q⟩
      | succ dp =>
        obtain ⟨k, hk, hrk, hpk⟩ := i2 dp (by omega)
        have hl := PN'.lt hk
        have hinj : ∀ j, j < an A → nI (o j) = nI (o k) → j = k := fun j hj e => by
          rw [nI_eq (by have := PN'.lt hj; omega) (by omega)] at e
          exact PN'.inj hj hk e
        refine g_Mo_mark_65 C Rm Q ⟨fun q => ?_, fun _ => ?_⟩
        · rw [nI_le0 (by omega)] at q
          omega
        · rw [sub1, nI_pred]
          refine ⟨vp_in_nI (by omega) (by omega), ?_⟩
          rw [nI_cl (by omega), hpk]
          refine ⟨vp_in_nI (by omega) (by omega), ?_⟩
          rw [nI_cl (by omega), i1 k hk]
          -- one popped
          have tb1 : ∀ (M2 : Nat → Bool), (∀ j, M j = true → M2 j = true) → M2 k = true → ∀ j, j < an A → TB h0 o M (dp + 1) j → TB h0 o M2 dp j := by
            intro M2 hM2 hk2 j hj t
            rcases t with t | ⟨i, a, b⟩
            · exact Or.inl (hM2 j t)
            · by_cases e : i = dp
              · subst e
                rw [hpk] at b
                rw [hinj j hj b.symm]
                exact Or.inl hk2
              · exact Or.inr ⟨i, by omega, b⟩
          refine ⟨fun q => ?_, fun q => ?_⟩
          · have hm : M k = false := by
              cases hm : M k
              · rfl
              · rw [hm] at q; exact absurd q (by decide)
            refine ⟨vp_in_nI (by omega) (by omega), ?_⟩
            rw [narb1, nI_1]
            -- the object marked
            generalize hM2 : (fun j => if j = k then true else M j) = M2
            have m2k : M2 k = true := by rw [← hM2]; simp
            have m2s : ∀ j, M j = true → M2 j = true := fun j hj => by rw [← hM2]; by_cases e : j = k <;> simp [e, hj]
            have m2i : ∀ j, M2 j = true → j = k ∨ M j = true := fun j hj => by
              rw [← hM2] at hj
              by_cases e : j = k
              · exact Or.inl e
              · simp only [if_neg e] at hj
                exact Or.inr hj
            have hct2 : fb_ct M2 (an A) = fb_ct M (an A) + 1 := by
              have := fb_ct_upd M true (i := k) (n := an A) hk
              rw [hm, hM2] at this
              simp only [Bool.false_eq_true, if_false, if_true] at this
              omega
            have hct3 := ctle M2
            rw [← hct2]
            have f1 : Fr [6, 7] h (up h0 6 (o k) 1) := f.up (by simp)
            have I1 : MM (up h0 6 (o k) 1) A o M2 dp := by
              refine ⟨fun j hj => ?_, fun i hi => ?_, fun j hj hmj => ?_, by omega⟩
              · by_cases e : j = k
                · subst e
                  rw [up_at, m2k]
                  rfl
                · rw [up_at_ne (fun z => e (PN'.inj hj hk z)), i1 j hj, ← hM2]
                  simp [e]
              · obtain ⟨q1, q2, q3, q4⟩ := i2 i (by omega)
                exact ⟨q1, q2, q3, by rw [up_ne (by omega)]; exact q4⟩
              · rcases m2i j hmj with e | e
                · rw [e]; exact hrk
                · exact i3 j hj e
            -- the inner loop: the slots below v4 are seen to
            have c104 : ∀ (r s : Nat) (h1 : HP) (dp1 : Nat), r + s = 2 → Fr [6, 7] h h1 → MM h1 A o M2 dp1 → dp1 ≤ dp + s → (∀ r k, r < 8 → ar A r = some (.inr k) → TB h1 o M2 dp1 k) → (∀ j i, j < an A → M2 j = true → j ≠ k → suc A j i → TB h1 o M2 dp1 i) → (∀ j t, ao A k = .inr t → (0 < s → t.2.1 = some (.inr j) → TB h1 o M2 dp1 j) ∧ (1 < s → t.2.2 = some (.inr j) → TB h1 o M2 dp1 j)) →
                Wg X 0 0 h1 [(0, .ref 0), (1, .int (nI (fb_ct M2 (an A)))), (2, .int (nI dp1)), (3, .int (nI (o k))), (4, .int (nI s))] [] 104 := by
              intro r
              induction r with
              | zero =>
                intro s h1 dp1 hs f2 I2 hd2 hr2 ha2 hk2
                refine g_Mo_mark_104 C Rm Q ⟨fun _ => ?_, fun z => absurd ?_ z⟩
                · refine ih h1 M2 dp1 [] (by omega) f2 I2 hr2 (fun j i hj hmj e => ?_) _
                  by_cases z : j = k
                  · subst z
                    have e2 := e
                    unfold suc at e2
                    generalize he : ao A j = ob at e2
                    match ob, he, e2 with
                    | .inr t, he, e2 =>
                      rcases e2 with e2 | e2
                      · exact (hk2 i t he).1 (by omega) e2
                      · exact (hk2 i t he).2 (by omega) e2
                  · exact ha2 j i hj hmj z e
                · rw [show (2 : Int32) = nI 2 from rfl, nI_leI (by omega) (by omega)]
                  omega
              | succ r ih2 =>
                intro s h1 dp1 hs f2 I2 hd2 hr2 ha2 hk2
                have hdp : dp1 < 600 := by have := I2.2.2.2; omega
                have P1 : PN h1 A o := PN'.cong w (f2 3 (by simp)) (f2 4 (by simp)) (f2 5 (by simp)) (by rw [f2 0 (by simp)]) (by rw [f2 0 (by simp)]) (by rw [f2 0 (by simp)]) (fun i _ _ => by rw [f2 1 (by simp), f2 2 (by simp)]; exact ⟨rfl, rfl⟩) (fun r _ _ => ⟨by rw [f2 9 (by simp)], by rw [f2 10 (by simp)], fun i _ => by rw [f2 8 (by simp)]⟩)
                refine g_Mo_mark_104 C Rm Q ⟨fun z => ?_, fun _ => ⟨vp_in_nI (by omega) (by omega), ?_⟩⟩
                · rw [show (2 : Int32) = nI 2 from rfl, nI_leI (by omega) (by omega)] at z
                  omega
                · have wo := w.2.1 k hk
                  have hsr := osrt_lt wo
                  rw [nI_cl (by omega), P1.srt hk, show (3 : Int32) = nI 3 from rfl, nI_ltI (by omega) (by omega)]
                  have om := P1.obj hk
                  refine ⟨fun z => ?_, fun z => ?_⟩
                  · -- a big number has no values
                    refine ih h1 M2 dp1 [] (by omega) f2 I2 hr2 (fun j i hj hmj e => ?_) _
                    by_cases z2 : j = k
                    · subst z2
                      have e2 := e
                      unfold suc at e2
                      generalize he : ao A j = ob at e2 wo z
                      match ob, wo, z, e2 with
                      | .inr t, wo, z, e2 =>
                        have z : t.1 < 3 := z
                        rcases wo with ⟨y, -⟩ | ⟨y, -⟩ <;> omega
                    · exact ha2 j i hj hmj z2 e
                  · generalize he : ao A k = ob at wo z om hk2
                    match ob, he, wo, z, om, hk2 with
                    | .inl y, _, _, z, _, _ => exact absurd (show 2 < 3 by omega) z
                    | .inr t, he, wo, z, om, hk2 =>
                      have ht : VW (an A) t.2.1 ∧ VW (an A) t.2.2 := by
                        rcases wo with ⟨-, a, b⟩ | ⟨-, a, b, -⟩
                        · exact ⟨a, b⟩
                        · exact ⟨a.toVW, b.toVW⟩
                      -- the slot's value
                      have slot : ∀ v : Vl, VW (an A) v → VM h1 o (8 + 2 * o k + s) v → (∀ j, v = some (.inr j) → suc A k j) → (∀ h2 dp2, Fr [6, 7] h1 h2 → MM h2 A o M2 dp2 → dp2 ≤ dp1 + 1 → (∀ j, TB h1 o M2 dp1 j → TB h2 o M2 dp2 j) → (∀ j, v = some (.inr j) → TB h2 o M2 dp2 j) → Wg X 0 0 h2 [(0, .ref 0), (1, .int (nI (fb_ct M2 (an A)))), (2, .int (nI dp2)), (3, .int (nI (o k))), (4, .int (nI (s + 1)))] [] 104) →
                          K_Mo_slotOf [.int (nI (o k)), .int (nI s)] h1 (fun r1 h1 => vp_in r1 416 ∧ ((¬ ((h1 1 r1.toNatClampNeg)) = (2 : Int32) → Wg X 0 0 h1 [(0, .ref 0), (1, .int (nI (fb_ct M2 (an A)))), (2, .int (nI dp1)), (3, .int (nI (o k))), (4, .int (nI s + 1))] [] 104) ∧ (((h1 1 r1.toNatClampNeg)) = (2 : Int32) → K_Mo_slotOf [.int (nI (o k)), .int (nI s)] h1 (fun r2 h2 => vp_in r2 416 ∧ (vp_in (h2 2 r2.toNatClampNeg) 204 ∧ ((¬ (h2 6 (h2 2 r2.toNatClampNeg).toNatClampNeg) = 0 → Wg X 0 0 h2 [(0, .ref 0), (1, .int (nI (fb_ct M2 (an A)))), (2, .int (nI dp1)), (3, .int (nI (o k))), (4, .int (nI s + 1))] [] 104) ∧ ((h2 6 (h2 2 r2.toNatClampNeg).toNatClampNeg) = 0 → K_Mo_slotOf [.int (nI (o k)), .int (nI s)] h2 (fun r3 h3 => vp_in r3 416 ∧ (vp_in (nI dp1) 600 ∧ (Wg X 0 0 (up h3 7 (nI dp1).toNatClampNeg (h3 2 r3.toNatClampNeg)) [(0, .ref 0), (1, .int (nI (fb_ct M2 (an A)))), (2, .int (nI dp1 + 1)), (3, .int (nI (o k))), (4, .int (nI s + 1))] [] 104)))))))))) := by
                        intro v hv vm hsuc kk
                        refine s_mslot ⟨vp_in_nI (by omega) (by omega), ?_⟩
                        rw [nI_cl (by omega), nI_1]
                        match v, hv, vm, hsuc, kk with
                        | none, _, vm, _, kk =>
                          have vm : h1 1 (8 + 2 * o k + s) = 0 := vm
                          rw [vm]
                          exact ⟨fun _ => kk h1 dp1 (Fr.rf _ _) I2 (by omega) (fun _ a => a) (fun j e => by cases e), fun z => absurd z (by decide)⟩
                        | some (.inl y), _, vm, _, kk =>
                          rw [vm.1]
                          exact ⟨fun _ => kk h1 dp1 (Fr.rf _ _) I2 (by omega) (fun _ a => a) (fun j e => by cases e), fun z => absurd z (by decide)⟩
                        | some (.inr j), hv, vm, hsuc, kk =>
                          have hj : j < an A := hv
                          have hlj := PN'.lt hj
                          rw [vm.1]
                          refine ⟨fun z => absurd rfl z, fun _ => s_mslot ⟨vp_in_nI (by omega) (by omega), ?_⟩⟩
                          rw [nI_cl (by omega), vm.2]
                          refine ⟨vp_in_nI (by omega) (by omega), ?_⟩
                          rw [nI_cl (by omega), I2.1 j hj]
                          refine ⟨fun z => ?_, fun z => s_mslot ⟨vp_in_nI (by omega) (by omega), vp_in_nI (by omega) (by omega), ?_⟩⟩
                          · have hmj : M2 j = true := by
                              cases hmj : M2 j
                              · rw [hmj] at z; exact absurd rfl z
                              · rfl
                            exact kk h1 dp1 (Fr.rf _ _) I2 (by omega) (fun _ a => a) (fun i e => by cases e; exact Or.inl hmj)
                          · rw [nI_cl (by omega), nI_cl (by omega), vm.2, nI_1]
                            have hge : ∀ i, i < dp1 → up h1 7 dp1 (nI (o j)) 7 i = h1 7 i := fun i hi => up_at_ne (by omega)
                            refine kk _ (dp1 + 1) ((Fr.rf _ _).up (by simp)) ⟨fun i hi => by rw [up_ne (by omega)]; exact I2.1 i hi, fun i hi => ?_, I2.2.2.1, by omega⟩ (Nat.le_refl _) (fun i t => ?_) (fun i e => ?_)
                            · by_cases e : i = dp1
                              · subst e
                                exact ⟨j, hj, hrk.step (hsuc j rfl), up_at _ _ _ _⟩
                              · obtain ⟨q1, q2, q3, q4⟩ := I2.2.1 i (by omega)
                                exact ⟨q1, q2, q3, by rw [hge i (by omega)]; exact q4⟩
                            · rcases t with t | ⟨i2, a, b⟩
                              · exact Or.inl t
                              · exact Or.inr ⟨i2, by omega, by rw [hge i2 a]; exact b⟩
                            · cases e
                              exact Or.inr ⟨dp1, Nat.lt_succ_self _, up_at _ _ _ _⟩
                      have go : ∀ (v : Vl) (h2 : HP) (dp2 : Nat), Fr [6, 7] h1 h2 → MM h2 A o M2 dp2 → dp2 ≤ dp1 + 1 → (∀ j, TB h1 o M2 dp1 j → TB h2 o M2 dp2 j) → (∀ j, v = some (.inr j) → TB h2 o M2 dp2 j) → ((s = 0 ∧ v = t.2.1) ∨ (s = 1 ∧ v = t.2.2)) → Wg X 0 0 h2 [(0, .ref 0), (1, .int (nI (fb_ct M2 (an A)))), (2, .int (nI dp2)), (3, .int (nI (o k))), (4, .int (nI (s + 1)))] [] 104 := by
                        intro v h2 dp2 f3 I3 hd3 ht3 hv3 hsv
                        refine ih2 (s + 1) h2 dp2 (by omega) (f2.trans f3) I3 (by omega) (fun r j a b => ht3 j (hr2 r j a b)) (fun j i a b c d => ht3 i (ha2 j i a b c d)) (fun j t2 he2 => ?_)
                        rw [he] at he2
                        cases he2
                        have hk3 := hk2 j t rfl
                        refine ⟨fun _ e => ?_, fun z e => ?_⟩
                        · rcases hsv with ⟨s0, vv⟩ | ⟨s1, vv⟩
                          · exact hv3 j (vv.trans e)
                          · exact ht3 j (hk3.1 (by omega) e)
                        · rcases hsv with ⟨s0, vv⟩ | ⟨s1, vv⟩
                          · omega
                          · exact hv3 j (vv.trans e)
                      rcases (show s = 0 ∨ s = 1 by omega) with s0 | s1
                      · subst s0
                        exact slot t.2.1 ht.1 om.1 (fun j e => by unfold suc; rw [he]; exact Or.inl e) (fun h2 dp2 a b c d e => go t.2.1 h2 dp2 a b c d e (Or.inl ⟨rfl, rfl⟩))
                      · subst s1
                        exact slot t.2.2 ht.2 (by rw [show 8 + 2 * o k + 1 = 9 + 2 * o k by omega]; exact om.2) (fun j e => by unfold suc; rw [he]; exact Or.inr e) (fun h2 dp2 a b c d e => go t.2.2 h2 dp2 a b c d e (Or.inr ⟨rfl, rfl⟩))
            refine c104 2 0 _ dp rfl f1 I1 (by omega) (fun r j a b => ?_) (fun j i a b c d => ?_) (fun j t _ => ⟨fun z => absurd z (by omega), fun z => absurd z (by omega)⟩)
            · have hjn : j < an A := (Rch.root a b).lt w
              have := tb1 M2 m2s m2k j hjn (hroot r j a b)
              rcases this with z | ⟨i, y, x⟩
              · exact Or.inl z
              · exact Or.inr ⟨i, y, by rw [up_ne (by omega)]; exact x⟩
            · have hin : i < an A := suc_lt w a d
              have hmj : M j = true := by
                rcases m2i j b with e | e
                · exact absurd e c
                · exact e
              have := tb1 M2 m2s m2k i hin (hall j i a hmj d)
              rcases this with z | ⟨i2, y, x⟩
              · exact Or.inl z
              · exact Or.inr ⟨i2, y, by rw [up_ne (by omega)]; exact x⟩
          · have hm : M k = true := by
              cases hm : M k
              · rw [hm] at q; exact absurd rfl q
              · rfl
            exact ih h0 M dp [] (by omega) f ⟨i1, fun i hi => i2 i (by omega), i3, by omega⟩ (fun r j a b => tb1 M (fun _ z => z) hm j ((Rch.root a b).lt w) (hroot r j a b)) (fun j i a b d => tb1 M (fun _ z => z) hm i (suc_lt w a d) (hall j i a b d)) _
  -- the registers
  have c28 : ∀ (r i dp : Nat) (h0 : HP), r + i = 8 → dp ≤ i → Fr [6, 7] h h0 → MM h0 A o (fun _ => false) dp → (∀ r k, r < i → ar A r = some (.inr k) → TB h0 o (fun _ => false) dp k) → Wg X 0 0 h0 [(0, .ref 0), (1, .int 0), (2, .int (nI dp)), (3, .int (nI i))] [] 28 := by
    intro r
    induction r with
    | zero =>
      intro i dp h0 hi hd f I hroot
      have e0 : fb_ct (fun _ => false) (an A) = 0 := fb_ct_zero.mpr (fun _ _ => rfl)
      refine g_Mo_mark_28 C Rm Q ⟨fun _ => ?_, fun z => absurd ?_ z⟩
      · have := c65 _ h0 (fun _ => false) dp [] (Nat.le_refl _) f I (fun r k a b => hroot r k (by omega) b) (fun k j _ a => absurd a Bool.false_ne_true) (nI i)
        rw [e0] at this
        exact this
      · rw [show (8 : Int32) = nI 8 from rfl, nI_leI (by omega) (by omega)]
        omega
    | succ r ih =>
      intro i dp h0 hi hd f I hroot
      have e1 : h0 1 = h 1 := f 1 (by simp)
      have e2 : h0 2 = h 2 := f 2 (by simp)
      have vm := P.reg (r := i) (by omega)
      refine g_Mo_mark_28 C Rm Q ⟨fun z => ?_, fun _ => ⟨vp_in_nI (by omega) (by omega), ?_⟩⟩
      · rw [show (8 : Int32) = nI 8 from rfl, nI_leI (by omega) (by omega)] at z
        omega
      · rw [nI_cl (by omega), e1, e2, nI_1]
        have hvw := w.2.2 i (by omega)
        have skip : (∀ k, ar A i ≠ some (.inr k)) → Wg X 0 0 h0 [(0, .ref 0), (1, .int 0), (2, .int (nI dp)), (3, .int (nI (i + 1)))] [] 28 := fun hno => ih (i + 1) dp h0 (by omega) (by omega) f I (fun r' k a b => by
          by_cases e : r' = i
          · subst e; exact absurd b (hno k)
          · exact hroot r' k (by omega) b)
        generalize hv : ar A i = v at vm hvw
        match v, hv, vm, hvw with
        | none, hv, vm, _ =>
          have vm : h 1 i = 0 := vm
          rw [vm]
          exact ⟨fun _ => skip (fun k e => by rw [hv] at e; cases e), fun z => absurd z (by decide)⟩
        | some (.inl y), hv, vm, _ =>
          rw [vm.1]
          exact ⟨fun _ => skip (fun k e => by rw [hv] at e; cases e), fun z => absurd z (by decide)⟩
        | some (.inr k), hv, vm, hvw =>
          have hk : k < an A := hvw
          rw [vm.1, vm.2]
          refine ⟨fun z => absurd rfl z, fun _ => ⟨vp_in_nI (by omega) (by omega), vp_in_nI (by omega) (by omega), ?_⟩⟩
          rw [nI_cl (by omega), nI_1]
          have hge : ∀ i, i < dp → up h0 7 dp (nI (o k)) 7 i = h0 7 i := fun i hi => up_at_ne (by omega)
          refine ih (i + 1) (dp + 1) _ (by omega) (by omega) (f.up (by simp)) ⟨fun j hj => by rw [up_ne (by omega)]; exact I.1 j hj, fun j hj => ?_, fun _ _ a => absurd a Bool.false_ne_true, by omega⟩ (fun r' j a b => ?_)
          · by_cases e : j = dp
            · subst e
              exact ⟨k, hk, Rch.root (show i < 8 by omega) hv, up_at _ _ _ _⟩
            · obtain ⟨q1, q2, q3, q4⟩ := I.2.1 j (by omega)
              exact ⟨q1, q2, q3, by rw [hge j (by omega)]; exact q4⟩
          · by_cases e : r' = i
            · subst e
              rw [hv] at b
              cases b
              exact Or.inr ⟨dp, Nat.lt_succ_self _, up_at _ _ _ _⟩
            · rcases hroot r' j (by omega) b with t | ⟨i2, x, y⟩
              · exact Or.inl t
              · exact Or.inr ⟨i2, by omega, by rw [hge i2 x]; exact y⟩
  have c2 : ∀ (r i : Nat) (h0 : HP), r + i = 204 → Fr [6, 7] h h0 → (∀ j, j < i → h0 6 j = 0) → Wg X 0 0 h0 [(0, .ref 0), (1, .int (nI i))] [] 2 := by
    intro r
    induction r with
    | zero =>
      intro i h0 hi f hz
      refine g_Mo_mark_2 C Rm Q ⟨fun _ => c28 8 0 0 h0 rfl (Nat.le_refl _) f ⟨fun k hk => ?_, fun i a => absurd a (by omega), fun _ _ a => absurd a Bool.false_ne_true, Nat.zero_le _⟩ (fun r k a => absurd a (by omega)), fun z => absurd ?_ z⟩
      · rw [hz _ (by have := PN'.lt hk; omega)]
        rfl
      · rw [show (204 : Int32) = nI 204 from rfl, nI_leI (by omega) (by omega)]
        omega
    | succ r ih =>
      intro i h0 hi f hz
      refine g_Mo_mark_2 C Rm Q ⟨fun z => ?_, fun _ => ⟨vp_in_nI (by omega) (by omega), ?_⟩⟩
      · rw [show (204 : Int32) = nI 204 from rfl, nI_leI (by omega) (by omega)] at z
        omega
      · rw [nI_cl (by omega), nI_1, narb0]
        refine ih (i + 1) _ (by omega) (f.up (by simp)) (fun j hj => ?_)
        by_cases e : j = i
        · subst e; exact up_at _ _ _ _
        · rw [up_at_ne e]; exact hz j (by omega)
  exact c2 204 0 h rfl (Fr.rf _ _) (fun j hj => absurd hj (by omega))
