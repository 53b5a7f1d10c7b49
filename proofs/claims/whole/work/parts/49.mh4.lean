/-! The model's heap: a collection, room, a number kept. -/
theorem VM.mvv {h h2 : HP} {A : AS} {o : Nat → Nat} {i : Nat} {v : Vl} (k : VM h o i v) (l : VL A v) (e1 : h2 1 i = h 1 i) (e2 : h2 2 i = h 2 i) : VM h2 (fun j => o (kt A j)) i (mvv (ix A) v) := by
  match v, l, k with
  | none, _, k => exact e1.trans k
  | some (.inl z), _, k => exact ⟨e1.trans k.1, e2.trans k.2⟩
  | some (.inr q), l, k =>
    refine ⟨e1.trans k.1, ?_⟩
    show h2 2 i = nI (o (kt A (ix A q)))
    rw [e2, kt_ix l.1 l.2]
    exact k.2
theorem s_mclean {h : HP} {A : AS} {o : Nat → Nat} {Φ : Int32 → HP → Prop} (P : PM h A o) (w : WF A) (K : ∀ h2, Fr [0, 3, 4, 6, 7] h h2 → (∀ i, i ≠ 3 → i ≠ 9 → i ≠ 10 → h2 0 i = h 0 i) → PM h2 (gcA A) (fun j => o (kt A j)) → Φ (nI (ad A (an A) - na A (an A))) h2) : K_Mo_clean [.ref 0] h Φ := by
  refine I_Mo_clean (fun X C Rm Q => g_Mo_clean_0 C Rm Q (s_mmark P w (fun h1 f1 m1 => ?_)))
  have hn := w.n
  have P0 := P.1
  have h400 := w.1
  have loop : ∀ (r k : Nat) (h0 : HP), r + k = an A → Fr [3, 4] h1 h0 → (∀ j, j < k → lve A j = true → h0 3 (ix A j) = nI (o j)) → (∀ j, k ≤ j → h0 3 j = h 3 j) → (∀ j, j < k → lve A j = false → h0 4 (o j) = 0) → (∀ x, (∀ j, j < k → lve A j = false → o j ≠ x) → h0 4 x = h 4 x) →
      Wg X 0 0 h0 [(0, .ref 0), (1, .int (nI (ix A (an A)))), (2, .int (nI (ix A k))), (3, .int (nI (ad A k - na A k))), (4, .int (nI k))] [] 12 := by
    intro r
    induction r with
    | zero =>
      intro k h0 hk f a1 a2 a3 a4
      have hkn : k = an A := by omega
      subst hkn
      have e0 : h0 0 = h 0 := by rw [f 0 (by simp), f1 0 (by simp)]
      have hix : ix A (an A) ≤ an A := fb_ct_le _ _
      have hna := na_le A (an A)
      refine g_Mo_clean_12 C Rm Q ⟨fun _ => ⟨fun _ => ?_, fun z => absurd (nI_pos' (by omega)) z⟩, fun z => absurd ?_ z⟩
      · rw [up_at_ne (by omega), e0, P0.top, nI_sub (by omega), up_at_ne (by omega), up_at_ne (by omega), e0, P0.coll, nI_1, show ad A (an A) - (ad A (an A) - na A (an A)) = na A (an A) by omega]
        generalize hh2 : up (up (up h0 0 3 (nI (ix A (an A)))) 0 9 (nI (na A (an A)))) 0 10 (nI (ac A + 1)) = h2
        have ff : ∀ j, j ≠ 0 → h2 j = h0 j := fun j hj => by rw [← hh2, up_ne hj, up_ne hj, up_ne hj]
        have fr : Fr [0, 3, 4, 6, 7] h h2 := fun j hj => by
          simp at hj
          rw [ff j (by omega), f j (by simp; omega), f1 j (by simp; omega)]
        have e1 : h2 1 = h 1 := fr 1 (by simp)
        have e2 : h2 2 = h 2 := fr 2 (by simp)
        have e5 : h2 5 = h 5 := fr 5 (by simp)
        refine K h2 fr (fun i x y z => by rw [← hh2, up_at_ne z, up_at_ne y, up_at_ne x, e0]) ⟨⟨?_, ?_, ?_, ?_, ?_, ?_⟩, ?_⟩
        · intro i j hi hj e
          obtain ⟨p, hp, lp, rfl⟩ := ix_kth hi
          obtain ⟨q, hq, lq, rfl⟩ := ix_kth hj
          have e : o (kt A (ix A p)) = o (kt A (ix A q)) := e
          rw [kt_ix hp lp, kt_ix hq lq] at e
          rw [P0.inj hp hq e]
        · intro j hj
          obtain ⟨p, hp, lp, rfl⟩ := ix_kth hj
          show o (kt A (ix A p)) < 200 ∧ h2 3 (ix A p) = nI (o (kt A (ix A p))) ∧ h2 4 (o (kt A (ix A p))) = nI (osrt (ao (gcA A) (ix A p))) ∧ h2 5 (o (kt A (ix A p))) = nI (osz (ao (gcA A) (ix A p))) ∧ OM h2 (fun j => o (kt A j)) (o (kt A (ix A p))) (ao (gcA A) (ix A p))
          rw [kt_ix hp lp, ao_gc hp lp, osz_mvo, e5, ff 3 (by omega), ff 4 (by omega)]
          have eos : osrt (mvo (ix A) (ao A p)) = osrt (ao A p) := by cases ao A p <;> rfl
          refine ⟨P0.lt hp, a1 p hp lp, ?_, P0.siz hp, ?_⟩
          · rw [eos, a4 (o p) (fun j hj lj e => by
              have := P0.inj hj hp e
              rw [this, lp] at lj
              exact absurd lj (by decide))]
            exact P0.srt hp
          · have om := P0.obj hp
            generalize he : ao A p = ob at om
            match ob, he, om with
            | .inl y, _, om =>
              have om : MN h (13 + o p) y := om
              exact om.rw ⟨by rw [fr 9 (by simp)], by rw [fr 10 (by simp)], fun i _ => by rw [fr 8 (by simp)]⟩
            | .inr (s, a, b), he, om =>
              obtain ⟨la, lb'⟩ := obj_VL w lp he
              exact ⟨om.1.mvv la (by rw [e1]) (by rw [e2]), om.2.mvv lb' (by rw [e1]) (by rw [e2])⟩
        · intro x hx hno
          rw [ff 4 (by omega)]
          by_cases q : ∃ j, j < an A ∧ o j = x
          · obtain ⟨j, hj, rfl⟩ := q
            have lj : lve A j = false := by
              cases lj : lve A j
              · rfl
              · exact absurd (show o (kt A (ix A j)) = o j by rw [kt_ix hj lj]) (hno (ix A j) (ix_lt hj lj))
            exact a3 j hj lj
          · have q2 : ∀ j, j < an A → o j ≠ x := fun j hj e => q ⟨j, hj, e⟩
            rw [a4 x (fun j hj _ => q2 j hj)]
            exact P0.free hx q2
        · rw [← hh2, up_at_ne (by omega), up_at_ne (by omega), up_at]
          rfl
        · rw [← hh2, up_at_ne (by omega), up_at]
          show _ = nI (ad (gcA A) (ix A (an A)))
          rw [ad_gc _ (Nat.le_refl _)]
        · rw [← hh2, up_at]
          rfl
        · intro r hr
          exact (P.reg hr).mvv (reg_VL w hr) (by rw [e1]) (by rw [e2])
      · rw [e0, P0.many]
        exact Int32.le_refl _
    | succ r ih =>
      intro k h0 hk f a1 a2 a3 a4
      have hkn : k < an A := by omega
      have hl := P0.lt hkn
      have e0 : h0 0 = h 0 := by rw [f 0 (by simp), f1 0 (by simp)]
      have e6 : h0 6 = h1 6 := f 6 (by simp)
      have e5 : h0 5 = h 5 := by rw [f 5 (by simp), f1 5 (by simp)]
      have hna := na_le A k
      have hixk : ix A k ≤ k := fb_ct_le _ _
      refine g_Mo_clean_12 C Rm Q ⟨fun z => ?_, fun _ => ⟨vp_in_nI (by omega) (by omega), ?_⟩⟩
      · rw [e0, P0.many, nI_leI (by omega) (by omega)] at z
        omega
      · rw [nI_cl (by omega), a2 k (Nat.le_refl _), P0.ord hkn]
        refine ⟨vp_in_nI (by omega) (by omega), ?_⟩
        rw [nI_cl (by omega), e6, m1 k hkn]
        refine ⟨fun z => ⟨vp_in_nI (by omega) (by omega), vp_in_nI (by omega) (by omega), ?_⟩, fun z => ⟨vp_in_nI (by omega) (by omega), ?_⟩⟩
        · have lk : lve A k = false := by
            cases lk : lve A k
            · rfl
            · rw [lk] at z; exact absurd z (by decide)
          rw [e5, P0.siz hkn, nI_add, nI_1]
          have go := ih (k + 1) (up h0 4 (o k) 0) (by omega) (f.up (by simp)) (fun j hj lj => ?_) (fun j hj => by rw [up_ne (by omega)]; exact a2 j (by omega)) (fun j hj lj => ?_) (fun x hx => ?_)
          · rw [ix_succ, na_succ, ad_succ, lk] at go
            rw [show ad A k - na A k + osz (ao A k) = ad A k + osz (ao A k) - (na A k + 0) by omega]
            exact go
          · rw [up_ne (by omega)]
            exact a1 j (by
              rcases Nat.lt_succ_iff_lt_or_eq.mp hj with y | y
              · exact y
              · rw [y, lk] at lj; exact absurd lj (by decide)) lj
          · by_cases e : j = k
            · subst e; exact up_at _ _ _ _
            · rw [up_at_ne (fun z => e (P0.inj (by omega) hkn z))]
              exact a3 j (by omega) lj
          · rw [up_at_ne (fun e => hx k (by omega) lk e.symm)]
            exact a4 x (fun j hj => hx j (by omega))
        · have lk : lve A k = true := by
            cases lk : lve A k
            · rw [lk] at z; exact absurd rfl z
            · rfl
          rw [nI_cl (by omega), nI_1, nI_1]
          have go := ih (k + 1) (up h0 3 (ix A k) (nI (o k))) (by omega) (f.up (by simp)) (fun j hj lj => ?_) (fun j hj => by rw [up_at_ne (by omega)]; exact a2 j (by omega)) (fun j hj lj => ?_) (fun x hx => ?_)
          · rw [ix_succ, na_succ, ad_succ, lk] at go
            simp only [if_true] at go
            rw [show ad A k + osz (ao A k) - (na A k + osz (ao A k)) = ad A k - na A k by omega] at go
            exact go
          · by_cases e : j = k
            · subst e; exact up_at _ _ _ _
            · have hjk : j < k := by omega
              have : ix A (j + 1) ≤ ix A k := fb_ct_mono _ hjk
              rw [ix_succ, lj] at this
              simp only [if_true] at this
              rw [up_at_ne (by omega)]
              exact a1 j hjk lj
          · rw [up_ne (by omega)]
            exact a3 j (by
              rcases Nat.lt_succ_iff_lt_or_eq.mp hj with y | y
              · exact y
              · rw [y, lk] at lj; exact absurd lj (by decide)) lj
          · rw [up_ne (by omega)]
            exact a4 x (fun j hj => hx j (by omega))
  exact loop (an A) 0 h1 (Nat.add_zero _) (Fr.rf _ _) (fun j hj => absurd hj (by omega)) (fun j _ => by rw [f1 3 (by simp)]) (fun j hj => absurd hj (by omega)) (fun x _ => by rw [f1 4 (by simp)])
theorem s_mwants {h : HP} {A : AS} {o : Nat → Nat} {c : Nat} {Φ : Int32 → HP → Prop} (P : PM h A o) (w : WF A) (hc : c < 1000) (K : ∀ h2 o2, Fr [0, 3, 4, 6, 7] h h2 → (∀ i, i ≠ 3 → i ≠ 9 → i ≠ 10 → h2 0 i = h 0 i) → PM h2 (rmA A c) o2 → Φ (if 400 < ad (rmA A c) (an (rmA A c)) + c then 0 else 1) h2) : K_Mo_wants [.ref 0, .int (nI c)] h Φ := by
  refine I_Mo_wants (fun X C Rm Q => g_Mo_wants_0 C Rm Q ?_)
  have h4 := w.1
  have sub : ∀ t, t ≤ 400 → (400 : Int32) - nI t = nI (400 - t) := fun t ht => nI_sub (a := 400) ht
  rw [P.1.top, sub _ h4]
  refine ⟨fun q => ?_, fun q => ?_⟩
  · rw [nI_leI (by omega) (by omega)] at q
    have e : rmA A c = A := if_neg (by omega)
    rw [e] at K
    have k := K h o (Fr.rf _ _) (fun _ _ _ _ => rfl) P
    refine ⟨fun q2 => ?_, fun q2 => ?_⟩
    · rw [nI_ltI (by omega) (by omega)] at q2
      omega
    · rwa [if_neg (by omega)] at k
  · rw [nI_leI (by omega) (by omega)] at q
    have e : rmA A c = gcA A := if_pos (by omega)
    rw [e] at K
    refine s_mclean P w (fun h2 f2 g2 P2 => ?_)
    have k := K h2 _ f2 g2 P2
    have h5 := (gcA_WF w).1
    rw [P2.1.top, sub _ h5]
    refine ⟨fun q2 => ?_, fun q2 => ?_⟩
    · rw [nI_ltI (by omega) (by omega)] at q2
      rwa [if_pos (by omega)] at k
    · rw [nI_ltI (by omega) (by omega)] at q2
      rwa [if_neg (by omega)] at k
theorem ar_aw (A : AS) (z : Int) : ar (aw A z).2 = ar A := by
  unfold aw
  split <;> rfl
/-- a register set, the others as they were -/
theorem PM.sreg {h h2 : HP} {A A2 : AS} {o o2 : Nat → Nat} {t : Nat} {v : Vl} (P : PM h A o) (w : WF A) (P2 : PN h2 A2 o2) (ea : ar A2 = ar A) (k : VM h2 o2 t v) (eo : ∀ k, k < an A → o2 k = o k) (es : ∀ i, i < 8 → i ≠ t → h2 1 i = h 1 i ∧ h2 2 i = h 2 i) : PM h2 (sr A2 t v) o2 := by
  refine ⟨P2, fun r hr => ?_⟩
  show VM h2 o2 r (if r = t then v else ar A2 r)
  by_cases q : r = t
  · rw [if_pos q, q]
    exact k
  · rw [if_neg q, ea]
    exact (P.reg hr).cong (w.2.2 r hr) (es r hr q).1 (es r hr q).2 eo
set_option maxHeartbeats 4000000 in
theorem s_mfinish {h : HP} {A : AS} {o : Nat → Nat} {t : Nat} {u d : Int} {Φ : Int32 → HP → Prop} (P : PM h A o) (w : WF A) (ht : t < 8) (hu : MN h 4 u) (hd : MN h 5 d) (d0 : 0 < d) (K : ∀ h2 o2, MK h h2 → PM h2 (nkA A t u d) o2 → Φ (Int32.ofInt (nkR A u d)) h2) : K_Mo_finish [.ref 0, .int (nI t)] h Φ := by
  refine I_Mo_finish (fun X C Rm Q => ?_)
  have e5 : (5 : Int32).toNatClampNeg = 5 := rfl
  have e500 : (500 : Int32).toNatClampNeg = 100 * 5 := rfl
  have h1iff := MN.one_iff hd.u
  have c67 : ∀ (f : Int32) (c0 c1 : Nat), (f = if d = 1 then 1 else 0) → c0 + c1 = cfn u d → gc 32 u.natAbs ≤ 20 → gc 32 d.natAbs ≤ 20 → Wg X 0 0 h [(0, .ref 0), (1, .int (nI t)), (2, .int f)] [.int (nI c1), .int (nI c0)] 67 := by
    intro f c0 c1 hf hc gu gd
    have hcb : cfn u d < 1000 := by
      unfold cfn cfw
      split <;> split <;> (try split) <;> omega
    refine g_Mo_finish_67 C Rm Q ?_
    rw [nI_add, hc]
    unfold nkA nkR at K
    have hL : ¬ ¬ (gc 32 u.natAbs ≤ 20 ∧ gc 32 d.natAbs ≤ 20) := by omega
    simp only [if_neg hL] at K
    have wB := rmA_WF w (cfn u d)
    refine s_mwants P w hcb (fun h2 o2 f2 g2 P2 => ?_)
    have mk2 : MK h h2 := ⟨f2.mono (by simp), g2 0 (by omega) (by omega) (by omega), g2 15 (by omega) (by omega) (by omega), g2 17 (by omega) (by omega) (by omega)⟩
    generalize hB : rmA A (cfn u d) = B at *
    have hu2 : MN h2 4 u := hu.rw ⟨by rw [f2 9 (by simp)], by rw [f2 10 (by simp)], fun i _ => by rw [f2 8 (by simp)]⟩
    have hd2 : MN h2 5 d := hd.rw ⟨by rw [f2 9 (by simp)], by rw [f2 10 (by simp)], fun i _ => by rw [f2 8 (by simp)]⟩
    by_cases hfit : 400 < ad B (an B) + cfn u d
    · simp only [if_pos hfit] at K
      rw [if_pos hfit]
      exact ⟨fun z => absurd rfl z, fun _ => K h2 o2 mk2 P2⟩
    · simp only [if_neg hfit] at K
      rw [if_neg hfit]
      refine ⟨fun _ => ?_, fun z => absurd z (by decide)⟩
      unfold nk1 nkP at K
      by_cases d1 : d = 1
      · rw [if_pos d1] at K hf
        have hcu : cfn u d = cfw u := if_pos d1
        rw [hf]
        refine ⟨fun z => absurd z (by decide), fun _ => ?_⟩
        have pl : K_Mo_place [.ref 0, .int (nI t), .int (nI 4)] h2 (fun h10 => Φ 0 h10) := by
          refine s_mplace P2.1 wB (Or.inl ht) (by omega) hu2 gu (by omega) (fun h3 o3 mk3 P3 v3 eo3 es3 er3 => ?_)
          exact K h3 o3 (mk2.trans mk3) (P2.sreg wB P3 (ar_aw _ _) v3 eo3 (fun i hi hne => es3 i (Or.inl hi) hne))
        exact pl
      · rw [if_neg d1] at K hf
        have hcu : cfn u d = cfw u + cfw d + 3 := if_neg d1
        obtain ⟨a1, a2, a3, a4, a5, a6, a7⟩ := aw_WF wB gu (by omega)
        obtain ⟨b1, b2, b3, b4, b5, b6, b7⟩ := aw_WF a1 gd (by omega)
        rw [hf]
        refine ⟨fun _ => ?_, fun z => absurd rfl z⟩
        have pl : K_Mo_place [.ref 0, .int (nI 414), .int (nI 4)] h2 (fun h2 => K_Mo_place [.ref 0, .int (nI 415), .int (nI 5)] h2 (fun h3 => K_Mo_make [.ref 0, .int (nI 3), .int (nI 3)] h3 (fun r4 h4 => K_Mo_slotOf [.int r4, .int (nI 0)] h4 (fun r5 h5 => K_Mo_copyValue [.ref 0, .int r5, .int (nI 414)] h5 (fun h6 => K_Mo_slotOf [.int r4, .int (nI 1)] h6 (fun r7 h7 => K_Mo_copyValue [.ref 0, .int r7, .int (nI 415)] h7 (fun h8 => K_Mo_setValue [.ref 0, .int (nI t), .int 2, .int r4] h8 (fun h9 => Φ 0 h9)))))))) := by
          refine s_mplace P2.1 wB (by omega) (by omega) hu2 gu (by omega) (fun h3 o3 mk3 P3 v3 eo3 es3 er3 => ?_)
          have hd3 : MN h3 5 d := hd2.rw (er3 5 (by omega))
          refine s_mplace P3 a1 (by omega) (by omega) hd3 gd (by omega) (fun h4 o4 mk4 P4 v4 eo4 es4 er4 => ?_)
          generalize hA1 : (aw B u).2 = A1 at *
          generalize hV1 : (aw B u).1 = V1 at *
          generalize hA2 : (aw A1 d).2 = A2 at *
          generalize hV2 : (aw A1 d).1 = V2 at *
          have v34 : VM h4 o4 414 V1 := v3.cong a3.toVW (es4 414 (by omega) (by omega)).1 (es4 414 (by omega) (by omega)).2 eo4
          have hn4 : an A2 ≤ 199 := room_n b1 (c := 3) (by omega) (by omega)
          have wob : OW A2 (.inr (3, V1, V2)) := Or.inr ⟨rfl, b6 _ a3, b3, by rw [b4]; omega⟩
          refine s_mmake P4 b1 hn4 (fun x hx hfr => ?_)
          generalize hh5 : up (up (up (up (up h4 4 x (nI 3)) 5 x (nI 3)) 3 (an A2) (nI x)) 0 3 (nI (an A2 + 1))) 0 9 (nI (ad A2 (an A2) + 3)) = h5
          have g1 : ∀ j, j ≠ 0 → j ≠ 3 → j ≠ 4 → j ≠ 5 → h5 j = h4 j := fun j a b c d => by rw [← hh5, up_ne a, up_ne a, up_ne b, up_ne d, up_ne c]
          have g4 : h5 4 = upd (h4 4) x (nI 3) := by rw [← hh5, up_ne (by omega), up_ne (by omega), up_ne (by omega), up_ne (by omega), up_self]
          have g5 : h5 5 = upd (h4 5) x (nI 3) := by rw [← hh5, up_ne (by omega), up_ne (by omega), up_ne (by omega), up_self, up_ne (by omega)]
          have g3 : h5 3 = upd (h4 3) (an A2) (nI x) := by rw [← hh5, up_ne (by omega), up_ne (by omega), up_self, up_ne (by omega), up_ne (by omega)]
          have g09 : h5 0 9 = nI (ad A2 (an A2) + 3) := by rw [← hh5, up_at]
          have g03 : h5 0 3 = nI (an A2 + 1) := by rw [← hh5, up_at_ne (by omega), up_at]
          have g0 : ∀ i, i ≠ 9 → i ≠ 3 → h5 0 i = h4 0 i := fun i a b => by rw [← hh5, up_at_ne a, up_at_ne b, up_ne (by omega), up_ne (by omega), up_ne (by omega)]
          have v5a : VM h5 o4 414 V1 := v34.cong (n := an A2) ((b6 _ a3).toVW) (by rw [g1 1 (by omega) (by omega) (by omega) (by omega)]) (by rw [g1 2 (by omega) (by omega) (by omega) (by omega)]) (fun _ _ => rfl)
          have v5b : VM h5 o4 415 V2 := v4.cong (n := an A2) b3.toVW (by rw [g1 1 (by omega) (by omega) (by omega) (by omega)]) (by rw [g1 2 (by omega) (by omega) (by omega) (by omega)]) (fun _ _ => rfl)
          refine s_mslot (j := 0) (s_mcopyV (by omega) (by omega) (s_mslot (j := 1) (s_mcopyV (by omega) (by omega) (s_mset (by omega) ?_))))
          have fr1 : Fr [1, 2] h5 (up (up h5 1 (8 + 2 * x + 0) (h5 1 414)) 2 (8 + 2 * x + 0) (h5 2 414)) := ((Fr.rf _ _).up (by simp)).up (by simp)
          have va : VM (up (up h5 1 (8 + 2 * x + 0) (h5 1 414)) 2 (8 + 2 * x + 0) (h5 2 414)) (oadd A2 o4 x) (8 + 2 * x + 0) V1 := v5a.set (b6 _ a3).toVW (fun k hk => oadd_lt hk)
          have sl6 : ∀ i, i ≠ 8 + 2 * x + 0 → up (up h5 1 (8 + 2 * x + 0) (h5 1 414)) 2 (8 + 2 * x + 0) (h5 2 414) 1 i = h5 1 i ∧ up (up h5 1 (8 + 2 * x + 0) (h5 1 414)) 2 (8 + 2 * x + 0) (h5 2 414) 2 i = h5 2 i := fun i hi => by
            rw [up_ne (by omega), up_at_ne hi, up_at_ne hi, up_ne (by omega)]
            exact ⟨rfl, rfl⟩
          generalize up (up h5 1 (8 + 2 * x + 0) (h5 1 414)) 2 (8 + 2 * x + 0) (h5 2 414) = h6 at *
          have v6b : VM h6 o4 415 V2 := v5b.cong (n := an A2) b3.toVW (sl6 415 (by omega)).1 (sl6 415 (by omega)).2 (fun _ _ => rfl)
          have fr2 : Fr [1, 2] h6 (up (up h6 1 (8 + 2 * x + 1) (h6 1 415)) 2 (8 + 2 * x + 1) (h6 2 415)) := ((Fr.rf _ _).up (by simp)).up (by simp)
          have vb : VM (up (up h6 1 (8 + 2 * x + 1) (h6 1 415)) 2 (8 + 2 * x + 1) (h6 2 415)) (oadd A2 o4 x) (8 + 2 * x + 1) V2 := v6b.set b3.toVW (fun k hk => oadd_lt hk)
          have sl7 : ∀ i, i ≠ 8 + 2 * x + 1 → up (up h6 1 (8 + 2 * x + 1) (h6 1 415)) 2 (8 + 2 * x + 1) (h6 2 415) 1 i = h6 1 i ∧ up (up h6 1 (8 + 2 * x + 1) (h6 1 415)) 2 (8 + 2 * x + 1) (h6 2 415) 2 i = h6 2 i := fun i hi => by
            rw [up_ne (by omega), up_at_ne hi, up_at_ne hi, up_ne (by omega)]
            exact ⟨rfl, rfl⟩
          generalize up (up h6 1 (8 + 2 * x + 1) (h6 1 415)) 2 (8 + 2 * x + 1) (h6 2 415) = h7 at *
          have fr3 : Fr [1, 2] h7 (up (up h7 1 t 2) 2 t (nI x)) := ((Fr.rf _ _).up (by simp)).up (by simp)
          have sl8 : ∀ i, i ≠ t → up (up h7 1 t 2) 2 t (nI x) 1 i = h7 1 i ∧ up (up h7 1 t 2) 2 t (nI x) 2 i = h7 2 i := fun i hi => by
            rw [up_ne (by omega), up_at_ne hi, up_at_ne hi, up_ne (by omega)]
            exact ⟨rfl, rfl⟩
          have vt : VM (up (up h7 1 t 2) 2 t (nI x)) (oadd A2 o4 x) t (some (.inr (an A2))) := ⟨by rw [up_ne (by omega), up_at], by rw [up_at, oadd_n]⟩
          generalize up (up h7 1 t 2) 2 t (nI x) = h8 at *
          have frA : Fr [1, 2] h5 h8 := (fr1.trans fr2).trans fr3
          have hz0 : 8 + 2 * x + 0 = 8 + 2 * x := rfl
          have hz1 : 8 + 2 * x + 1 = 9 + 2 * x := by omega
          have slall : ∀ i, i ≠ t → i ≠ 8 + 2 * x → i ≠ 9 + 2 * x → h8 1 i = h4 1 i ∧ h8 2 i = h4 2 i := fun i a b c => by
            rw [(sl8 i a).1, (sl8 i a).2, (sl7 i (by omega)).1, (sl7 i (by omega)).2, (sl6 i (by omega)).1, (sl6 i (by omega)).2, g1 1 (by omega) (by omega) (by omega) (by omega), g1 2 (by omega) (by omega) (by omega) (by omega)]
            exact ⟨rfl, rfl⟩
          have P8 : PN h8 (mk A2 (.inr (3, V1, V2))) (oadd A2 o4 x) := by
            refine P4.inMk b1 hn4 hx hfr ?_ ?_ ?_ ?_ ?_ ?_ (fun i a b c d => slall i (by omega) c d) (fun r a b c => ?_) ⟨?_, ?_⟩
            · rw [frA 4 (by simp), g4]
              rfl
            · rw [frA 5 (by simp), g5]
              rfl
            · rw [frA 3 (by simp), g3]
            · rw [frA 0 (by simp), g03]
            · rw [frA 0 (by simp), g09]
              rfl
            · rw [frA 0 (by simp), g0 10 (by omega) (by omega)]
            · exact ⟨by rw [frA 9 (by simp), g1 9 (by omega) (by omega) (by omega) (by omega)], by rw [frA 10 (by simp), g1 10 (by omega) (by omega) (by omega) (by omega)], fun i _ => by rw [frA 8 (by simp), g1 8 (by omega) (by omega) (by omega) (by omega)]⟩
            · have q1 : VM h7 (oadd A2 o4 x) (8 + 2 * x) V1 := va.cong (n := an A2) (b6 _ a3).toVW (sl7 (8 + 2 * x) (by omega)).1 (sl7 (8 + 2 * x) (by omega)).2 (fun _ _ => rfl)
              exact q1.cong (n := an A2) (b6 _ a3).toVW (sl8 _ (by omega)).1 (sl8 _ (by omega)).2 (fun _ _ => rfl)
            · rw [hz1] at vb
              exact vb.cong (n := an A2) b3.toVW (sl8 _ (by omega)).1 (sl8 _ (by omega)).2 (fun _ _ => rfl)
          have mk8 : MK h4 h8 := ⟨fun j hj => by
            simp at hj
            rw [frA j (by simp; omega), g1 j (by omega) (by omega) (by omega) (by omega)], by rw [frA 0 (by simp), g0 0 (by omega) (by omega)], by rw [frA 0 (by simp), g0 15 (by omega) (by omega)], by rw [frA 0 (by simp), g0 17 (by omega) (by omega)]⟩
          refine K h8 (oadd A2 o4 x) (((mk2.trans mk3).trans mk4).trans mk8) (P2.sreg wB P8 ?_ vt (fun k hk => ?_) (fun i hi hne => ?_))
          · show ar A2 = ar B
            rw [← hA2, ar_aw, ← hA1, ar_aw]
          · rw [oadd_lt (by omega), eo4 k (by omega), eo3 k hk]
          · rw [(slall i hne (by omega) (by omega)).1, (slall i hne (by omega) (by omega)).2, (es4 i (Or.inl hi) (by omega)).1, (es4 i (Or.inl hi) (by omega)).2, (es3 i (Or.inl hi) (by omega)).1, (es3 i (Or.inl hi) (by omega)).2]
            exact ⟨rfl, rfl⟩
        exact pl
  have c27 : ∀ f : Int32, (f = if d = 1 then 1 else 0) → Wg X 0 0 h [(0, .ref 0), (1, .int (nI t))] [.int f] 27 := by
    intro f hf
    refine g_Mo_finish_27 C Rm Q ?_
    have large : ¬ (gc 32 u.natAbs ≤ 20 ∧ gc 32 d.natAbs ≤ 20) → Φ (-3) h := fun q => by
      have k := K h o (MK.rf h) (by unfold nkA; rw [if_pos q]; exact P)
      unfold nkR at k
      rw [if_pos q] at k
      exact k
    have l4 : K_Mo_isLarge [.ref 0, .int (nI 4)] h (fun r1 h1 => (¬ r1 = 0 → Φ ((-3)) h1) ∧ (r1 = 0 → K_Mo_isLarge [.ref 0, .int (nI 5)] h1 (fun r2 h2 => (r2 = 0 → K_Mo_cellsOf [.ref 0, .int (nI 4)] h2 (fun r3 h3 => (f = 0 → K_Mo_cellsOf [.ref 0, .int (nI 5)] h3 (fun r4 h4 => Wg X 0 0 h4 [(0, .ref 0), (1, .int (nI t)), (2, .int f)] [.int (r4 + 3), .int r3] 67)) ∧ (¬ f = 0 → Wg X 0 0 h3 [(0, .ref 0), (1, .int (nI t)), (2, .int f)] [.int (nI 0), .int r3] 67))) ∧ (¬ r2 = 0 → Φ ((-3)) h2)))) := by
      refine s_misLarge (by omega) hu.u ⟨fun q => ?_, fun q => s_misLarge (by omega) hd.u ⟨fun q2 => ?_, fun q2 => ?_⟩⟩
      · refine large (fun z => q ?_)
        rw [if_pos z.1]
      · have gu : gc 32 u.natAbs ≤ 20 := by
          by_cases z : gc 32 u.natAbs ≤ 20
          · exact z
          · rw [if_neg z] at q; exact absurd q (by decide)
        have gd : gc 32 d.natAbs ≤ 20 := by
          by_cases z : gc 32 d.natAbs ≤ 20
          · exact z
          · rw [if_neg z] at q2; exact absurd q2 (by decide)
        refine s_mcellsOf (by omega) hu ⟨fun z => s_mcellsOf (by omega) hd ?_, fun z => ?_⟩
        · rw [show (3 : Int32) = nI 3 from rfl, nI_add]
          refine c67 f _ _ hf ?_ gu gd
          have : d ≠ 1 := by
            intro e
            rw [hf, if_pos e] at z
            exact absurd z (by decide)
          unfold cfn
          rw [if_neg this]
          omega
        · refine c67 f _ 0 hf ?_ gu gd
          have : d = 1 := by
            by_cases e : d = 1
            · exact e
            · rw [hf, if_neg e] at z; exact absurd rfl z
          unfold cfn
          rw [if_pos this]
          omega
      · refine large (fun z => q2 ?_)
        rw [if_pos z.2]
    exact l4
  refine g_Mo_finish_0 C Rm Q ⟨vr (r := 5) (by omega), fun q => c27 0 ?_, fun q => ⟨vp_in_nI (n := 500) (by omega) (by omega), fun q2 => c27 0 ?_, fun q2 => c27 1 ?_⟩⟩
  · rw [if_neg (fun e => q (h1iff.mpr (by rw [e]; rfl)).1)]
  · rw [if_neg (fun e => q2 (h1iff.mpr (by rw [e]; rfl)).2)]
  · have := h1iff.mp ⟨q, q2⟩
    rw [if_pos (by omega)]
theorem s_mcellOf {h : HP} {A : AS} {o : Nat → Nat} {k : Nat} {Φ : Int32 → HP → Prop} (P : PN h A o) (w : WF A) (hk : k < an A) (K : Φ (nI (ad A k)) h) : K_Mo_cellOf [.ref 0, .int (nI (o k))] h Φ := by
  refine I_Mo_cellOf (fun X C Rm Q => g_Mo_cellOf_0 C Rm Q ?_)
  have hn := w.n
  have hl := P.lt hk
  have loop : ∀ r j, r + j = k → Wg X 0 0 h [(0, .ref 0), (1, .int (nI (o k))), (2, .int (nI (ad A j))), (3, .int (nI j))] [] 4 := by
    intro r
    induction r with
    | zero =>
      intro j hj
      have e : j = k := by omega
      subst e
      refine g_Mo_cellOf_4 C Rm Q ⟨vp_in_nI (by omega) (by omega), ?_⟩
      rw [nI_cl (by omega), P.ord hk]
      exact ⟨fun _ => K, fun z => absurd rfl z⟩
    | succ r ih =>
      intro j hj
      have hjn : j < an A := by omega
      have hlj := P.lt hjn
      refine g_Mo_cellOf_4 C Rm Q ⟨vp_in_nI (by omega) (by omega), ?_⟩
      rw [nI_cl (by omega), P.ord hjn, nI_eq (by omega) (by omega)]
      refine ⟨fun z => ?_, fun _ => ⟨vp_in_nI (by omega) (by omega), vp_in_nI (by omega) (by omega), ?_⟩⟩
      · have := P.inj hjn hk z
        omega
      · rw [nI_cl (by omega), P.siz hjn, nI_add, ← ad_succ, nI_1]
        exact ih (j + 1) (by omega)
  exact loop k 0 (Nat.add_zero _)
