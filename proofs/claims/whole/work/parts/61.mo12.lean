/-! The model's calls: write, whole. -/
def oWrR : Option (List Nat) → Int32
  | some L => nI L.length
  | none => -6
set_option maxHeartbeats 4000000 in
theorem s_mwrite {h : HP} {A : AS} {o : Nat → Nat} {L O : List Nat} {x : Int32} {Φ : Int32 → HP → Prop} (S : MS h A o L O) (bad : ¬ isr x → ∀ h2, FM h h2 → h2 0 0 = 1 → MS h2 A o L O → Φ 0 h2) (good : ∀ p, p < 8 → x = nI p → ∀ h2 res, WR A (ar A p) res → FM h h2 → h2 0 0 = 0 → MS h2 A o L (res.getD []) → Φ (oWrR res) h2) : K_Mo_write [.ref 0, .int x] h Φ := by
  refine I_Mo_write (fun X C Rm Q => ?_)
  refine g_Mo_write_0 C Rm Q (s_misR (fun q => ⟨fun z => absurd z (by decide), fun _ => ?_⟩) (fun q => ⟨fun _ => g_Mo_write_13 C Rm Q (s_mref1 ⟨fun z => absurd z (by decide), fun _ => bad q _ FM.ref (up_at _ _ _ _) S.ref⟩), fun z => absurd rfl z⟩))
  obtain ⟨p, hp, rfl⟩ := q
  refine g_Mo_write_13 C Rm Q (s_mref0 ⟨fun _ => ?_, fun z => absurd rfl z⟩)
  have w := S.1
  have hvp := w.2.2 p hp
  have S0 := S.ref (v := 0)
  have go := good p hp rfl
  clear good bad
  have P0 := S0.pm
  have f00 : (up h 0 0 0) 0 0 = 0 := up_at _ _ _ _
  have go : ∀ h2 res, WR A (ar A p) res → F7 (up h 0 0 0) h2 → MO h2 (res.getD []) → Φ (oWrR res) h2 := fun h2 res a b c =>
    go h2 res a (FM.ref.trans (b.1.mono (by simp))) (by rw [b.2.1 0 (by omega) (by omega), f00]) ⟨w, F7.pm w P0 b, S0.2.2.1.cong (b.2.1 15 (by omega) (by omega)) (b.1 11 (by simp)), c⟩
  generalize up h 0 0 0 = g at *
  generalize hv : ar A p = v at *
  have pmF : ∀ {h0}, F7 g h0 → PM h0 A o := fun f => F7.pm w P0 f
  -- the end
  have endit : ∀ (h0 : HP) (L0 : List Nat), F7 g h0 → MW h0 L0 → ((400 < L0.length ∧ ∃ m st y, wsn A (WI v) m = (st, y, L0)) ∨ (L0.length ≤ 400 ∧ ∃ m, wsn A (WI v) m = ([], none, L0))) → (h0 0 18 = 0 → Φ (h0 0 17) h0) ∧ (¬ h0 0 18 = 0 → Φ ((-6)) (up h0 0 17 0)) := by
    intro h0 L0 f0 M0 e
    rw [M0.2.1, M0.1]
    rcases e with ⟨gt, m, st, y, e⟩ | ⟨le, m, e⟩
    · rw [if_pos gt]
      refine ⟨fun z => absurd z (by decide), fun _ => go (up h0 0 17 0) none (Or.inr ⟨m, st, y, L0, e, gt, rfl⟩) (f0.trans (F7.up0 (Or.inl rfl))) ⟨Nat.zero_le _, up_at _ _ _ _, fun i c z => nomatch z⟩⟩
    · rw [if_neg (by omega), show min L0.length 400 = L0.length by omega]
      refine ⟨fun _ => go h0 (some L0) (Or.inl ⟨m, L0, e, le, rfl⟩) f0 ⟨le, by rw [M0.1, show min L0.length 400 = L0.length by omega]; rfl, fun i c z => ?_⟩, fun z => absurd rfl z⟩
      have hi := (List.getElem?_eq_some_iff.mp z).1
      have hi : i < L0.length := hi
      exact ⟨(M0.2.2 i c z).2 (by omega), (M0.2.2 i c z).1⟩
  have full38 : ∀ (h0 : HP) (L0 : List Nat) (v2 v3 v4 : Int32), F7 g h0 → MW h0 L0 → 400 < L0.length → (∃ m st y, wsn A (WI v) m = (st, y, L0)) → Wg X 0 0 h0 [(0, .ref 0), (1, .int (nI p)), (2, .int v2), (3, .int v3), (4, .int v4)] [] 38 := by
    intro h0 L0 v2 v3 v4 f0 M0 gt e
    have k := endit h0 L0 f0 M0 (Or.inl ⟨gt, e⟩)
    refine g_Mo_write_38 C Rm Q ⟨fun _ => k, fun _ => ⟨fun _ => k, fun z => ?_⟩⟩
    rw [M0.2.1, if_pos gt] at z
    exact absurd z (by decide)
  have full116 : ∀ (h0 : HP) (L0 : List Nat) (v2 v3 v4 v5 : Int32), F7 g h0 → MW h0 L0 → 400 < L0.length → (∃ m st y, wsn A (WI v) m = (st, y, L0)) → Wg X 0 0 h0 [(0, .ref 0), (1, .int (nI p)), (2, .int v2), (3, .int v3), (4, .int v4), (5, .int v5)] [] 116 := by
    intro h0 L0 v2 v3 v4 v5 f0 M0 gt e
    refine g_Mo_write_116 C Rm Q ⟨fun _ => full38 h0 L0 _ _ _ f0 M0 gt e, fun _ => ⟨fun _ => full38 h0 L0 _ _ _ f0 M0 gt e, fun _ => ⟨fun _ => full38 h0 L0 _ _ _ f0 M0 gt e, fun z => ?_⟩⟩⟩
    rw [M0.2.1, if_pos gt] at z
    exact absurd z (by decide)
  -- the two loops
  have both : ∀ r, (∀ (st : List Vl) (x : Vl) (L0 : List Nat) (h0 : HP) (i : Nat) (v4 : Int32), F7 g h0 → i < 416 → VM h0 o i x → VW (an A) x → WHm h0 A o v (st, some x, L0) → 401 ≤ L0.length + r → Wg X 0 0 h0 [(0, .ref 0), (1, .int (nI p)), (2, .int (nI st.length)), (3, .int (nI i)), (4, .int v4)] [] 50) ∧
      (∀ (st : List Vl) (L0 : List Nat) (h0 : HP) (v3 v4 : Int32), F7 g h0 → WHm h0 A o v (st, none, L0) → 401 ≤ L0.length + r → Wg X 0 0 h0 [(0, .ref 0), (1, .int (nI p)), (2, .int (nI st.length)), (3, .int v3), (4, .int v4), (5, .int 0)] [] 116) := by
    intro r
    induction r with
    | zero =>
      refine ⟨fun st x L0 h0 i v4 f0 hi kx hx H hr => ?_, fun st L0 h0 v3 v4 f0 H hr => full116 h0 L0 _ _ _ _ f0 H.2.2.1 (by omega) ⟨_, st, none, H.1.choose_spec⟩⟩
      obtain ⟨m, hm⟩ := H.1
      have M0 := H.2.2.1
      have gt : 400 < L0.length := by omega
      have nf : ¬ h0 0 18 = 0 := by rw [M0.2.1, if_pos gt]; decide
      refine g_Mo_write_50 C Rm Q (s_msortOf (pmF f0).1 hi kx hx ⟨fun _ => ⟨fun _ => full116 h0 L0 _ _ _ _ f0 M0 gt ⟨m, _, _, hm⟩, fun z => absurd z nf⟩, fun _ => ⟨fun _ => ⟨fun _ => full116 h0 L0 _ _ _ _ f0 M0 gt ⟨m, _, _, hm⟩, fun z => absurd z nf⟩, fun z => absurd z nf⟩⟩)
    | succ r ih =>
      obtain ⟨ih50, ih116⟩ := ih
      refine ⟨fun st x L0 h0 i v4 f0 hi kx hx H hr => ?_, fun st L0 h0 v3 v4 f0 H hr => ?_⟩
      · obtain ⟨⟨m, hm⟩, sk, M0, hsl⟩ := H
        have sk : SKm h0 A o st := sk
        have M0 : MW h0 L0 := M0
        have hsl : st.length ≤ L0.length := hsl
        have P1 := pmF f0
        by_cases gt : 400 < L0.length
        · have nf : ¬ h0 0 18 = 0 := by rw [M0.2.1, if_pos gt]; decide
          exact g_Mo_write_50 C Rm Q (s_msortOf P1.1 hi kx hx ⟨fun _ => ⟨fun _ => full116 h0 L0 _ _ _ _ f0 M0 gt ⟨m, _, _, hm⟩, fun z => absurd z nf⟩, fun _ => ⟨fun _ => ⟨fun _ => full116 h0 L0 _ _ _ _ f0 M0 gt ⟨m, _, _, hm⟩, fun z => absurd z nf⟩, fun z => absurd z nf⟩⟩)
        · have nf : h0 0 18 = 0 := by rw [M0.2.1, if_neg gt]
          cases e : prO A x with
          | none =>
            have n4 := prO_none e
            refine g_Mo_write_50 C Rm Q (s_msortOf P1.1 hi kx hx ⟨fun _ => ⟨fun z => absurd nf z, fun _ => s_sayPlain P1 w hi kx hx n4 M0 (fun h2 f2 M2 => ?_)⟩, fun z => absurd z (prO_n4 w hx e)⟩)
            have la := atx_len w hx n4
            have hl : (L0 ++ atx A x).length = L0.length + (atx A x).length := List.length_append
            refine ih116 st (L0 ++ atx A x) h2 _ _ (f0.trans f2.f7) ⟨⟨m + 1, ?_⟩, sk.fw (f2.1 7 (by simp)), M2, ?_⟩ (by omega)
            · show wst A (wsn A (WI v) m) = _
              rw [hm, wst_va e]
            · show st.length ≤ (L0 ++ atx A x).length
              omega
          | some q =>
            obtain ⟨j, rfl, hj, he, e2, hlj, va, vb, wa, wb⟩ := VM.pair P1.1 w hx kx e
            refine g_Mo_write_50 C Rm Q (s_msortOf P1.1 hi kx hx ⟨fun z => absurd (prO_4 e) z, fun _ => ⟨fun z => absurd nf z, fun _ => s_say (c := 40) M0 (by omega) (fun h4 f4 f4' M4 => ⟨vp_in_nI hi (by omega), vp_in_nI (by omega) (by omega), vp_in_nI hi (by omega), ?_⟩)⟩⟩)
            rw [nI_cl (by omega), nI_cl (by omega), up_ne (show (2 : Nat) ≠ 7 by omega), f4' 2 (by simp), e2, nI_1]
            have hl : (L0 ++ [40]).length = L0.length + 1 := List.length_append
            refine s_mslot (j := 0) ?_
            have f7 : F7 h4 (up h4 7 st.length (nI (o j))) := F7.up7
            have sk4 := (sk.fw (f4.1 7 (by simp))).push hj he
            refine ih50 (q.2 :: st) q.1 (L0 ++ [40]) _ (8 + 2 * o j + 0) _ ((f0.trans f4.f7).trans f7) (by omega) ?_ wa ⟨⟨m + 1, ?_⟩, sk4, M4.cong (by rw [up_ne (by omega)]) (by rw [up_ne (by omega)]) (by rw [up_ne (by omega)]), ?_⟩ (by omega)
            · exact (va.fw f4).cong wa (by rw [up_ne (by omega)]) (by rw [up_ne (by omega)]) (fun _ _ => rfl)
            · show wst A (wsn A (WI v) m) = _
              rw [hm, wst_vp e]
            · show st.length + 1 ≤ (L0 ++ [40]).length
              omega
      · obtain ⟨⟨m, hm⟩, sk, M0, hsl⟩ := H
        have sk : SKm h0 A o st := sk
        have M0 : MW h0 L0 := M0
        have hsl : st.length ≤ L0.length := hsl
        have P1 := pmF f0
        by_cases gt : 400 < L0.length
        · exact full116 h0 L0 _ _ _ _ f0 M0 gt ⟨m, _, _, hm⟩
        · have nf : h0 0 18 = 0 := by rw [M0.2.1, if_neg gt]
          match st, hm, sk, hsl with
          | [], hm, sk, hsl =>
            have k := endit h0 L0 f0 M0 (Or.inr ⟨by omega, m, hm⟩)
            refine g_Mo_write_116 C Rm Q ⟨fun _ => g_Mo_write_38 C Rm Q ⟨fun _ => k, fun z => absurd rfl z⟩, fun z => absurd (by decide) z⟩
          | b :: st, hm, sk, hsl =>
            have hsl : st.length + 1 ≤ L0.length := hsl
            obtain ⟨j, q, hj, he, e7⟩ := sk 0 b rfl
            have e7 : h0 7 (st.length + 1 - 1 - 0) = nI (o j) := e7
            rw [show st.length + 1 - 1 - 0 = st.length by omega] at e7
            have hlj := P1.1.lt hj
            have om := P1.1.obj hj
            rw [he] at om
            have hpr : prO A (some (.inr j)) = some (q, b) := by
              show (match ao A j with | .inr t => if t.1 = 4 then some t.2 else none | .inl _ => none) = _
              rw [he]
              rfl
            have hwb : VW (an A) b := (prO_VW w (show VW (an A) (some (.inr j)) from hj) hpr).2
            have kb : VM h0 o (8 + 2 * o j + 1) b := by rw [show 8 + 2 * o j + 1 = 9 + 2 * o j by omega]; exact om.2
            have vp : vp_in (nI st.length) 600 := vp_in_nI (by omega) (by omega)
            have e1 : nI (b :: st).length - 1 = nI st.length := by
              show nI (st.length + 1) - 1 = _
              rw [nI_subn _ 1 (by omega) 1 rfl]
              rfl
            have pos : ¬ nI (b :: st).length ≤ 0 := by
              show ¬ nI (st.length + 1) ≤ 0
              rw [nI_le0 (by omega)]
              omega
            refine g_Mo_write_116 C Rm Q ⟨fun z => absurd z pos, fun _ => ⟨fun z => absurd rfl z, fun _ => ⟨fun z => absurd nf z, fun _ => ?_⟩⟩⟩
            rw [n11, e1, nI_cl (by omega), e7]
            refine ⟨vp, s_mslot (j := 1) (s_msortOf P1.1 (by omega) kb hwb ?_)⟩
            have sl1 : 8 + 2 * o j + 1 < 416 := by omega
            generalize 8 + 2 * o j + 1 = s1 at *
            cases e : prO A b with
            | none =>
              have n4 := prO_none e
              refine ⟨fun _ => s_msortOf P1.1 sl1 kb hwb ⟨fun z => ?_, fun z => ?_⟩, fun z => absurd z (prO_n4 w hwb e)⟩
              · have b0 : b = none := by
                  have hvs := vs_lt w hwb
                  rw [nI_e0 (by omega)] at z
                  match b, hwb, z with
                  | none, _, _ => rfl
                  | some (.inl y), _, z => exact absurd z (by show ¬ 1 = 0; omega)
                  | some (.inr y), hwb, z =>
                    have := (osrt_lt (w.2.1 y hwb)).1
                    have z : osrt (ao A y) = 0 := z
                    omega
                subst b0
                refine s_say (c := 41) M0 (by omega) (fun h4 f4 f4' M4 => ?_)
                have hl : (L0 ++ [41]).length = L0.length + 1 := List.length_append
                refine ih116 st (L0 ++ [41]) h4 _ _ (f0.trans f4.f7) ⟨⟨m + 1, ?_⟩, sk.tail.fw (f4.1 7 (by simp)), M4, ?_⟩ (by omega)
                · show wst A (wsn A (WI v) m) = _
                  rw [hm, wst_rn]
                · show st.length ≤ (L0 ++ [41]).length
                  omega
              · obtain ⟨y, rfl⟩ : ∃ y, b = some y := by
                  cases b with
                  | none => exact absurd rfl z
                  | some y => exact ⟨y, rfl⟩
                refine s_say (c := 32) M0 (by omega) (fun h5 f5 f5' M5 => s_say (c := 46) M5 (by omega) (fun h6 f6 f6' M6 => s_say (c := 32) M6 (by omega) (fun h7 f7 f7' M7 => ?_)))
                have f57 := (f5.trans f6).trans f7
                refine s_sayPlain (FW.pm w P1 f57) w sl1 (kb.fw f57) hwb n4 M7 (fun h8 f8 M8 => s_say (c := 41) M8 (by omega) (fun h9 f9 f9' M9 => ?_))
                have f59 := (f57.trans f8).trans f9
                have eL : L0 ++ [32] ++ [46] ++ [32] ++ atx A (some y) ++ [41] = L0 ++ ([32, 46, 32] ++ atx A (some y) ++ [41]) := by simp
                rw [eL] at M9
                have hl : (L0 ++ ([32, 46, 32] ++ atx A (some y) ++ [41])).length = L0.length + (3 + (atx A (some y)).length + 1) := by simp; omega
                refine ih116 st (L0 ++ ([32, 46, 32] ++ atx A (some y) ++ [41])) h9 _ _ (f0.trans f59.f7) ⟨⟨m + 1, ?_⟩, sk.tail.fw (f59.1 7 (by simp)), M9, ?_⟩ (by omega)
                · show wst A (wsn A (WI v) m) = _
                  rw [hm, wst_ra e]
                · show st.length ≤ (L0 ++ ([32, 46, 32] ++ atx A (some y) ++ [41])).length
                  omega
            | some q2 =>
              obtain ⟨j2, rfl, hj2, he2, e22, hlj2, va2, vb2, wa2, wb2⟩ := VM.pair P1.1 w hwb kb e
              refine ⟨fun z => absurd (prO_4 e) z, fun _ => s_say (c := 32) M0 (by omega) (fun h4 f4 f4' M4 => ⟨vp_in_nI sl1 (by omega), vp, vp_in_nI sl1 (by omega), ?_⟩)⟩
              rw [nI_cl (show s1 < 2147483648 by omega), up_ne (show (2 : Nat) ≠ 7 by omega), f4' 2 (by simp), e22]
              have hl : (L0 ++ [32]).length = L0.length + 1 := List.length_append
              refine s_mslot (j := 0) ?_
              have f7 : F7 h4 (up h4 7 st.length (nI (o j2))) := F7.up7
              have sk4 := (sk.tail.fw (f4.1 7 (by simp))).push hj2 he2
              have M4' : MW (up h4 7 st.length (nI (o j2))) (L0 ++ [32]) := M4.cong (by rw [up_ne (by omega)]) (by rw [up_ne (by omega)]) (by rw [up_ne (by omega)])
              have w50 := ih50 (q2.2 :: st) q2.1 (L0 ++ [32]) (up h4 7 st.length (nI (o j2))) (8 + 2 * o j2 + 0) 1 ((f0.trans f4.f7).trans f7) (by omega) ((va2.fw f4).cong wa2 (by rw [up_ne (by omega)]) (by rw [up_ne (by omega)]) (fun _ _ => rfl)) wa2 ⟨⟨m + 1, by show wst A (wsn A (WI v) m) = _; rw [hm, wst_rp e]⟩, sk4, M4', by show st.length + 1 ≤ (L0 ++ [32]).length; omega⟩ (by omega)
              have pos2 : ¬ nI (q2.2 :: st).length ≤ 0 := pos
              have d2 : ∃ m st y, wsn A (WI v) m = (st, y, L0 ++ [32]) := ⟨m + 1, _, _, by show wst A (wsn A (WI v) m) = _; rw [hm, wst_rp e]⟩
              by_cases gt2 : 400 < (L0 ++ [32]).length
              · exact full116 _ _ _ _ _ _ ((f0.trans f4.f7).trans f7) M4' gt2 d2
              · have nf2 : up h4 7 st.length (nI (o j2)) 0 18 = 0 := by rw [M4'.2.1, if_neg gt2]
                refine g_Mo_write_116 C Rm Q ⟨fun z => absurd z pos, fun _ => ⟨fun _ => g_Mo_write_38 C Rm Q ⟨fun z => absurd z (by decide), fun _ => ⟨fun z => absurd nf2 z, fun _ => w50⟩⟩, fun z => absurd z (by decide)⟩⟩
  have M1 : MW (up (up g 0 17 0) 0 18 0) [] := ⟨by rw [up_at_ne (by omega), up_at]; rfl, by rw [up_at]; rfl, fun i c z => nomatch z⟩
  have f1 : F7 g (up (up g 0 17 0) 0 18 0) := (F7.up0 (Or.inl rfl)).trans (F7.up0 (Or.inr rfl))
  have nf : up (up g 0 17 0) 0 18 0 0 18 = 0 := up_at _ _ _ _
  have kv := (pmF f1).reg hp
  rw [hv] at kv
  have w50 := (both 401).1 [] v [] _ p 1 f1 (by omega) kv hvp ⟨⟨0, rfl⟩, (fun i v z => (nomatch z) : SKm _ A o []), M1, Nat.le_refl _⟩ (by show 401 ≤ 0 + 401; omega)
  exact g_Mo_write_38 C Rm Q ⟨fun z => absurd z (by decide), fun _ => ⟨fun z => absurd nf z, fun _ => w50⟩⟩
