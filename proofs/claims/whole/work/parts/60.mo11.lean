/-! The model's calls: write. -/
theorem atx_VH {A : AS} {v : Vl} (h : VH A v) : atx A v = wtx (wz A v) := by
  match v, h with
  | some (.inl z), _ => rfl
  | some (.inr k), h =>
    obtain ⟨-, z, e⟩ := h
    show (match ao A k with | .inl z => wtx z | .inr t => if t.1 = 4 then [] else wtx (wz A t.2.1) ++ [47] ++ wtx (wz A t.2.2)) = wtx (match ao A k with | .inl z => z | .inr _ => 0)
    rw [e]
theorem atx_fr {A : AS} {k : Nat} {t : Nat × Vl × Vl} (e : ao A k = .inr t) (n : t.1 ≠ 4) : atx A (some (.inr k)) = wtx (wz A t.2.1) ++ [47] ++ wtx (wz A t.2.2) := by
  show (match ao A k with | .inl z => wtx z | .inr t => if t.1 = 4 then [] else wtx (wz A t.2.1) ++ [47] ++ wtx (wz A t.2.2)) = _
  rw [e]
  show (if t.1 = 4 then [] else wtx (wz A t.2.1) ++ [47] ++ wtx (wz A t.2.2)) = _
  rw [if_neg n]
theorem s_sayPlain {h : HP} {A : AS} {o : Nat → Nat} {i : Nat} {v : Vl} {L : List Nat} {Φ : HP → Prop} (P : PM h A o) (w : WF A) (hi : i < 416) (k : VM h o i v) (hv : VW (an A) v) (n4 : vs A v ≠ 4) (M : MW h L) (K : ∀ h2, FW h h2 → MW h2 (L ++ atx A v) → Φ h2) : K_Mo_sayPlain [.ref 0, .int (nI i)] h Φ := by
  have hvs := vs_lt w hv
  refine I_Mo_sayPlain (fun X C Rm Q => g_Mo_sayPlain_0 C Rm Q (s_msortOf P.1 hi k hv ⟨fun q => s_msortOf P.1 hi k hv ?_, fun q => ?_⟩))
  · rw [nI_e0 (by omega)] at q
    rw [show (3 : Int32) = nI 3 from rfl, nI_eq (by omega) (by omega)]
    rcases num_cases w hv q n4 with ⟨n3, hh, -, -⟩ | ⟨j, t, rfl, n3, hj, he, ha, hb, -, -, -⟩
    · rw [atx_VH hh] at K
      exact ⟨fun _ => s_sayWhole P w hi k hh M (fun h2 f2 M2 => K h2 f2 M2), fun z => absurd z n3⟩
    · have et : osrt (ao A j) = 3 := n3
      rw [he] at et
      have et : t.1 = 3 := et
      rw [atx_fr he (by omega)] at K
      have hlj := P.1.lt hj
      have om := P.1.obj hj
      rw [he] at om
      refine ⟨fun z => absurd n3 z, fun _ => ⟨vp_in_nI hi (by omega), ?_⟩⟩
      rw [nI_cl (by omega), k.2]
      refine s_mslot (j := 0) (s_sayWhole (i := 8 + 2 * o j + 0) P w (by omega) om.1 ha M (fun h5 f5 M5 => s_say (c := 47) M5 (by omega) (fun h6 f6 _ M6 => ⟨vp_in_nI hi (by omega), ?_⟩)))
      have f56 := f5.trans f6
      have P6 := FW.pm w P f56
      have om6 := P6.1.obj hj
      rw [he] at om6
      rw [(k.fw f56).2]
      refine s_mslot (j := 1) (s_sayWhole (i := 8 + 2 * o j + 1) P6 w (by omega) (by rw [show 8 + 2 * o j + 1 = 9 + 2 * o j by omega]; exact om6.2) hb M6 (fun h7 f7 M7 => K h7 (f56.trans f7) ?_))
      rw [← List.append_assoc, ← List.append_assoc]
      exact M7
  · rw [nI_e0 (by omega)] at q
    have hv0 : v = none := by
      match v, hv, q with
      | none, _, _ => rfl
      | some (.inl z), _, q => exact absurd q (by show ¬ 1 = 0; omega)
      | some (.inr j), hv, q =>
        have := (osrt_lt (w.2.1 j hv)).1
        have q : osrt (ao A j) = 0 := q
        omega
    subst hv0
    refine s_say (c := 40) M (by omega) (fun h9 f9 _ M9 => s_say (c := 41) M9 (by omega) (fun h10 f10 _ M10 => K h10 (f9.trans f10) ?_))
    rw [List.append_assoc] at M10
    exact M10
/-- the pairs whose second parts are still to be written -/
def SKm (h : HP) (A : AS) (o : Nat → Nat) (st : List Vl) : Prop := ∀ i v, st[i]? = some v → ∃ k q, k < an A ∧ ao A k = .inr (4, q, v) ∧ h 7 (st.length - 1 - i) = nI (o k)
def F7 (h h2 : HP) : Prop := Fr [0, 7, 8, 9, 10, 12, 13] h h2 ∧ (∀ i, i ≠ 17 → i ≠ 18 → h2 0 i = h 0 i) ∧ ∀ q, q ≠ 6 → RWs h h2 q
theorem F7.rf (h : HP) : F7 h h := ⟨Fr.rf _ _, fun _ _ _ => rfl, fun _ _ => ⟨rfl, rfl, fun _ _ => rfl⟩⟩
theorem F7.trans {h h2 h3 : HP} (a : F7 h h2) (b : F7 h2 h3) : F7 h h3 := ⟨a.1.trans b.1, fun i hi hj => (b.2.1 i hi hj).trans (a.2.1 i hi hj), fun q hq => ⟨(b.2.2 q hq).1.trans (a.2.2 q hq).1, (b.2.2 q hq).2.1.trans (a.2.2 q hq).2.1, fun i hi => ((b.2.2 q hq).2.2 i hi).trans ((a.2.2 q hq).2.2 i hi)⟩⟩
theorem FW.f7 {h h2 : HP} (a : FW h h2) : F7 h h2 := ⟨a.1.mono (by simp), a.2.1, a.2.2⟩
theorem F7.up7 {h : HP} {i : Nat} {v : Int32} : F7 h (up h 7 i v) := ⟨(Fr.rf _ _).up (by simp), fun i _ _ => by rw [up_ne (by omega)], fun q _ => ⟨by rw [up_ne (by omega)], by rw [up_ne (by omega)], fun i _ => by rw [up_ne (by omega)]⟩⟩
theorem F7.up0 {h : HP} {i : Nat} {v : Int32} (hi : i = 17 ∨ i = 18) : F7 h (up h 0 i v) := ⟨(Fr.rf _ _).up (by simp), fun j h1 h2 => up_at_ne (by omega), fun q _ => ⟨by rw [up_ne (by omega)], by rw [up_ne (by omega)], fun i _ => by rw [up_ne (by omega)]⟩⟩
theorem F7.pm {h h2 : HP} {A : AS} {o : Nat → Nat} (w : WF A) (P : PM h A o) (f : F7 h h2) : PM h2 A o := by
  have e1 := f.1 1 (by simp)
  have e2 := f.1 2 (by simp)
  refine ⟨P.1.cong w (f.1 3 (by simp)) (f.1 4 (by simp)) (f.1 5 (by simp)) (f.2.1 3 (by omega) (by omega)) (f.2.1 9 (by omega) (by omega)) (f.2.1 10 (by omega) (by omega)) (fun i _ _ => by rw [e1, e2]; exact ⟨rfl, rfl⟩) (fun r h1 _ => f.2.2 r (by omega)), fun r hr => ?_⟩
  exact (P.reg hr).cong (w.2.2 r hr) (by rw [e1]) (by rw [e2]) (fun _ _ => rfl)
theorem SKm.fw {h h2 : HP} {A : AS} {o : Nat → Nat} {st : List Vl} (k : SKm h A o st) (e : h2 7 = h 7) : SKm h2 A o st := fun i v hv => by
  obtain ⟨k, q, a, b, c⟩ := k i v hv
  exact ⟨k, q, a, b, by rw [e]; exact c⟩
theorem SKm.push {h : HP} {A : AS} {o : Nat → Nat} {st : List Vl} {k : Nat} {q : Vl × Vl} (s : SKm h A o st) (hk : k < an A) (he : ao A k = .inr (4, q.1, q.2)) : SKm (up h 7 st.length (nI (o k))) A o (q.2 :: st) := by
  intro i v hv
  match i, hv with
  | 0, hv =>
    cases hv
    refine ⟨k, q.1, hk, he, ?_⟩
    show up h 7 st.length (nI (o k)) 7 (st.length + 1 - 1 - 0) = _
    rw [show st.length + 1 - 1 - 0 = st.length by omega, up_at]
  | i + 1, hv =>
    have hv : st[i]? = some v := hv
    have := (List.getElem?_eq_some_iff.mp hv).1
    obtain ⟨k', q', a, b, c⟩ := s i v hv
    refine ⟨k', q', a, b, ?_⟩
    show up h 7 st.length (nI (o k)) 7 (st.length + 1 - 1 - (i + 1)) = _
    rw [show st.length + 1 - 1 - (i + 1) = st.length - 1 - i by omega, up_at_ne (by omega)]
    exact c
theorem SKm.tail {h : HP} {A : AS} {o : Nat → Nat} {st : List Vl} {b : Vl} (s : SKm h A o (b :: st)) : SKm h A o st := by
  intro i v hv
  obtain ⟨k, q, a, b, c⟩ := s (i + 1) v hv
  have := (List.getElem?_eq_some_iff.mp hv).1
  refine ⟨k, q, a, b, ?_⟩
  rw [← c]
  show h 7 (st.length - 1 - i) = h 7 (st.length + 1 - 1 - (i + 1))
  rw [show st.length + 1 - 1 - (i + 1) = st.length - 1 - i by omega]
def WHm (h : HP) (A : AS) (o : Nat → Nat) (v : Vl) (s : WS) : Prop := (∃ m, wsn A (WI v) m = s) ∧ SKm h A o s.1 ∧ MW h s.2.2 ∧ s.1.length ≤ s.2.2.length
theorem wtx_len (z : Int) : 1 ≤ (wtx z).length := by
  unfold wtx
  rw [List.length_append]
  by_cases q : z = 0
  · rw [if_pos q]
    show 1 ≤ _ + 1
    omega
  · rw [if_neg q, txk_len]
    have : ndg z.natAbs ≠ 0 := by
      intro e
      have hyes := fa_first_yes (fun n => decide (z.natAbs < 10 ^ n)) 200
      have e2 : fa_first (fun n => decide (z.natAbs < 10 ^ n)) 200 = ndg z.natAbs := rfl
      rw [e2, e] at hyes
      have := of_decide_eq_true (hyes (by omega))
      rw [Nat.pow_zero] at this
      omega
    omega
theorem atx_len {A : AS} {v : Vl} (w : WF A) (hv : VW (an A) v) (n4 : vs A v ≠ 4) : 1 ≤ (atx A v).length := by
  by_cases q : vs A v = 0
  · have hv0 : v = none := by
      match v, hv, q with
      | none, _, _ => rfl
      | some (.inl z), _, q => exact absurd q (by show ¬ 1 = 0; omega)
      | some (.inr j), hv, q =>
        have := (osrt_lt (w.2.1 j hv)).1
        have q : osrt (ao A j) = 0 := q
        omega
    subst hv0
    show 1 ≤ 2
    omega
  · rcases num_cases w hv q n4 with ⟨n3, hh, -, -⟩ | ⟨j, t, rfl, n3, hj, he, ha, hb, -, -, -⟩
    · rw [atx_VH hh]
      exact wtx_len _
    · have et : osrt (ao A j) = 3 := n3
      rw [he] at et
      have et : t.1 = 3 := et
      rw [atx_fr he (by omega), List.length_append, List.length_append]
      have := wtx_len (wz A t.2.1)
      omega
