/-! The class' printer: lists, the whole. -/
/-- the lists that are open, the innermost first -/
def SK (h : HP) (A : AS) (st : List Vl) : Prop := h 52 4 = nI st.length ∧ (∀ v, v ∈ st → VW (an A) v) ∧ ∀ i v, st[i]? = some v → h 54 (st.length - 1 - i) = enc A v
theorem SK.pp {h h2 : HP} {A : AS} {st : List Vl} (k : SK h A st) (p : PP h h2) : SK h2 A st := by
  unfold SK
  rw [p.2, p.1 54 (by simp)]
  exact k
def PF (h h2 : HP) : Prop := Fr [52, 53, 54, 55, 56, 57] h h2
theorem PF.pc {h h2 : HP} {A : AS} (P : PC h A) (k : PF h h2) : PC h2 A := P.fr k (by simp) (by simp) (by simp)
theorem PP.pf {h h2 : HP} (p : PP h h2) : PF h h2 := p.1.mono (by simp)
/-- the state of a writing, as the class holds it -/
def WH (h : HP) (A : AS) (v : Vl) (s : WS) : Prop := (∃ m, wsn A (WI v) m = s) ∧ SK h A s.1 ∧ PO h s.2.2 ∧ s.1.length ≤ s.2.2.length
theorem WH.next {A : AS} {v : Vl} {s : WS} (h : ∃ m, wsn A (WI v) m = s) : ∃ m, wsn A (WI v) m = wst A s := by
  obtain ⟨m, e⟩ := h
  exact ⟨m + 1, by show wst A (wsn A (WI v) m) = _; rw [e]⟩
theorem SK.top {h : HP} {A : AS} {b : Vl} {st : List Vl} (k : SK h A (b :: st)) : h 54 st.length = enc A b := by
  have := k.2.2 0 b rfl
  rw [List.length_cons] at this
  exact this
theorem s_closeWith {h : HP} {A : AS} {v b : Vl} {st : List Vl} {L : List Nat} {Φ : HP → Prop} (P : PC h A) (S : WH h A v (b :: st, none, L)) (hb : prO A b = none) (hl : st.length < 401) (K : ∀ h2 L2, PF h h2 → L.length < L2.length → WH h2 A v (st, none, L2) → Φ h2) : K_Pr_closeWith [.ref 52, .ref 15, .int (enc A b)] h Φ := by
  obtain ⟨hr, k, o, le⟩ := S
  have hv := k.2.1 b List.mem_cons_self
  replace le : st.length + 1 ≤ L.length := le
  replace o : PO h L := o
  replace k : SK h A (b :: st) := k
  have pop : ∀ (h2 : HP) (L2 : List Nat), PP h h2 → PO h2 L2 → wst A (b :: st, none, L) = (st, none, L2) → L.length < L2.length → Φ (up h2 52 4 (h2 52 4 - 1)) := by
    intro h2 L2 pp o2 e hlt
    have k2 := k.pp pp
    rw [k2.1, List.length_cons, nI_pred]
    refine K _ L2 ((pp.pf).up (by simp)) hlt ⟨by rw [← e]; exact WH.next hr, ⟨up_at _ _ _ _, fun v hv => k2.2.1 v (List.mem_cons_of_mem _ hv), fun i v hi => ?_⟩, ?_, by show st.length ≤ L2.length; omega⟩
    · rw [up_ne (by omega)]
      have := k2.2.2 (i + 1) v hi
      rw [List.length_cons] at this
      have hi2 := (List.getElem?_eq_some_iff.mp hi).1
      have hi2 : i < st.length := hi2
      show h2 54 (st.length - 1 - i) = _
      rw [show st.length - 1 - i = st.length + 1 - 1 - (i + 1) by omega]
      exact this
    · obtain ⟨a, b', c⟩ := o2
      exact ⟨by rw [up_at_ne (by omega)]; exact a, by rw [up_at_ne (by omega)]; exact b', fun i d hi hd => by rw [up_ne (by omega)]; exact c i d hi hd⟩
  refine I_Pr_closeWith (fun X C Rm Q => g_Pr_closeWith_0 C Rm Q ⟨fun q => ?_, fun q => ?_⟩)
  · have hb0 : b = none := by
      match b, hv, q with
      | none, _, _ => rfl
      | some (.inl z), hv, q => exact absurd q (enc_fix hv).1
      | some (.inr j), hv, q =>
        have hj : j < an A := hv
        exact absurd q (enc_obj (m := ad A j) (by have := P.wf.adl hj; omega)).1
    subst hb0
    exact s_put (c := 41) o (by omega) (fun h2 pp2 _ o2 => pop h2 _ pp2 o2 wst_rn (by simp))
  · match b, hv, q, hb with
    | none, _, q, _ => exact absurd rfl q
    | some x, hv, q, hb =>
      refine s_put (c := 32) o (by omega) (fun h2 pp2 _ o2 => s_put (c := 46) o2 (by omega) (fun h3 pp3 _ o3 => s_put (c := 32) o3 (by omega) (fun h4 pp4 _ o4 => ?_)))
      have pp := (pp2.trans pp3).trans pp4
      refine s_putAtom (pp.pc P) hv o4 (fun h5 pp5 o5 => ?_)
      rw [if_neg (prO_none hb)] at o5
      refine s_put (c := 41) o5 (by omega) (fun h6 pp6 _ o6 => pop h6 _ ((pp.trans pp5).trans pp6) o6 ?_ ?_)
      · rw [wst_ra hb]
        simp only [List.append_assoc]
        rfl
      · simp only [List.length_append, List.length_singleton]
        omega
theorem s_openPairs {h : HP} {A : AS} {v x : Vl} {st : List Vl} {L : List Nat} {Φ : Int32 → HP → Prop} (P : PC h A) (hx : VW (an A) x) (S : WH h A v (st, some x, L)) (hl : st.length ≤ 401)
    (K : ∀ h2 st2 x2 L2, PF h h2 → VW (an A) x2 → WH h2 A v (st2, some x2, L2) → L.length ≤ L2.length → st2.length ≤ 401 → (prO A x2 = none ∨ 400 < st2.length) → Φ (enc A x2) h2) : K_Pr_openPairs [.ref 52, .ref 15, .int (enc A x)] h Φ := by
  refine I_Pr_openPairs (fun X C Rm Q => g_Pr_openPairs_0 C Rm Q ?_)
  have loop : ∀ (r : Nat) (h0 : HP) (st0 : List Vl) (x0 : Vl) (L0 : List Nat), r + st0.length = 401 → PF h h0 → VW (an A) x0 → WH h0 A v (st0, some x0, L0) → L.length ≤ L0.length → Wg X 0 0 h0 [(0, .ref 52), (1, .ref 15), (2, .int (enc A x)), (3, .int (enc A x0))] [] 2 := by
    intro r
    induction r with
    | zero =>
      intro h0 st0 x0 L0 hr f hx0 S0 hle
      have k : SK h0 A st0 := S0.2.1
      refine g_Pr_openPairs_2 C Rm Q ⟨fun _ => K h0 st0 x0 L0 f hx0 S0 hle (by omega) (Or.inr (by omega)), fun q => absurd ?_ q⟩
      rw [k.1, show (400 : Int32) = nI 400 from rfl, nI_ltI (by omega) (by omega)]
      omega
    | succ r ih =>
      intro h0 st0 x0 L0 hr f hx0 S0 hle
      obtain ⟨hm, k, o, le⟩ := id S0
      replace k : SK h0 A st0 := k
      replace o : PO h0 L0 := o
      replace le : st0.length ≤ L0.length := le
      have P0 := f.pc P
      refine g_Pr_openPairs_2 C Rm Q ⟨fun q => ?_, fun _ => s_sortOf P0 hx0 ?_⟩
      · rw [k.1, show (400 : Int32) = nI 400 from rfl, nI_ltI (by omega) (by omega)] at q
        omega
      · cases hp : prO A x0 with
        | none =>
          have hvs := prO_none hp
          have hvl : vs A x0 < 100 := by
            match x0, hx0 with
            | none, _ => show 0 < 100; omega
            | some (.inl z), _ => show 1 < 100; omega
            | some (.inr j), hx0 =>
              show osrt (ao A j) < 100
              have := (hb_mod (P.wf.2.1 j hx0))
              have := osz_pos (ao A j)
              omega
          refine ⟨fun _ => K h0 st0 x0 L0 f hx0 S0 hle (by omega) (Or.inl hp), fun q => absurd q ?_⟩
          rw [show (4 : Int32) = nI 4 from rfl, nI_eq (by omega) (by omega)]
          exact hvs
        | some p =>
          obtain ⟨j, rfl, he⟩ := prO_some hp
          have hj : j < an A := hx0
          rw [prO_vs hp]
          refine ⟨fun q => absurd rfl q, fun _ => s_put (c := 40) o (by omega) (fun h2 pp2 f2 o2 => ?_)⟩
          have P2 := pp2.pc P0
          have k2 := k.pp pp2
          refine s_secondOf P2.wf hj (P2.obj hj) he ?_
          rw [k2.1]
          refine ⟨vp_in_nI (by omega) (by omega), ?_⟩
          rw [nI_cl (by omega), up_ne (by omega), k2.1, nI_1]
          have f3 : PF h2 (up (up h2 54 st0.length (enc A p.2)) 52 4 (nI (st0.length + 1))) := ((Fr.rf _ _).up (by simp)).up (by simp)
          have P3 := f3.pc P2
          obtain ⟨w1, w2⟩ := prO_VW P.wf hx0 hp
          refine s_firstOf P3.wf hj (P3.obj hj) he ?_
          refine ih _ (p.2 :: st0) p.1 (L0 ++ [40]) (by rw [List.length_cons]; omega) ((f.trans pp2.pf).trans f3) w1 ⟨?_, ⟨?_, ?_, ?_⟩, ?_, ?_⟩ ?_
          · have e : wst A (st0, some (some (.inr j)), L0) = (p.2 :: st0, some p.1, L0 ++ [40]) := wst_vp hp
            rw [← e]
            exact WH.next hm
          · rw [up_at, List.length_cons]
          · intro y hy
            rcases List.mem_cons.mp hy with rfl | hy
            · exact w2
            · exact k.2.1 y hy
          · intro i y hi
            rw [up_ne (by omega), List.length_cons]
            cases i with
            | zero =>
              cases hi
              rw [show st0.length + 1 - 1 - 0 = st0.length by omega, up_at]
            | succ i =>
              have hi2 : st0[i]? = some y := hi
              have hi3 := (List.getElem?_eq_some_iff.mp hi2).1
              rw [up_at_ne (by omega), show st0.length + 1 - 1 - (i + 1) = st0.length - 1 - i by omega]
              exact k2.2.2 i y hi2
          · obtain ⟨a, b, c⟩ := o2
            exact ⟨by rw [up_at_ne (by omega), up_ne (by omega)]; exact a, by rw [up_at_ne (by omega), up_ne (by omega)]; exact b, fun i d hi hd => by rw [up_ne (by omega), up_ne (by omega)]; exact c i d hi hd⟩
          · show (p.2 :: st0).length ≤ (L0 ++ [40]).length
            rw [List.length_cons, List.length_append, List.length_singleton]
            omega
          · rw [List.length_append]
            omega
  exact loop (401 - st.length) h st x L (by omega) (Fr.rf _ _) hx S (Nat.le_refl _)
/-- the output that stands -/
def OUTC (h : HP) (L : List Nat) : Prop := L.length ≤ 400 ∧ h 52 1 = nI L.length ∧ ∀ i c, L[i]? = some c → h 53 i = nI c
theorem s_print {h : HP} {A : AS} {v : Vl} {Φ : Int32 → HP → Prop} (P : PC h A) (hv : VW (an A) v) (K : ∀ h2 res, PF h h2 → WR A v res → OUTC h2 (res.getD []) → Φ (if res.isSome then 1 else 0) h2) : K_Pr_print [.ref 52, .ref 15, .int (enc A v)] h Φ := by
  refine I_Pr_print (fun X C Rm Q => g_Pr_print_0 C Rm Q ?_)
  have f1 : PF h (up (up (up h 52 1 0) 52 2 0) 52 4 0) := (((Fr.rf _ _).up (by simp)).up (by simp)).up (by simp)
  have S1 : WH (up (up (up h 52 1 0) 52 2 0) 52 4 0) A v (WI v) := ⟨⟨0, rfl⟩, ⟨up_at _ _ _ _, fun _ h => (nomatch h), fun i v hi => by simp [WI] at hi⟩, ⟨by rw [up_at_ne (by omega), up_at_ne (by omega), up_at]; rfl, by rw [up_at_ne (by omega), up_at]; rfl, fun i c _ hi => by simp [WI] at hi⟩, Nat.le_refl _⟩
  -- the end
  have fin : ∀ (h0 : HP) (i : Int32) (s : WS), PF h h0 → WH h0 A v s → ((s.1 = [] ∧ s.2.1 = none) ∨ 400 < s.2.2.length) → Wg X 0 0 h0 [(0, .ref 52), (1, .ref 15), (2, .int (enc A v)), (3, .int i)] [] 127 := by
    intro h0 i s f S hs
    obtain ⟨⟨m, hm⟩, k, ⟨o1, o2, o3⟩, le⟩ := S
    obtain ⟨st, x, L⟩ := s
    have o1 : h0 52 1 = nI (min L.length 400) := o1
    have o2 : h0 52 2 = if 400 < L.length then 1 else 0 := o2
    have o3 : ∀ i c, i < 400 → L[i]? = some c → h0 53 i = nI c := o3
    refine g_Pr_print_127 C Rm Q ⟨fun q => ?_, fun q => ?_⟩
    · have hle : L.length ≤ 400 := by
        rw [o2] at q
        refine Nat.le_of_not_lt (fun z => ?_)
        rw [if_pos z] at q
        exact absurd q (by decide)
      refine ⟨fun q2 => absurd q q2, fun _ => ?_⟩
      rcases hs with ⟨a, b⟩ | hs
      · have a : st = [] := a
        have b : x = none := b
        subst a
        subst b
        refine K h0 (some L) f (Or.inl ⟨m, L, hm, hle, rfl⟩) ⟨hle, ?_, fun i c hc => o3 i c ?_ hc⟩
        · rw [o1]
          congr 1
          exact Nat.min_eq_left hle
        · have := (List.getElem?_eq_some_iff.mp hc).1
          have : i < L.length := this
          omega
      · have hs : 400 < L.length := hs
        omega
    · have hgt : 400 < L.length := by
        rw [o2] at q
        refine Nat.lt_of_not_le (fun z => ?_)
        rw [if_neg (by omega)] at q
        exact absurd rfl q
      rw [up_at_ne (by omega)]
      refine ⟨fun _ => ?_, fun q2 => absurd q2 q⟩
      exact K _ none (f.up (by simp)) (Or.inr ⟨m, st, x, L, hm, hgt, rfl⟩) ⟨Nat.zero_le _, up_at _ _ _ _, fun i c hc => by simp at hc⟩
  -- behind the opening of a value
  have opened : ∀ (h0 : HP) (st0 : List Vl) (x0 : Vl) (L0 : List Nat) (Ψ : HP → Prop), PF h h0 → VW (an A) x0 → WH h0 A v (st0, some x0, L0) → st0.length ≤ 401 → (prO A x0 = none ∨ 400 < st0.length) → (∀ h2 s, PF h h2 → WH h2 A v s → (s.2.1 = none ∨ 400 < s.2.2.length) → s.1.length ≤ 401 → L0.length ≤ s.2.2.length → Ψ h2) → K_Pr_putAtom [.ref 52, .ref 15, .int (enc A x0)] h0 Ψ := by
    intro h0 st0 x0 L0 Ψ f hx0 S0 hl hc kk
    obtain ⟨hm, k, o, le⟩ := id S0
    have P0 := f.pc P
    refine s_putAtom P0 hx0 o (fun h2 pp2 o2 => ?_)
    by_cases q : vs A x0 = 4
    · rw [if_pos q] at o2
      have hgt : 400 < st0.length := by
        rcases hc with hc | hc
        · exact absurd q (prO_none hc)
        · exact hc
      replace le : st0.length ≤ L0.length := le
      exact kk h2 (st0, some x0, L0) (f.trans pp2.pf) ⟨hm, k.pp pp2, o2, le⟩ (Or.inr (by show 400 < L0.length; omega)) hl (Nat.le_refl _)
    · rw [if_neg q] at o2
      have hp : prO A x0 = none := by
        cases hp : prO A x0 with
        | none => rfl
        | some p => exact absurd (prO_vs hp) q
      have e : wst A (st0, some x0, L0) = (st0, none, L0 ++ atx A x0) := wst_va hp
      replace le : st0.length ≤ L0.length := le
      refine kk h2 (st0, none, L0 ++ atx A x0) (f.trans pp2.pf) ⟨by rw [← e]; exact WH.next hm, k.pp pp2, o2, ?_⟩ (Or.inl rfl) hl ?_
      · show st0.length ≤ (L0 ++ atx A x0).length
        rw [List.length_append]
        omega
      · show L0.length ≤ (L0 ++ atx A x0).length
        rw [List.length_append]
        omega
  have loop : ∀ (r i : Nat) (h0 : HP) (s : WS), r + i = 401 → PF h h0 → WH h0 A v s → (s.2.1 = none ∨ 400 < s.2.2.length) → s.1.length ≤ 401 → i ≤ s.2.2.length → Wg X 0 0 h0 [(0, .ref 52), (1, .ref 15), (2, .int (enc A v)), (3, .int (nI i))] [] 28 := by
    intro r
    induction r with
    | zero =>
      intro i h0 s hi f S hs hl hle
      refine g_Pr_print_28 C Rm Q ⟨fun _ => fin h0 _ s f S (Or.inr (by omega)), fun q => absurd ?_ q⟩
      rw [show (400 : Int32) = nI 400 from rfl, nI_ltI (by omega) (by omega)]
      omega
    | succ r ih =>
      intro i h0 s hi f S hs hl hle
      obtain ⟨hm, k, o, le⟩ := id S
      obtain ⟨st, x, L⟩ := s
      replace k : SK h0 A st := k
      replace o : PO h0 L := o
      replace hl : st.length ≤ 401 := hl
      replace le : st.length ≤ L.length := le
      replace hle : i ≤ L.length := hle
      have P0 := f.pc P
      refine g_Pr_print_28 C Rm Q ⟨fun q => ?_, fun _ => ⟨fun q => ?_, fun q => ⟨fun q2 => ?_, fun q2 => ?_⟩⟩⟩
      · rw [show (400 : Int32) = nI 400 from rfl, nI_ltI (by omega) (by omega)] at q
        omega
      · rw [k.1, nI_le0 (by omega)] at q
        have q : st = [] := List.eq_nil_of_length_eq_zero q
        refine fin h0 _ (st, x, L) f S ?_
        rcases hs with hs | hs
        · exact Or.inl ⟨q, hs⟩
        · exact Or.inr hs
      · refine fin h0 _ (st, x, L) f S (Or.inr ?_)
        rw [o.2.1] at q2
        show 400 < L.length
        refine Nat.lt_of_not_le (fun z => ?_)
        rw [if_neg (by omega)] at q2
        exact absurd rfl q2
      · have hle4 : L.length ≤ 400 := by
          rw [o.2.1] at q2
          refine Nat.le_of_not_lt (fun z => ?_)
          rw [if_pos z] at q2
          exact absurd q2 (by decide)
        have hx : x = none := by
          rcases hs with hs | hs
          · exact hs
          · have hs : 400 < L.length := hs
            omega
        subst hx
        rw [k.1, nI_le0 (by omega)] at q
        obtain ⟨b, st, rfl⟩ : ∃ b st', st = b :: st' := by
          cases st with
          | nil => exact absurd rfl q
          | cons b st => exact ⟨b, st, rfl⟩
        rw [List.length_cons] at hl le
        have hb := k.2.1 b List.mem_cons_self
        rw [k.1, List.length_cons, nI_pred]
        refine ⟨vp_in_nI (by omega) (by omega), ?_⟩
        rw [nI_cl (by omega), k.top]
        refine s_sortOf P0 hb ?_
        cases hp : prO A b with
        | none =>
          have hvs := prO_none hp
          have hvl : vs A b < 100 := by
            match b, hb with
            | none, _ => show 0 < 100; omega
            | some (.inl z), _ => show 1 < 100; omega
            | some (.inr j), hb =>
              show osrt (ao A j) < 100
              have := (hb_mod (P.wf.2.1 j hb))
              omega
          refine ⟨fun _ => s_closeWith P0 S hp (by omega) (fun h2 L2 f2 hlt S2 => ?_), fun q => absurd q ?_⟩
          · rw [nI_1]
            exact ih (i + 1) h2 _ (by omega) (f.trans f2) S2 (Or.inl rfl) (by show st.length ≤ 401; omega) (by show i + 1 ≤ L2.length; omega)
          · rw [show (4 : Int32) = nI 4 from rfl, nI_eq (by omega) (by omega)]
            exact hvs
        | some p =>
          rw [prO_vs hp]
          refine ⟨fun q => absurd rfl q, fun _ => s_put (c := 32) o (by omega) (fun h2 pp2 f2 o2 => ?_)⟩
          obtain ⟨j, hbj, he⟩ := prO_some hp
          subst hbj
          have hj : j < an A := hb
          have P2 := pp2.pc P0
          have k2 := k.pp pp2
          refine s_secondOf P2.wf hj (P2.obj hj) he ?_
          rw [k2.1, List.length_cons, nI_pred]
          refine ⟨vp_in_nI (by omega) (by omega), ?_⟩
          rw [nI_cl (by omega)]
          have f3 : PF h2 (up h2 54 st.length (enc A p.2)) := (Fr.rf _ _).up (by simp)
          have P3 := f3.pc P2
          obtain ⟨w1, w2⟩ := prO_VW P.wf hb hp
          refine s_firstOf P3.wf hj (P3.obj hj) he ?_
          have S3 : WH (up h2 54 st.length (enc A p.2)) A v (p.2 :: st, some p.1, L ++ [32]) := by
            refine ⟨?_, ⟨?_, ?_, ?_⟩, ?_, ?_⟩
            · have e : wst A (some (.inr j) :: st, none, L) = (p.2 :: st, some p.1, L ++ [32]) := wst_rp hp
              rw [← e]
              exact WH.next hm
            · rw [up_ne (by omega)]
              exact k2.1
            · intro y hy
              rcases List.mem_cons.mp hy with rfl | hy
              · exact w2
              · exact k.2.1 y (List.mem_cons_of_mem _ hy)
            · intro i y hi
              show up h2 54 st.length (enc A p.2) 54 (st.length + 1 - 1 - i) = _
              cases i with
              | zero =>
                cases hi
                rw [show st.length + 1 - 1 - 0 = st.length by omega, up_at]
              | succ i =>
                have hi2 : st[i]? = some y := hi
                have hi3 := (List.getElem?_eq_some_iff.mp hi2).1
                rw [up_at_ne (by omega)]
                exact k2.2.2 (i + 1) y hi2
            · obtain ⟨a, b, c⟩ := o2
              exact ⟨by rw [up_ne (by omega)]; exact a, by rw [up_ne (by omega)]; exact b, fun i d hi hd => by rw [up_ne (by omega)]; exact c i d hi hd⟩
            · show st.length + 1 ≤ (L ++ [32]).length
              rw [List.length_append]
              omega
          have f03 := (f.trans pp2.pf).trans f3
          refine s_openPairs P3 w1 S3 (by show st.length + 1 ≤ 401; omega) (fun h4 st4 x4 L4 f4 hx4 S4 hle4' hl4 hc4 => ?_)
          refine opened h4 st4 x4 L4 _ (f03.trans f4) hx4 S4 hl4 hc4 (fun h5 s5 f5 S5 hs5 hl5 hle5 => ?_)
          rw [nI_1]
          refine ih (i + 1) h5 s5 (by omega) f5 S5 hs5 hl5 ?_
          rw [List.length_append, List.length_singleton] at hle4'
          omega
  refine s_openPairs (f1.pc P) hv S1 (Nat.zero_le _) (fun h2 st2 x2 L2 f2 hx2 S2 hle hl2 hc => ?_)
  exact opened h2 st2 x2 L2 _ (f1.trans f2) hx2 S2 hl2 hc (fun h3 s3 f3 S3 hs3 hl3 _ => loop 401 0 h3 s3 rfl f3 S3 hs3 hl3 (Nat.zero_le _))
