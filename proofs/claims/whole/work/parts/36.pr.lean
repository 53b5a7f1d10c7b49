/-! The class' printer. -/
/-- what has been put: the text as far as it goes, whether it goes further -/
def PO (h : HP) (L : List Nat) : Prop := h 52 1 = nI (min L.length 400) ∧ h 52 2 = (if 400 < L.length then 1 else 0) ∧ ∀ i c, i < 400 → L[i]? = some c → h 53 i = nI c
def PP (h h2 : HP) : Prop := Fr [52, 53, 55, 56, 57] h h2 ∧ h2 52 4 = h 52 4
theorem PP.rf (h : HP) : PP h h := ⟨Fr.rf _ _, rfl⟩
theorem PP.trans {h h2 h3 : HP} (a : PP h h2) (b : PP h2 h3) : PP h h3 := ⟨a.1.trans b.1, b.2.trans a.2⟩
theorem PP.pc {h h2 : HP} {A : AS} (P : PC h A) (k : PP h h2) : PC h2 A := P.fr k.1 (by simp) (by simp) (by simp)
theorem PO.cong {h h2 : HP} {L : List Nat} (P : PO h L) (a : h2 52 = h 52) (b : h2 53 = h 53) : PO h2 L := by
  unfold PO
  rw [a, b]
  exact P
theorem s_put {h : HP} {L : List Nat} {c : Nat} {Φ : HP → Prop} (P : PO h L) (hc : c < 65536) (K : ∀ h2, PP h h2 → Fr [52, 53] h h2 → PO h2 (L ++ [c]) → Φ h2) : K_Pr_put [.ref 52, .int (nI c)] h Φ := by
  refine I_Pr_put (fun X C Rm Q => g_Pr_put_0 C Rm Q ?_)
  obtain ⟨p1, p2, p3⟩ := id P
  have hm : min L.length 400 ≤ 400 := Nat.min_le_right _ _
  have hl : (L ++ [c]).length = L.length + 1 := by rw [List.length_append, List.length_singleton]
  rw [p1, show (400 : Int32) = nI 400 from rfl, nI_leI (by omega) (by omega)]
  refine ⟨fun q => ?_, fun q => ⟨vp_in_nI (by omega) (by omega), ?_⟩⟩
  · have f : Fr [52, 53] h (up h 52 2 1) := (Fr.rf _ _).up (by simp)
    refine K _ ⟨f.mono (by simp), up_at_ne (by omega)⟩ f ⟨?_, ?_, ?_⟩
    · rw [up_at_ne (by omega), p1, hl]
      congr 1
      omega
    · rw [up_at, hl, if_pos (by omega)]
    · intro i d hi hd
      rw [up_ne (by omega)]
      rcases get_app.mp hd with ⟨a, b⟩ | ⟨rfl, rfl⟩
      · exact p3 i d hi b
      · omega
  · rw [nI_cl (by omega), nar_c hc, up_ne (by omega), p1, nI_1]
    have f : Fr [52, 53] h (up (up h 53 (min L.length 400) (nI c)) 52 1 (nI (min L.length 400 + 1))) := ((Fr.rf _ _).up (by simp)).up (by simp)
    refine K _ ⟨f.mono (by simp), by rw [up_at_ne (by omega), up_ne (by omega)]⟩ f ⟨?_, ?_, ?_⟩
    · rw [up_at, hl]
      congr 1
      omega
    · rw [up_at_ne (by omega), up_ne (by omega), p2, hl, if_neg (by omega), if_neg (by omega)]
    · intro i d hi hd
      rw [up_ne (by omega)]
      rcases get_app.mp hd with ⟨a, b⟩ | ⟨rfl, rfl⟩
      · rw [up_at_ne (by omega)]
        exact p3 i d hi b
      · rw [show min L.length 400 = L.length by omega, up_at]
theorem s_fillChunk {h : HP} {b c : Nat} {Φ : HP → Prop} (hb : b + 9 ≤ 198) (hc : c < 1000000000) (K : ∀ h2, Fr [57] h h2 → (∀ i, i < 9 → h2 57 (b + 8 - i) = nI (48 + c / 10 ^ i % 10)) → (∀ j, j < b ∨ b + 9 ≤ j → h2 57 j = h 57 j) → Φ h2) : K_Pr_fillChunk [.ref 52, .int (nI b), .int (nI c)] h Φ := by
  refine I_Pr_fillChunk (fun X C Rm Q => g_Pr_fillChunk_0 C Rm Q ?_)
  rw [show (9 : Int32) = nI 9 from rfl, nI_add]
  have loop : ∀ (r i : Nat) (h0 : HP), r + i = 9 → Fr [57] h h0 → (∀ j, j < i → h0 57 (b + 8 - j) = nI (48 + c / 10 ^ j % 10)) → (∀ j, j < b ∨ b + 9 ≤ j → h0 57 j = h 57 j) → Wg X 0 0 h0 [(0, .ref 52), (1, .int (nI b)), (2, .int (nI c)), (3, .int (nI (c / 10 ^ i))), (4, .int (nI (b + r) - 1))] [] 10 := by
    intro r
    induction r with
    | zero =>
      intro i h0 hi f d o
      have g := K h0 f (fun j hj => d j (by omega)) o
      refine g_Pr_fillChunk_10 C Rm Q ⟨fun _ => g, fun q => absurd ?_ q⟩
      rw [Nat.add_zero, Int32.lt_iff_toInt_lt]
      cases b with
      | zero => decide
      | succ b =>
        rw [nI_pred, nI_toInt (by omega), nI_toInt (by omega)]
        omega
    | succ r ih =>
      intro i h0 hi f d o
      rw [show b + (r + 1) = b + r + 1 by omega, nI_pred]
      refine g_Pr_fillChunk_10 C Rm Q ⟨fun q => ?_, fun _ => ⟨vp_in_nI (by omega) (by omega), ?_⟩⟩
      · rw [nI_ltI (by omega) (by omega)] at q
        omega
      · have hlt : c / 10 ^ i ≤ c := Nat.div_le_self _ _
        rw [nI_cl (by omega), show (10 : Int32) = nI 10 from rfl, pk_rem (by omega) (by omega) (by omega), pk_div (by omega) (by omega) (by omega), show (48 : Int32) = nI 48 from rfl, nI_add, i2c_c (by omega), nar_c (by omega), Nat.div_div_eq_div_mul, ← Nat.pow_succ, sub1]
        refine ih (i + 1) _ (by omega) (f.up (by simp)) (fun j hj => ?_) (fun j hj => by rw [up_at_ne (by omega)]; exact o j hj)
        by_cases q : j = i
        · subst q
          rw [show b + 8 - j = b + r by omega, up_at]
        · rw [up_at_ne (by omega)]
          exact d j (by omega)
  have := loop 9 0 h rfl (Fr.rf _ _) (fun j hj => absurd hj (by omega)) (fun _ _ => rfl)
  rw [Nat.pow_zero, Nat.div_one] at this
  exact this
theorem txk_succ (m n : Nat) : txk m (n + 1) = (48 + m / 10 ^ n % 10) :: txk m n := rfl
set_option maxHeartbeats 4000000 in
theorem s_putWhole {h : HP} {A : AS} {v : Vl} {L : List Nat} {Φ : HP → Prop} (P : PC h A) (hv : VH A v) (hg : gc 32 (wz A v).natAbs ≤ 20) (O : PO h L) (K : ∀ h2, PP h h2 → PO h2 (L ++ wtx (wz A v)) → Φ h2) : K_Pr_putWhole [.ref 52, .ref 15, .int (enc A v)] h Φ := by
  refine I_Pr_putWhole (fun X C Rm Q => g_Pr_putWhole_0 C Rm Q (s_fetchWhole P hv rfl (fun h1 f1 w1 => ?_)))
  have pp1 : PP h h1 := ⟨f1.mono (by simp), by rw [f1 52 (by simp)]⟩
  have O1 : PO h1 L := O.cong (f1 52 (by simp)) (f1 53 (by simp))
  generalize hz : wz A v = z at *
  have hm := gc_dec hg
  -- from the digits
  have c107 : ∀ (n : Nat) (b0 : Int32) (h0 : HP) (L0 : List Nat), n ≤ 198 → PP h h0 → PO h0 L0 → (∀ p, p < n → h0 57 (197 - p) = nI (48 + z.natAbs / 10 ^ p % 10)) → (∀ h2, PP h h2 → PO h2 (L0 ++ txk z.natAbs n) → Φ h2) → Wg X 0 0 h0 [(0, .ref 52), (1, .ref 15), (2, .int (enc A v)), (3, .int b0), (4, .int (nI (198 - n)))] [] 107 := by
    intro n
    induction n with
    | zero =>
      intro b0 h0 L0 _ pp o _ kk
      refine g_Pr_putWhole_107 C Rm Q ⟨fun _ => kk h0 pp (by rw [show txk z.natAbs 0 = [] from rfl, List.append_nil]; exact o), fun q => absurd ?_ q⟩
      decide
    | succ n ih =>
      intro b0 h0 L0 hn pp o d kk
      refine g_Pr_putWhole_107 C Rm Q ⟨fun q => ?_, fun _ => ⟨vp_in_nI (by omega) (by omega), ?_⟩⟩
      · rw [show (198 : Int32) = nI 198 from rfl, nI_leI (by omega) (by omega)] at q
        omega
      · rw [nI_cl (by omega), show 198 - (n + 1) = 197 - n by omega, d n (by omega)]
        refine s_put o (by omega) (fun h2 pp2 f2 o2 => ?_)
        rw [nI_1, show 197 - n + 1 = 198 - n by omega]
        refine ih b0 h2 _ (by omega) (pp.trans pp2) o2 (fun p hp => by rw [f2 57 (by simp)]; exact d p (by omega)) (fun h3 pp3 o3 => kk h3 pp3 ?_)
        rw [List.append_assoc] at o3
        exact o3
  -- the sign is put: what is owed
  have main : ∀ (L0 : List Nat) (h0 : HP), PP h h0 → PO h0 L0 → WN h0 55 z → (∀ h2, PP h h2 → PO h2 (L0 ++ (if z = 0 then [48] else txk z.natAbs (ndg z.natAbs))) → Φ h2) → Wg X 0 0 h0 [(0, .ref 52), (1, .ref 15), (2, .int (enc A v)), (3, .int 198)] [] 29 := by
    intro L0 h0 pp0 o0 w0 kk
    -- after the chunks: so many digits stand there
    have c67 : ∀ (n : Nat) (h2 : HP), n ≤ 198 → PP h h2 → PO h2 L0 → (∀ p, p < n → h2 57 (197 - p) = nI (48 + z.natAbs / 10 ^ p % 10)) → z.natAbs < 10 ^ n → Wg X 0 0 h2 [(0, .ref 52), (1, .ref 15), (2, .int (enc A v)), (3, .int (nI (198 - n)))] [] 67 := by
      intro n
      induction n with
      | zero =>
        intro h2 _ pp o _ hlt
        have hz0 : z = 0 := by
          rw [Nat.pow_zero] at hlt
          omega
        refine g_Pr_putWhole_67 C Rm Q ⟨fun _ => ⟨fun q => absurd (by decide) q, fun _ => ?_⟩, fun q => absurd (by decide) q⟩
        refine s_put (c := 48) o (by omega) (fun h3 pp3 f3 o3 => ?_)
        refine c107 0 _ h3 _ (by omega) (pp.trans pp3) o3 (fun p q => absurd q (by omega)) (fun h4 pp4 o4 => kk h4 pp4 ?_)
        rw [if_pos hz0]
        rw [show txk z.natAbs 0 = [] from rfl, List.append_nil] at o4
        exact o4
      | succ n ih =>
        intro h2 hn pp o d hlt
        refine g_Pr_putWhole_67 C Rm Q ⟨fun q => ?_, fun _ => ⟨vp_in_nI (by omega) (by omega), ?_⟩⟩
        · rw [show (198 : Int32) = nI 198 from rfl, nI_leI (by omega) (by omega)] at q
          omega
        · rw [nI_cl (by omega)]
          rw [show 198 - (n + 1) = 197 - n by omega, d n (by omega), show (48 : Int32) = nI 48 from rfl, nI_eq (by omega) (by omega), show (198 : Int32) = nI 198 from rfl, nI_eq (by omega) (by omega), nI_1, show 197 - n + 1 = 198 - n by omega]
          have hdiv : z.natAbs / 10 ^ n < 10 := by
            rw [Nat.pow_succ] at hlt
            exact Nat.div_lt_of_lt_mul hlt
          refine ⟨fun q => ⟨fun _ => ?_, fun q2 => absurd q2 (by omega)⟩, fun q => ?_⟩
          · have h10 : 10 ^ n ≤ z.natAbs := by
              refine Nat.le_of_not_lt (fun q2 => q ?_)
              rw [Nat.div_eq_of_lt q2]
            have hp : 0 < 10 ^ n := Nat.pow_pos (by decide)
            have hz0 : z ≠ 0 := by
              intro q2
              rw [q2] at h10
              have : 10 ^ n ≤ 0 := h10
              omega
            have hnd : ndg z.natAbs = n + 1 := ndg_eq h10 hlt (by omega)
            have g := c107 (n + 1) (nI (197 - n)) h2 L0 (by omega) pp o d (fun h3 pp3 o3 => kk h3 pp3 (by
              rw [if_neg hz0, hnd]
              exact o3))
            rw [show 198 - (n + 1) = 197 - n by omega] at g
            exact g
          · refine ih h2 (by omega) pp o (fun p hp => d p (by omega)) ?_
            have : z.natAbs / 10 ^ n = 0 := by
              generalize z.natAbs / 10 ^ n = t at q hdiv
              omega
            rcases Nat.lt_or_ge z.natAbs (10 ^ n) with q2 | q2
            · exact q2
            · have := Nat.div_pos q2 (Nat.pow_pos (by decide))
              omega
    -- the chunks
    have c29 : ∀ (r j : Nat) (h2 : HP), r + j = 22 → PP h h2 → PO h2 L0 → (∀ p, p < 9 * j → h2 57 (197 - p) = nI (48 + z.natAbs / 10 ^ p % 10)) → (∃ y : Int, y.natAbs = z.natAbs / 10 ^ (9 * j) ∧ WN h2 55 y) → Wg X 0 0 h2 [(0, .ref 52), (1, .ref 15), (2, .int (enc A v)), (3, .int (nI (198 - 9 * j)))] [] 29 := by
      intro r
      induction r with
      | zero =>
        intro j h2 hj pp o d _
        have e : j = 22 := by omega
        subst e
        refine g_Pr_putWhole_29 C Rm Q ⟨fun _ => ?_, fun q => absurd (by decide) q⟩
        exact c67 198 h2 (by omega) pp o d (Nat.lt_of_lt_of_le hm (Nat.pow_le_pow_right (by decide) (by omega)))
      | succ r ih =>
        intro j h2 hj pp o d hy
        obtain ⟨y, hy, wy⟩ := hy
        refine g_Pr_putWhole_29 C Rm Q ⟨fun q => ?_, fun _ => s_isZero rfl wy ⟨fun q => ?_, fun q => ?_⟩⟩
        · rw [show (9 : Int32) = nI 9 from rfl, nI_ltI (by omega) (by omega)] at q
          omega
        · have y0 : y = 0 := by
            by_cases q2 : y = 0
            · exact q2
            · rw [if_neg q2] at q; exact absurd rfl q
          rw [y0] at hy
          have hy0 : z.natAbs / 10 ^ (9 * j) = 0 := hy.symm
          refine c67 (9 * j) h2 (by omega) pp o d ?_
          rcases Nat.lt_or_ge z.natAbs (10 ^ (9 * j)) with q2 | q2
          · exact q2
          · have := Nat.div_pos q2 (Nat.pow_pos (by decide))
            omega
        · refine s_divWord (D := 1000000000) rfl wy (by omega) (by omega) (fun h3 f3 w3 => ?_)
          have hmod : y.natAbs % 1000000000 < 1000000000 := Nat.mod_lt _ (by decide)
          rw [show nI (198 - 9 * j) + (-9) = nI (198 - 9 * (j + 1)) from by rw [← Int32.sub_eq_add_neg, nI_subn _ 9 (by omega) 9 rfl]; congr 1, lN_i]
          refine s_fillChunk (by omega) hmod (fun h4 f4 d4 o4 => ?_)
          have pp4 : PP h2 h4 := ⟨(f3.mono (by simp)).trans (f4.mono (by simp)), by rw [f4 52 (by simp), f3 52 (by simp)]⟩
          refine ih (j + 1) h4 (by omega) (pp.trans pp4) (o.cong (by rw [f4 52 (by simp), f3 52 (by simp)]) (by rw [f4 53 (by simp), f3 53 (by simp)])) (fun p hp => ?_) ⟨_, ?_, w3.fr f4 (by simp) (by simp)⟩
          · by_cases q2 : p < 9 * j
            · rw [o4 (197 - p) (by omega), f3 57 (by simp)]
              exact d p q2
            · have e1 := d4 (p - 9 * j) (by omega)
              rw [show 198 - 9 * (j + 1) + 8 - (p - 9 * j) = 197 - p by omega] at e1
              rw [e1, hy]
              congr 2
              have e2 : p = 9 * j + (p - 9 * j) := by omega
              generalize p - 9 * j = t at *
              subst e2
              have ht : t < 9 := by omega
              rw [Nat.pow_add, ← Nat.div_div_eq_div_mul]
              generalize z.natAbs / 10 ^ (9 * j) = w
              have e3 : (1000000000 : Nat) = 10 ^ t * (10 * 10 ^ (8 - t)) := by
                rw [← Nat.pow_succ', ← Nat.pow_add, show t + (8 - t).succ = 9 by omega]
              rw [e3, Nat.mod_mul_right_div_self, Nat.mod_mul_right_mod]
          · rw [nab', hy, Nat.div_div_eq_div_mul]
            congr 1
            rw [show 9 * (j + 1) = 9 * j + 9 by omega, Nat.pow_add]
    exact c29 22 0 h0 rfl pp0 o0 (fun p hp => absurd hp (by omega)) ⟨z, by rw [Nat.mul_zero, Nat.pow_zero, Nat.div_one], w0⟩
  refine ⟨fun q => ?_, fun q => ?_⟩
  · rw [w1.sg, sg_ne] at q
    refine main L h1 pp1 O1 w1 (fun h2 pp2 o2 => K h2 pp2 ?_)
    unfold wtx
    rw [if_neg (by omega), List.nil_append]
    exact o2
  · rw [w1.sg, sg_ne] at q
    refine s_put (c := 45) O1 (by omega) (fun h2 pp2 f2 o2 => ?_)
    refine main (L ++ [45]) h2 (pp1.trans pp2) o2 (w1.fr f2 (by simp) (by simp)) (fun h3 pp3 o3 => K h3 pp3 ?_)
    unfold wtx
    rw [if_pos (show z < 0 by omega)]
    rw [List.append_assoc] at o3
    exact o3
theorem prO_some {A : AS} {v : Vl} {p : Vl × Vl} (h : prO A v = some p) : ∃ k, v = some (.inr k) ∧ ao A k = .inr (4, p.1, p.2) := by
  match v, h with
  | none, h => cases h
  | some (.inl z), h => cases h
  | some (.inr k), h =>
    refine ⟨k, rfl, ?_⟩
    have h : (match ao A k with | .inr t => if t.1 = 4 then some t.2 else none | .inl _ => none) = some p := h
    generalize ao A k = o at h
    match o, h with
    | .inl z, h => cases h
    | .inr (s, a, b), h =>
      by_cases q : s = 4
      · have h : (if s = 4 then some (a, b) else none) = some p := h
        rw [if_pos q] at h
        cases h
        rw [q]
      · have h : (if s = 4 then some (a, b) else none) = some p := h
        rw [if_neg q] at h
        cases h
theorem prO_vs {A : AS} {v : Vl} {p : Vl × Vl} (h : prO A v = some p) : vs A v = 4 := by
  obtain ⟨k, rfl, e⟩ := prO_some h
  show osrt (ao A k) = 4
  rw [e]
  rfl
theorem prO_none {A : AS} {v : Vl} (h : prO A v = none) : vs A v ≠ 4 := by
  intro q
  match v, h, q with
  | none, _, q => exact absurd q (by show ¬ 0 = 4; omega)
  | some (.inl z), _, q => exact absurd q (by show ¬ 1 = 4; omega)
  | some (.inr k), h, q =>
    have h : (match ao A k with | .inr t => if t.1 = 4 then some t.2 else none | .inl _ => none) = none := h
    have q : osrt (ao A k) = 4 := q
    generalize ao A k = o at h q
    match o, h, q with
    | .inl z, _, q => exact absurd q (by show ¬ 2 = 4; omega)
    | .inr (s, a, b), h, q =>
      have q : s = 4 := q
      have h : (if s = 4 then some (a, b) else none) = none := h
      rw [if_pos q] at h
      cases h
theorem prO_VW {A : AS} {v : Vl} {p : Vl × Vl} (w : WF A) (hv : VW (an A) v) (h : prO A v = some p) : VW (an A) p.1 ∧ VW (an A) p.2 := by
  obtain ⟨k, rfl, e⟩ := prO_some h
  have o := w.2.1 k hv
  rw [e] at o
  rcases o with ⟨-, a, b⟩ | ⟨z, -⟩
  · exact ⟨a, b⟩
  · exact absurd z (by show ¬ 4 = 3; omega)
theorem VH.gcB {A : AS} {v : Vl} (w : WF A) (h : VH A v) : gc 32 (wz A v).natAbs ≤ 20 := by
  match v, h with
  | some (.inl z), h =>
    show gc 32 z.natAbs ≤ 20
    rw [gc_le (by omega)]
    have : z.natAbs < 2 ^ 32 := by
      have := h.1
      have := h.2
      omega
    exact Nat.lt_of_lt_of_le this (Nat.pow_le_pow_right (by decide) (by omega))
  | some (.inr k), h =>
    obtain ⟨hk, z, hz⟩ := h
    have o := w.2.1 k hk
    have e : wz A (some (.inr k)) = z := by show (match ao A k with | .inl z => z | .inr _ => 0) = z; rw [hz]
    rw [e]
    rw [hz] at o
    exact o.2
theorem s_putAtom {h : HP} {A : AS} {v : Vl} {L : List Nat} {Φ : HP → Prop} (P : PC h A) (hv : VW (an A) v) (O : PO h L) (K : ∀ h2, PP h h2 → PO h2 (if vs A v = 4 then L else L ++ atx A v) → Φ h2) : K_Pr_putAtom [.ref 52, .ref 15, .int (enc A v)] h Φ := by
  refine I_Pr_putAtom (fun X C Rm Q => g_Pr_putAtom_0 C Rm Q (s_sortOf P hv ?_))
  match v, hv, K with
  | none, _, K =>
    refine ⟨fun q => absurd rfl q, fun _ => s_put (c := 40) O (by omega) (fun h2 pp2 _ o2 => s_put (c := 41) o2 (by omega) (fun h3 pp3 _ o3 => K h3 (pp2.trans pp3) ?_))⟩
    rw [List.append_assoc] at o3
    exact o3
  | some (.inl z), hv, K =>
    refine ⟨fun _ => ⟨fun _ => ⟨fun q => absurd q (show ¬ (1 : Int32) = 4 by decide), fun _ => ?_⟩, fun q => absurd q (show ¬ (1 : Int32) = 3 by decide)⟩, fun q => absurd q (show ¬ (1 : Int32) = 0 by decide)⟩
    have hh : VH A (some (.inl z)) := hv
    exact s_putWhole P hh (hh.gcB P.wf) O (fun h2 pp2 o2 => K h2 pp2 o2)
  | some (.inr k), hv, K =>
    have hk : k < an A := hv
    have wo := P.wf.2.1 k hk
    have e1 : vs A (some (.inr k)) = osrt (ao A k) := rfl
    have e2 : atx A (some (.inr k)) = match ao A k with | .inl z => wtx z | .inr t => if t.1 = 4 then [] else wtx (wz A t.2.1) ++ [47] ++ wtx (wz A t.2.2) := rfl
    rw [e1, e2] at K
    rw [e1]
    generalize he : ao A k = o at *
    match o, he, wo, K with
    | .inl z, he, wo, K =>
      refine ⟨fun _ => ⟨fun _ => ⟨fun q => absurd q (show ¬ (2 : Int32) = 4 by decide), fun _ => ?_⟩, fun q => absurd q (show ¬ (2 : Int32) = 3 by decide)⟩, fun q => absurd q (show ¬ (2 : Int32) = 0 by decide)⟩
      have hh : VH A (some (.inr k)) := ⟨hk, z, he⟩
      have ew : wz A (some (.inr k)) = z := by show (match ao A k with | .inl z => z | .inr _ => 0) = z; rw [he]
      refine s_putWhole P hh (hh.gcB P.wf) O (fun h2 pp2 o2 => K h2 pp2 ?_)
      rw [ew] at o2
      exact o2
    | .inr t, he, wo, K =>
      have e5 : osrt (.inr t) = t.1 := rfl
      rw [e5]
      rcases wo with ⟨q4, -⟩ | ⟨q3, ha, hb, -⟩
      · rw [q4]
        refine ⟨fun _ => ⟨fun _ => ⟨fun _ => K h (PP.rf h) ?_, fun q => absurd rfl q⟩, fun q => absurd q (by decide)⟩, fun q => absurd q (by decide)⟩
        rw [if_pos (show osrt (.inr t) = 4 from q4)]
        exact O
      · rw [q3]
        refine ⟨fun _ => ⟨fun q => absurd rfl q, fun _ => s_firstOf P.wf hk (P.obj hk) he (s_putWhole P ha (ha.gcB P.wf) O (fun h2 pp2 o2 => ?_))⟩, fun q => absurd q (by decide)⟩
        refine s_put (c := 47) o2 (by omega) (fun h3 pp3 _ o3 => ?_)
        have P3 := (pp2.trans pp3).pc P
        refine s_secondOf P3.wf hk (P3.obj hk) he (s_putWhole P3 hb (hb.gcB P.wf) o3 (fun h4 pp4 o4 => K h4 ((pp2.trans pp3).trans pp4) ?_))
        rw [if_neg (show ¬ osrt (.inr t) = 4 by show ¬ t.1 = 4; omega)]
        show PO h4 (L ++ if t.1 = 4 then [] else wtx (wz A t.2.1) ++ [47] ++ wtx (wz A t.2.2))
        rw [if_neg (by omega), ← List.append_assoc, ← List.append_assoc]
        exact o4
