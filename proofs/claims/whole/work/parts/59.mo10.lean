/-! The model's calls: what is said. -/
def MW (h : HP) (L : List Nat) : Prop := h 0 17 = nI (min L.length 400) ∧ h 0 18 = (if 400 < L.length then 1 else 0) ∧ ∀ i c, L[i]? = some c → c < 256 ∧ (i < 400 → h 12 i = nI c)
def FW (h h2 : HP) : Prop := Fr [0, 8, 9, 10, 12, 13] h h2 ∧ (∀ i, i ≠ 17 → i ≠ 18 → h2 0 i = h 0 i) ∧ ∀ q, q ≠ 6 → RWs h h2 q
theorem FW.rf (h : HP) : FW h h := ⟨Fr.rf _ _, fun _ _ _ => rfl, fun _ _ => ⟨rfl, rfl, fun _ _ => rfl⟩⟩
theorem FW.trans {h h2 h3 : HP} (a : FW h h2) (b : FW h2 h3) : FW h h3 := ⟨a.1.trans b.1, fun i hi hj => (b.2.1 i hi hj).trans (a.2.1 i hi hj), fun q hq => ⟨(b.2.2 q hq).1.trans (a.2.2 q hq).1, (b.2.2 q hq).2.1.trans (a.2.2 q hq).2.1, fun i hi => ((b.2.2 q hq).2.2 i hi).trans ((a.2.2 q hq).2.2 i hi)⟩⟩
theorem FW.pm {h h2 : HP} {A : AS} {o : Nat → Nat} (w : WF A) (P : PM h A o) (f : FW h h2) : PM h2 A o := by
  have e1 := f.1 1 (by simp)
  have e2 := f.1 2 (by simp)
  refine ⟨P.1.cong w (f.1 3 (by simp)) (f.1 4 (by simp)) (f.1 5 (by simp)) (f.2.1 3 (by omega) (by omega)) (f.2.1 9 (by omega) (by omega)) (f.2.1 10 (by omega) (by omega)) (fun i _ _ => by rw [e1, e2]; exact ⟨rfl, rfl⟩) (fun r h1 _ => f.2.2 r (by omega)), fun r hr => ?_⟩
  exact (P.reg hr).cong (w.2.2 r hr) (by rw [e1]) (by rw [e2]) (fun _ _ => rfl)
theorem VM.fw {h h2 : HP} {o : Nat → Nat} {i : Nat} {v : Vl} (k : VM h o i v) (f : FW h h2) : VM h2 o i v := by
  have e1 := f.1 1 (by simp)
  have e2 := f.1 2 (by simp)
  match v, k with
  | none, k => show h2 1 i = 0; rw [e1]; exact k
  | some (.inl z), k => show h2 1 i = 1 ∧ h2 2 i = _; rw [e1, e2]; exact k
  | some (.inr j), k => show h2 1 i = 2 ∧ h2 2 i = _; rw [e1, e2]; exact k
theorem MW.cong {h h2 : HP} {L : List Nat} (M : MW h L) (a : h2 0 17 = h 0 17) (b : h2 0 18 = h 0 18) (c : h2 12 = h 12) : MW h2 L := ⟨a.trans M.1, b.trans M.2.1, fun i d e => by rw [c]; exact M.2.2 i d e⟩
theorem s_say {h : HP} {L : List Nat} {c : Nat} {Φ : HP → Prop} (M : MW h L) (hc : c < 256) (K : ∀ h2, FW h h2 → Fr [0, 12] h h2 → MW h2 (L ++ [c]) → Φ h2) : K_Mo_say [.ref 0, .int (nI c)] h Φ := by
  refine I_Mo_say (fun X C Rm Q => g_Mo_say_0 C Rm Q ?_)
  obtain ⟨m1, m2, m3⟩ := M
  have hlen : (L ++ [c]).length = L.length + 1 := List.length_append
  rw [m1, nar_c (by omega), show (400 : Int32) = nI 400 from rfl, nI_eq (by omega) (by omega)]
  refine ⟨fun q => ⟨vp_in_nI (by omega) (by omega), ?_⟩, fun q => ?_⟩
  · rw [nI_cl (by omega), up_ne (by omega), m1, nI_1]
    have f : Fr [0, 12] h (up (up h 12 (min L.length 400) (nI c)) 0 17 (nI (min L.length 400 + 1))) := ((Fr.rf _ _).up (by simp)).up (by simp)
    refine K _ ⟨f.mono (by simp), fun i hi _ => by rw [up_at_ne hi, up_ne (by omega)], fun q _ => ⟨by rw [up_ne (by omega), up_ne (by omega)], by rw [up_ne (by omega), up_ne (by omega)], fun i _ => by rw [up_ne (by omega), up_ne (by omega)]⟩⟩ f ⟨?_, ?_, fun i d e => ?_⟩
    · rw [up_at, hlen]
      congr 1
      omega
    · rw [up_at_ne (by omega), up_ne (by omega), m2, if_neg (by omega), if_neg (by omega)]
    · rcases get_app.mp e with ⟨a, b⟩ | ⟨a, b⟩
      · refine ⟨(m3 i d b).1, fun hi => ?_⟩
        rw [up_ne (by omega), up_at_ne (by omega)]
        exact (m3 i d b).2 hi
      · subst a
        subst b
        refine ⟨hc, fun hi => ?_⟩
        rw [up_ne (by omega), show min L.length 400 = L.length by omega, up_at]
  · have f : Fr [0, 12] h (up h 0 18 1) := (Fr.rf _ _).up (by simp)
    refine K _ ⟨f.mono (by simp), fun i _ hi => up_at_ne hi, fun q _ => ⟨by rw [up_ne (by omega)], by rw [up_ne (by omega)], fun i _ => by rw [up_ne (by omega)]⟩⟩ f ⟨?_, ?_, fun i d e => ?_⟩
    · rw [up_at_ne (by omega), m1, hlen]
      congr 1
      omega
    · rw [up_at, if_pos (by omega)]
    · rcases get_app.mp e with ⟨a, b⟩ | ⟨a, b⟩
      · refine ⟨(m3 i d b).1, fun hi => ?_⟩
        rw [up_ne (by omega)]
        exact (m3 i d b).2 hi
      · subst b
        exact ⟨hc, fun hi => absurd hi (by omega)⟩
theorem ndg_le {m k : Nat} (hm : m < 10 ^ 193) (hk : k < 200) : ndg m ≤ k ↔ m < 10 ^ k := by
  have hyes := fa_first_yes (fun n => decide (m < 10 ^ n)) 200
  have hno := fa_first_no (fun n => decide (m < 10 ^ n)) 200
  have e : fa_first (fun n => decide (m < 10 ^ n)) 200 = ndg m := rfl
  rw [e] at hno hyes
  constructor
  · intro q
    have := of_decide_eq_true (hyes (by omega))
    exact Nat.lt_of_lt_of_le this (Nat.pow_le_pow_right (by decide) q)
  · intro q
    refine Nat.le_of_not_lt (fun z => ?_)
    exact absurd q (of_decide_eq_false (hno k z))
theorem p4 (n : Nat) : 10000 ^ n = 10 ^ (4 * n) := by rw [Nat.pow_mul]
theorem tdivs {D j : Nat} (hD : D < 10000) (hj : j < 4) : nI 48 + ((nI D / nI (10 ^ j)) - (nI D / nI (10 ^ j)) / 10 * 10) = nI (48 + D / 10 ^ j % 10) := by
  have p := Nat.pow_le_pow_right (n := 10) (by decide) (show j ≤ 3 by omega)
  have p0 : 0 < 10 ^ j := Nat.pow_pos (by decide)
  have dl := Nat.div_le_self D (10 ^ j)
  rw [pk_div (by omega) (by omega) (by omega)]
  generalize D / 10 ^ j = x at *
  rw [show nI x - nI x / 10 * 10 = nI (x % 10) from pk_rem (d := 10) (by omega) (by omega) (by omega), nI_add]
def pw : Nat → Int32
  | 0 => 0
  | c + 1 => nI (10 ^ c)
theorem pw_div {c : Nat} (hc : c < 4) : nI (10 ^ c) / 10 = pw c := by
  match c, hc with
  | 0, _ => decide
  | c + 1, hc =>
    have p := Nat.pow_le_pow_right (n := 10) (by decide) (show c + 1 ≤ 3 by omega)
    rw [show (10 : Int32) = nI 10 from rfl, pk_div (by omega) (by omega) (by omega), Nat.pow_succ, Nat.mul_div_cancel _ (by decide)]
    rfl
theorem dig4 {x c : Nat} (hc : c < 4) : x % 10000 / 10 ^ c % 10 = x / 10 ^ c % 10 := by
  rcases (show c = 0 ∨ c = 1 ∨ c = 2 ∨ c = 3 by omega) with rfl | rfl | rfl | rfl <;> omega
theorem n11 (x : Int32) : x + (-1) = x - 1 := (Int32.sub_eq_add_neg x 1).symm
set_option maxHeartbeats 2000000 in
theorem s_sayWhole {h : HP} {A : AS} {o : Nat → Nat} {i : Nat} {v : Vl} {L : List Nat} {Φ : HP → Prop} (P : PM h A o) (w : WF A) (hi : i < 416) (k : VM h o i v) (hv : VH A v) (M : MW h L) (K : ∀ h2, FW h h2 → MW h2 (L ++ wtx (wz A v)) → Φ h2) : K_Mo_sayWhole [.ref 0, .int (nI i)] h Φ := by
  refine I_Mo_sayWhole (fun X C Rm Q => g_Mo_sayWhole_0 C Rm Q ?_)
  have hm := gc_dec (hv.gcB w)
  have hg := gc16 (hv.gcB w)
  unfold wtx at K
  generalize hz : wz A v = z at *
  generalize hmm : z.natAbs = m at *
  have e6 : (6 : Int32).toNatClampNeg = 6 := rfl
  have main : ∀ (L1 : List Nat) (h1 : HP), m ≠ 0 → FW h h1 → MW h1 L1 → MU h1 6 m → (∀ h2, FW h h2 → MW h2 (L1 ++ txk m (ndg m)) → Φ h2) → Wg X 0 0 h1 [(0, .ref 0), (1, .int (nI i)), (2, .int 0)] [] 42 := by
    intro L1 h1 m0 f1 M1 u1 K1
    -- said, chunk by chunk
    have said : ∀ (n : Nat) (hd : HP), m < 10 ^ (4 * n) → (∀ n', n = n' + 1 → 10 ^ (4 * n') ≤ m) → n ≤ 49 → (∀ k, k < n → hd 13 k = nI (m / 10 ^ (4 * k) % 10000)) → FW h hd → MW hd L1 → Wg X 0 0 hd [(0, .ref 0), (1, .int (nI i)), (2, .int (nI n)), (3, .int (nI n - 1))] [] 77 := by
      intro n hd hmn hmn1 hn49 hdig fd Md
      have chunk : ∀ (p : Nat) (h0 : HP) (L0 : List Nat), p ≤ n → FW h h0 → h0 13 = hd 13 → MW h0 L0 → L0 ++ txk m (min (4 * p) (ndg m)) = L1 ++ txk m (ndg m) → Wg X 0 0 h0 [(0, .ref 0), (1, .int (nI i)), (2, .int (nI n)), (3, .int (nI p - 1))] [] 77 := by
        intro p
        induction p with
        | zero =>
          intro h0 L0 _ f0 _ M0 e
          refine g_Mo_sayWhole_77 C Rm Q ⟨fun _ => K1 h0 f0 ?_, fun q => absurd (by decide) q⟩
          rw [← e, Nat.mul_zero, Nat.zero_min]
          unfold txk
          rw [List.append_nil]
          exact M0
        | succ p ih =>
          intro h0 L0 hp f0 e13 M0 e
          rw [nI_subn _ 1 (by omega) 1 rfl, show p + 1 - 1 = p by omega]
          refine g_Mo_sayWhole_77 C Rm Q ⟨fun q => absurd q (nI_lt0 (by omega)), fun _ => ?_⟩
          have hD := hdig p (by omega)
          have hDl : m / 10 ^ (4 * p) % 10000 < 10000 := Nat.mod_lt _ (by decide)
          have vp : vp_in (nI p) 60 := vp_in_nI (by omega) (by omega)
          have digs : ∀ (c : Nat) (h0 : HP) (L0 : List Nat), c ≤ 4 → FW h h0 → h0 13 = hd 13 → MW h0 L0 → L0 ++ txk m (min (4 * p + c) (ndg m)) = L1 ++ txk m (ndg m) → Wg X 0 0 h0 [(0, .ref 0), (1, .int (nI i)), (2, .int (nI n)), (3, .int (nI p)), (4, .int (pw c))] [] 86 := by
            intro c
            induction c with
            | zero =>
              intro h0 L0 _ f0 e13 M0 e
              refine g_Mo_sayWhole_86 C Rm Q ⟨fun _ => ?_, fun q => absurd (Int32.le_refl 0) q⟩
              rw [n11]
              exact ih h0 L0 (by omega) f0 e13 M0 e
            | succ c ihc =>
              intro h0 L0 hc f0 e13 M0 e
              have pc := Nat.pow_le_pow_right (n := 10) (by decide) (show c ≤ 3 by omega)
              have pc0 : 0 < 10 ^ c := Nat.pow_pos (by decide)
              have hpq : 10 ^ (4 * p + c) = 10 ^ (4 * p) * 10 ^ c := Nat.pow_add _ _ _
              have pp0 : 0 < 10 ^ (4 * p) := Nat.pow_pos (by decide)
              have nd := ndg_le hm (show 4 * p + c < 200 by omega)
              -- a digit said
              have yes : 10 ^ (4 * p + c) ≤ m → Wg X 0 0 h0 [(0, .ref 0), (1, .int (nI i)), (2, .int (nI n)), (3, .int (nI p)), (4, .int (nI (10 ^ c)))] [] 109 := by
                intro hge
                refine g_Mo_sayWhole_109 C Rm Q ⟨vp, fun q => ?_, ?_⟩
                · rw [nI_e0 (by omega)] at q
                  omega
                · rw [nI_cl (by omega), e13, hD, show (48 : Int32) = nI 48 from rfl, tdivs hDl (by omega), i2c_c (by omega), pw_div (by omega), dig4 (by omega), Nat.div_div_eq_div_mul, ← hpq]
                  have hlt : ¬ ndg m ≤ 4 * p + c := fun z => by have := nd.mp z; omega
                  refine s_say M0 (by omega) (fun h2 f2 f2' M2 => ihc h2 _ (by omega) (f0.trans f2) (by rw [f2' 13 (by simp)]; exact e13) M2 ?_)
                  rw [show min (4 * p + (c + 1)) (ndg m) = 4 * p + c + 1 by omega, txk_succ] at e
                  rw [show min (4 * p + c) (ndg m) = 4 * p + c by omega, List.append_assoc]
                  exact e
              have pw1 : pw (c + 1) = nI (10 ^ c) := rfl
              rw [pw1]
              refine g_Mo_sayWhole_86 C Rm Q ⟨fun q => ?_, fun _ => ⟨fun q => yes ?_, fun q => ⟨vp, fun q2 => ?_, fun q2 => yes ?_⟩⟩⟩
              · rw [nI_le0 (by omega)] at q
                omega
              · rw [show (1 : Int32) = nI 1 from rfl, nI_sub (by omega), nI_ltI (by omega) (by omega)] at q
                have h1 := hmn1 (n - 1) (by omega)
                exact Nat.le_trans (Nat.pow_le_pow_right (by decide) (by omega)) h1
              · rw [show (1 : Int32) = nI 1 from rfl, nI_sub (by omega), nI_ltI (by omega) (by omega)] at q
                have hpn : p + 1 = n := by omega
                rw [nI_cl (by omega), e13, hD, nI_ltI (by omega) (by omega)] at q2
                rw [pw_div (by omega)]
                have hq : m / 10 ^ (4 * p) < 10000 := by
                  rw [Nat.div_lt_iff_lt_mul pp0, show 10000 = 10 ^ 4 from rfl, ← Nat.pow_add, show 4 + 4 * p = 4 * n by omega]
                  exact hmn
                rw [Nat.mod_eq_of_lt hq, Nat.div_lt_iff_lt_mul pp0, Nat.mul_comm, ← hpq] at q2
                have hle := nd.mpr q2
                refine ihc h0 L0 (by omega) f0 e13 M0 ?_
                rw [show min (4 * p + (c + 1)) (ndg m) = ndg m by omega] at e
                rw [show min (4 * p + c) (ndg m) = ndg m by omega]
                exact e
              · rw [nI_cl (by omega), e13, hD, nI_ltI (by omega) (by omega)] at q2
                have := Nat.mod_le (m / 10 ^ (4 * p)) 10000
                rw [hpq, Nat.mul_comm]
                exact (Nat.le_div_iff_mul_le pp0).mp (by omega)
          exact digs 4 h0 L0 (Nat.le_refl _) f0 e13 M0 e
      refine chunk n hd L1 (Nat.le_refl _) fd rfl Md ?_
      rw [show min (4 * n) (ndg m) = ndg m by have := (ndg_le hm (show 4 * n < 200 by omega)).mpr hmn; omega]
    -- chunks taken
    have fill : ∀ (r n : Nat) (h0 : HP), r + n = 60 → FW h h0 → MW h0 L1 → MU h0 6 (m / 10 ^ (4 * n)) → (∀ n', n = n' + 1 → 10 ^ (4 * n') ≤ m) → (∀ k, k < n → h0 13 k = nI (m / 10 ^ (4 * k) % 10000)) → Wg X 0 0 h0 [(0, .ref 0), (1, .int (nI i)), (2, .int (nI n))] [] 42 := by
      intro r
      induction r with
      | zero =>
        intro n h0 hr _ _ _ h1 _
        have := h1 59 (by omega)
        have := Nat.pow_le_pow_right (n := 10) (by decide) (show 193 ≤ 4 * 59 by omega)
        omega
      | succ r ih =>
        intro n h0 hr f0 M0 u0 h1 hdig
        have hn49 : n ≤ 49 := by
          match n, h1 with
          | 0, _ => omega
          | n + 1, h1 =>
            have := h1 n rfl
            refine Nat.le_of_not_lt (fun z => ?_)
            have := Nat.pow_le_pow_right (n := 10) (by decide) (show 193 ≤ 4 * n by omega)
            omega
        have p0 : 0 < 10 ^ (4 * n) := Nat.pow_pos (by decide)
        refine g_Mo_sayWhole_42 C Rm Q ⟨vr (r := 6) (by omega), fun q => ?_, fun q => ?_⟩
        · rw [e6, u0.len, nI_le0 (by have := u0.le; omega), gc_eq0] at q
          refine said n h0 ?_ h1 hn49 hdig f0 M0
          rcases Nat.div_eq_zero_iff.mp q with z | z
          · omega
          · exact z
        · rw [e6, u0.len, nI_le0 (by have := u0.le; omega), gc_eq0] at q
          have hge : 10 ^ (4 * n) ≤ m := by
            refine Nat.le_of_not_lt (fun z => q (Nat.div_eq_of_lt z))
          refine s_mdivSmall (r := 6) (D := 10000) (by omega) u0 (by omega) (by omega) (fun h2 f2 u2 _ => ⟨vp_in_nI (by omega) (by omega), ?_⟩)
          rw [nI_cl (by omega), nI_1]
          have e : m / 10 ^ (4 * n) / 10000 = m / 10 ^ (4 * (n + 1)) := by rw [Nat.div_div_eq_div_mul, show 10000 = 10 ^ 4 from rfl, ← Nat.pow_add]; rfl
          rw [e] at u2
          have ff : FW h0 (up h2 13 n (nI (m / 10 ^ (4 * n) % 10000))) := ⟨(f2.1.mono (by simp)).up (by simp), fun i _ _ => by rw [up_ne (by omega), f2.1 0 (by simp)], fun q hq => by
            have a := f2.2 q (by simpa using hq)
            exact ⟨by rw [up_ne (by omega)]; exact a.1, by rw [up_ne (by omega)]; exact a.2.1, fun i hi => by rw [up_ne (by omega)]; exact a.2.2 i hi⟩⟩
          refine ih (n + 1) _ (by omega) (f0.trans ff) (M0.cong (by rw [up_ne (by omega), f2.1 0 (by simp)]) (by rw [up_ne (by omega), f2.1 0 (by simp)]) (by rw [up_ne (by omega), f2.1 12 (by simp)])) (u2.cong (by rw [up_ne (by omega)]) (fun i _ => by rw [up_ne (by omega)])) (fun n' e => by cases e; exact hge) (fun k hk => ?_)
          by_cases q2 : k = n
          · subst q2; exact up_at _ _ _ _
          · rw [up_at_ne q2, f2.1 13 (by simp)]
            exact hdig k (by omega)
    refine fill 60 0 h1 rfl f1 M1 ?_ (fun n' e => by cases e) (fun k hk => absurd hk (by omega))
    rw [Nat.mul_zero, Nat.pow_zero, Nat.div_one]
    exact u1
  refine s_mtakeWhole (r := 6) P.1 hi (by omega) k hv (fun h1 f1 w1 => ⟨vr (r := 6) (by omega), ?_⟩)
  rw [hz] at w1
  have u1 : MU h1 6 m := by have := w1.u; rwa [hmm] at this
  have ff1 : FW h h1 := ⟨f1.1.mono (by simp), fun i _ _ => by rw [f1.1 0 (by simp)], fun q hq => f1.2 q (by simpa using hq)⟩
  have M1 : MW h1 L := M.cong (by rw [f1.1 0 (by simp)]) (by rw [f1.1 0 (by simp)]) (f1.1 12 (by simp))
  rw [e6, w1.sg, sg_ne]
  refine ⟨fun q => ⟨vr (r := 6) (by omega), fun c => ?_, fun c => ?_⟩, fun q => s_say (c := 45) M1 (by omega) (fun h3 f3 f3' M3 => ⟨vr (r := 6) (by omega), fun c => ?_, fun c => ?_⟩)⟩
  · rw [u1.len, nI_e0 (by omega), gc_eq0] at c
    rw [if_neg (by omega), if_neg (by omega), List.nil_append] at K
    exact main L h1 c ff1 M1 u1 K
  · rw [u1.len, nI_e0 (by omega), gc_eq0] at c
    rw [if_neg (by omega), if_pos (by omega)] at K
    exact s_say (c := 48) M1 (by omega) (fun h2 f2 _ M2 => K h2 (ff1.trans f2) M2)
  · rw [f3' 9 (by simp), u1.len, nI_e0 (by omega), gc_eq0] at c
    rw [if_pos (by omega), if_neg (by omega)] at K
    exact main (L ++ [45]) h3 c (ff1.trans f3) M3 (u1.cong (by rw [f3' 9 (by simp)]) (fun i _ => by rw [f3' 8 (by simp)])) (fun h2 f2 M2 => K h2 f2 (by rw [List.append_assoc] at M2; exact M2))
  · rw [f3' 9 (by simp), u1.len, nI_e0 (by omega), gc_eq0] at c
    omega
