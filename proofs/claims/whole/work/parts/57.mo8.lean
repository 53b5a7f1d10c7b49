/-! The model's line: digits read. -/
def FD (T : List Nat) (h h2 : HP) : Prop := Fr [0, 8, 9, 10] h h2 ∧ (∀ i, i ≠ 20 → h2 0 i = h 0 i) ∧ ∀ q, q ∉ T → RWs h h2 q
theorem FD.rf (T : List Nat) (h : HP) : FD T h h := ⟨Fr.rf _ _, fun _ _ => rfl, fun _ _ => ⟨rfl, rfl, fun _ _ => rfl⟩⟩
theorem FD.trans {T : List Nat} {h h2 h3 : HP} (a : FD T h h2) (b : FD T h2 h3) : FD T h h3 := ⟨a.1.trans b.1, fun i hi => (b.2.1 i hi).trans (a.2.1 i hi), fun q hq => ⟨(b.2.2 q hq).1.trans (a.2.2 q hq).1, (b.2.2 q hq).2.1.trans (a.2.2 q hq).2.1, fun i hi => ((b.2.2 q hq).2.2 i hi).trans ((a.2.2 q hq).2.2 i hi)⟩⟩
theorem FD.mono {T T' : List Nat} {h h2 : HP} (a : FD T h h2) (st : ∀ j, j ∈ T → j ∈ T') : FD T' h h2 := ⟨a.1, a.2.1, fun q hq => a.2.2 q (fun z => hq (st q z))⟩
theorem FR.fd {T : List Nat} {h h2 : HP} (a : FR T h h2) : FD T h h2 := ⟨a.1.mono (by simp), fun i _ => by rw [a.1 0 (by simp)], a.2⟩
theorem FD.at {T : List Nat} {h : HP} {v : Int32} : FD T h (up h 0 20 v) := ⟨(Fr.rf _ _).up (by simp), fun i hi => up_at_ne hi, fun q _ => ⟨by rw [up_ne (by omega)], by rw [up_ne (by omega)], fun i _ => by rw [up_ne (by omega)]⟩⟩
theorem FD.mk {T : List Nat} {h h2 : HP} (a : FD T h h2) : MK h h2 := ⟨a.1.mono (by simp), a.2.1 0 (by omega), a.2.1 15 (by omega), a.2.1 17 (by omega)⟩
theorem FD.ms {T : List Nat} {h h2 : HP} {A : AS} {o : Nat → Nat} {L O : List Nat} (S : MS h A o L O) (f : FD T h h2) (hs : ∀ r, r ∈ T → r < 13) : MS h2 A o L O := by
  have e1 := f.1 1 (by simp)
  have e2 := f.1 2 (by simp)
  refine S.mk f.mk S.1 ⟨S.pm.1.cong S.1 (f.1 3 (by simp)) (f.1 4 (by simp)) (f.1 5 (by simp)) (f.2.1 3 (by omega)) (f.2.1 9 (by omega)) (f.2.1 10 (by omega)) (fun i _ _ => by rw [e1, e2]; exact ⟨rfl, rfl⟩) (fun r h1 _ => f.2.2 r (fun q => by have := hs r q; omega)), fun r hr => ?_⟩
  exact (S.pm.reg hr).cong (S.1.2.2 r hr) (by rw [e1]) (by rw [e2]) (fun _ _ => rfl)
theorem FD.ml {T : List Nat} {h h2 : HP} {L : List Nat} (P : ML h L) (f : FD T h h2) : ML h2 L := P.cong (f.2.1 15 (by omega)) (f.1 11 (by simp))
theorem MN.fd {T : List Nat} {h h2 : HP} {r : Nat} {z : Int} (k : MN h r z) (f : FD T h h2) (hr : r ∉ T) : MN h2 r z := k.rw (f.2.2 r hr)
set_option maxHeartbeats 2000000 in
theorem s_mreadDigits {h : HP} {L : List Nat} {r b : Nat} {Φ : Int32 → HP → Prop} (P : ML h L) (hr : r < 218) (hat : h 0 20 = nI b) (hb : b ≤ L.length) (K : ∀ h2 e, FD [r] h h2 → EN L b e → h2 0 20 = nI e → MN h2 r ((dvf L b (e - b) : Nat) : Int) → Φ (if e = b then 0 else 1) h2) : K_Mo_readDigits [.ref 0, .int (nI r)] h Φ := by
  refine I_Mo_readDigits (fun X C Rm Q => g_Mo_readDigits_0 C Rm Q ⟨vr hr, vr hr, ?_⟩)
  have hl := P.1
  rw [nI_cl (by omega), up_ne (by omega), up_ne (by omega), hat, narb0]
  have hrow : ∀ {q i : Nat}, q ≠ r → i < 100 → ∀ j, j < 100 → 100 * q + i ≠ 100 * r + j := fun h1 h2 j h3 => by omega
  -- one digit
  have dig : ∀ (n m c : Nat) (hs : HP), FD [r] h hs → MN hs r (m : Int) → gc 16 m ≤ 90 → c ≤ 9 → b + n < L.length → hs 0 20 = nI (b + n) →
      (∀ h1, FD [r] h h1 → MN h1 r ((10 * m + c : Nat) : Int) → h1 0 20 = nI (b + n + 1) → Wg X 0 0 h1 [(0, .ref 0), (1, .int (nI r)), (2, .int (nI b))] [] 19) →
      Wg X 0 0 hs [(0, .ref 0), (1, .int (nI r)), (2, .int (nI b)), (3, .int (nI c)), (4, .int (nI 0))] [] 74 := by
    intro n m c hs fs wm gm hc hbn hats nxt
    have mu : MU hs r m := by have := wm.u; rwa [Int.natAbs_natCast] at this
    have sg0 : hs 10 r = 0 := by rw [wm.sg, if_neg (Int.not_lt.mpr (Int.natCast_nonneg _))]
    have hv := mu.val
    have hlen := mu.len
    generalize hN : gc 16 m = N at *
    have loop : ∀ k i v (h0 : HP), k + i = N → FD [r] h h0 → (∀ j, j < i → lb h0 r j < 65536) → (∀ j, i ≤ j → lb h0 r j = lb hs r j) → v ≤ 9 → mv h0 r i + v * 65536 ^ i = 10 * mv hs r i + c → h0 9 r = nI N → h0 10 r = 0 → h0 0 20 = nI (b + n) →
        Wg X 0 0 h0 [(0, .ref 0), (1, .int (nI r)), (2, .int (nI b)), (3, .int (nI v)), (4, .int (nI i))] [] 74 := by
      intro k
      induction k with
      | zero =>
        intro i v h0 hi f d1 d2 hv9 val l9 s10 a20
        have hi : i = N := by omega
        subst hi
        refine g_Mo_readDigits_74 C Rm Q ⟨vr hr, fun _ => ⟨fun q => ?_, fun q => ⟨vr hr, ?_⟩⟩, fun q => absurd ?_ q⟩
        · rw [nI_le0 (by omega)] at q
          subst q
          rw [a20, nI_1]
          have tot : mv h0 r i = 10 * m + c := by rw [← hv]; omega
          have gt : gc 16 (10 * m + c) = i := by
            rw [← tot]
            unfold mv
            refine gc_ds16 d1 ?_
            by_cases i0 : i = 0
            · exact Or.inl i0
            · right
              intro z
              have : mv h0 r i = mv h0 r (i - 1) + lb h0 r (i - 1) * 65536 ^ (i - 1) := by
                have := mv_succ h0 r (i - 1)
                rwa [show i - 1 + 1 = i by omega] at this
              rw [z, Nat.zero_mul] at this
              have lt := mv_lt (h := h0) (t := r) (n := i - 1) (fun j hj => d1 j (by omega))
              have ge := (gc_lt (b := 16) (by omega) m (i - 1)).mp (by omega)
              rw [← p16] at ge
              omega
          refine nxt _ (f.trans FD.at) ?_ (up_at _ _ _ _)
          refine ⟨?_, ?_⟩
          · rw [Int.natAbs_natCast]
            refine MU.cong (h := h0) ⟨by rw [gt, l9], by rw [gt]; exact tot, fun j hj => d1 j (by omega), by omega⟩ (by rw [up_ne (by omega)]) (fun i _ => by rw [up_ne (by omega)])
          · rw [up_ne (by omega), s10, if_neg (Int.not_lt.mpr (Int.natCast_nonneg _))]
        · rw [nI_le0 (by omega)] at q
          rw [nI_cl (by omega), l9, ixl]
          refine ⟨vl hr (by omega), vr hr, vr hr, ?_⟩
          rw [nI_cl (by omega), up_ne (by omega), l9, nI_1, up_ne (by omega), up_ne (by omega), a20, nI_1]
          have tot : mv (up h0 8 (100 * r + i) (nI v)) r (i + 1) = 10 * m + c := by
            rw [mv_up h0 r i (by omega), ← hv]
            exact val
          have dd := lb_lt_up (h := h0) (t := r) (v := v) d1 (by omega)
          have gt : gc 16 (10 * m + c) = i + 1 := by
            rw [← tot]
            unfold mv
            refine gc_ds16 dd (Or.inr ?_)
            show lb (up h0 8 (100 * r + i) (nI v)) r i ≠ 0
            rw [lb_at, un_nIl (by omega)]
            exact q
          have ff : FD [r] h0 (up (up (up h0 8 (100 * r + i) (nI v)) 9 r (nI (i + 1))) 0 20 (nI (b + n + 1))) := by
            refine ⟨(((Fr.rf _ _).up (by simp)).up (by simp)).up (by simp), fun j hj => by rw [up_at_ne hj, up_ne (by omega), up_ne (by omega)], fun q hq => ?_⟩
            simp at hq
            exact ⟨by rw [up_ne (by omega), up_at_ne hq, up_ne (by omega)], by rw [up_ne (by omega), up_ne (by omega), up_ne (by omega)], fun j hj => by rw [up_ne (by omega), up_ne (by omega), up_at_ne (hrow hq hj i (by omega))]⟩
          refine nxt _ (f.trans ff) ?_ (up_at _ _ _ _)
          refine ⟨?_, ?_⟩
          · rw [Int.natAbs_natCast]
            refine MU.cong (h := up (up h0 8 (100 * r + i) (nI v)) 9 r (nI (i + 1))) ⟨by rw [up_at, gt], ?_, fun j hj => ?_, by omega⟩ (by rw [up_ne (by omega)]) (fun i _ => by rw [up_ne (by omega)])
            · rw [gt, ← tot]
              exact ds_cong (fun j _ => by unfold lb; rw [up_ne (by omega)])
            · have := dd j (by omega)
              unfold lb
              rw [up_ne (by omega)]
              exact this
          · rw [up_ne (by omega), up_ne (by omega), up_ne (by omega), s10, if_neg (Int.not_lt.mpr (Int.natCast_nonneg _))]
        · rw [nI_cl (by omega), l9]
          exact Int32.le_refl _
      | succ k ih =>
        intro i v h0 hi f d1 d2 hv9 val l9 s10 a20
        have hli : lb hs r i < 65536 := mu.lt (by omega)
        have ei := d2 i (Nat.le_refl _)
        refine g_Mo_readDigits_74 C Rm Q ⟨vr hr, fun q => ?_, fun _ => ?_⟩
        · rw [nI_cl (by omega), l9, nI_leI (by omega) (by omega)] at q
          omega
        · rw [ixl]
          refine ⟨vl hr (by omega), vl hr (by omega), ?_⟩
          rw [nI_cl (by omega), lb_is h0 r i, ei, show (10 : Int32) = nI 10 from rfl, pk_mul, nI_add, mod16, shr16 (by omega), nI_1]
          generalize hl2 : lb hs r i = l at *
          have hx : (10 * l + v) % 65536 < 65536 := Nat.mod_lt _ (by decide)
          have hdm := Nat.div_add_mod (10 * l + v) 65536
          refine ih (i + 1) ((10 * l + v) / 65536) (up h0 8 (100 * r + i) (nI ((10 * l + v) % 65536))) (by omega) (f.trans ⟨(Fr.rf _ _).up (by simp), fun j hj => by rw [up_ne (by omega)], fun q hq => ?_⟩) (lb_lt_up d1 hx) (fun j hj => by rw [lb_ne (by omega)]; exact d2 j (by omega)) (by omega) ?_ (by rw [up_ne (by omega)]; exact l9) (by rw [up_ne (by omega)]; exact s10) (by rw [up_ne (by omega)]; exact a20)
          · simp at hq
            exact ⟨by rw [up_ne (by omega)], by rw [up_ne (by omega)], fun j hj => by rw [up_at_ne (hrow hq hj i (by omega))]⟩
          · rw [mv_up h0 r i hx, mv_succ, hl2, Nat.pow_succ]
            generalize (10 * l + v) / 65536 = p at *
            generalize (10 * l + v) % 65536 = s at *
            have e1 : s * 65536 ^ i + p * (65536 ^ i * 65536) = (10 * l + v) * 65536 ^ i := by
              rw [← hdm, Nat.add_mul, Nat.mul_comm (65536 ^ i) 65536, ← Nat.mul_assoc, Nat.mul_comm p 65536]
              omega
            have e2 : (10 * l + v) * 65536 ^ i = 10 * (l * 65536 ^ i) + v * 65536 ^ i := by rw [Nat.add_mul, Nat.mul_assoc]
            omega
    exact loop N 0 c hs (Nat.add_zero _) fs (fun j hj => absurd hj (by omega)) (fun j _ => rfl) hc (by rw [mv_0, Nat.pow_zero]; omega) hlen sg0 hats
  -- digit by digit
  have loop : ∀ k n (h0 : HP), k + (b + n) = L.length → FD [r] h h0 → (∀ i, b ≤ i → i < b + n → dgt L i = true) → h0 0 20 = nI (b + n) → MN h0 r ((dvf L b n : Nat) : Int) → Wg X 0 0 h0 [(0, .ref 0), (1, .int (nI r)), (2, .int (nI b))] [] 19 := by
    intro k
    induction k with
    | zero =>
      intro n h0 hk f hd a20 w
      have en : EN L b (b + n) := ⟨by omega, hd, by
        cases q : dgt L (b + n)
        · rfl
        · have := dgt_lt q; omega⟩
      have k := K h0 (b + n) f en a20 (by rw [show b + n - b = n by omega]; exact w)
      refine g_Mo_readDigits_19 C Rm Q ⟨fun _ => ?_, fun q => absurd ?_ q⟩
      · rw [a20, nI_leI (by omega) (by omega)]
        refine ⟨fun q => ?_, fun q => ?_⟩
        · rw [if_pos (by omega)] at k; exact k
        · rw [if_neg (by omega)] at k; exact k
      · rw [a20, f.2.1 15 (by omega), P.2.1, nI_leI (by omega) (by omega)]
        omega
    | succ k ih =>
      intro n h0 hk f hd a20 w
      have P0 := f.ml P
      obtain ⟨c, hc⟩ : ∃ c, L[b + n]? = some c := ⟨L[b + n]'(by omega), List.getElem?_eq_getElem (by omega)⟩
      obtain ⟨ec, c256⟩ := P0.2.2 _ _ hc
      have fin : dgt L (b + n) = false → ((nI (b + n) ≤ nI b → Φ 0 h0) ∧ (¬ nI (b + n) ≤ nI b → Φ 1 h0)) := fun q => by
        have k := K h0 (b + n) f ⟨by omega, hd, q⟩ a20 (by rw [show b + n - b = n by omega]; exact w)
        rw [nI_leI (by omega) (by omega)]
        refine ⟨fun q => ?_, fun q => ?_⟩
        · rw [if_pos (by omega)] at k; exact k
        · rw [if_neg (by omega)] at k; exact k
      have vp : vp_in (nI (b + n)) 200 := vp_in_nI (by omega) (by omega)
      refine g_Mo_readDigits_19 C Rm Q ⟨fun q => absurd q ?_, fun _ => ?_⟩
      · rw [a20, f.2.1 15 (by omega), P.2.1, nI_leI (by omega) (by omega)]
        omega
      rw [a20, nI_cl (by omega), ec, show (48 : Int32) = nI 48 from rfl, nI_ltI (by omega) (by omega), show (57 : Int32) = nI 57 from rfl, nI_ltI (by omega) (by omega)]
      refine ⟨vp, fun q => fin ?_, fun q => ⟨vp, fun q2 => fin ?_, fun q2 => ⟨vp, ?_⟩⟩⟩
      · refine dgt_no.mpr (fun c' e => ?_)
        rw [hc] at e
        cases e
        omega
      · refine dgt_no.mpr (fun c' e => ?_)
        rw [hc] at e
        cases e
        omega
      · have hdg : dgt L (b + n) = true := dgt_iff.mpr ⟨c, hc, by omega, by omega⟩
        have hlt := dvf_lt (L := L) (b := b) n hd
        have g16 := gc16 (gc_10 hlt (by omega))
        rw [nI_sub (by omega)]
        have e4 : dvf L b (n + 1) = 10 * dvf L b n + (c - 48) := by
          have e5 : L.getD (b + n) 0 = c := by rw [List.getD_eq_getElem?_getD, hc]; rfl
          show dvf L b n * 10 + (L.getD (b + n) 0 - 48) = _
          rw [e5, Nat.mul_comm]
        refine dig n (dvf L b n) (c - 48) h0 f w (by omega) (by omega) (by omega) a20 (fun h1 f1 w1 a1 => ?_)
        refine ih (n + 1) h1 (by omega) f1 (fun i h1 h2 => ?_) (by rw [a1, Nat.add_assoc]) (by rw [e4]; exact w1)
        by_cases q3 : i = b + n
        · rw [q3]; exact hdg
        · exact hd i h1 (by omega)
  have f0 : FD [r] h (up (up h 9 r 0) 10 r 0) := ⟨((Fr.rf _ _).up (by simp)).up (by simp), fun i _ => by rw [up_ne (by omega), up_ne (by omega)], fun q hq => by
    simp at hq
    exact ⟨by rw [up_ne (by omega), up_at_ne hq], by rw [up_at_ne hq, up_ne (by omega)], fun i _ => by rw [up_ne (by omega), up_ne (by omega)]⟩⟩
  refine loop (L.length - b) 0 _ (by omega) f0 (fun i h1 h2 => absurd h2 (by omega)) (by rw [up_ne (by omega), up_ne (by omega)]; exact hat) ⟨⟨?_, ?_, fun i hi => ?_, ?_⟩, ?_⟩
  · rw [up_ne (by omega), up_at]
    show (0 : Int32) = nI (gc 16 0)
    rw [gc_0]; rfl
  · show mv _ r (gc 16 0) = 0
    rw [gc_0, mv_0]
  · have hi : i < gc 16 0 := hi
    rw [gc_0] at hi; omega
  · show gc 16 0 ≤ 99
    rw [gc_0]; omega
  · rw [up_at]; rfl
