/-! The class' line. -/
theorem nar_c {c : Nat} (h : c < 65536) : vp_nar .char (nI c) = nI c := by rw [vp_nar_char]; exact fb_char h
theorem i2c_c {c : Nat} (h : c < 65536) : i2c (nI c) = nI c := by
  unfold i2c
  rw [pk_char, show (nI c).toBitVec.toNat = un (nI c) from rfl, un_nIl (by omega), Nat.mod_eq_of_lt h]
theorem bte (x : Int32) {s : Nat} (hs : s < 32) : iushr x (nI s) &&& 255 = nI (un x / 2 ^ s % 256) := by
  rw [pk_and _ 8 (by decide), show (iushr x (nI s)).toBitVec.toNat = un (iushr x (nI s)) from rfl, un_iushr x hs]
theorem m8 (x : Int32) : x + (-8) = x - 8 := (Int32.sub_eq_add_neg x 8).symm
def PL (h : HP) (L : List Nat) : Prop := L.length ≤ 200 ∧ h 21 1 = nI L.length ∧ ∀ i c, L[i]? = some c → h 22 i = nI c ∧ c < 256
theorem PL.fr {S : List Nat} {h h2 : HP} {L : List Nat} (P : PL h L) (f : Fr S h h2) (a : 21 ∉ S) (b : 22 ∉ S) : PL h2 L := by
  unfold PL
  rw [f 21 a, f 22 b]
  exact P
theorem s_charactersIn {h : HP} {x : Int32} {Φ : Int32 → HP → Prop} (K : Φ (nI (bys x).length) h) : K_Li_charactersIn [.int x] h Φ := by
  refine I_Li_charactersIn (fun X C Rm Q => g_Li_charactersIn_0 C Rm Q ?_)
  have loop : ∀ k n, k ≤ 4 → n + (byk x k).length = (bys x).length → Wg X 0 0 h [(0, .int x), (1, .int (nI n)), (2, .int (nI (8 * k) - 8))] [] 5 := by
    intro k
    induction k with
    | zero =>
      intro n _ hn
      refine g_Li_charactersIn_5 C Rm Q ⟨fun _ => ?_, fun q => absurd (by decide) q⟩
      rw [show n = (bys x).length from hn]
      exact K
    | succ k ih =>
      intro n hk hn
      rw [nI_subn _ 8 (by omega) 8 rfl, show 8 * (k + 1) - 8 = 8 * k by omega]
      refine g_Li_charactersIn_5 C Rm Q ⟨fun q => absurd q (nI_lt0 (by omega)), fun _ => ?_⟩
      rw [bte x (by omega), nI_e0 (by omega), m8, nI_1]
      unfold byk at hn
      refine ⟨fun q => ih n (by omega) ?_, fun q => ih (n + 1) (by omega) ?_⟩
      · rw [if_pos q] at hn; exact hn
      · rw [if_neg q, List.length_cons] at hn; omega
  exact loop 4 0 (Nat.le_refl _) (Nat.zero_add _)
theorem get_app {L : List Nat} {c i d : Nat} : (L ++ [c])[i]? = some d ↔ (i < L.length ∧ L[i]? = some d) ∨ (i = L.length ∧ d = c) := by
  rw [List.getElem?_append]
  by_cases q : i < L.length
  · rw [if_pos q]
    constructor
    · exact fun z => Or.inl ⟨q, z⟩
    · rintro (⟨-, z⟩ | ⟨z, -⟩)
      · exact z
      · omega
  · rw [if_neg q]
    by_cases e : i = L.length
    · subst e
      simp
      exact eq_comm
    · rw [List.getElem?_eq_none (by simp; omega)]
      simp [e, q]
theorem s_addFour {h : HP} {L : List Nat} {x : Int32} {Φ : HP → Prop} (P : PL h L) (hs : L.length + (bys x).length ≤ 200) (K : ∀ h2, Fr [21, 22] h h2 → PL h2 (L ++ bys x) → Φ h2) : K_Li_addFour [.ref 21, .int x] h Φ := by
  refine I_Li_addFour (fun X C Rm Q => g_Li_addFour_0 C Rm Q ?_)
  have loop : ∀ k (h0 : HP) (L0 : List Nat), k ≤ 4 → Fr [21, 22] h h0 → PL h0 L0 → L0 ++ byk x k = L ++ bys x → Wg X 0 0 h0 [(0, .ref 21), (1, .int x), (2, .int (nI (8 * k) - 8))] [] 3 := by
    intro k
    induction k with
    | zero =>
      intro h0 L0 _ f P0 hn
      refine g_Li_addFour_3 C Rm Q ⟨fun _ => K h0 f ?_, fun q => absurd (by decide) q⟩
      rw [← hn]
      unfold byk
      rw [List.append_nil]
      exact P0
    | succ k ih =>
      intro h0 L0 hk f P0 hn
      rw [nI_subn _ 8 (by omega) 8 rfl, show 8 * (k + 1) - 8 = 8 * k by omega]
      refine g_Li_addFour_3 C Rm Q ⟨fun q => absurd q (nI_lt0 (by omega)), fun _ => ?_⟩
      obtain ⟨p1, p2, p3⟩ := id P0
      rw [bte x (by omega), nI_e0 (by omega), m8, p2]
      unfold byk at hn
      refine ⟨fun q => ih h0 L0 (by omega) f P0 (by rw [if_pos q] at hn; exact hn), fun q => ?_⟩
      rw [if_neg q] at hn
      have hl := congrArg List.length hn
      simp only [List.length_append, List.length_cons] at hl
      refine ⟨fun q2 => ?_, fun _ => ⟨vp_in_nI (by omega) (by omega), ?_⟩⟩
      · rw [show (200 : Int32) = nI 200 from rfl, nI_leI (by omega) (by omega)] at q2
        omega
      · generalize hc : un x / 2 ^ (8 * k) % 256 = c at *
        have hc2 : c < 256 := by omega
        rw [nI_cl (by omega), i2c_c (by omega), nar_c (by omega), up_ne (by omega), p2, nI_1]
        refine ih _ (L0 ++ [c]) (by omega) ((f.up (by simp)).up (by simp)) ⟨by rw [List.length_append, List.length_singleton]; omega, ?_, ?_⟩ ?_
        · rw [up_at, List.length_append, List.length_singleton]
        · intro i d hd
          rw [up_ne (by omega)]
          rcases get_app.mp hd with ⟨a, b⟩ | ⟨rfl, rfl⟩
          · rw [up_at_ne (by omega)]
            exact p3 i d b
          · exact ⟨up_at _ _ _ _, hc2⟩
        · rw [List.append_assoc]
          exact hn
  exact loop 4 h L (Nat.le_refl _) (Fr.rf _ _) P rfl
theorem PL.lt {h : HP} {L : List Nat} (P : PL h L) {i : Nat} (hi : i < L.length) : ∃ c, L[i]? = some c ∧ h 22 i = nI c ∧ c < 256 := by
  have e : L[i]? = some L[i] := List.getElem?_eq_getElem hi
  exact ⟨L[i], e, P.2.2 i _ e⟩
theorem s_stands {h : HP} {L : List Nat} {c p : Nat} {Φ : Int32 → HP → Prop} (P : PL h L) (hc : c < 65536) (hp : p < 1000) (K : Φ (if L[p]? = some c then 1 else 0) h) : K_Li_stands [.ref 21, .int (nI c), .int (nI p)] h Φ := by
  refine I_Li_stands (fun X C Rm Q => g_Li_stands_0 C Rm Q ⟨fun q => ?_, fun q => ?_⟩)
  · have := P.1
    rw [P.2.1, nI_leI (by omega) (by omega)] at q
    rwa [if_neg (by rw [List.getElem?_eq_none q]; simp)] at K
  · have := P.1
    rw [P.2.1, nI_leI (by omega) (by omega)] at q
    obtain ⟨d, e, e2, hd⟩ := P.lt (i := p) (by omega)
    refine ⟨vp_in_nI (by omega) (by omega), ?_⟩
    rw [nI_cl (by omega), e2, nI_eq (by omega) (by omega)]
    rw [e] at K
    refine ⟨fun z => ?_, fun z => ?_⟩
    · rwa [if_neg (by simpa using z)] at K
    · rwa [if_pos (by rw [z])] at K
theorem s_endOfDigits {h : HP} {L : List Nat} {b : Nat} {Φ : Int32 → HP → Prop} (P : PL h L) (hb : b ≤ L.length) (K : ∀ e, EN L b e → Φ (nI e) h) : K_Li_endOfDigits [.ref 21, .int (nI b)] h Φ := by
  refine I_Li_endOfDigits (fun X C Rm Q => g_Li_endOfDigits_0 C Rm Q ?_)
  have h1 := P.1
  have loop : ∀ r e, r + e = L.length → b ≤ e → (∀ i, b ≤ i → i < e → dgt L i = true) → Wg X 0 0 h [(0, .ref 21), (1, .int (nI b)), (2, .int (nI e))] [] 2 := by
    intro r
    induction r with
    | zero =>
      intro e he hbe hd
      refine g_Li_endOfDigits_2 C Rm Q ⟨fun _ => K e ⟨hbe, hd, ?_⟩, fun q => absurd ?_ q⟩
      · rw [dgt_no]
        intro c hc
        rw [List.getElem?_eq_none (by omega)] at hc
        cases hc
      · rw [P.2.1, nI_leI (by omega) (by omega)]
        omega
    | succ r ih =>
      intro e he hbe hd
      obtain ⟨c, e1, e2, e3⟩ := P.lt (i := e) (by omega)
      have stop : ¬ (48 ≤ c ∧ c ≤ 57) → Φ (nI e) h := fun z => K e ⟨hbe, hd, by
        rw [dgt_no]
        intro d hd
        rw [e1] at hd
        cases hd
        exact z⟩
      refine g_Li_endOfDigits_2 C Rm Q ⟨fun q => ?_, fun _ => ⟨vp_in_nI (by omega) (by omega), ?_⟩⟩
      · rw [P.2.1, nI_leI (by omega) (by omega)] at q
        omega
      · rw [nI_cl (by omega), e2, show (48 : Int32) = nI 48 from rfl, show (57 : Int32) = nI 57 from rfl, nI_ltI (by omega) (by omega), nI_ltI (by omega) (by omega), nI_1]
        refine ⟨fun q => stop (by omega), fun q => ⟨vp_in_nI (by omega) (by omega), fun q2 => stop (by omega), fun q2 => ih (e + 1) (by omega) (by omega) (fun i a z => ?_)⟩⟩
        by_cases y : i = e
        · subst y
          exact dgt_iff.mpr ⟨c, e1, by omega, by omega⟩
        · exact hd i a (by omega)
  exact loop (L.length - b) b (by omega) (Nat.le_refl _) (fun i a z => absurd z (by omega))
theorem gc_10 {m n : Nat} (h : m < 10 ^ n) (hn : n ≤ 200) : gc 32 m ≤ 43 := by
  rw [gc_le (by omega)]
  refine Nat.lt_of_lt_of_le h (Nat.le_trans (Nat.pow_le_pow_right (by decide) hn) ?_)
  decide +kernel
theorem s_takeDigits {h : HP} {L : List Nat} {b e p : Nat} {Φ : HP → Prop} (P : PL h L) (hp : kd p = (0, 0)) (hbe : b ≤ e) (he : e ≤ L.length) (hd : ∀ i, b ≤ i → i < e → dgt L i = true) (K : ∀ h2, Fr [p, p + 1] h h2 → WN h2 p ((dvf L b (e - b) : Nat) : Int) → Φ h2) : K_Li_takeDigits [.ref 21, .int (nI b), .int (nI e), .ref p] h Φ := by
  refine I_Li_takeDigits (fun X C Rm Q => g_Li_takeDigits_0 C Rm Q hp (s_setLong hp (fun h1 f1 w1 => ?_)))
  have h1' := P.1
  have n21 : 21 ∉ [p, p + 1] := by
    have a := kd_ne hp (show kd 21 = (5, 0) from rfl) (by omega)
    have b := kd_ne (kWh1 hp) (show kd 21 = (5, 0) from rfl) (by omega)
    simp
    omega
  have n22 : 22 ∉ [p, p + 1] := by
    have a := kd_ne hp (show kd 22 = (11, 200) from rfl) (by omega)
    have b := kd_ne (kWh1 hp) (show kd 22 = (11, 200) from rfl) (by omega)
    simp
    omega
  have loop : ∀ (r n : Nat) (h0 : HP), r + n = e - b → Fr [p, p + 1] h h0 → WN h0 p ((dvf L b n : Nat) : Int) → Wg X 0 0 h0 [(0, .ref 21), (1, .int (nI b)), (2, .int (nI e)), (3, .ref p), (4, .int (nI (b + n)))] [] 8 := by
    intro r
    induction r with
    | zero =>
      intro n h0 hr f w
      refine g_Li_takeDigits_8 C Rm Q hp ⟨fun _ => K h0 f (by rw [show e - b = n by omega]; exact w), fun q => absurd ?_ q⟩
      rw [nI_leI (by omega) (by omega)]
      omega
    | succ r ih =>
      intro n h0 hr f w
      refine g_Li_takeDigits_8 C Rm Q hp ⟨fun q => ?_, fun _ => ⟨vp_in_nI (by omega) (by omega), ?_⟩⟩
      · rw [nI_leI (by omega) (by omega)] at q
        omega
      · obtain ⟨c, e1, e2, e3⟩ := dgt_iff.mp (hd (b + n) (by omega) (by omega))
        have P0 := P.fr f n21 n22
        have ec := P0.2.2 _ _ e1
        rw [nI_cl (by omega), ec.1, nI_subn _ 48 (by omega) 48 rfl, nI_1]
        have hlt := dvf_lt (L := L) (b := b) n (fun i a z => hd i a (by omega))
        refine s_mul10 hp w (by omega) (by omega) (by rw [Int.natAbs_natCast]; exact gc_10 hlt (by omega)) (fun h2 f2 w2 => ?_)
        refine ih (n + 1) h2 (by omega) (f.trans f2) ?_
        have e4 : ((dvf L b (n + 1) : Nat) : Int) = (dvf L b n : Nat) * 10 + ((c - 48 : Nat) : Int) := by
          have e5 : L.getD (b + n) 0 = c := by rw [List.getD_eq_getElem?_getD, e1]; rfl
          show ((dvf L b n * 10 + (L.getD (b + n) 0 - 48) : Nat) : Int) = _
          rw [e5]
          omega
        rw [e4]
        exact w2
  exact loop (e - b) 0 h1 (by omega) f1 w1
theorem sgz_abs (s : Bool) (n : Nat) : (sgz s n).natAbs = n := by
  unfold sgz
  split
  · rw [Int.natAbs_neg, Int.natAbs_natCast]
  · exact Int.natAbs_natCast n
theorem s_tellsNumber {h : HP} {L : List Nat} {Φ : Int32 → HP → Prop} (P : PL h L) (K : ∀ h2 res, Fr [35, 36, 37, 38] h h2 → RD L res → (res = none → Φ 0 h2) ∧ (∀ u d, res = some (u, d) → WN h2 35 u → WN h2 37 d → gc 32 u.natAbs ≤ 43 → gc 32 d.natAbs ≤ 43 → Φ 1 h2)) : K_Li_tellsNumber [.ref 21, .ref 34] h Φ := by
  refine I_Li_tellsNumber (fun X C Rm Q => g_Li_tellsNumber_0 C Rm Q rfl (s_stands (c := 45) (p := 0) P (by omega) (by omega) ?_))
  have h1 := P.1
  have main : ∀ (s : Bool), (s = true ↔ L[0]? = some 45) → ∀ r1 : Int32, r1 = (if s then 1 else 0) → Wg X 0 0 h [(0, .ref 21), (1, .ref 34), (2, .int r1)] [.int (nI (if s then 1 else 0))] 17 := by
    intro s hs r1 hr1
    have hb : (if s then 1 else 0) ≤ L.length := by
      cases s
      · exact Nat.zero_le _
      · have := hs.mp rfl
        have := (List.getElem?_eq_some_iff.mp this).1
        show 1 ≤ L.length
        omega
    generalize hbe : (if s then 1 else 0 : Nat) = b at *
    refine g_Li_tellsNumber_17 C Rm Q rfl (s_endOfDigits P hb (fun e he => ?_))
    have hel := he.le hb
    have hbe2 := he.1
    rw [nI_eq (by omega) (by omega)]
    refine ⟨fun q => ?_, fun q => (K h none (Fr.rf _ _) ⟨s, b, e, hs, hbe.symm, he, Or.inl ⟨q, rfl⟩⟩).1 rfl⟩
    refine s_takeDigits P rfl hbe2 hel he.2.1 (fun h2 f2 w2 => ?_)
    have hlt := dvf_lt (L := L) (b := b) (e - b) (fun i a z => he.2.1 i a (by omega))
    have gu : gc 32 (sgz s (dvf L b (e - b))).natAbs ≤ 43 := by rw [sgz_abs]; exact gc_10 hlt (by omega)
    have c55 : ∀ h3, Fr [35, 36] h h3 → WN h3 35 (sgz s (dvf L b (e - b))) → Wg X 0 0 h3 [(0, .ref 21), (1, .ref 34), (2, .int r1), (3, .int (nI b)), (4, .int (nI e))] [] 55 := by
      intro h3 f3 w3
      refine g_Li_tellsNumber_55 C Rm Q rfl (s_setLong rfl (fun h4 f4 w4 => ?_))
      have f34 : Fr [35, 36, 37, 38] h h4 := (f3.mono (by simp)).trans (f4.mono (by simp))
      have w34 := w3.fr f4 (by simp) (by simp)
      have P4 := P.fr f34 (by simp) (by simp)
      rw [P4.2.1, nI_eq (by omega) (by omega)]
      refine ⟨fun q2 => ?_, fun q2 => (K h4 _ f34 ⟨s, b, e, hs, hbe.symm, he, Or.inr (Or.inl ⟨q, q2, rfl⟩)⟩).2 _ _ rfl w34 w4 gu (by rw [show Int.natAbs 1 = 1 from rfl, gc_1]; omega)⟩
      rw [nI_1]
      refine s_endOfDigits P4 (by omega) (fun e2 he2 => ?_)
      have hel2 := he2.le (by omega)
      have hb2 := he2.1
      refine s_takeDigits P4 rfl hb2 hel2 he2.2.1 (fun h5 f5 w5 => ?_)
      have f35 : Fr [35, 36, 37, 38] h h5 := f34.trans (f5.mono (by simp))
      have P5 := P.fr f35 (by simp) (by simp)
      have w35 := w34.fr f5 (by simp) (by simp)
      have hlt2 := dvf_lt (L := L) (b := e + 1) (e2 - (e + 1)) (fun i a z => he2.2.1 i a (by omega))
      refine s_stands (c := 47) P5 (by omega) (by omega) ?_
      by_cases q3 : L[e]? = some 47
      · rw [if_pos q3]
        refine ⟨fun q => absurd q (by decide), fun _ => ?_⟩
        have bad : (e2 = e + 1 ∨ e2 ≠ L.length) → Φ 0 h5 := fun z => (K h5 _ f35 ⟨s, b, e, hs, hbe.symm, he, Or.inr (Or.inr (Or.inr ⟨q, q2, q3, e2, he2, Or.inl ⟨z, rfl⟩⟩))⟩).1 rfl
        rw [nI_leI (by omega) (by omega), P5.2.1, nI_eq (by omega) (by omega)]
        refine ⟨fun z => bad (Or.inl (by omega)), fun z => ⟨fun z2 => bad (Or.inr z2), fun z2 => ?_⟩⟩
        exact (K h5 _ f35 ⟨s, b, e, hs, hbe.symm, he, Or.inr (Or.inr (Or.inr ⟨q, q2, q3, e2, he2, Or.inr ⟨by omega, z2, rfl⟩⟩))⟩).2 _ _ rfl w35 w5 gu (by rw [Int.natAbs_natCast]; exact gc_10 hlt2 (by omega))
      · rw [if_neg q3]
        refine ⟨fun _ => ?_, fun q => absurd rfl q⟩
        exact (K h5 none f35 ⟨s, b, e, hs, hbe.symm, he, Or.inr (Or.inr (Or.inl ⟨q, q2, q3, rfl⟩))⟩).1 rfl
    rw [hr1]
    refine ⟨fun z => ?_, fun z => ?_⟩
    · cases s
      · rw [← hr1]; exact c55 h2 (f2.mono (by simp)) w2
      · exact absurd z (by decide)
    · cases s
      · exact absurd rfl z
      · rw [← hr1]; exact s_flipSign rfl w2 (fun h3 f3 w3 => c55 h3 ((f2.mono (by simp)).trans (f3.mono (by simp))) w3)
  by_cases q : L[0]? = some 45
  · rw [if_pos q]
    exact ⟨fun z => absurd z (by decide), fun _ => main true ⟨fun _ => q, fun _ => rfl⟩ 1 rfl⟩
  · rw [if_neg q]
    exact ⟨fun _ => main false ⟨fun z => absurd z (by decide), fun z => absurd z q⟩ 0 rfl, fun z => absurd rfl z⟩
