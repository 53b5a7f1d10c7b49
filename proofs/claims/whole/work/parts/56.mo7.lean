/-! The model's line: typing. -/
theorem bteA (x : Int32) {k : Nat} (hk : k < 4) : (x >>> (nI (8 * k) &&& (31 : Int32))) &&& 255 = nI (un x / 2 ^ (8 * k) % 256) := by
  rw [pk_and _ 8 (by decide)]
  show nI (un _ % 2 ^ 8) = _
  have a := un_toInt x
  have hu := un_lt x
  rcases (show k = 0 ∨ k = 1 ∨ k = 2 ∨ k = 3 by omega) with rfl | rfl | rfl | rfl
  · have e := pk_shr x (nI (8 * 0) &&& (31 : Int32)) 0 (by decide)
    have b := un_toInt (x >>> (nI (8 * 0) &&& (31 : Int32)))
    have hb := un_lt (x >>> (nI (8 * 0) &&& (31 : Int32)))
    rw [e, Int.shiftRight_eq_div_pow] at b
    congr 1
    generalize un (x >>> (nI (8 * 0) &&& (31 : Int32))) = m at *
    generalize un x = n at *
    split at a <;> split at b <;> omega
  · have e := pk_shr x (nI (8 * 1) &&& (31 : Int32)) 8 (by decide)
    have b := un_toInt (x >>> (nI (8 * 1) &&& (31 : Int32)))
    have hb := un_lt (x >>> (nI (8 * 1) &&& (31 : Int32)))
    rw [e, Int.shiftRight_eq_div_pow] at b
    congr 1
    generalize un (x >>> (nI (8 * 1) &&& (31 : Int32))) = m at *
    generalize un x = n at *
    split at a <;> split at b <;> omega
  · have e := pk_shr x (nI (8 * 2) &&& (31 : Int32)) 16 (by decide)
    have b := un_toInt (x >>> (nI (8 * 2) &&& (31 : Int32)))
    have hb := un_lt (x >>> (nI (8 * 2) &&& (31 : Int32)))
    rw [e, Int.shiftRight_eq_div_pow] at b
    congr 1
    generalize un (x >>> (nI (8 * 2) &&& (31 : Int32))) = m at *
    generalize un x = n at *
    split at a <;> split at b <;> omega
  · have e := pk_shr x (nI (8 * 3) &&& (31 : Int32)) 24 (by decide)
    have b := un_toInt (x >>> (nI (8 * 3) &&& (31 : Int32)))
    have hb := un_lt (x >>> (nI (8 * 3) &&& (31 : Int32)))
    rw [e, Int.shiftRight_eq_div_pow] at b
    congr 1
    generalize un (x >>> (nI (8 * 3) &&& (31 : Int32))) = m at *
    generalize un x = n at *
    split at a <;> split at b <;> omega
/-- what has been typed: all of it, of which the first 200 stand in the line -/
def MT (h h0 : HP) (L : List Nat) : Prop := Fr [0, 11] h h0 ∧ (∀ i, i ≠ 15 → h0 0 i = h 0 i) ∧ h0 0 15 = nI L.length ∧ (∀ i c, i < 200 → L[i]? = some c → h0 11 i = nI c ∧ c < 256) ∧ L.length < 1000
theorem s_mput {h h0 : HP} {L : List Nat} {x : Int32} {k : Nat} {Φ : HP → Prop} (T : MT h h0 L) (hk : k < 4) (hl : L.length < 900) (K : ∀ h2, MT h h2 (if un x / 2 ^ (8 * k) % 256 = 0 then L else L ++ [un x / 2 ^ (8 * k) % 256]) → Φ h2) : K_Mo_put [.ref 0, .int x, .int (nI (8 * k))] h0 Φ := by
  refine I_Mo_put (fun X C Rm Q => g_Mo_put_0 C Rm Q ?_)
  obtain ⟨t1, t2, t3, t4, t5⟩ := T
  have hb : un x / 2 ^ (8 * k) % 256 < 256 := Nat.mod_lt _ (by decide)
  rw [bteA x hk]
  generalize un x / 2 ^ (8 * k) % 256 = c at *
  rw [nI_le0 (by omega), t3, i2c_c (by omega), nar_c (by omega), show (200 : Int32) = nI 200 from rfl, nI_leI (by omega) (by omega), nI_1]
  have app : ∀ (g : HP), (∀ i, i < 200 → i < L.length → g 11 i = h0 11 i) → (L.length < 200 → g 11 L.length = nI c) → ∀ i d, i < 200 → (L ++ [c])[i]? = some d → g 11 i = nI d ∧ d < 256 := by
    intro g g1 g2 i d hi e
    rcases get_app.mp e with ⟨a, b⟩ | ⟨a, b⟩
    · rw [g1 i hi a]
      exact t4 i d hi b
    · subst a
      rw [b]
      exact ⟨g2 hi, hb⟩
  refine ⟨fun q => ?_, fun q => ⟨fun f => ?_, fun f => ⟨vp_in_nI (by omega) (by omega), ?_⟩⟩⟩
  · rw [if_pos q] at K
    exact K h0 ⟨t1, t2, t3, t4, t5⟩
  · rw [if_neg q] at K
    refine K _ ⟨t1.up (by simp), fun i hi => by rw [up_at_ne hi]; exact t2 i hi, by rw [up_at, List.length_append]; rfl, app _ (fun i _ _ => by rw [up_ne (by omega)]) (fun z => by omega), by rw [List.length_append]; show L.length + 1 < 1000; omega⟩
  · rw [if_neg q] at K
    rw [nI_cl (by omega), up_ne (by omega), t3, nI_1]
    refine K _ ⟨(t1.up (by simp)).up (by simp), fun i hi => by rw [up_at_ne hi, up_ne (by omega)]; exact t2 i hi, by rw [up_at, List.length_append]; rfl, app _ (fun i _ hi => by rw [up_ne (by omega), up_at_ne (by omega)]) (fun _ => by rw [up_ne (by omega), up_at]), by rw [List.length_append]; show L.length + 1 < 1000; omega⟩
def tys (a b c d e : Int32) : List Nat := bys a ++ (bys b ++ (bys c ++ (bys d ++ bys e)))
theorem tys_len (a b c d e : Int32) : (tys a b c d e).length = (bys a).length + ((bys b).length + ((bys c).length + ((bys d).length + (bys e).length))) := by
  unfold tys
  rw [List.length_append, List.length_append, List.length_append, List.length_append]
theorem bys_len (x : Int32) : (bys x).length ≤ 4 := byk_len x 4
theorem MT.ms {h h2 : HP} {A : AS} {o : Nat → Nat} {L L2 O : List Nat} (S : MS h A o L O) (T : MT h h2 L2) (hl : L2.length ≤ 200) : MS h2 A o L2 O := by
  obtain ⟨t1, t2, t3, t4, t5⟩ := T
  refine ⟨S.1, S.2.1.cong S.1 (fun j a b c d => t1 j (by simp; omega)) (t2 3 (by omega)) (t2 9 (by omega)) (t2 10 (by omega)), ⟨hl, t3, fun i c e => t4 i c ?_ e⟩, S.2.2.2.cong (t2 17 (by omega)) (t1 12 (by simp))⟩
  have := (List.getElem?_eq_some_iff.mp e).1
  omega
theorem s_mtype {h : HP} {A : AS} {o : Nat → Nat} {L O : List Nat} {a b c d e : Int32} {Φ : Int32 → HP → Prop} (S : MS h A o L O) (bad : 200 < L.length + (tys a b c d e).length → ∀ h2, FM h h2 → h2 0 0 = 1 → MS h2 A o L O → Φ 0 h2) (good : L.length + (tys a b c d e).length ≤ 200 → ∀ h2, FM h h2 → h2 0 0 = 0 → MS h2 A o (L ++ tys a b c d e) O → Φ (nI (L ++ tys a b c d e).length) h2) : K_Mo_type [.ref 0, .int a, .int b, .int c, .int d, .int e] h Φ := by
  refine I_Mo_type (fun X C Rm Q => g_Mo_type_0 C Rm Q ?_)
  have hL := S.2.2.1
  have hl := hL.1
  rw [hL.2.1]
  have ba := bys_len a
  have bb := bys_len b
  have bc := bys_len c
  have bd := bys_len d
  have be := bys_len e
  have T0 : MT h h L := ⟨Fr.rf _ _, fun _ _ => rfl, hL.2.1, fun i c _ z => hL.2.2 i c z, by omega⟩
  -- the end
  have fin : ∀ h0, MT h h0 (L ++ tys a b c d e) → Wg X 0 0 h0 [(0, .ref 0), (1, .int a), (2, .int b), (3, .int c), (4, .int d), (5, .int e), (6, .int (nI L.length)), (7, .int (nI 5))] [] 9 := by
    intro h0 T
    have tl := tys_len a b c d e
    have hlen : (L ++ tys a b c d e).length = L.length + (tys a b c d e).length := List.length_append
    refine g_Mo_type_9 C Rm Q ⟨fun _ => ?_, fun z => absurd (by decide) z⟩
    obtain ⟨t1, t2, t3, t4, t5⟩ := id T
    rw [t3, show (200 : Int32) = nI 200 from rfl, nI_leI (by omega) (by omega)]
    refine ⟨fun q => s_mref0 ⟨fun _ => ?_, fun z => absurd rfl z⟩, fun q => s_mref1 ⟨fun z => absurd z (by decide), fun _ => ?_⟩⟩
    · have S0 := (MT.ms S T q).ref (v := 0)
      rw [up_at_ne (by omega), t3]
      refine good (by omega) _ (((t1.mono (by simp)) : FM h h0).trans FM.ref) (up_at _ _ _ _) S0
    · have f : Fr [0, 11] h (up (up h0 0 0 1) 0 15 (nI L.length)) := (t1.up (by simp)).up (by simp)
      have e0 : ∀ i, i ≠ 0 → up (up h0 0 0 1) 0 15 (nI L.length) 0 i = h 0 i := fun i hi => by
        by_cases z : i = 15
        · subst z; rw [up_at, hL.2.1]
        · rw [up_at_ne z, up_at_ne hi]; exact t2 i z
      refine bad (by omega) _ (f.mono (by simp)) (by rw [up_at_ne (by omega), up_at]) ⟨S.1, S.2.1.cong S.1 (fun j a b c d => f j (by simp; omega)) (e0 3 (by omega)) (e0 9 (by omega)) (e0 10 (by omega)), ⟨hl, e0 15 (by omega) |>.trans hL.2.1, fun i c z => ?_⟩, S.2.2.2.cong (e0 17 (by omega)) (f 12 (by simp))⟩
      have hi := (List.getElem?_eq_some_iff.mp z).1
      rw [up_ne (by omega), up_ne (by omega)]
      exact t4 i c (by omega) (by rw [List.getElem?_append_left hi]; exact z)
  -- one of the five
  have four : ∀ (v7 : Nat) (x : Int32), v7 < 5 → ∀ (M : List Nat), M.length < 900 → (∀ h0, MT h h0 M → Wg X 0 0 h0 [(0, .ref 0), (1, .int a), (2, .int b), (3, .int c), (4, .int d), (5, .int e), (6, .int (nI L.length)), (7, .int (nI (v7 + 1)))] [] 9) → ∀ k (h0 : HP) (L0 : List Nat), k ≤ 4 → MT h h0 L0 → L0 ++ byk x k = M → Wg X 0 0 h0 [(0, .ref 0), (1, .int a), (2, .int b), (3, .int c), (4, .int d), (5, .int e), (6, .int (nI L.length)), (7, .int (nI v7)), (8, .int x), (9, .int (nI (8 * k) - 8))] [] 63 := by
    intro v7 x hv7 M hMl nxt k
    induction k with
    | zero =>
      intro h0 L0 _ T hM
      refine g_Mo_type_63 C Rm Q ⟨fun _ => ?_, fun q => absurd (by decide) q⟩
      rw [nI_1]
      refine nxt h0 ?_
      rw [← hM]
      unfold byk
      rw [List.append_nil]
      exact T
    | succ k ih =>
      intro h0 L0 hk T hM
      have hl0 : L0.length ≤ M.length := by rw [← hM, List.length_append]; omega
      rw [nI_subn _ 8 (by omega) 8 rfl, show 8 * (k + 1) - 8 = 8 * k by omega]
      refine g_Mo_type_63 C Rm Q ⟨fun q => absurd q (nI_lt0 (by omega)), fun _ => s_mput T (by omega) (by omega) (fun h2 T2 => ?_)⟩
      unfold byk at hM
      by_cases q : un x / 2 ^ (8 * k) % 256 = 0
      · rw [if_pos q] at hM T2
        exact ih h2 L0 (by omega) T2 hM
      · rw [if_neg q] at hM T2
        refine ih h2 _ (by omega) T2 ?_
        rw [List.append_assoc]
        exact hM
  have e5 : (((L ++ bys a) ++ bys b) ++ bys c) ++ bys d ++ bys e = L ++ tys a b c d e := by
    unfold tys
    simp only [List.append_assoc]
  have l1 : (L ++ bys a).length = L.length + (bys a).length := List.length_append
  have l2 : (L ++ bys a ++ bys b).length = (L ++ bys a).length + (bys b).length := List.length_append
  have l3 : (L ++ bys a ++ bys b ++ bys c).length = (L ++ bys a ++ bys b).length + (bys c).length := List.length_append
  have l4 : (L ++ bys a ++ bys b ++ bys c ++ bys d).length = (L ++ bys a ++ bys b ++ bys c).length + (bys d).length := List.length_append
  have l5 : (L ++ bys a ++ bys b ++ bys c ++ bys d ++ bys e).length = (L ++ bys a ++ bys b ++ bys c ++ bys d).length + (bys e).length := List.length_append
  rw [← e5] at fin
  have c4 : ∀ h0, MT h h0 (L ++ bys a ++ bys b ++ bys c ++ bys d) → Wg X 0 0 h0 [(0, .ref 0), (1, .int a), (2, .int b), (3, .int c), (4, .int d), (5, .int e), (6, .int (nI L.length)), (7, .int (nI 4))] [] 9 := fun h0 T =>
    g_Mo_type_9 C Rm Q ⟨fun z => absurd z (by decide), fun _ => ⟨fun _ => ⟨fun _ => ⟨fun _ => ⟨fun _ => four 4 e (by omega) _ (by omega) fin 4 h0 _ (by omega) T rfl, fun z => absurd z (by decide)⟩, fun z => absurd z (by decide)⟩, fun z => absurd z (by decide)⟩, fun z => absurd z (by decide)⟩⟩
  have c3 : ∀ h0, MT h h0 (L ++ bys a ++ bys b ++ bys c) → Wg X 0 0 h0 [(0, .ref 0), (1, .int a), (2, .int b), (3, .int c), (4, .int d), (5, .int e), (6, .int (nI L.length)), (7, .int (nI 3))] [] 9 := fun h0 T =>
    g_Mo_type_9 C Rm Q ⟨fun z => absurd z (by decide), fun _ => ⟨fun _ => ⟨fun _ => ⟨fun _ => ⟨fun z => absurd rfl z, fun _ => four 3 d (by omega) _ (by omega) c4 4 h0 _ (by omega) T rfl⟩, fun z => absurd z (by decide)⟩, fun z => absurd z (by decide)⟩, fun z => absurd z (by decide)⟩⟩
  have c2 : ∀ h0, MT h h0 (L ++ bys a ++ bys b) → Wg X 0 0 h0 [(0, .ref 0), (1, .int a), (2, .int b), (3, .int c), (4, .int d), (5, .int e), (6, .int (nI L.length)), (7, .int (nI 2))] [] 9 := fun h0 T =>
    g_Mo_type_9 C Rm Q ⟨fun z => absurd z (by decide), fun _ => ⟨fun _ => ⟨fun _ => ⟨fun z => absurd rfl z, fun _ => four 2 c (by omega) _ (by omega) c3 4 h0 _ (by omega) T rfl⟩, fun z => absurd z (by decide)⟩, fun z => absurd z (by decide)⟩⟩
  have c1 : ∀ h0, MT h h0 (L ++ bys a) → Wg X 0 0 h0 [(0, .ref 0), (1, .int a), (2, .int b), (3, .int c), (4, .int d), (5, .int e), (6, .int (nI L.length)), (7, .int (nI 1))] [] 9 := fun h0 T =>
    g_Mo_type_9 C Rm Q ⟨fun z => absurd z (by decide), fun _ => ⟨fun _ => ⟨fun z => absurd rfl z, fun _ => four 1 b (by omega) _ (by omega) c2 4 h0 _ (by omega) T rfl⟩, fun z => absurd z (by decide)⟩⟩
  exact g_Mo_type_9 C Rm Q ⟨fun z => absurd z (by decide), fun _ => ⟨fun z => absurd rfl z, fun _ => four 0 a (by omega) _ (by omega) c1 4 h L (by omega) T0 rfl⟩⟩
