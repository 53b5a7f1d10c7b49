/-! The class' calls: work, the line, what is written, what is asked. -/
set_option maxHeartbeats 1000000 in
theorem s_cwork {h : HP} {A : AS} {L O : List Nat} {t p q way : Nat} {Φ : Int32 → HP → Prop} (S : CS h A L O) (ht : t < 8) (hp : p < 8) (hq : q < 8) (hw : way < 7) (K : ∀ h2, FC h h2 → CS h2 (oWkA A t (ar A p) (ar A q) way) L O → Φ (Int32.ofInt (oWkR A (ar A p) (ar A q) way)) h2) : K_Ce_work [.ref 14, .int (nI t), .int (nI p), .int (nI q), .int (nI way)] h Φ := by
  unfold oWkA oWkR at K
  have no : ¬ wkK A (ar A p) (ar A q) way → Φ (-4) h := fun z => by
    simp only [if_pos z] at K
    exact K h (FC.rf h) S
  have hv := S.wf.2.2 p hp
  have hu := S.wf.2.2 q hq
  refine I_Ce_work (fun X C Rm Q => ?_)
  have c30 : ∀ t0 : Int32, (t0 = 0 ↔ way ≤ 3) → Wg X 0 0 h [(0, .ref 14), (1, .int (nI t)), (2, .int (nI p)), (3, .int (nI q)), (4, .int (nI way))] [.int t0] 30 := by
    intro t0 ht0
    refine g_Ce_work_30 C Rm Q (s_isOperand S hp ⟨fun z => no (fun y => ?_), fun z => s_isOperand S hq ⟨fun z2 => ?_, fun z2 => no (fun y => ?_)⟩⟩)
    · have e : isNm A (ar A p) ∧ (t0 = 0 ∨ vs A (ar A p) ≠ 3) := ⟨y.1, by
        rcases y.2.2 with y | y
        · exact Or.inl (ht0.mpr y)
        · exact Or.inr y.1⟩
      rw [if_pos e] at z; exact absurd z (by decide)
    · have n1 : isNm A (ar A p) ∧ (t0 = 0 ∨ vs A (ar A p) ≠ 3) := by
        by_cases y : isNm A (ar A p) ∧ (t0 = 0 ∨ vs A (ar A p) ≠ 3)
        · exact y
        · rw [if_neg y] at z; exact absurd rfl z
      have n2 : isNm A (ar A q) ∧ (t0 = 0 ∨ vs A (ar A q) ≠ 3) := by
        by_cases y : isNm A (ar A q) ∧ (t0 = 0 ∨ vs A (ar A q) ≠ 3)
        · exact y
        · rw [if_neg y] at z2; exact absurd rfl z2
      have kk : wkK A (ar A p) (ar A q) way := ⟨n1.1, n2.1, by
        by_cases y : way ≤ 3
        · exact Or.inl y
        · have t1 : ¬ t0 = 0 := fun e => y (ht0.mp e)
          exact Or.inr ⟨n1.2.resolve_left t1, n2.2.resolve_left t1⟩⟩
      simp only [if_neg (show ¬ ¬ wkK A (ar A p) (ar A q) way from fun z => z kk)] at K
      obtain ⟨-, -, b0⟩ := num_gc S.wf hv n1.1.1 n1.1.2
      obtain ⟨-, -, d0⟩ := num_gc S.wf hu n2.1.1 n2.1.2
      refine s_cops S hp hq n1.1 n2.1 (fun h2 f2 S2 op => ?_)
      generalize nU A (ar A p) = a at *
      generalize nD A (ar A p) = b at *
      generalize nU A (ar A q) = c at *
      generalize nD A (ar A q) = d at *
      have wc := op.1.2.2.1
      have zero : 3 ≤ way ∧ way ≤ 5 ∧ c = 0 → Φ (-5) h2 := fun z => by
        simp only [if_pos z] at K
        exact K h2 f2 S2
      have c150 : ∀ v6 : Int32, ¬ (3 ≤ way ∧ way ≤ 5 ∧ c = 0) → Wg X 0 0 h2 [(0, .ref 14), (1, .int (nI t)), (2, .int (nI p)), (3, .int (nI q)), (4, .int (nI way)), (5, .int t0), (6, .int v6)] [] 150 := by
        intro v6 nz
        simp only [if_neg nz, wU, wD] at K
        refine g_Ce_work_150 C Rm Q ⟨fun z => ?_, fun z => ?_⟩
        · have h3 := ht0.mp z
          simp only [if_pos h3] at K
          refine s_ratios h3 op (fun h4 f4 w1 w2 g1 g2 => ?_)
          have D0 : wkD way b c d ≠ 0 := by
            unfold wkD
            split
            · exact mul_ne b0 d0
            · rw [if_pos (by omega)]
              exact mul_ne b0 (fun z => nz ⟨by omega, by omega, z⟩)
          have sb4 := S2.2.2.2.fr f4 (by simp) (by simp)
          refine s_lowest w1 w2 D0 g1 g2 sb4 (fun h5 f5 sb5 w3 w4 => ?_)
          have S5 := (S2.num f4 (by simp) sb4).num f5 (by simp) sb5
          exact s_keepResult S5 ht w3 w4 (by have := rD_pos (u := wkU way a b c d) D0; omega) (fun h6 f6 S6 => K h6 (((f2.trans (f4.fc (by simp))).trans (f5.fc (by simp))).trans f6) S6)
        · have h3 : ¬ way ≤ 3 := fun e => z (ht0.mpr e)
          simp only [if_neg h3] at K
          refine s_wholes (by omega) (by omega) op S2.2.2.2 (fun n6 e => nz ⟨by omega, by omega, e⟩) (fun h4 f4 sb4 w1 w2 => ?_)
          have S4 := S2.num f4 (by simp) sb4
          exact s_keepResult S4 ht w1 w2 (by decide) (fun h6 f6 S6 => K h6 ((f2.trans (f4.fc (by simp))).trans f6) S6)
      have isz : (3 ≤ way ∧ way ≤ 5) → K_Wh_isZero [.ref 30] h2 (fun r5 h5 => (r5 = 0 → Wg X 0 0 h5 [(0, .ref 14), (1, .int (nI t)), (2, .int (nI p)), (3, .int (nI q)), (4, .int (nI way)), (5, .int t0), (6, .int 1)] [] 150) ∧ (¬ r5 = 0 → Φ ((-5)) h5)) := by
        intro hw3
        refine s_isZero rfl wc ⟨fun y => c150 1 (fun e => ?_), fun y => zero ⟨hw3.1, hw3.2, ?_⟩⟩
        · rw [if_pos e.2.2] at y; exact absurd y (by decide)
        · by_cases e : c = 0
          · exact e
          · rw [if_neg e] at y; exact absurd rfl y
      rw [show (3 : Int32) = nI 3 from rfl, show (4 : Int32) = nI 4 from rfl, show (5 : Int32) = nI 5 from rfl, nI_eq (by omega) (by omega), nI_eq (by omega) (by omega), nI_eq (by omega) (by omega)]
      exact ⟨fun y => isz (by omega), fun y => ⟨fun y2 => isz (by omega), fun y2 => ⟨fun y3 => c150 0 (by omega), fun y3 => isz (by omega)⟩⟩⟩
    · have e : isNm A (ar A q) ∧ (t0 = 0 ∨ vs A (ar A q) ≠ 3) := ⟨y.2.1, by
        rcases y.2.2 with y | y
        · exact Or.inl (ht0.mpr y)
        · exact Or.inr y.2⟩
      rw [if_pos e] at z2; exact absurd z2 (by decide)
  refine g_Ce_work_0 C Rm Q (s_ckr ht (s_ckr hp (s_ckr hq (s_ckn (n := 6) (by omega) ⟨way, hw, rfl⟩ ?_))))
  rw [show (4 : Int32) = nI 4 from rfl, nI_ltI (by omega) (by omega)]
  exact ⟨fun z => c30 0 ⟨fun _ => by omega, fun _ => rfl⟩, fun z => c30 1 ⟨fun e => absurd e (by decide), fun e => by omega⟩⟩
theorem s_ctype {h : HP} {A : AS} {L O : List Nat} {a b c d e : Int32} {Φ : Int32 → HP → Prop} (S : CS h A L O) (hl : L.length + (tys a b c d e).length ≤ 200) (K : ∀ h2, FC h h2 → CS h2 A (L ++ tys a b c d e) O → Φ (nI (L ++ tys a b c d e).length) h2) : K_Ce_type [.ref 14, .int a, .int b, .int c, .int d, .int e] h Φ := by
  have tl := tys_len a b c d e
  have ba := bys_len a
  have bb := bys_len b
  have bc := bys_len c
  have bd := bys_len d
  have be := bys_len e
  have l1 : (L ++ bys a).length = L.length + (bys a).length := List.length_append
  have l2 : (L ++ bys a ++ bys b).length = (L ++ bys a).length + (bys b).length := List.length_append
  have l3 : (L ++ bys a ++ bys b ++ bys c).length = (L ++ bys a ++ bys b).length + (bys c).length := List.length_append
  have l4 : (L ++ bys a ++ bys b ++ bys c ++ bys d).length = (L ++ bys a ++ bys b ++ bys c).length + (bys d).length := List.length_append
  have e5 : (((L ++ bys a) ++ bys b) ++ bys c) ++ bys d ++ bys e = L ++ tys a b c d e := by
    unfold tys
    simp only [List.append_assoc]
  refine I_Ce_type (fun X C Rm Q => g_Ce_type_0 C Rm Q (s_charactersIn (s_charactersIn (s_charactersIn (s_charactersIn (s_charactersIn ⟨fun _ => ?_, fun z => ?_⟩))))))
  · refine s_addFour S.2.1 (by omega) (fun h1 f1 P1 => s_addFour P1 (by omega) (fun h2 f2 P2 => s_addFour P2 (by omega) (fun h3 f3 P3 => s_addFour P3 (by omega) (fun h4 f4 P4 => s_addFour P4 (by omega) (fun h5 f5 P5 => ?_)))))
    have f := (((f1.trans f2).trans f3).trans f4).trans f5
    rw [e5] at P5
    rw [P5.2.1]
    exact K h5 (f.fc (by simp)) ⟨S.1.fr f (by simp) (by simp) (by simp), P5, S.2.2.1.fr f (by simp) (by simp), S.2.2.2.fr f (by simp) (by simp)⟩
  · rw [S.2.1.2.1, nI_add, nI_add, nI_add, nI_add, nI_add, show (200 : Int32) = nI 200 from rfl, nI_leI (by omega) (by omega)] at z
    omega
theorem s_cerase {h : HP} {A : AS} {L O : List Nat} {Φ : Int32 → HP → Prop} (S : CS h A L O) (K : ∀ h2, FC h h2 → CS h2 A [] O → Φ (nI L.length) h2) : K_Ce_erase [.ref 14] h Φ := by
  refine I_Ce_erase (fun X C Rm Q => g_Ce_erase_0 C Rm Q ?_)
  have f : Fr [21] h (up h 21 1 0) := (Fr.rf _ _).up (by simp)
  rw [S.2.1.2.1]
  exact K _ (f.fc (by simp)) ⟨S.1.fr f (by simp) (by simp) (by simp), ⟨Nat.zero_le _, up_at _ _ _ _, fun i c z => nomatch z⟩, S.2.2.1.fr f (by simp) (by simp), S.2.2.2.fr f (by simp) (by simp)⟩
theorem s_cread {h : HP} {A : AS} {L O : List Nat} {t : Nat} {Φ : Int32 → HP → Prop} (S : CS h A L O) (ht : t < 8) (K : ∀ h2 res, RD L res → FC h h2 → CS h2 (oRdA A t res) L O → Φ (Int32.ofInt (oRdR A res)) h2) : K_Ce_read [.ref 14, .int (nI t)] h Φ := by
  refine I_Ce_read (fun X C Rm Q => g_Ce_read_0 C Rm Q (s_ckr ht (s_tellsNumber S.2.1 (fun h2 res f2 rd => ⟨fun e => ?_, fun u d e w1 w2 g1 g2 => ?_⟩))))
  · subst e
    have S2 : CS h2 A L O := S.num f2 (by simp) (S.2.2.2.fr f2 (by simp) (by simp))
    exact ⟨fun z => absurd rfl z, fun _ => K h2 none rd (f2.fc (by simp)) S2⟩
  · subst e
    have sb2 := S.2.2.2.fr f2 (by simp) (by simp)
    have S2 : CS h2 A L O := S.num f2 (by simp) sb2
    have F2 : FC h h2 := f2.fc (by simp)
    have k := fun h3 => K h3 _ rd
    unfold oRdA oRdR at k
    refine ⟨fun _ => s_isZero rfl w2 ⟨fun z => s_raIsLarge (p := 34) rfl w1 w2 ⟨fun z2 => ?_, fun z2 => ?_⟩, fun z => ?_⟩, fun z => absurd z (by decide)⟩
    · have d0 : ¬ d = 0 := fun e => by rw [if_pos e] at z; exact absurd z (by decide)
      have hl : gc 32 u.natAbs ≤ 20 ∧ gc 32 d.natAbs ≤ 20 := by
        by_cases y : gc 32 u.natAbs ≤ 20 ∧ gc 32 d.natAbs ≤ 20
        · exact y
        · rw [if_neg y] at z2; exact absurd z2 (by decide)
      simp only [if_neg d0, if_neg (show ¬ ¬ (gc 32 u.natAbs ≤ 20 ∧ gc 32 d.natAbs ≤ 20) from fun z => z hl)] at k
      refine s_lowest w1 w2 d0 g1 g2 sb2 (fun h5 f5 sb5 w3 w4 => ?_)
      exact s_keepResult (S2.num f5 (by simp) sb5) ht w3 w4 (by have := rD_pos (u := u) d0; omega) (fun h6 f6 S6 => k h6 ((F2.trans (f5.fc (by simp))).trans f6) S6)
    · have d0 : ¬ d = 0 := fun e => by rw [if_pos e] at z; exact absurd z (by decide)
      have hl : ¬ (gc 32 u.natAbs ≤ 20 ∧ gc 32 d.natAbs ≤ 20) := fun y => z2 (by rw [if_pos y])
      simp only [if_neg d0, if_pos hl] at k
      exact k h2 F2 S2
    · have d0 : d = 0 := by
        by_cases y : d = 0
        · exact y
        · rw [if_neg y] at z; exact absurd rfl z
      simp only [if_pos d0] at k
      exact k h2 F2 S2
theorem s_cwrite {h : HP} {A : AS} {L O : List Nat} {p : Nat} {Φ : Int32 → HP → Prop} (S : CS h A L O) (hp : p < 8) (K : ∀ h2 res, WR A (ar A p) res → FC h h2 → CS h2 A L (res.getD []) → Φ (oWrR res) h2) : K_Ce_write [.ref 14, .int (nI p)] h Φ := by
  refine I_Ce_write (fun X C Rm Q => g_Ce_write_0 C Rm Q (s_ckr hp ⟨v8 hp, ?_⟩))
  rw [nI_cl (by omega), S.pc.reg hp]
  refine s_print S.pc (S.wf.2.2 p hp) (fun h2 res f2 wr o2 => ?_)
  have f2 : Fr [52, 53, 54, 55, 56, 57] h h2 := f2
  have S2 : CS h2 A L (res.getD []) := ⟨S.1.fr f2 (by simp) (by simp) (by simp), S.2.1.fr f2 (by simp) (by simp), o2, S.2.2.2.fr f2 (by simp) (by simp)⟩
  have k := K h2 res wr (f2.fc (by simp)) S2
  cases res with
  | none => exact ⟨fun _ => k, fun z => absurd rfl z⟩
  | some T =>
    refine ⟨fun z => absurd z (show ¬ (1 : Int32) = 0 by decide), fun _ => ?_⟩
    rw [o2.2.1]
    exact k
theorem s_coutput {h : HP} {A : AS} {L O : List Nat} {v : Int32} {Φ : Int32 → HP → Prop} (S : CS h A L O) (hc : ∀ (i c : Nat), O[i]? = some c → c < 256) (K : Φ (och O v) h) : K_Ce_output [.ref 14, .int v] h Φ := by
  obtain ⟨m1, m2, m3⟩ := S.2.2.1
  unfold och at K
  refine I_Ce_output (fun X C Rm Q => g_Ce_output_0 C Rm Q ⟨fun z => ⟨rfl, by rw [if_pos z] at K; exact K⟩, fun z => ?_⟩)
  rw [if_neg z] at K
  have hv := cl_of z
  have hb : v.toNatClampNeg < 2147483648 := by
    have := v.toInt_lt
    have e : v.toNatClampNeg = v.toInt.toNat := rfl
    omega
  rw [m2]
  generalize v.toNatClampNeg = i at *
  subst hv
  rw [nI_leI (by omega) (by omega)]
  refine ⟨fun y => ⟨rfl, ?_⟩, fun y => ⟨vp_in_nI (by omega) (by omega), ?_⟩⟩
  · rw [List.getD_eq_getElem?_getD, List.getElem?_eq_none y] at K
    exact K
  · obtain ⟨c, e⟩ : ∃ c, O[i]? = some c := ⟨O[i]'(by omega), List.getElem?_eq_getElem (by omega)⟩
    have l := hc i c e
    rw [m3 i c e]
    refine ⟨nar_c (by omega), ?_⟩
    rw [List.getD_eq_getElem?_getD, e] at K
    exact K
theorem s_ccollect {h : HP} {A : AS} {L O : List Nat} {Φ : Int32 → HP → Prop} (S : CS h A L O) (K : ∀ h2, FC h h2 → CS h2 (gcA A) L O → Φ (nI (ad A (an A) - na A (an A))) h2) : K_Ce_collect [.ref 14] h Φ := by
  refine I_Ce_collect (fun X C Rm Q => g_Ce_collect_0 C Rm Q (s_slideLiving S.pc (fun h2 f2 P2 => ?_)))
  have k := K h2 (f2.fc (by simp)) (S.heap f2 (by simp) P2)
  rw [S.pc.top, P2.top]
  have e : ad (gcA A) (an (gcA A)) = na A (an A) := ad_gc _ (Nat.le_refl _)
  have l := na_le A (an A)
  have h4 := S.wf.1
  rw [e, nI_sub (by omega)]
  exact k
theorem s_cvalue {h : HP} {A : AS} {L O : List Nat} {p w : Nat} {Φ : Int32 → HP → Prop} (S : CS h A L O) (hp : p < 8) (hw : w < 4) (K : Φ (oVal A (ar A p) w) h) : K_Ce_value [.ref 14, .int (nI p), .int (nI w)] h Φ := by
  have hv := S.wf.2.2 p hp
  have l := vs_lt S.wf hv
  refine I_Ce_value (fun X C Rm Q => g_Ce_value_0 C Rm Q (s_ckr hp (s_ckn (n := 3) (by omega) ⟨w, hw, rfl⟩ ⟨v8 hp, ?_⟩)))
  rw [nI_cl (by omega), S.pc.reg hp]
  refine s_sortOf S.pc hv ?_
  unfold oVal at K
  rw [nI_e0 (by omega), show (3 : Int32) = nI 3 from rfl, nI_eq (by omega) (by omega), show (2 : Int32) = nI 2 from rfl, nI_ltI (by omega) (by omega), show (1 : Int32) = nI 1 from rfl, nI_eq (by omega) (by omega)]
  have c67 : ¬ w = 0 → ¬ w = 3 → ∀ t0 : Int32, (t0 = 0 ↔ vs A (ar A p) < 2) → Wg X 0 0 h [(0, .ref 14), (1, .int (nI p)), (2, .int (nI w)), (3, .int (enc A (ar A p))), (4, .int (nI (vs A (ar A p))))] [.int t0] 67 := by
    intro w0 w3 t0 ht0
    rw [if_neg w0] at K
    refine g_Ce_value_67 C Rm Q ?_
    rw [show (1 : Int32) = nI 1 from rfl, nI_eq (by omega) (by omega)]
    generalize ar A p = v at *
    match v, hv, K, ht0 with
    | none, _, K, ht0 =>
      have t0z : t0 = 0 := ht0.mpr (by show 0 < 2; omega)
      refine ⟨fun w1 => ⟨fun _ => ?_, fun z => absurd t0z z⟩, fun w1 => ⟨fun _ => ?_, fun z => absurd t0z z⟩⟩
      · simp only [if_neg w1] at K; exact K
      · simp only [if_pos w1] at K; exact K
    | some (.inl z), _, K, ht0 =>
      have t0z : t0 = 0 := ht0.mpr (by show 1 < 2; omega)
      refine ⟨fun w1 => ⟨fun _ => ?_, fun z => absurd t0z z⟩, fun w1 => ⟨fun _ => ?_, fun z => absurd t0z z⟩⟩
      · simp only [if_neg w1, if_pos (show w = 2 by omega)] at K; exact K
      · simp only [if_pos w1] at K; exact K
    | some (.inr k), hv, K, ht0 =>
      have hk : k < an A := hv
      have o2 := (osrt_lt (S.wf.2.1 k hk)).1
      have t0n : ¬ t0 = 0 := fun z => by
        have := ht0.mp z
        have : osrt (ao A k) < 2 := this
        omega
      refine ⟨fun w1 => ⟨fun z => absurd z t0n, fun _ => s_cellOf S.wf hk (s_sizeAt S.wf hk (S.pc.obj hk) ?_)⟩, fun w1 => ⟨fun z => absurd z t0n, fun _ => s_cellOf S.wf hk ?_⟩⟩
      · simp only [if_neg w1, if_pos (show w = 2 by omega)] at K; exact K
      · simp only [if_pos w1] at K; exact K
  refine ⟨fun w0 => ⟨fun w3 => ⟨fun z => c67 w0 w3 0 ⟨fun _ => z, fun _ => rfl⟩, fun z => c67 w0 w3 1 ⟨fun e => absurd e (by decide), fun e => absurd e z⟩⟩, fun w3 => ?_⟩, fun w0 => ?_⟩
  · subst w3
    rw [if_neg w0] at K
    generalize ar A p = v at *
    match v, hv, K with
    | none, _, K => exact ⟨fun _ => K, fun z => absurd z (by show ¬ 0 = 1; omega)⟩
    | some (.inl z), hv, K => exact ⟨fun z => absurd rfl z, fun _ => s_fixedOf hv K⟩
    | some (.inr k), hv, K =>
      have hk : k < an A := hv
      have o2 := (osrt_lt (S.wf.2.1 k hk)).1
      refine ⟨fun _ => K, fun z => ?_⟩
      have z : osrt (ao A k) = 1 := z
      omega
  · rw [if_pos w0] at K
    exact K
theorem s_ccount {h : HP} {A : AS} {L O : List Nat} {w : Nat} {Φ : Int32 → HP → Prop} (S : CS h A L O) (hw : w < 4) (K : ∀ h2, FC h h2 → CS h2 A L O → Φ (nI (oCnt A w)) h2) : K_Ce_count [.ref 14, .int (nI w)] h Φ := by
  refine I_Ce_count (fun X C Rm Q => g_Ce_count_0 C Rm Q (s_ckn (n := 3) (by omega) ⟨w, hw, rfl⟩ ?_))
  unfold oCnt at K
  rw [nI_e0 (by omega), show (1 : Int32) = nI 1 from rfl, nI_eq (by omega) (by omega), show (2 : Int32) = nI 2 from rfl, nI_eq (by omega) (by omega)]
  have k := K h (FC.rf h) S
  refine ⟨fun w0 => ⟨fun w1 => ⟨fun w2 => s_markLiving S.pc (fun h2 f2 _ => ?_), fun w2 => s_objectsBelowTop S.pc ?_⟩, fun w1 => ?_⟩, fun w0 => ?_⟩
  · simp only [if_neg w0, if_neg w1, if_neg w2] at K
    exact K h2 (f2.1.fc (by simp)) (S.heap f2.1 (by simp) (KM.pc S.pc f2))
  · simp only [if_neg w0, if_neg w1, if_pos w2] at k
    exact k
  · simp only [if_neg w0, if_pos w1] at k
    rw [S.pc.coll]
    exact k
  · simp only [if_pos w0] at k
    rw [S.pc.top]
    exact k
