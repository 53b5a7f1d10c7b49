/-! The class' calls: change, numbers, same. -/
theorem enc_so {A : AS} {k : Nat} {ob : Ob} {v : Vl} (hz : osz ob = osz (ao A k)) : enc (so A k ob) v = enc A v := by
  match v with
  | none => rfl
  | some (.inl z) => rfl
  | some (.inr j) =>
    show nI (2 * (ad (so A k ob) j + 1)) = nI (2 * (ad A j + 1))
    rw [so_ad hz]
theorem PC.part {h : HP} {A : AS} {j d : Nat} {q q' : Vl × Vl} {x : Int32} (P : PC h A) (hj : j < an A) (he : ao A j = .inr (4, q.1, q.2)) (h1 : VW (an A) q'.1) (h2 : VW (an A) q'.2) (hd : (d = 1 ∧ x = enc A q'.1 ∧ q'.2 = q.2) ∨ (d = 2 ∧ x = enc A q'.2 ∧ q'.1 = q.1)) : PC (up h 16 (ad A j + d) x) (so A j (.inr (4, q'))) := by
  have hz : osz (.inr (4, q')) = osz (ao A j) := by rw [he]; rfl
  have oj := P.obj hj
  rw [he] at oj
  have o1 : h 16 (ad A j) = nI (16 * 3 + 4) := oj.1
  have o2 : h 16 (ad A j + 1) = enc A q.1 ∧ h 16 (ad A j + 2) = enc A q.2 := oj.2
  refine ⟨so_WF P.1 hj he h1 h2, ?_, by rw [up_ne (by omega)]; exact P.coll, fun r hr => ?_, fun k hk => ?_⟩
  · rw [up_ne (by omega)]
    show _ = nI (ad (so A j (.inr (4, q'))) (an A))
    rw [so_ad hz]
    exact P.top
  · rw [up_ne (by omega), enc_so hz]
    exact P.reg hr
  · have hk : k < an A := hk
    rw [up_self, so_ad hz]
    by_cases e : k = j
    · subst e
      show OC (upd (h 16) (ad A k + d) x) (so A k (.inr (4, q'))) (ad A k) (if k = k then .inr (4, q') else ao A k)
      rw [if_pos rfl]
      refine ⟨?_, ?_, ?_⟩
      · rw [pk_un (by omega)]
        exact o1
      · show upd (h 16) (ad A k + d) x (ad A k + 1) = enc (so A k (.inr (4, q'))) q'.1
        rw [enc_so hz]
        rcases hd with ⟨rfl, hx, -⟩ | ⟨rfl, -, e⟩
        · rw [pk_us, hx]
        · rw [pk_un (by omega), e]; exact o2.1
      · show upd (h 16) (ad A k + d) x (ad A k + 2) = enc (so A k (.inr (4, q'))) q'.2
        rw [enc_so hz]
        rcases hd with ⟨rfl, -, e⟩ | ⟨rfl, hx, -⟩
        · rw [pk_un (by omega), e]; exact o2.2
        · rw [pk_us, hx]
    · show OC (upd (h 16) (ad A j + d) x) (so A j (.inr (4, q'))) (ad A k) (if k = j then .inr (4, q') else ao A k)
      rw [if_neg e]
      have s3 : osz (ao A j) = 3 := by rw [he]; rfl
      refine (P.obj hk).same (fun i a b => pk_un ?_) (fun t _ => ⟨enc_so hz, enc_so hz⟩)
      rcases Nat.lt_or_gt_of_ne e with z | z
      · have := ad_lt (A := A) z
        omega
      · have := ad_lt (A := A) z
        omega
theorem s_cchange {h : HP} {A : AS} {L O : List Nat} {p f : Nat} {b : Int32} {Φ : Int32 → HP → Prop} (S : CS h A L O) (hp : p < 8) (hf : f < 8) (K : ∀ h2, FC h h2 → CS h2 (oChA A p b f) L O → Φ (Int32.ofInt (oPartR A p)) h2) : K_Ce_change [.ref 14, .int (nI p), .int b, .int (nI f)] h Φ := by
  have hv := S.wf.2.2 p hp
  have hw := S.wf.2.2 f hf
  refine I_Ce_change (fun X C Rm Q => g_Ce_change_0 C Rm Q (s_ckr hp (s_ckr hf ⟨v8 hp, ?_⟩)))
  rw [nI_cl (by omega), nI_cl (by omega), S.pc.reg hp]
  refine s_sortOf S.pc hv ?_
  unfold oChA oPartR at K
  cases e : prO A (ar A p) with
  | none =>
    simp only [e] at K
    exact ⟨fun z => absurd z (prO_n4 S.wf hv e), fun _ => K _ (FC.rf h) S⟩
  | some q =>
    simp only [e] at K
    obtain ⟨wa, wb⟩ := prO_VW S.wf hv e
    obtain ⟨k, ek, he⟩ := prO_some e
    have e4 := prO_4 e
    rw [ek] at hv K ⊢
    rw [ek] at e4
    have hk : k < an A := hv
    have hsz := S.wf.sz hk
    rw [he] at hsz
    have hsz : ad A k + 3 ≤ 400 := hsz
    refine ⟨fun _ => s_cellOf S.wf hk ⟨fun z => ⟨v8 hf, ?_⟩, fun z => ⟨v8 hf, ?_⟩⟩, fun z => absurd e4 z⟩
    · rw [if_pos z] at K
      rw [show (2 : Int32) = nI 2 from rfl, nI_add, nI_cl (by omega), S.pc.reg hf]
      exact ⟨vp_in_nI (by omega) (by omega), K _ (Fr.fc ((Fr.rf [16] h).up (by simp)) (by simp)) (S.heap ((Fr.rf [16] h).up (by simp)) (by simp) (S.pc.part (q' := (q.1, ar A f)) hk he wa hw (Or.inr ⟨rfl, rfl, rfl⟩)))⟩
    · rw [if_neg z] at K
      rw [nI_1, nI_cl (by omega), S.pc.reg hf]
      exact ⟨vp_in_nI (by omega) (by omega), K _ (Fr.fc ((Fr.rf [16] h).up (by simp)) (by simp)) (S.heap ((Fr.rf [16] h).up (by simp)) (by simp) (S.pc.part (q' := (ar A f, q.2)) hk he hw wb (Or.inl ⟨rfl, rfl, rfl⟩)))⟩
theorem enc_inj {A : AS} {u v : Vl} (w : WF A) (hu : VW (an A) u) (hv : VW (an A) v) (e : enc A u = enc A v) : u = v := by
  have key : ∀ z : Int, fxd z → (enc A (some (.inl z))).toInt = 2 * z + 1 := fun z hz => ofInt_toInt (by have := hz.1; omega) (by have := hz.2; omega)
  have key2 : ∀ k, k < an A → (enc A (some (.inr k))).toInt = 2 * (ad A k + 1) := fun k hk => by
    have := w.adl hk
    show (nI (2 * (ad A k + 1))).toInt = _
    rw [nI_toInt (by omega)]
    omega
  have key0 : (enc A none).toInt = 0 := rfl
  have e := congrArg Int32.toInt e
  match u, v, hu, hv with
  | none, none, _, _ => rfl
  | none, some (.inl y), _, hv => rw [key0, key y hv] at e; omega
  | none, some (.inr y), _, hv => rw [key0, key2 y hv] at e; omega
  | some (.inl x), none, hu, _ => rw [key0, key x hu] at e; omega
  | some (.inr x), none, hu, _ => rw [key0, key2 x hu] at e; omega
  | some (.inl x), some (.inl y), hu, hv => rw [key x hu, key y hv] at e; rw [show x = y by omega]
  | some (.inl x), some (.inr y), hu, hv => rw [key x hu, key2 y hv] at e; omega
  | some (.inr x), some (.inl y), hu, hv => rw [key2 x hu, key y hv] at e; omega
  | some (.inr x), some (.inr y), hu, hv => rw [key2 x hu, key2 y hv] at e; rw [ad_inj (A := A) (show ad A x = ad A y by omega)]
theorem s_csame {h : HP} {A : AS} {L O : List Nat} {p q : Nat} {Φ : Int32 → HP → Prop} (S : CS h A L O) (hp : p < 8) (hq : q < 8) (K : (ar A p = ar A q → Φ 1 h) ∧ (¬ ar A p = ar A q → Φ 0 h)) : K_Ce_same [.ref 14, .int (nI p), .int (nI q)] h Φ := by
  refine I_Ce_same (fun X C Rm Q => g_Ce_same_0 C Rm Q (s_ckr hp (s_ckr hq ⟨v8 hp, v8 hq, ?_⟩)))
  rw [nI_cl (by omega), nI_cl (by omega), S.pc.reg hp, S.pc.reg hq]
  exact ⟨fun z => K.2 (fun e => z (by rw [e])), fun z => K.1 (enc_inj S.wf (S.wf.2.2 p hp) (S.wf.2.2 q hq) z)⟩
theorem s_isOperand {h : HP} {A : AS} {L O : List Nat} {p : Nat} {b : Int32} {Φ : Int32 → HP → Prop} (S : CS h A L O) (hp : p < 8) (K : Φ (if isNm A (ar A p) ∧ (b = 0 ∨ vs A (ar A p) ≠ 3) then 1 else 0) h) : K_Ce_isOperand [.ref 14, .int (nI p), .int b] h Φ := by
  have hv := S.wf.2.2 p hp
  have l := vs_lt S.wf hv
  refine I_Ce_isOperand (fun X C Rm Q => g_Ce_isOperand_0 C Rm Q ⟨v8 hp, ?_⟩)
  rw [nI_cl (by omega), S.pc.reg hp]
  refine s_sortOf S.pc hv ?_
  rw [show (1 : Int32) = nI 1 from rfl, show (2 : Int32) = nI 2 from rfl, show (3 : Int32) = nI 3 from rfl, nI_eq (by omega) (by omega), nI_eq (by omega) (by omega), nI_eq (by omega) (by omega)]
  refine ⟨fun z => ?_, fun z => ⟨fun z2 => ?_, fun z2 => ⟨fun z3 => ?_, fun z3 => ⟨fun z4 => ?_, fun z4 => ?_⟩⟩⟩⟩
  · rw [if_pos ⟨⟨by omega, by omega⟩, Or.inr (by omega)⟩] at K; exact K
  · rw [if_pos ⟨⟨by omega, by omega⟩, Or.inr (by omega)⟩] at K; exact K
  · rw [if_neg (fun y => by have := y.1.1; have := y.1.2; omega)] at K; exact K
  · rw [if_neg (fun y => by rcases y.2 with y | y; exact z4 y; exact y z3)] at K; exact K
  · rw [if_pos ⟨⟨by omega, by omega⟩, Or.inl z4⟩] at K; exact K
theorem s_cops {h : HP} {A : AS} {L O : List Nat} {p q : Nat} {Φ : HP → Prop} (S : CS h A L O) (hp : p < 8) (hq : q < 8) (n1 : isNm A (ar A p)) (n2 : isNm A (ar A q)) (K : ∀ h2, FC h h2 → CS h2 A L O → OP h2 (nU A (ar A p)) (nD A (ar A p)) (nU A (ar A q)) (nD A (ar A q)) → Φ h2) : vp_in (nI p) 8 ∧ (K_He_fetchNumber [.ref 15, .int (h 17 (nI p).toNatClampNeg), .ref 24] h (fun h3 => vp_in (nI q) 8 ∧ (K_He_fetchNumber [.ref 15, .int (h3 17 (nI q).toNatClampNeg), .ref 29] h3 Φ))) := by
  have hv := S.wf.2.2 p hp
  have hw := S.wf.2.2 q hq
  obtain ⟨g1, g2, _⟩ := num_gc S.wf hv n1.1 n1.2
  obtain ⟨g3, g4, _⟩ := num_gc S.wf hw n2.1 n2.2
  refine ⟨v8 hp, ?_⟩
  rw [nI_cl (by omega), S.pc.reg hp]
  refine s_fetchNumber (p := 24) S.pc hv n1.1 n1.2 rfl (fun h1 f1 w1 w2 => ⟨v8 hq, ?_⟩)
  have P1 : PC h1 A := S.pc.fr f1 (by simp) (by simp) (by simp)
  have S1 := S.heap f1 (by simp) P1
  rw [nI_cl (by omega), P1.reg hq]
  refine s_fetchNumber (p := 29) P1 hw n2.1 n2.2 rfl (fun h2 f2 w3 w4 => ?_)
  exact K h2 ((f1.fc (by simp)).trans (f2.fc (by simp))) (S1.heap f2 (by simp) (P1.fr f2 (by simp) (by simp) (by simp))) ⟨⟨w1.fr f2 (by simp) (by simp), w2.fr f2 (by simp) (by simp), w3, w4⟩, g1, g2, g3, g4⟩
theorem s_ccompare {h : HP} {A : AS} {L O : List Nat} {p q : Nat} {Φ : Int32 → HP → Prop} (S : CS h A L O) (hp : p < 8) (hq : q < 8) (K : ∀ h2, FC h h2 → CS h2 A L O → Φ (oCmp A (ar A p) (ar A q)) h2) : K_Ce_compare [.ref 14, .int (nI p), .int (nI q)] h Φ := by
  unfold oCmp at K
  have no : ¬ (isNm A (ar A p) ∧ isNm A (ar A q)) → Φ (-4) h := fun z => by
    simp only [if_pos z] at K
    exact K h (FC.rf h) S
  refine I_Ce_compare (fun X C Rm Q => g_Ce_compare_0 C Rm Q (s_ckr hp (s_ckr hq (s_isOperand S hp ⟨fun z => no (fun y => ?_), fun z => s_isOperand S hq ⟨fun z2 => ?_, fun z2 => no (fun y => ?_)⟩⟩))))
  · rw [if_pos ⟨y.1, Or.inl rfl⟩] at z; exact absurd z (by decide)
  · have n1 : isNm A (ar A p) := by
      by_cases q : isNm A (ar A p)
      · exact q
      · rw [if_neg (fun y => q y.1)] at z; exact absurd rfl z
    have n2 : isNm A (ar A q) := by
      by_cases q2 : isNm A (ar A q)
      · exact q2
      · rw [if_neg (fun y => q2 y.1)] at z2; exact absurd rfl z2
    simp only [if_neg (show ¬ ¬ (isNm A (ar A p) ∧ isNm A (ar A q)) from fun z => z ⟨n1, n2⟩)] at K
    refine s_cops S hp hq n1 n2 (fun h2 f2 S2 op => s_orderOfOperands op (fun h3 f3 => ?_))
    exact K h3 (f2.trans (f3.fc (by simp))) (S2.num f3 (by simp) (S2.2.2.2.fr f3 (by simp) (by simp)))
  · rw [if_pos ⟨y.2, Or.inl rfl⟩] at z2; exact absurd z2 (by decide)
