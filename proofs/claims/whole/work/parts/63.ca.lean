/-! The class' calls, where they don't throw. -/
def CS (h : HP) (A : AS) (L O : List Nat) : Prop := PC h A ∧ PL h L ∧ OUTC h O ∧ SB h
def FC (h h2 : HP) : Prop := ∀ j, j < 15 ∨ j = 58 → h2 j = h j
theorem FC.rf (h : HP) : FC h h := fun _ _ => rfl
theorem FC.trans {h h2 h3 : HP} (a : FC h h2) (b : FC h2 h3) : FC h h3 := fun j hj => (b j hj).trans (a j hj)
theorem Fr.fc {S : List Nat} {h h2 : HP} (f : Fr S h h2) (hs : ∀ j, j ∈ S → 15 ≤ j ∧ j ≤ 57) : FC h h2 := fun j hj => f j (fun z => by have := hs j z; omega)
theorem CS.pc {h : HP} {A : AS} {L O : List Nat} (S : CS h A L O) : PC h A := S.1
theorem CS.wf {h : HP} {A : AS} {L O : List Nat} (S : CS h A L O) : WF A := S.1.1
theorem OUTC.fr {T : List Nat} {h h2 : HP} {L : List Nat} (P : OUTC h L) (f : Fr T h h2) (a : 52 ∉ T) (b : 53 ∉ T) : OUTC h2 L := ⟨P.1, by rw [f 52 a]; exact P.2.1, fun i c e => by rw [f 53 b]; exact P.2.2 i c e⟩
/-- the heap of cells changed, all else as it was -/
theorem CS.heap {T : List Nat} {h h2 : HP} {A A2 : AS} {L O : List Nat} (S : CS h A L O) (f : Fr T h h2) (hs : ∀ j, j ∈ T → (15 ≤ j ∧ j ≤ 20) ∨ (23 ≤ j ∧ j ≤ 45)) (P : PC h2 A2) : CS h2 A2 L O :=
  ⟨P, S.2.1.fr f (fun z => by have := hs _ z; omega) (fun z => by have := hs _ z; omega), S.2.2.1.fr f (fun z => by have := hs _ z; omega) (fun z => by have := hs _ z; omega), S.2.2.2.fr f (fun z => by have := hs _ z; omega) (fun z => by have := hs _ z; omega)⟩
/-- the numbers in work changed -/
theorem CS.num {T : List Nat} {h h2 : HP} {A : AS} {L O : List Nat} (S : CS h A L O) (f : Fr T h h2) (hs : ∀ j, j ∈ T → 23 ≤ j ∧ j ≤ 51) (sb : SB h2) : CS h2 A L O :=
  ⟨S.1.fr f (fun z => by have := hs _ z; omega) (fun z => by have := hs _ z; omega) (fun z => by have := hs _ z; omega), S.2.1.fr f (fun z => by have := hs _ z; omega) (fun z => by have := hs _ z; omega), S.2.2.1.fr f (fun z => by have := hs _ z; omega) (fun z => by have := hs _ z; omega), sb⟩
theorem s_ckn {n : Nat} {v : Int32} {h : HP} {Φ : HP → Prop} (hn : n < 1000) (hv : isn (n + 1) v) (K : Φ h) : K_Ce_checkRange [.int v, .int (nI n)] h Φ := by
  obtain ⟨h1, h2⟩ := (isn_iff hn).mp hv
  refine I_Ce_checkRange (fun X C Rm Q => g_Ce_checkRange_0 C Rm Q ⟨fun z => absurd z h1, fun _ => ⟨fun _ => K, fun z => ?_⟩⟩)
  obtain ⟨a, ha, rfl⟩ := hv
  rw [nI_leI (by omega) (by omega)] at z
  omega
theorem s_ckr {a : Nat} {h : HP} {Φ : HP → Prop} (ha : a < 8) (K : Φ h) : K_Ce_checkRegister [.int (nI a)] h Φ :=
  I_Ce_checkRegister (fun X C Rm Q => g_Ce_checkRegister_0 C Rm Q (s_ckn (n := 7) (by omega) ⟨a, ha, rfl⟩ K))
theorem enc_sr (A : AS) (r : Nat) (v u : Vl) : enc (sr A r v) u = enc A u := by
  match u with
  | none => rfl
  | some (.inl z) => rfl
  | some (.inr k) => rfl
theorem PC.setReg {h : HP} {A : AS} {t : Nat} {v : Vl} {x : Int32} (P : PC h A) (hv : VW (an A) v) (hx : x = enc A v) : PC (up h 17 t x) (sr A t v) := by
  refine ⟨sr_WF P.1 hv, by rw [up_ne (by omega)]; exact P.top, by rw [up_ne (by omega)]; exact P.coll, fun r hr => ?_, fun k hk => ?_⟩
  · rw [enc_sr]
    show _ = enc A (if r = t then v else ar A r)
    by_cases q : r = t
    · subst q
      rw [up_at, if_pos rfl, hx]
    · rw [up_at_ne q, if_neg q]
      exact P.reg hr
  · rw [up_ne (by omega)]
    exact OC.same (A' := sr A t v) (P.obj hk) (fun _ _ _ => rfl) (fun t _ => ⟨enc_sr _ _ _ _, enc_sr _ _ _ _⟩)
theorem CS.setReg {h : HP} {A : AS} {L O : List Nat} {t : Nat} {v : Vl} {x : Int32} (S : CS h A L O) (hv : VW (an A) v) (hx : x = enc A v) : CS (up h 17 t x) (sr A t v) L O :=
  S.heap ((Fr.rf [17] h).up (by simp)) (by simp) (S.1.setReg hv hx)
theorem FC.reg {h : HP} {t : Nat} {x : Int32} : FC h (up h 17 t x) := Fr.fc ((Fr.rf [17] h).up (by simp)) (by simp)
theorem v8 {t : Nat} (h : t < 8) : vp_in (nI t) 8 := vp_in_nI h (by omega)
theorem s_cnil {h : HP} {A : AS} {L O : List Nat} {t : Nat} {Φ : HP → Prop} (S : CS h A L O) (ht : t < 8) (K : ∀ h2, FC h h2 → CS h2 (sr A t none) L O → Φ h2) : K_Ce_nil [.ref 14, .int (nI t)] h Φ := by
  refine I_Ce_nil (fun X C Rm Q => g_Ce_nil_0 C Rm Q (s_ckr ht ⟨v8 ht, ?_⟩))
  rw [nI_cl (by omega)]
  exact K _ FC.reg (S.setReg trivial rfl)
theorem s_ccopy {h : HP} {A : AS} {L O : List Nat} {t f : Nat} {Φ : HP → Prop} (S : CS h A L O) (ht : t < 8) (hf : f < 8) (K : ∀ h2, FC h h2 → CS h2 (sr A t (ar A f)) L O → Φ h2) : K_Ce_copy [.ref 14, .int (nI t), .int (nI f)] h Φ := by
  refine I_Ce_copy (fun X C Rm Q => g_Ce_copy_0 C Rm Q (s_ckr ht (s_ckr hf ⟨v8 hf, v8 ht, ?_⟩)))
  rw [nI_cl (by omega), nI_cl (by omega)]
  exact K _ FC.reg (S.setReg (S.wf.2.2 f hf) (S.pc.reg hf))
theorem nkA_eq {A : AS} {t : Nat} {u d : Int} (hl : gc 32 u.natAbs ≤ 20 ∧ gc 32 d.natAbs ≤ 20) (hf : ¬ 400 < ad (rmA A (cfn u d)) (an (rmA A (cfn u d))) + cfn u d) : nkA A t u d = sr (nkP (rmA A (cfn u d)) u d).2 t (nkP (rmA A (cfn u d)) u d).1 := by
  unfold nkA
  rw [if_neg (fun z => z hl), if_neg hf]
  rfl
theorem nkP_VW {B : AS} {u d : Int} (w : WF B) (gu : gc 32 u.natAbs ≤ 20) (gd : gc 32 d.natAbs ≤ 20) (hs : ad B (an B) + cfn u d ≤ 400) : VW (an (nkP B u d).2) (nkP B u d).1 := by
  unfold nkP
  unfold cfn at hs
  by_cases q : d = 1
  · rw [if_pos q] at hs ⊢
    obtain ⟨a, -, b, -⟩ := aw_WF w gu hs
    exact b.toVW
  · rw [if_neg q] at hs ⊢
    exact Nat.lt_succ_self _
theorem s_keepResult {h : HP} {A : AS} {L O : List Nat} {t : Nat} {u d : Int} {Φ : Int32 → HP → Prop} (S : CS h A L O) (ht : t < 8) (hu : WN h 35 u) (hd : WN h 37 d) (d0 : d ≠ 0) (K : ∀ h2, FC h h2 → CS h2 (nkA A t u d) L O → Φ (Int32.ofInt (nkR A u d)) h2) : K_Ce_keepResult [.ref 14, .int (nI t)] h Φ := by
  refine I_Ce_keepResult (fun X C Rm Q => g_Ce_keepResult_0 C Rm Q (s_raIsLarge (p := 34) rfl hu hd ⟨fun q => ?_, fun q => ?_⟩))
  · have hl : gc 32 u.natAbs ≤ 20 ∧ gc 32 d.natAbs ≤ 20 := by
      by_cases z : gc 32 u.natAbs ≤ 20 ∧ gc 32 d.natAbs ≤ 20
      · exact z
      · rw [if_neg z] at q; exact absurd q (by decide)
    refine s_cellsN (p := 34) rfl hu hd (s_makeRoom S.pc ?_ (fun h2 f2 P2 => ?_))
    · unfold cfn cfw
      split <;> split <;> (try split) <;> omega
    have S2 := S.heap f2 (by simp) P2
    have F2 : FC h h2 := f2.fc (by simp)
    by_cases hf : 400 < ad (rmA A (cfn u d)) (an (rmA A (cfn u d))) + cfn u d
    · rw [if_pos hf]
      refine ⟨fun z => absurd rfl z, fun _ => ?_⟩
      have k := K h2 F2 (by unfold nkA; rw [if_neg (fun z => z hl), if_pos hf]; exact S2)
      unfold nkR at k
      rw [if_neg (fun z => z hl), if_pos hf] at k
      exact k
    · rw [if_neg hf]
      refine ⟨fun _ => s_addNumber (p := 34) P2 rfl (hu.fr f2 (by simp) (by simp)) (hd.fr f2 (by simp) (by simp)) hl.1 hl.2 d0 (by omega) (fun h3 f3 P3 => ⟨v8 ht, ?_⟩), fun z => absurd z (by decide)⟩
      rw [nI_cl (by omega)]
      have S3 := S2.heap f3 (by simp) P3
      have k := K _ ((F2.trans (f3.fc (by simp))).trans FC.reg) (by rw [nkA_eq hl hf]; exact S3.setReg (nkP_VW P2.1 hl.1 hl.2 (by omega)) rfl)
      unfold nkR at k
      rw [if_neg (fun z => z hl), if_neg hf] at k
      exact k
  · have nl : ¬ (gc 32 u.natAbs ≤ 20 ∧ gc 32 d.natAbs ≤ 20) := fun z => q (by rw [if_pos z])
    have k := K h (FC.rf h) (by unfold nkA; rw [if_pos nl]; exact S)
    unfold nkR at k
    rw [if_pos nl] at k
    exact k
theorem s_cload {h : HP} {A : AS} {L O : List Nat} {t : Nat} {z : Int64} {Φ : Int32 → HP → Prop} (S : CS h A L O) (ht : t < 8) (K : ∀ h2, FC h h2 → CS h2 (nkA A t z.toInt 1) L O → Φ (Int32.ofInt (nkR A z.toInt 1)) h2) : K_Ce_load [.ref 14, .int (nI t), .long z] h Φ := by
  refine I_Ce_load (fun X C Rm Q => g_Ce_load_0 C Rm Q (s_ckr ht (s_raSetLong (p := 34) rfl (fun h2 f2 w1 w2 => ?_))))
  have F2 : FC h h2 := f2.fc (by simp)
  exact s_keepResult (S.heap f2 (by simp) (S.pc.fr f2 (by simp) (by simp) (by simp))) ht w1 w2 (by decide) (fun h3 f3 S3 => K h3 (F2.trans f3) S3)
theorem s_ccons {h : HP} {A : AS} {L O : List Nat} {t f s : Nat} {Φ : Int32 → HP → Prop} (S : CS h A L O) (ht : t < 8) (hf : f < 8) (hs : s < 8) (K : ∀ h2, FC h h2 → CS h2 (oConsA (rmA A 3) t f s) L O → Φ (Int32.ofInt (oConsR (rmA A 3))) h2) : K_Ce_cons [.ref 14, .int (nI t), .int (nI f), .int (nI s)] h Φ := by
  refine I_Ce_cons (fun X C Rm Q => g_Ce_cons_0 C Rm Q (s_ckr ht (s_ckr hf (s_ckr hs (s_makeRoom (c := 3) S.pc (by omega) (fun h2 f2 P2 => ?_))))))
  have S2 := S.heap f2 (by simp) P2
  have F2 : FC h h2 := f2.fc (by simp)
  unfold oConsA oConsR at K
  by_cases hfit : 400 < ad (rmA A 3) (an (rmA A 3)) + 3
  · simp only [if_pos hfit] at K
    rw [if_pos hfit]
    exact ⟨fun z => absurd rfl z, fun _ => K h2 F2 S2⟩
  · simp only [if_neg hfit] at K
    rw [if_neg hfit]
    refine ⟨fun _ => ⟨v8 hf, v8 hs, ?_⟩, fun z => absurd z (by decide)⟩
    rw [nI_cl (by omega), nI_cl (by omega), P2.reg hf, P2.reg hs]
    generalize rmA A 3 = B at *
    have wo : OW B (.inr (4, ar B f, ar B s)) := Or.inl ⟨rfl, P2.1.2.2 f hf, P2.1.2.2 s hs⟩
    refine s_addTriple (s := 4) P2 wo (by omega) (fun h3 f3 P3 => ⟨v8 ht, ?_⟩)
    rw [nI_cl (by omega)]
    have S3 := S2.heap f3 (by simp) P3
    refine s_cellOf P3.1 (Nat.lt_succ_self _) ?_
    rw [ad_mk B _ (Nat.le_refl _)]
    exact K _ ((F2.trans (f3.fc (by simp))).trans FC.reg) (S3.setReg (Nat.lt_succ_self _) rfl)
theorem s_cpart {h : HP} {A : AS} {L O : List Nat} {t p : Nat} {b : Int32} {Φ : Int32 → HP → Prop} (S : CS h A L O) (ht : t < 8) (hp : p < 8) (K : ∀ h2, FC h h2 → CS h2 (oPartA A t p b) L O → Φ (Int32.ofInt (oPartR A p)) h2) : K_Ce_part [.ref 14, .int (nI t), .int (nI p), .int b] h Φ := by
  have hv := S.wf.2.2 p hp
  refine I_Ce_part (fun X C Rm Q => g_Ce_part_0 C Rm Q (s_ckr ht (s_ckr hp ⟨v8 hp, ?_⟩)))
  rw [nI_cl (by omega), S.pc.reg hp]
  refine s_sortOf S.pc hv ?_
  unfold oPartA oPartR at K
  cases e : prO A (ar A p) with
  | none =>
    simp only [e] at K
    exact ⟨fun z => absurd z (prO_n4 S.wf hv e), fun _ => K _ (FC.rf h) S⟩
  | some q =>
    simp only [e] at K
    obtain ⟨wa, wb⟩ := prO_VW S.wf hv e
    obtain ⟨k, ek, he⟩ := prO_some e
    rw [ek] at hv ⊢
    have e4 : nI (vs A (some (.inr k))) = 4 := by rw [← ek]; exact prO_4 e
    refine ⟨fun _ => ⟨fun z => s_secondOf S.wf hv (S.pc.obj hv) he ⟨v8 ht, ?_⟩, fun z => s_firstOf S.wf hv (S.pc.obj hv) he ⟨v8 ht, ?_⟩⟩, fun z => absurd e4 z⟩
    · rw [if_pos z] at K
      rw [nI_cl (by omega)]
      exact K _ FC.reg (S.setReg wb rfl)
    · rw [if_neg z] at K
      rw [nI_cl (by omega)]
      exact K _ FC.reg (S.setReg wa rfl)
