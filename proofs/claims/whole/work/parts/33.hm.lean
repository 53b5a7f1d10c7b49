/-! The class' heap: room, and what is made. -/
theorem enc_mk {A : AS} {o : Ob} {v : Vl} (h : VW (an A) v) : enc (mk A o) v = enc A v := by
  match v, h with
  | none, _ => rfl
  | some (.inl z), _ => rfl
  | some (.inr k), h =>
    show nI (2 * (ad (mk A o) k + 1)) = nI (2 * (ad A k + 1))
    rw [ad_mk A o (Nat.le_of_lt h)]
theorem OC.inMk {c c' : Nat → Int32} {A : AS} {o x : Ob} {a : Nat} (k : OC c A a x) (w : OW A x) (hc : ∀ i, a ≤ i → i < a + osz x → c' i = c i) : OC c' (mk A o) a x := k.same hc (fun t e => by
  subst e
  rcases w with ⟨-, p, q⟩ | ⟨-, p, q, -⟩
  · exact ⟨enc_mk p, enc_mk q⟩
  · exact ⟨enc_mk p.toVW, enc_mk q.toVW⟩)
/-- an object written at top -/
theorem PC.inMk {h h2 : HP} {A : AS} {o : Ob} (P : PC h A) (w : OW A o) (hs : ad A (an A) + osz o ≤ 400) (e17 : h2 17 = h 17) (e3 : h2 15 3 = h 15 3) (e2 : h2 15 2 = nI (ad A (an A) + osz o)) (hc : ∀ i, i < ad A (an A) → h2 16 i = h 16 i) (oc : OC (h2 16) (mk A o) (ad A (an A)) o) : PC h2 (mk A o) := by
  refine ⟨mk_WF P.wf w hs, ?_, ?_, ?_, ?_⟩
  · rw [e2, an_mk, ad_mk_top]
  · rw [e3]; exact P.coll
  · intro r hr
    rw [e17, P.reg hr]
    exact (enc_mk (P.wf.2.2 r hr)).symm
  · intro k hk
    rw [an_mk] at hk
    by_cases q : k = an A
    · subst q
      rw [ad_mk A o (Nat.le_refl _), ao_mk_self]
      exact oc
    · have hk2 : k < an A := by omega
      rw [ad_mk A o (by omega), ao_mk A o hk2]
      exact (P.obj hk2).inMk (P.wf.2.1 k hk2) (fun i a b => hc i (by have := ad_lt (A := A) hk2; omega))
theorem s_makeRoom {h : HP} {A : AS} {c : Nat} {Φ : Int32 → HP → Prop} (P : PC h A) (hc : c < 1000) (K : ∀ h2, Fr [15, 16, 17, 18, 19, 20] h h2 → PC h2 (rmA A c) → Φ (if 400 < ad (rmA A c) (an (rmA A c)) + c then 0 else 1) h2) : K_He_makeRoom [.ref 15, .int (nI c)] h Φ := by
  refine I_He_makeRoom (fun X C Rm Q => g_He_makeRoom_0 C Rm Q ?_)
  have h4 := P.wf.1
  have sub : ∀ t, t ≤ 400 → (400 : Int32) - nI t = nI (400 - t) := fun t ht => nI_sub (a := 400) ht
  rw [P.top, sub _ h4]
  refine ⟨fun q => ?_, fun q => ?_⟩
  · rw [nI_leI (by omega) (by omega)] at q
    have e : rmA A c = A := if_neg (by omega)
    rw [e] at K
    have k := K h (Fr.rf _ _) P
    refine ⟨fun q2 => ?_, fun q2 => ?_⟩
    · rw [nI_ltI (by omega) (by omega)] at q2
      omega
    · rwa [if_neg (by omega)] at k
  · rw [nI_leI (by omega) (by omega)] at q
    have e : rmA A c = gcA A := if_pos (by omega)
    rw [e] at K
    refine s_slideLiving P (fun h2 f2 P2 => ?_)
    have k := K h2 f2 P2
    have h5 := P2.wf.1
    rw [P2.top, sub _ h5]
    refine ⟨fun q2 => ?_, fun q2 => ?_⟩
    · rw [nI_ltI (by omega) (by omega)] at q2
      rwa [if_pos (by omega)] at k
    · rw [nI_ltI (by omega) (by omega)] at q2
      rwa [if_neg (by omega)] at k
theorem or48 : ∀ s, s = 3 ∨ s = 4 → (48 : Int32) ||| nI s = nI (48 + s) := by
  intro s hs
  rcases hs with rfl | rfl <;> decide +kernel
theorem s_addTriple {h : HP} {A : AS} {s : Nat} {a b : Vl} {Φ : Int32 → HP → Prop} (P : PC h A) (w : OW A (.inr (s, a, b))) (hs : ad A (an A) + 3 ≤ 400) (K : ∀ h2, Fr [15, 16] h h2 → PC h2 (mk A (.inr (s, a, b))) → Φ (enc (mk A (.inr (s, a, b))) (some (.inr (an A)))) h2) : K_He_addTriple [.ref 15, .int (nI s), .int (enc A a), .int (enc A b)] h Φ := by
  refine I_He_addTriple (fun X C Rm Q => g_He_addTriple_0 C Rm Q ?_)
  have hs34 : s = 3 ∨ s = 4 := by
    rcases w with ⟨e, -⟩ | ⟨e, -⟩
    · exact Or.inr e
    · exact Or.inl e
  have ht : VW (an A) a ∧ VW (an A) b := by
    rcases w with ⟨-, x, y⟩ | ⟨-, x, y, -⟩
    · exact ⟨x, y⟩
    · exact ⟨x.toVW, y.toVW⟩
  rw [P.top, nI_1, show (2 : Int32) = nI 2 from rfl, show (3 : Int32) = nI 3 from rfl, nI_add, or48 s hs34]
  refine ⟨vp_in_nI (by omega) (by omega), vp_in_nI (by omega) (by omega), vp_in_nI (by omega) (by omega), ?_⟩
  rw [nI_cl (by omega), nI_cl (by omega), nI_cl (by omega), up_ne (by omega), up_ne (by omega), up_ne (by omega), P.top, nI_add]
  refine s_objectAt (by omega) ?_
  have e : nI (2 * (ad A (an A) + 1)) = enc (mk A (.inr (s, a, b))) (some (.inr (an A))) := by
    show _ = nI (2 * (ad (mk A (.inr (s, a, b))) (an A) + 1))
    rw [ad_mk A _ (Nat.le_refl _)]
  rw [e]
  refine K _ (((((Fr.rf _ _).up (by simp)).up (by simp)).up (by simp)).up (by simp)) (P.inMk w hs ?_ ?_ ?_ ?_ ⟨?_, ?_, ?_⟩)
  · rw [up_ne (by omega), up_ne (by omega), up_ne (by omega), up_ne (by omega)]
  · rw [up_at_ne (by omega), up_ne (by omega), up_ne (by omega), up_ne (by omega)]
  · rw [up_at]; rfl
  · intro i hi
    rw [up_ne (by omega), up_at_ne (by omega), up_at_ne (by omega), up_at_ne (by omega)]
  · rw [up_ne (by omega), up_at_ne (by omega), up_at_ne (by omega), up_at]
    rfl
  · show up _ 15 2 _ 16 (ad A (an A) + 1) = _
    rw [up_ne (by omega), up_at_ne (by omega), up_at]
    exact (enc_mk ht.1).symm
  · show up _ 15 2 _ 16 (ad A (an A) + 2) = _
    rw [up_ne (by omega), up_at]
    exact (enc_mk ht.2).symm
theorem enc_as {A : AS} {z : Int} (hz : fxd z) : (Int32.ofInt z <<< (1 &&& (31 : Int32))) ||| 1 = enc A (some (.inl z)) := by
  show (Int32.ofInt z <<< (1 &&& (31 : Int32))) ||| 1 = Int32.ofInt (2 * z + 1)
  have e1 : (Int32.ofInt z).toInt = z := ofInt_toInt (by omega) (by omega)
  have e2 : (Int32.ofInt (2 * z + 1)).toInt = 2 * z + 1 := ofInt_toInt (by omega) (by omega)
  have u1 := un_toInt (Int32.ofInt z)
  have u2 := un_toInt (Int32.ofInt (2 * z + 1))
  have l1 := un_lt (Int32.ofInt z)
  have l2 := un_lt (Int32.ofInt (2 * z + 1))
  generalize Int32.ofInt z = x at *
  generalize Int32.ofInt (2 * z + 1) = y at *
  have e3 : x = nI (un x) := nI_is rfl
  have e4 : y = nI (un y) := nI_is rfl
  generalize un x = m at *
  generalize un y = n at *
  subst e3
  subst e4
  have e5 : nI m <<< (1 &&& (31 : Int32)) = nI (2 ^ 1 * (m % 2147483648)) := by
    apply i32_ext
    have := pk_shl (nI m) (1 &&& (31 : Int32)) 1 (by decide)
    show (nI m <<< (1 &&& (31 : Int32))).toBitVec.toNat = _
    rw [this, show (nI m).toBitVec.toNat = un (nI m) from rfl, un_nIl l1, un_nIl (by omega)]
    omega
  rw [e5, show (1 : Int32) = nI 1 from rfl, fa_or_sum _ (by decide)]
  congr 1
  split at u1 <;> split at u2 <;> omega
theorem hdr_or (s : Nat) (b : Nat) (hb : b = 0 ∨ b = 8) (hs : s < 1000) : (nI s <<< (4 &&& (31 : Int32)) ||| nI b) ||| 2 = nI (16 * s + (b + 2)) := by
  rw [pk_shlN _ 4 (by decide) (by omega), show s * 2 ^ 4 = 2 ^ 4 * s by omega, fa_or_sum s (by omega)]
  rcases hb with rfl | rfl
  · rw [Nat.add_zero, show (2 : Int32) = nI 2 from rfl, fa_or_sum s (by omega)]
  · rw [show 2 ^ 4 * s + 8 = 2 ^ 3 * (2 * s + 1) by omega, show (2 : Int32) = nI 2 from rfl, fa_or_sum _ (by omega)]
    congr 1
    omega
theorem s_addWhole {h : HP} {A : AS} {p : Nat} {z : Int} {Φ : Int32 → HP → Prop} (P : PC h A) (hp : kd p = (0, 0)) (hz : WN h p z) (hg : gc 32 z.natAbs ≤ 20) (hs : ad A (an A) + cfw z ≤ 400) (K : ∀ h2, Fr [15, 16] h h2 → PC h2 (aw A z).2 → Φ (enc (aw A z).2 (aw A z).1) h2) : K_He_addWhole [.ref 15, .ref p] h Φ := by
  refine I_He_addWhole (fun X C Rm Q => g_He_addWhole_0 C Rm Q hp (s_isFixed hp hz ?_))
  have hp16 : p + 1 ≠ 16 := fun q => by
    have := kd_ne (show kd 15 = (4, 0) from rfl) hp (by omega)
    omega
  have hp16' : p ≠ 16 := kd_ne hp (show kd 16 = (10, 400) from rfl) (by omega)
  have hp15 : p ≠ 15 := kd_ne hp (show kd 15 = (4, 0) from rfl) (by omega)
  unfold aw at K
  unfold cfw at hs
  by_cases f : fxd z
  · rw [if_pos f] at K
    rw [if_pos f]
    refine ⟨fun q => absurd q (by decide), fun _ => s_asFixed hp hz f ?_⟩
    rw [enc_as (A := A) f]
    exact K h (Fr.rf _ _) P
  · rw [if_neg f] at K hs
    rw [if_neg f]
    have wo : OW A (.inl z) := ⟨f, hg⟩
    have K2 : ∀ h2, Fr [15, 16] h h2 → PC h2 (mk A (.inl z)) → Φ (nI (2 * (ad A (an A) + 1))) h2 := fun h2 a b => by
      have := K h2 a b
      have e : enc (mk A (.inl z)) (some (.inr (an A))) = nI (2 * (ad A (an A) + 1)) := by
        show nI (2 * (ad (mk A (.inl z)) (an A) + 1)) = _
        rw [ad_mk A _ (Nat.le_refl _)]
      rw [← e]
      exact this
    have core : ∀ b : Nat, b = (if z < 0 then 8 else 0) → Wg X 0 0 h [(0, .ref 15), (1, .ref p), (2, .int (nI (ad A (an A)))), (3, .int (nI (1 + gc 32 z.natAbs)))] [.int (nI b), .int (nI (1 + gc 32 z.natAbs) <<< (4 &&& (31 : Int32))), .int (nI (ad A (an A))), .ref 16] 49 := by
      intro b hb'
      have hb2 : b = 0 ∨ b = 8 := by rw [hb']; split <;> simp
      refine g_He_addWhole_49 C Rm Q hp ?_
      rw [hdr_or _ b hb2 (by omega), nI_cl (by omega), up_ne hp16', hz.len, nI_1, up_ne hp16]
      refine ⟨vp_in_nI (by omega) (by omega), ⟨by decide, nI_pos (by omega), by rw [nI_cl (by omega), c_0]; omega⟩, ⟨nI_pos (by omega), nI_pos (by omega), by rw [nI_cl (by omega), nI_cl (by omega)]; omega⟩, ?_⟩
      rw [nI_cl (by omega), nI_cl (by omega), c_0, hs_ne (by omega), up_ne (show (15 : Nat) ≠ 16 by omega), P.top, nI_add]
      refine s_objectAt (by omega) ?_
      refine K2 _ ((((Fr.rf _ _).up (by simp)).hs (by simp)).up (by simp)) (P.inMk wo hs ?_ ?_ ?_ ?_ ⟨?_, ?_⟩)
      · rw [up_ne (by omega), hs_ne (by omega), up_ne (by omega)]
      · rw [up_at_ne (by omega), hs_ne (by omega), up_ne (by omega)]
      · rw [up_at]; rfl
      · intro i hi
        rw [up_ne (by omega), hs_self, pk_cpy_out (by omega), up_at_ne (by omega)]
      · rw [up_ne (by omega), hs_self, pk_cpy_out (by omega), up_at]
        show nI (16 * (1 + gc 32 z.natAbs) + (b + 2)) = nI (16 * (1 + gc 32 z.natAbs) + (if z < 0 then 10 else 2))
        congr 2
        rw [hb']
        split <;> rfl
      · show win _ (ad A (an A) + 1) (gc 32 z.natAbs) = z.natAbs
        rw [up_ne (by omega), hs_self]
        refine Eq.trans ?_ hz.val
        unfold win
        refine ds_cong (fun i hi => ?_)
        unfold dW
        rw [pk_cpy_in (by omega) (by omega)]
        congr 2
        omega
    refine ⟨fun _ => ⟨fun q => ?_, fun q => ?_⟩, fun q => absurd rfl q⟩
    · rw [hz.sg, sg_ne] at q
      rw [hz.len, P.top, Int32.add_comm, nI_1, Nat.add_comm]
      exact core 0 (by rw [if_neg (by omega)])
    · rw [hz.sg, sg_ne] at q
      rw [hz.len, P.top, Int32.add_comm, nI_1, Nat.add_comm]
      exact core 8 (by rw [if_pos (by omega)])
theorem enc_aw {A : AS} {z : Int} {v : Vl} (h : VW (an A) v) : enc (aw A z).2 v = enc A v := by
  unfold aw
  split
  · rfl
  · exact enc_mk h
theorem s_addNumber {h : HP} {A : AS} {p : Nat} {u d : Int} {Φ : Int32 → HP → Prop} (P : PC h A) (hp : kd p = (1, 0)) (hu : WN h (p + 1) u) (hd : WN h (p + 3) d) (gu : gc 32 u.natAbs ≤ 20) (gd : gc 32 d.natAbs ≤ 20) (d0 : d ≠ 0) (hs : ad A (an A) + cfn u d ≤ 400) (K : ∀ h2, Fr [15, 16] h h2 → PC h2 (nkP A u d).2 → Φ (enc (nkP A u d).2 (nkP A u d).1) h2) : K_He_addNumber [.ref 15, .ref p] h Φ := by
  refine I_He_addNumber (fun X C Rm Q => g_He_addNumber_0 C Rm Q hp ?_)
  unfold cfn at hs
  unfold nkP at K
  have k1 := kRa1 hp
  have k3 := kRa3 hp
  have n1 : p + 3 ≠ 15 := kd_ne k3 (show kd 15 = (4, 0) from rfl) (by omega)
  have n2 : p + 3 ≠ 16 := kd_ne k3 (show kd 16 = (10, 400) from rfl) (by omega)
  have n3 : p + 4 ≠ 15 := kd_ne (kRa4 hp) (show kd 15 = (4, 0) from rfl) (by omega)
  have n4 : p + 4 ≠ 16 := by omega
  have hs1 : ad A (an A) + cfw u ≤ 400 := by split at hs <;> omega
  obtain ⟨a1, a2, a3, a4, a5, a6, a7⟩ := aw_WF P.wf gu hs1
  refine s_addWhole P k1 hu gu hs1 (fun h2 f2 P2 => ?_)
  have wd : WN h2 (p + 3) d := hd.fr f2 (by simp; omega) (by simp; omega)
  refine s_raIsWhole hp wd ⟨fun q => ?_, fun q => ?_⟩
  · have d1 : d ≠ 1 := by
      intro e
      rw [if_pos e] at q
      exact absurd q (by decide)
    rw [if_neg d1] at hs K
    obtain ⟨b1, b2, b3, b4, b5, b6, b7⟩ := aw_WF a1 gd (by omega)
    refine s_addWhole P2 k3 wd gd (by omega) (fun h3 f3 P3 => ?_)
    rw [← enc_aw (z := d) a3.toVW]
    refine s_addTriple (s := 3) P3 (Or.inr ⟨rfl, b6 _ a3, b3, by rw [b4]; exact d0⟩) (by omega) (fun h4 f4 P4 => ?_)
    exact K h4 ((f2.trans f3).trans f4) P4
  · have d1 : d = 1 := by
      by_cases e : d = 1
      · exact e
      · rw [if_neg e] at q
        exact absurd rfl q
    rw [if_pos d1] at K
    exact K h2 f2 P2
theorem s_cellsW {h : HP} {p : Nat} {z : Int} {Φ : Int32 → HP → Prop} (hp : kd p = (0, 0)) (hz : WN h p z) (K : Φ (nI (cfw z)) h) : K_He_cellsFor [.ref p] h Φ := by
  refine I_He_cellsFor (fun X C Rm Q => g_He_cellsFor_0 C Rm Q hp (s_isFixed hp hz ?_))
  unfold cfw at K
  by_cases f : fxd z
  · rw [if_pos f] at K
    rw [if_pos f]
    exact ⟨fun q => absurd q (by decide), fun _ => K⟩
  · rw [if_neg f] at K
    rw [if_neg f]
    refine ⟨fun _ => ?_, fun q => absurd rfl q⟩
    rw [hz.len, show (1 : Int32) = nI 1 from rfl, nI_add]
    exact K
theorem s_cellsN {h : HP} {p : Nat} {u d : Int} {Φ : Int32 → HP → Prop} (hp : kd p = (1, 0)) (hu : WN h (p + 1) u) (hd : WN h (p + 3) d) (K : Φ (nI (cfn u d)) h) : K_He_cellsFor_ [.ref p] h Φ := by
  refine I_He_cellsFor_ (fun X C Rm Q => g_He_cellsFor__0 C Rm Q hp (s_cellsW (kRa1 hp) hu (s_raIsWhole hp hd ?_)))
  unfold cfn at K
  by_cases e : d = 1
  · rw [if_pos e] at K
    rw [if_pos e]
    exact ⟨fun q => absurd q (by decide), fun _ => K⟩
  · rw [if_neg e] at K
    rw [if_neg e]
    refine ⟨fun _ => s_cellsW (kRa3 hp) hd ?_, fun q => absurd rfl q⟩
    rw [nI_add, show (3 : Int32) = nI 3 from rfl, nI_add]
    exact K
theorem s_objectsBelowTop {h : HP} {A : AS} {Φ : Int32 → HP → Prop} (P : PC h A) (K : Φ (nI (an A)) h) : K_He_objectsBelowTop [.ref 15] h Φ := by
  refine I_He_objectsBelowTop (fun X C Rm Q => g_He_objectsBelowTop_0 C Rm Q ?_)
  have hn := P.wf.n
  have h4 := P.wf.1
  have loop : ∀ (r k : Nat), r + k = an A → Wg X 0 0 h [(0, .ref 15), (1, .int (nI k)), (2, .int (nI (ad A k)))] [] 4 := by
    intro r
    induction r with
    | zero =>
      intro k hk
      have e : k = an A := by omega
      subst e
      refine g_He_objectsBelowTop_4 C Rm Q ⟨fun _ => K, fun q => absurd ?_ q⟩
      rw [P.top]
      exact Int32.le_refl _
    | succ r ih =>
      intro k hk
      have hkn : k < an A := by omega
      have ha := P.wf.adl hkn
      have hlt := ad_lt (A := A) hkn
      have hp := osz_pos (ao A k)
      refine g_He_objectsBelowTop_4 C Rm Q ⟨fun q => ?_, fun _ => ⟨fun q => ?_, fun _ => s_sizeAt P.wf hkn (P.obj hkn) ?_⟩⟩
      · rw [P.top, nI_leI (by omega) (by omega)] at q
        omega
      · rw [show (400 : Int32) = nI 400 from rfl, nI_leI (by omega) (by omega)] at q
        omega
      · rw [nI_1, nI_add, ← ad_succ]
        exact ih (k + 1) (by omega)
  exact loop (an A) 0 (Nat.add_zero _)
