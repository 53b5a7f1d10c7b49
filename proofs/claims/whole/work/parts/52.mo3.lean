/-! The model's calls: parts of pairs, same, value, count, collect, output, erase. -/
def oPartR (A : AS) (p : Nat) : Int := match prO A (ar A p) with
  | some _ => 0
  | none => -4
def oPartA (A : AS) (t p : Nat) (b : Int32) : AS := match prO A (ar A p) with
  | some q => sr A t (if b = 0 then q.2 else q.1)
  | none => A
def obx : Vl → Nat
  | some (.inr k) => k
  | _ => 0
def oChA (A : AS) (p : Nat) (b : Int32) (f : Nat) : AS := match prO A (ar A p) with
  | some q => so A (obx (ar A p)) (.inr (4, if b = 0 then (q.1, ar A f) else (ar A f, q.2)))
  | none => A
theorem prO_4 {A : AS} {v : Vl} {q : Vl × Vl} (h : prO A v = some q) : nI (vs A v) = 4 := by rw [prO_vs h]; rfl
theorem prO_n4 {A : AS} {v : Vl} (w : WF A) (hv : VW (an A) v) (h : prO A v = none) : ¬ nI (vs A v) = 4 := by
  have := prO_none h
  have := vs_lt w hv
  rw [show (4 : Int32) = nI 4 from rfl, nI_eq (by omega) (by omega)]
  exact prO_none h
theorem VM.pair {h : HP} {A : AS} {o : Nat → Nat} {i : Nat} {v : Vl} {q : Vl × Vl} (P : PN h A o) (w : WF A) (hv : VW (an A) v) (k : VM h o i v) (e : prO A v = some q) : ∃ j, v = some (.inr j) ∧ j < an A ∧ ao A j = .inr (4, q.1, q.2) ∧ h 2 i = nI (o j) ∧ o j < 200 ∧ VM h o (8 + 2 * o j) q.1 ∧ VM h o (9 + 2 * o j) q.2 ∧ VW (an A) q.1 ∧ VW (an A) q.2 := by
  obtain ⟨j, rfl, he⟩ := prO_some e
  have hj : j < an A := hv
  have om := P.obj hj
  rw [he] at om
  obtain ⟨w1, w2⟩ := prO_VW w hv e
  exact ⟨j, rfl, hj, he, k.2, P.lt hj, om.1, om.2, w1, w2⟩
theorem s_mpart {h : HP} {A : AS} {o : Nat → Nat} {L O : List Nat} {x y b : Int32} {Φ : Int32 → HP → Prop} (S : MS h A o L O) (bad : ¬ (isr x ∧ isr y) → ∀ h2, FM h h2 → h2 0 0 = 1 → MS h2 A o L O → Φ 0 h2) (good : ∀ t p, t < 8 → x = nI t → p < 8 → y = nI p → ∀ h2 o2, FM h h2 → h2 0 0 = 0 → MS h2 (oPartA A t p b) o2 L O → Φ (Int32.ofInt (oPartR A p)) h2) : K_Mo_part [.ref 0, .int x, .int y, .int b] h Φ := by
  refine I_Mo_part (fun X C Rm Q => ?_)
  have c1 : ¬ (isr x ∧ isr y) → Wg X 0 0 h [(0, .ref 0), (1, .int x), (2, .int y), (3, .int b)] [.int 1, .ref 0] 20 := fun q => g_Mo_part_20 C Rm Q (s_mref1 ⟨fun z => absurd z (by decide), fun _ => bad q _ FM.ref (up_at _ _ _ _) S.ref⟩)
  refine g_Mo_part_0 C Rm Q (s_misR (fun q => ⟨fun z => absurd z (by decide), fun _ => s_misR (fun q2 => ⟨fun z => absurd z (by decide), fun _ => ?_⟩) (fun q2 => ⟨fun _ => c1 (fun y => q2 y.2), fun z => absurd rfl z⟩)⟩) (fun q => ⟨fun _ => c1 (fun y => q y.1), fun z => absurd rfl z⟩))
  obtain ⟨t, ht, rfl⟩ := q
  obtain ⟨p, hp, rfl⟩ := q2
  have hv := S.1.2.2 p hp
  have S0 := S.ref (v := 0)
  have go := fun h3 o3 => good t p ht rfl hp rfl h3 o3
  refine g_Mo_part_20 C Rm Q (s_mref0 ⟨fun _ => s_msortOf S0.pm.1 (by omega) (S0.pm.reg hp) hv ?_, fun z => absurd rfl z⟩)
  unfold oPartA oPartR at go
  cases e : prO A (ar A p) with
  | none =>
    simp only [e] at go
    exact ⟨fun z => absurd z (prO_n4 S.1 hv e), fun _ => go _ o FM.ref (up_at _ _ _ _) S0⟩
  | some q =>
    simp only [e] at go
    refine ⟨fun _ => ⟨vp_in_nI (by omega) (by omega), ?_⟩, fun z => absurd (prO_4 e) z⟩
    obtain ⟨j, -, hj, -, e2, hl, va, vb, wa, wb⟩ := (S0.pm.reg hp).pair S0.pm.1 S.1 hv e
    rw [nI_cl (by omega), e2]
    refine ⟨fun z => s_mslot (j := 1) (s_mcopyV (by omega) (by omega) ?_), fun z => s_mslot (j := 0) (s_mcopyV (by omega) (by omega) ?_)⟩
    · rw [if_pos z] at go
      rw [show 8 + 2 * o j + 1 = 9 + 2 * o j by omega]
      exact go _ o (FM.ref.trans FM.set) (set_00.trans (up_at _ _ _ _)) (S0.set ht wb (vb.set wb (fun _ _ => rfl)))
    · rw [if_neg z] at go
      exact go _ o (FM.ref.trans FM.set) (set_00.trans (up_at _ _ _ _)) (S0.set ht wa (va.set wa (fun _ _ => rfl)))
/-- a part of a pair set -/
theorem MS.part {h : HP} {A : AS} {o : Nat → Nat} {L O : List Nat} {j i : Nat} {q q' : Vl × Vl} {a b : Int32} (S : MS h A o L O) (hj : j < an A) (he : ao A j = .inr (4, q.1, q.2)) (hi : i = 8 + 2 * o j ∨ i = 9 + 2 * o j) (h1 : VW (an A) q'.1) (h2 : VW (an A) q'.2) (k1 : VM (up (up h 1 i a) 2 i b) o (8 + 2 * o j) q'.1) (k2 : VM (up (up h 1 i a) 2 i b) o (9 + 2 * o j) q'.2) : MS (up (up h 1 i a) 2 i b) (so A j (.inr (4, q'))) o L O := by
  have f : Fr [1, 2] h (up (up h 1 i a) 2 i b) := ((Fr.rf _ _).up (by simp)).up (by simp)
  have sl : ∀ r, r ≠ i → up (up h 1 i a) 2 i b 1 r = h 1 r ∧ up (up h 1 i a) 2 i b 2 r = h 2 r := fun r hr => by
    rw [up_ne (by omega), up_at_ne hr, up_at_ne hr, up_ne (by omega)]
    exact ⟨rfl, rfl⟩
  generalize up (up h 1 i a) 2 i b = g at *
  have P := S.pm.1
  have e0 := f 0 (by simp)
  have hsz : osz (.inr (4, q')) = osz (ao A j) := by rw [he]; rfl
  have hl := P.lt hj
  refine ⟨so_WF S.1 hj he h1 h2, ⟨⟨P.1, fun k hk => ?_, fun x hx hn => by rw [f 4 (by simp)]; exact P.free hx hn, by rw [e0]; exact P.many, ?_, by rw [e0]; exact P.coll⟩, fun r hr => ?_⟩, S.2.2.1.cong (by rw [e0]) (f 11 (by simp)), S.2.2.2.cong (by rw [e0]) (f 12 (by simp))⟩
  · have hk : k < an A := hk
    show o k < 200 ∧ g 3 k = nI (o k) ∧ g 4 (o k) = nI (osrt (if k = j then .inr (4, q') else ao A k)) ∧ g 5 (o k) = nI (osz (if k = j then .inr (4, q') else ao A k)) ∧ OM g o (o k) (if k = j then .inr (4, q') else ao A k)
    rw [f 3 (by simp), f 4 (by simp), f 5 (by simp)]
    by_cases e : k = j
    · subst e
      simp only [if_pos]
      refine ⟨hl, P.ord hj, ?_, ?_, k1, k2⟩
      · rw [P.srt hj, he]; rfl
      · rw [P.siz hj, he]; rfl
    · simp only [if_neg e]
      have hne : o k ≠ o j := fun z => e (P.inj hk hj z)
      refine ⟨P.lt hk, P.ord hk, P.srt hk, P.siz hk, ?_⟩
      exact (P.obj hk).cong (S.1.2.1 k hk) (sl _ (by omega)).1 (sl _ (by omega)).2 (sl _ (by omega)).1 (sl _ (by omega)).2 ⟨by rw [f 9 (by simp)], by rw [f 10 (by simp)], fun i _ => by rw [f 8 (by simp)]⟩ (fun _ _ => rfl)
  · rw [e0]
    show _ = nI (ad (so A j (.inr (4, q'))) (an A))
    rw [so_ad hsz]
    exact P.top
  · have := S.1.2.2 r hr
    exact (S.pm.reg hr).cong this (sl r (by omega)).1 (sl r (by omega)).2 (fun _ _ => rfl)
theorem s_mchange {h : HP} {A : AS} {o : Nat → Nat} {L O : List Nat} {x y b : Int32} {Φ : Int32 → HP → Prop} (S : MS h A o L O) (bad : ¬ (isr x ∧ isr y) → ∀ h2, FM h h2 → h2 0 0 = 1 → MS h2 A o L O → Φ 0 h2) (good : ∀ p f, p < 8 → x = nI p → f < 8 → y = nI f → ∀ h2 o2, FM h h2 → h2 0 0 = 0 → MS h2 (oChA A p b f) o2 L O → Φ (Int32.ofInt (oPartR A p)) h2) : K_Mo_change [.ref 0, .int x, .int b, .int y] h Φ := by
  refine I_Mo_change (fun X C Rm Q => ?_)
  have c1 : ¬ (isr x ∧ isr y) → Wg X 0 0 h [(0, .ref 0), (1, .int x), (2, .int b), (3, .int y)] [.int 1, .ref 0] 20 := fun q => g_Mo_change_20 C Rm Q (s_mref1 ⟨fun z => absurd z (by decide), fun _ => bad q _ FM.ref (up_at _ _ _ _) S.ref⟩)
  refine g_Mo_change_0 C Rm Q (s_misR (fun q => ⟨fun z => absurd z (by decide), fun _ => s_misR (fun q2 => ⟨fun z => absurd z (by decide), fun _ => ?_⟩) (fun q2 => ⟨fun _ => c1 (fun y => q2 y.2), fun z => absurd rfl z⟩)⟩) (fun q => ⟨fun _ => c1 (fun y => q y.1), fun z => absurd rfl z⟩))
  obtain ⟨p, hp, rfl⟩ := q
  obtain ⟨f, hf, rfl⟩ := q2
  have hv := S.1.2.2 p hp
  have hw := S.1.2.2 f hf
  have S0 := S.ref (v := 0)
  have go := fun h3 o3 => good p f hp rfl hf rfl h3 o3
  refine g_Mo_change_20 C Rm Q (s_mref0 ⟨fun _ => s_msortOf S0.pm.1 (by omega) (S0.pm.reg hp) hv ?_, fun z => absurd rfl z⟩)
  unfold oChA oPartR at go
  cases e : prO A (ar A p) with
  | none =>
    simp only [e] at go
    exact ⟨fun z => absurd z (prO_n4 S.1 hv e), fun _ => go _ o FM.ref (up_at _ _ _ _) S0⟩
  | some q =>
    simp only [e] at go
    refine ⟨fun _ => ⟨vp_in_nI (by omega) (by omega), ?_⟩, fun z => absurd (prO_4 e) z⟩
    obtain ⟨j, ej, hj, he, e2, hl, va, vb, wa, wb⟩ := (S0.pm.reg hp).pair S0.pm.1 S.1 hv e
    rw [ej] at go
    rw [nI_cl (by omega), e2]
    have vf := (S0.pm.reg hf).set (i := 8 + 2 * o j + 1) hw (fun _ _ => rfl)
    have vf2 := (S0.pm.reg hf).set (i := 8 + 2 * o j) hw (fun _ _ => rfl)
    refine ⟨fun z => s_mslot (j := 1) (s_mcopyV (by omega) (by omega) ?_), fun z => s_mslot (j := 0) (s_mcopyV (by omega) (by omega) ?_)⟩
    · rw [if_pos z] at go
      rw [show 8 + 2 * o j + 1 = 9 + 2 * o j by omega] at vf ⊢
      refine go _ o (FM.ref.trans FM.set) (set_00.trans (up_at _ _ _ _)) (S0.part hj he (Or.inr rfl) wa hw (va.cong wa ?_ ?_ (fun _ _ => rfl)) vf)
      · rw [up_ne (by omega), up_at_ne (by omega)]
      · rw [up_at_ne (by omega), up_ne (by omega)]
    · rw [if_neg z] at go
      refine go _ o (FM.ref.trans FM.set) (set_00.trans (up_at _ _ _ _)) (S0.part hj he (Or.inl rfl) hw wb vf2 (vb.cong wb ?_ ?_ (fun _ _ => rfl)))
      · rw [up_ne (by omega), up_at_ne (by omega)]
      · rw [up_at_ne (by omega), up_ne (by omega)]
