/-! The model's calls: pairs. -/
set_option maxHeartbeats 4000000 in
theorem s_mpair {h : HP} {A : AS} {o : Nat → Nat} {L O : List Nat} {t f s : Nat} {Φ : HP → Prop} (S : MS h A o L O) (ht : t < 8) (hf : f < 8) (hs : s < 8) (hfit : ad A (an A) + 3 ≤ 400) (K : ∀ h2 o2, MK h h2 → MS h2 (sr (mk A (.inr (4, ar A f, ar A s))) t (some (.inr (an A)))) o2 L O → Φ h2) : K_Mo_make [.ref 0, .int (nI 4), .int (nI 3)] h (fun r3 h3 => K_Mo_slotOf [.int r3, .int (nI 0)] h3 (fun r4 h4 => K_Mo_copyValue [.ref 0, .int r4, .int (nI f)] h4 (fun h5 => K_Mo_slotOf [.int r3, .int (nI 1)] h5 (fun r6 h6 => K_Mo_copyValue [.ref 0, .int r6, .int (nI s)] h6 (fun h7 => K_Mo_setValue [.ref 0, .int (nI t), .int 2, .int r3] h7 (fun h8 => Φ h8)))))) := by
  have w := S.wf
  have P := S.pm
  have hn4 : an A ≤ 199 := room_n w (c := 3) (by omega) (by omega)
  have V1 := w.2.2 f hf
  have V2 := w.2.2 s hs
  have wob : OW A (.inr (4, ar A f, ar A s)) := Or.inl ⟨rfl, V1, V2⟩
  refine s_mmake P.1 w hn4 (fun x hx hfr => ?_)
  generalize hh5 : up (up (up (up (up h 4 x (nI 4)) 5 x (nI 3)) 3 (an A) (nI x)) 0 3 (nI (an A + 1))) 0 9 (nI (ad A (an A) + 3)) = h5
  have g1 : ∀ j, j ≠ 0 → j ≠ 3 → j ≠ 4 → j ≠ 5 → h5 j = h j := fun j a b c d => by rw [← hh5, up_ne a, up_ne a, up_ne b, up_ne d, up_ne c]
  have g4 : h5 4 = upd (h 4) x (nI 4) := by rw [← hh5, up_ne (by omega), up_ne (by omega), up_ne (by omega), up_ne (by omega), up_self]
  have g5 : h5 5 = upd (h 5) x (nI 3) := by rw [← hh5, up_ne (by omega), up_ne (by omega), up_ne (by omega), up_self, up_ne (by omega)]
  have g3 : h5 3 = upd (h 3) (an A) (nI x) := by rw [← hh5, up_ne (by omega), up_ne (by omega), up_self, up_ne (by omega), up_ne (by omega)]
  have g09 : h5 0 9 = nI (ad A (an A) + 3) := by rw [← hh5, up_at]
  have g03 : h5 0 3 = nI (an A + 1) := by rw [← hh5, up_at_ne (by omega), up_at]
  have g0 : ∀ i, i ≠ 9 → i ≠ 3 → h5 0 i = h 0 i := fun i a b => by rw [← hh5, up_at_ne a, up_at_ne b, up_ne (by omega), up_ne (by omega), up_ne (by omega)]
  have e1 := g1 1 (by omega) (by omega) (by omega) (by omega)
  have e2 := g1 2 (by omega) (by omega) (by omega) (by omega)
  have v5a : VM h5 o f (ar A f) := (P.reg hf).cong V1 (by rw [e1]) (by rw [e2]) (fun _ _ => rfl)
  have v5b : VM h5 o s (ar A s) := (P.reg hs).cong V2 (by rw [e1]) (by rw [e2]) (fun _ _ => rfl)
  refine s_mslot (j := 0) (s_mcopyV (by omega) (by omega) (s_mslot (j := 1) (s_mcopyV (by omega) (by omega) (s_mset (by omega) ?_))))
  have fr1 : Fr [1, 2] h5 (up (up h5 1 (8 + 2 * x + 0) (h5 1 f)) 2 (8 + 2 * x + 0) (h5 2 f)) := ((Fr.rf _ _).up (by simp)).up (by simp)
  have va : VM (up (up h5 1 (8 + 2 * x + 0) (h5 1 f)) 2 (8 + 2 * x + 0) (h5 2 f)) (oadd A o x) (8 + 2 * x + 0) (ar A f) := v5a.set V1 (fun k hk => oadd_lt hk)
  have sl6 : ∀ i, i ≠ 8 + 2 * x + 0 → up (up h5 1 (8 + 2 * x + 0) (h5 1 f)) 2 (8 + 2 * x + 0) (h5 2 f) 1 i = h5 1 i ∧ up (up h5 1 (8 + 2 * x + 0) (h5 1 f)) 2 (8 + 2 * x + 0) (h5 2 f) 2 i = h5 2 i := fun i hi => by
    rw [up_ne (by omega), up_at_ne hi, up_at_ne hi, up_ne (by omega)]
    exact ⟨rfl, rfl⟩
  generalize up (up h5 1 (8 + 2 * x + 0) (h5 1 f)) 2 (8 + 2 * x + 0) (h5 2 f) = h6 at *
  have v6b : VM h6 o s (ar A s) := v5b.cong V2 (sl6 s (by omega)).1 (sl6 s (by omega)).2 (fun _ _ => rfl)
  have fr2 : Fr [1, 2] h6 (up (up h6 1 (8 + 2 * x + 1) (h6 1 s)) 2 (8 + 2 * x + 1) (h6 2 s)) := ((Fr.rf _ _).up (by simp)).up (by simp)
  have vb : VM (up (up h6 1 (8 + 2 * x + 1) (h6 1 s)) 2 (8 + 2 * x + 1) (h6 2 s)) (oadd A o x) (8 + 2 * x + 1) (ar A s) := v6b.set V2 (fun k hk => oadd_lt hk)
  have sl7 : ∀ i, i ≠ 8 + 2 * x + 1 → up (up h6 1 (8 + 2 * x + 1) (h6 1 s)) 2 (8 + 2 * x + 1) (h6 2 s) 1 i = h6 1 i ∧ up (up h6 1 (8 + 2 * x + 1) (h6 1 s)) 2 (8 + 2 * x + 1) (h6 2 s) 2 i = h6 2 i := fun i hi => by
    rw [up_ne (by omega), up_at_ne hi, up_at_ne hi, up_ne (by omega)]
    exact ⟨rfl, rfl⟩
  generalize up (up h6 1 (8 + 2 * x + 1) (h6 1 s)) 2 (8 + 2 * x + 1) (h6 2 s) = h7 at *
  have fr3 : Fr [1, 2] h7 (up (up h7 1 t 2) 2 t (nI x)) := ((Fr.rf _ _).up (by simp)).up (by simp)
  have sl8 : ∀ i, i ≠ t → up (up h7 1 t 2) 2 t (nI x) 1 i = h7 1 i ∧ up (up h7 1 t 2) 2 t (nI x) 2 i = h7 2 i := fun i hi => by
    rw [up_ne (by omega), up_at_ne hi, up_at_ne hi, up_ne (by omega)]
    exact ⟨rfl, rfl⟩
  have vt : VM (up (up h7 1 t 2) 2 t (nI x)) (oadd A o x) t (some (.inr (an A))) := ⟨by rw [up_ne (by omega), up_at], by rw [up_at, oadd_n]⟩
  generalize up (up h7 1 t 2) 2 t (nI x) = h8 at *
  have frA : Fr [1, 2] h5 h8 := (fr1.trans fr2).trans fr3
  have hz0 : 8 + 2 * x + 0 = 8 + 2 * x := rfl
  have hz1 : 8 + 2 * x + 1 = 9 + 2 * x := by omega
  have slall : ∀ i, i ≠ t → i ≠ 8 + 2 * x → i ≠ 9 + 2 * x → h8 1 i = h 1 i ∧ h8 2 i = h 2 i := fun i a b c => by
    rw [(sl8 i a).1, (sl8 i a).2, (sl7 i (by omega)).1, (sl7 i (by omega)).2, (sl6 i (by omega)).1, (sl6 i (by omega)).2, e1, e2]
    exact ⟨rfl, rfl⟩
  have P8 : PN h8 (mk A (.inr (4, ar A f, ar A s))) (oadd A o x) := by
    refine P.1.inMk w hn4 hx hfr ?_ ?_ ?_ ?_ ?_ ?_ (fun i a b c d => slall i (by omega) c d) (fun r a b c => ?_) ⟨?_, ?_⟩
    · rw [frA 4 (by simp), g4]
      rfl
    · rw [frA 5 (by simp), g5]
      rfl
    · rw [frA 3 (by simp), g3]
    · rw [frA 0 (by simp), g03]
    · rw [frA 0 (by simp), g09]
      rfl
    · rw [frA 0 (by simp), g0 10 (by omega) (by omega)]
    · exact ⟨by rw [frA 9 (by simp), g1 9 (by omega) (by omega) (by omega) (by omega)], by rw [frA 10 (by simp), g1 10 (by omega) (by omega) (by omega) (by omega)], fun i _ => by rw [frA 8 (by simp), g1 8 (by omega) (by omega) (by omega) (by omega)]⟩
    · have q1 : VM h7 (oadd A o x) (8 + 2 * x) (ar A f) := va.cong (n := an A) V1 (sl7 (8 + 2 * x) (by omega)).1 (sl7 (8 + 2 * x) (by omega)).2 (fun _ _ => rfl)
      exact q1.cong (n := an A) V1 (sl8 _ (by omega)).1 (sl8 _ (by omega)).2 (fun _ _ => rfl)
    · rw [hz1] at vb
      exact vb.cong (n := an A) V2 (sl8 _ (by omega)).1 (sl8 _ (by omega)).2 (fun _ _ => rfl)
  have mk8 : MK h h8 := ⟨fun j hj => by
    simp at hj
    rw [frA j (by simp; omega), g1 j (by omega) (by omega) (by omega) (by omega)], by rw [frA 0 (by simp), g0 0 (by omega) (by omega)], by rw [frA 0 (by simp), g0 15 (by omega) (by omega)], by rw [frA 0 (by simp), g0 17 (by omega) (by omega)]⟩
  have wmk : WF (mk A (.inr (4, ar A f, ar A s))) := mk_WF w wob hfit
  refine K h8 (oadd A o x) mk8 (S.mk mk8 (sr_WF wmk (Nat.lt_succ_self _)) (P.sreg w P8 rfl vt (fun k hk => oadd_lt hk) (fun i hi hne => slall i hne (by omega) (by omega))))
def oConsR (A : AS) : Int := if 400 < ad A (an A) + 3 then -2 else (ad A (an A) : Int)
def oConsA (A : AS) (t f s : Nat) : AS := if 400 < ad A (an A) + 3 then A else sr (mk A (.inr (4, ar A f, ar A s))) t (some (.inr (an A)))
theorem s_mcons {h : HP} {A : AS} {o : Nat → Nat} {L O : List Nat} {x y z : Int32} {Φ : Int32 → HP → Prop} (S : MS h A o L O) (bad : ¬ (isr x ∧ isr y ∧ isr z) → ∀ h2, FM h h2 → h2 0 0 = 1 → MS h2 A o L O → Φ 0 h2) (good : ∀ t f s, t < 8 → x = nI t → f < 8 → y = nI f → s < 8 → z = nI s → ∀ h2 o2, FM h h2 → h2 0 0 = 0 → MS h2 (oConsA (rmA A 3) t f s) o2 L O → Φ (Int32.ofInt (oConsR (rmA A 3))) h2) : K_Mo_cons [.ref 0, .int x, .int y, .int z] h Φ := by
  refine I_Mo_cons (fun X C Rm Q => ?_)
  have c1 : ¬ (isr x ∧ isr y ∧ isr z) → Wg X 0 0 h [(0, .ref 0), (1, .int x), (2, .int y), (3, .int z)] [.int 1, .ref 0] 27 := fun q => g_Mo_cons_27 C Rm Q (s_mref1 ⟨fun z => absurd z (by decide), fun _ => bad q _ FM.ref (up_at _ _ _ _) S.ref⟩)
  refine g_Mo_cons_0 C Rm Q (s_misR (fun q => ⟨fun z => absurd z (by decide), fun _ => s_misR (fun q2 => ⟨fun z => absurd z (by decide), fun _ => s_misR (fun q3 => ⟨fun z => absurd z (by decide), fun _ => ?_⟩) (fun q3 => ⟨fun _ => c1 (fun y => q3 y.2.2), fun z => absurd rfl z⟩)⟩) (fun q2 => ⟨fun _ => c1 (fun y => q2 y.2.1), fun z => absurd rfl z⟩)⟩) (fun q => ⟨fun _ => c1 (fun y => q y.1), fun z => absurd rfl z⟩))
  obtain ⟨t, ht, rfl⟩ := q
  obtain ⟨f, hf, rfl⟩ := q2
  obtain ⟨s, hs, rfl⟩ := q3
  refine g_Mo_cons_27 C Rm Q (s_mref0 ⟨fun _ => ?_, fun z => absurd rfl z⟩)
  have wt : K_Mo_wants [.ref 0, .int (nI 3)] (up h 0 0 0) (fun r2 h2 => (¬ r2 = 0 → K_Mo_make [.ref 0, .int (nI 4), .int (nI 3)] h2 (fun r3 h3 => K_Mo_slotOf [.int r3, .int (nI 0)] h3 (fun r4 h4 => K_Mo_copyValue [.ref 0, .int r4, .int (nI f)] h4 (fun h5 => K_Mo_slotOf [.int r3, .int (nI 1)] h5 (fun r6 h6 => K_Mo_copyValue [.ref 0, .int r6, .int (nI s)] h6 (fun h7 => K_Mo_setValue [.ref 0, .int (nI t), .int 2, .int r3] h7 (fun h8 => Φ (h2 0 9) h8))))))) ∧ (r2 = 0 → Φ ((-2)) h2)) := by
    refine s_mwants S.ref.pm S.1 (by omega) (fun h2 o2 f2 g2 P2 => ?_)
    have mk2 : MK (up h 0 0 0) h2 := ⟨f2.mono (by simp), g2 0 (by omega) (by omega) (by omega), g2 15 (by omega) (by omega) (by omega), g2 17 (by omega) (by omega) (by omega)⟩
    have S2 := S.ref.mk mk2 (rmA_WF S.1 3) P2
    have go := fun h3 o3 => good t f s ht rfl hf rfl hs rfl h3 o3
    unfold oConsA oConsR at go
    by_cases hfit : 400 < ad (rmA A 3) (an (rmA A 3)) + 3
    · simp only [if_pos hfit] at go
      rw [if_pos hfit]
      exact ⟨fun z => absurd rfl z, fun _ => go h2 o2 (FM.ref.trans mk2.fm) (mk2.2.1.trans (up_at _ _ _ _)) S2⟩
    · simp only [if_neg hfit] at go
      rw [if_neg hfit]
      refine ⟨fun _ => s_mpair S2 ht hf hs (by omega) (fun h3 o3 mk3 S3 => ?_), fun z => absurd z (by decide)⟩
      rw [P2.1.top]
      have mk := mk2.trans mk3
      exact go h3 o3 (FM.ref.trans mk.fm) (mk.2.1.trans (up_at _ _ _ _)) S3
  exact wt
