/-! The model's calls: read. -/
noncomputable def oRdR (A : AS) : Option (Int × Int) → Int
  | none => -7
  | some (u, d) => if d = 0 then -5 else if ¬ (gc 32 u.natAbs ≤ 20 ∧ gc 32 d.natAbs ≤ 20) then -3 else nkR A (rU u d) (rD u d)
noncomputable def oRdA (A : AS) (t : Nat) : Option (Int × Int) → AS
  | none => A
  | some (u, d) => if d = 0 then A else if ¬ (gc 32 u.natAbs ≤ 20 ∧ gc 32 d.natAbs ≤ 20) then A else nkA A t (rU u d) (rD u d)
theorem FD.fin {g h3 : HP} {A : AS} {o : Nat → Nat} {L O : List Nat} {t : Nat} {u d : Int} {Φ : Int32 → HP → Prop} (S : MS g A o L O) (f : FD [4, 5] g h3) (ht : t < 8) (hu : MN h3 4 u) (hd : MN h3 5 d) (d0 : d ≠ 0) (gu : gc 16 u.natAbs ≤ 97) (gd : gc 16 d.natAbs ≤ 97) (K : ∀ h4 o4, MK g h4 → MS h4 (nkA A t (rU u d) (rD u d)) o4 L O → Φ (Int32.ofInt (nkR A (rU u d) (rD u d))) h4) : K_Mo_reduce [.ref 0] h3 (fun h5 => K_Mo_finish [.ref 0, .int (nI t)] h5 Φ) :=
  (FD.ms S f (by simp)).red (FR.rf [] h3) (by simp) ht hu hd d0 gu gd (fun h4 o4 mk4 S4 => K h4 o4 (f.mk.trans mk4) S4)
set_option maxHeartbeats 2000000 in
theorem s_mread {h : HP} {A : AS} {o : Nat → Nat} {L O : List Nat} {x : Int32} {Φ : Int32 → HP → Prop} (S : MS h A o L O) (bad : ¬ isr x → ∀ h2, FM h h2 → h2 0 0 = 1 → MS h2 A o L O → Φ 0 h2) (good : ∀ t, t < 8 → x = nI t → ∀ h2 o2 res, RD L res → FM h h2 → h2 0 0 = 0 → MS h2 (oRdA A t res) o2 L O → Φ (Int32.ofInt (oRdR A res)) h2) : K_Mo_read [.ref 0, .int x] h Φ := by
  refine I_Mo_read (fun X C Rm Q => ?_)
  refine g_Mo_read_0 C Rm Q (s_misR (fun q => ⟨fun z => absurd z (by decide), fun _ => ?_⟩) (fun q => ⟨fun _ => g_Mo_read_13 C Rm Q (s_mref1 ⟨fun z => absurd z (by decide), fun _ => bad q _ FM.ref (up_at _ _ _ _) S.ref⟩), fun z => absurd rfl z⟩))
  obtain ⟨t, ht, rfl⟩ := q
  have S0 := S.ref (v := 0)
  have go0 := fun h2 o2 res => good t ht rfl h2 o2 res
  clear good bad
  have go : ∀ h2 o2 res, RD L res → MK (up h 0 0 0) h2 → MS h2 (oRdA A t res) o2 L O → Φ (Int32.ofInt (oRdR A res)) h2 := fun h2 o2 res a b c => go0 h2 o2 res a (FM.ref.trans b.fm) (b.2.1.trans (up_at _ _ _ _)) c
  clear go0
  generalize hg : up h 0 0 0 = g at *
  have P := S0.2.2.1
  have hl := P.1
  have e4 : (4 : Int32).toNatClampNeg = 4 := rfl
  have e5 : (5 : Int32).toNatClampNeg = 5 := rfl
  -- the end: nothing told
  have c115n : ∀ (s : Int32) (v3 : Int32) (h3 : HP), FD [4, 5] g h3 → RD L none → (v3 = 0 ∨ ¬ h3 0 15 ≤ h3 0 20) → Wg X 0 0 h3 [(0, .ref 0), (1, .int (nI t)), (2, .int s), (3, .int v3)] [] 115 := by
    intro s v3 h3 f3 rd z
    have k := go h3 o none rd f3.mk (FD.ms S0 f3 (by simp))
    have k : Φ (-7) h3 := k
    refine g_Mo_read_115 C Rm Q ⟨fun _ => k, fun z1 => ⟨fun z2 => ?_, fun _ => k⟩⟩
    rcases z with z | z
    · exact absurd z z1
    · exact absurd z2 z
  -- the end: a number told
  have c115 : ∀ (s : Bool) (h3 : HP) (m d : Nat), FD [4, 5] g h3 → RD L (some (sgz s m, (d : Int))) → h3 0 15 ≤ h3 0 20 → MN h3 4 (m : Int) → MN h3 5 (d : Int) → Wg X 0 0 h3 [(0, .ref 0), (1, .int (nI t)), (2, .int (if s then 1 else 0)), (3, .int 1)] [] 115 := by
    intro s h3 m d f3 rd le w4 w5
    have S3 := FD.ms S0 f3 (by simp)
    have k := fun h2 o2 => go h2 o2 _ rd
    have mu : MU h3 4 m := by have := w4.u; rwa [Int.natAbs_natCast] at this
    have du : MU h3 5 d := by have := w5.u; rwa [Int.natAbs_natCast] at this
    unfold oRdA oRdR at k
    simp only [sgz_abs, Int.natAbs_natCast] at k
    refine g_Mo_read_115 C Rm Q ⟨fun z => absurd z (by decide), fun _ => ⟨fun _ => ⟨vr (r := 5) (by omega), fun z => ?_, fun z => ?_⟩, fun z => absurd le z⟩⟩
    · rw [e5, du.len, nI_e0 (by have := du.le; omega), gc_eq0] at z
      simp only [if_neg (show ¬ (d : Int) = 0 by omega)] at k
      have large : ¬ (gc 32 m ≤ 20 ∧ gc 32 d ≤ 20) → Φ (-3) h3 := fun y => by
        simp only [if_pos y] at k
        exact k h3 o f3.mk S3
      refine s_misLarge (r := 4) (by omega) mu ⟨fun y => large (fun y2 => y (by rw [if_pos y2.1])), fun y => s_misLarge (r := 5) (by omega) du ⟨fun y2 => ?_, fun y2 => large (fun y3 => y2 (by rw [if_pos y3.2]))⟩⟩
      have g1 : gc 32 m ≤ 20 := by
        by_cases q : gc 32 m ≤ 20
        · exact q
        · rw [if_neg q] at y; exact absurd y (by decide)
      have g2 : gc 32 d ≤ 20 := by
        by_cases q : gc 32 d ≤ 20
        · exact q
        · rw [if_neg q] at y2; exact absurd y2 (by decide)
      simp only [if_neg (show ¬ ¬ (gc 32 m ≤ 20 ∧ gc 32 d ≤ 20) from fun z => z ⟨g1, g2⟩)] at k
      have g1' := gc16 g1
      have g2' := gc16 g2
      have fin : ∀ v : Int32, v = (if sgz s m < 0 then 1 else 0) → vp_in 4 218 ∧ (K_Mo_reduce [.ref 0] (up h3 10 4 v) (fun h3 => K_Mo_finish [.ref 0, .int (nI t)] h3 (fun r4 h4 => Φ r4 h4))) := by
        intro v hv
        refine ⟨vr (r := 4) (by omega), ?_⟩
        have ff : FD [4, 5] h3 (up h3 10 4 v) := ⟨(Fr.rf _ _).up (by simp), fun i _ => by rw [up_ne (by omega)], fun q hq => by
          simp at hq
          exact ⟨by rw [up_ne (by omega)], by rw [up_at_ne (by omega)], fun i _ => by rw [up_ne (by omega)]⟩⟩
        exact FD.fin S0 (f3.trans ff) ht (mu.put (sgz_abs s m) hv) (w5.rw ⟨by rw [up_ne (by omega)], by rw [up_at_ne (by omega)], fun i _ => by rw [up_ne (by omega)]⟩) (by omega) (by rw [sgz_abs]; omega) (by rw [Int.natAbs_natCast]; omega) k
      rw [e4, mu.len, nI_le0 (by omega), gc_eq0]
      cases s with
      | false => exact ⟨fun _ => fin 0 (by show _ = if (m : Int) < 0 then _ else _; rw [if_neg (by omega)]), fun z => absurd rfl z⟩
      | true => exact ⟨fun z => absurd z (by decide), fun _ => ⟨vr (r := 4) (by omega), fun m0 => fin 0 (by show _ = if -(m : Int) < 0 then _ else _; rw [if_neg (by omega)]), fun m0 => fin 1 (by show _ = if -(m : Int) < 0 then _ else _; rw [if_pos (by omega)])⟩⟩
    · rw [e5, du.len, nI_e0 (by have := du.le; omega), gc_eq0] at z
      simp only [if_pos (show (d : Int) = 0 by omega)] at k
      exact k h3 o f3.mk S3
  -- with the sign known
  have main : ∀ (s : Bool), (s = true ↔ L[0]? = some 45) → Wg X 0 0 g [(0, .ref 0), (1, .int (nI t)), (2, .int (if s then 1 else 0))] [.int (nI (if s then 1 else 0)), .ref 0] 55 := by
    intro s hs
    have hb : (if s then 1 else 0) ≤ L.length := by
      cases s
      · exact Nat.zero_le _
      · have := hs.mp rfl
        have := (List.getElem?_eq_some_iff.mp this).1
        show 1 ≤ L.length
        omega
    generalize hbe : (if s then 1 else 0 : Nat) = b at *
    have f0 : FD [4, 5] g (up g 0 20 (nI b)) := FD.at
    refine g_Mo_read_55 C Rm Q (s_mreadDigits (r := 4) (f0.ml P) (by omega) (up_at _ _ _ _) hb (fun h1 e f1 he a20 w4 => ?_))
    refine s_msetLong (r := 5) (by omega) (fun h2 f2 w5 => ?_)
    have hel := he.le hb
    have ff2 : FD [4, 5] g h2 := (f0.trans (f1.mono (by simp))).trans ((FR.fd f2).mono (by simp))
    have w42 : MN h2 4 ((dvf L b (e - b) : Nat) : Int) := w4.fr f2 (by simp)
    have a202 : h2 0 20 = nI e := by rw [f2.1 0 (by simp)]; exact a20
    have P2 := ff2.ml P
    rw [a202, P2.2.1, nI_leI (by omega) (by omega)]
    by_cases eb : e = b
    · rw [if_pos eb]
      exact ⟨fun _ => c115n _ _ h2 ff2 ⟨s, b, e, hs, hbe.symm, he, Or.inl ⟨eb, rfl⟩⟩ (Or.inl rfl), fun z => absurd rfl z⟩
    · rw [if_neg eb]
      refine ⟨fun z => absurd z (by decide), fun _ => ⟨fun q => ?_, fun q => ⟨vp_in_nI (by omega) (by omega), ?_⟩⟩⟩
      · refine c115 s h2 _ 1 ff2 ⟨s, b, e, hs, hbe.symm, he, Or.inr (Or.inl ⟨eb, by omega, rfl⟩)⟩ ?_ w42 w5
        rw [a202, P2.2.1, nI_leI (by omega) (by omega)]
        omega
      · obtain ⟨c, hc⟩ : ∃ c, L[e]? = some c := ⟨L[e]'(by omega), List.getElem?_eq_getElem (by omega)⟩
        obtain ⟨ec, c256⟩ := P2.2.2 _ _ hc
        rw [nI_cl (by omega), ec, show (47 : Int32) = nI 47 from rfl, nI_eq (by omega) (by omega)]
        refine ⟨fun q2 => ?_, fun q2 => ?_⟩
        · refine c115n _ _ h2 ff2 ⟨s, b, e, hs, hbe.symm, he, Or.inr (Or.inr (Or.inl ⟨eb, by omega, by rw [hc]; simpa using q2, rfl⟩))⟩ (Or.inr ?_)
          rw [a202, P2.2.1, nI_leI (by omega) (by omega)]
          omega
        · subst q2
          rw [nI_1]
          have f3 : FD [4, 5] g (up h2 0 20 (nI (e + 1))) := ff2.trans FD.at
          refine s_mreadDigits (r := 5) (f3.ml P) (by omega) (up_at _ _ _ _) (by omega) (fun h4 e2 f4 he2 a204 w54 => ?_)
          have hel2 := he2.le (by omega)
          have ff4 : FD [4, 5] g h4 := f3.trans (f4.mono (by simp))
          have P4 := ff4.ml P
          have w44 : MN h4 4 ((dvf L b (e - b) : Nat) : Int) := (w42.rw ⟨by rw [up_ne (by omega)], by rw [up_ne (by omega)], fun i _ => by rw [up_ne (by omega)]⟩ : MN (up h2 0 20 (nI (e + 1))) 4 _).fd f4 (by simp)
          have rd : ∀ res, (((e2 = e + 1 ∨ e2 ≠ L.length) ∧ res = none) ∨ (e2 ≠ e + 1 ∧ e2 = L.length ∧ res = some (sgz s (dvf L b (e - b)), ((dvf L (e + 1) (e2 - (e + 1)) : Nat) : Int)))) → RD L res := fun res z => ⟨s, b, e, hs, hbe.symm, he, Or.inr (Or.inr (Or.inr ⟨eb, by omega, hc, e2, he2, z⟩))⟩
          by_cases e2b : e2 = e + 1
          · rw [if_pos e2b]
            exact c115n _ _ h4 ff4 (rd none (Or.inl ⟨Or.inl e2b, rfl⟩)) (Or.inl rfl)
          · rw [if_neg e2b]
            by_cases e2l : e2 = L.length
            · refine c115 s h4 _ _ ff4 (rd _ (Or.inr ⟨e2b, e2l, rfl⟩)) ?_ w44 w54
              rw [a204, P4.2.1, nI_leI (by omega) (by omega)]
              omega
            · refine c115n _ _ h4 ff4 (rd none (Or.inl ⟨Or.inr e2l, rfl⟩)) (Or.inr ?_)
              rw [a204, P4.2.1, nI_leI (by omega) (by omega)]
              omega
  refine g_Mo_read_13 C Rm Q (s_mref0 ⟨fun _ => ?_, fun z => absurd rfl z⟩)
  rw [hg, P.2.1, nI_le0 (by omega)]
  refine ⟨fun q => main false ⟨fun z => absurd z (by decide), fun z => ?_⟩, fun q => ⟨(vp_in_nI (by omega) (by omega) : vp_in (nI 0) 200), ?_⟩⟩
  · have := (List.getElem?_eq_some_iff.mp z).1
    omega
  · obtain ⟨c, hc⟩ : ∃ c, L[0]? = some c := ⟨L[0]'(by omega), List.getElem?_eq_getElem (by omega)⟩
    obtain ⟨ec, c256⟩ := P.2.2 _ _ hc
    rw [show (0 : Int32).toNatClampNeg = 0 from rfl, ec, show (45 : Int32) = nI 45 from rfl, nI_eq (by omega) (by omega)]
    refine ⟨fun q2 => main false ⟨fun z => absurd z (by decide), fun z => ?_⟩, fun q2 => main true ⟨fun _ => by rw [hc, q2], fun _ => rfl⟩⟩
    rw [hc] at z
    cases z
    exact absurd rfl q2
