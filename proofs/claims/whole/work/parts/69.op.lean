/-! The class and the model side by side, call by call. -/
def IV (h : HP) : Prop := ∃ A L O, CS h A L O ∧ ∃ o, MS h A o L O
theorem CS.cong {h h2 : HP} {A : AS} {L O : List Nat} (S : CS h A L O) (e : ∀ j, 15 ≤ j → j ≤ 57 → h2 j = h j) : CS h2 A L O := by
  obtain ⟨P, l, u, b⟩ := S
  refine ⟨P.cong (by rw [e 15 (by omega) (by omega)]) (by rw [e 15 (by omega) (by omega)]) (e 16 (by omega) (by omega)) (e 17 (by omega) (by omega)), ?_, ?_, ?_⟩
  · unfold PL
    rw [e 21 (by omega) (by omega), e 22 (by omega) (by omega)]
    exact l
  · unfold OUTC
    rw [e 52 (by omega) (by omega), e 53 (by omega) (by omega)]
    exact u
  · unfold SB
    rw [e 46 (by omega) (by omega), e 48 (by omega) (by omega)]
    exact b
theorem MS.cong {h h2 : HP} {A : AS} {o : Nat → Nat} {L O : List Nat} (M : MS h A o L O) (e : ∀ j, j < 15 → h2 j = h j) : MS h2 A o L O := by
  have e0 := e 0 (by omega)
  exact ⟨M.1, M.2.1.cong M.1 (fun j _ _ _ hj => e j (by omega)) (by rw [e0]) (by rw [e0]) (by rw [e0]), M.2.2.1.cong (by rw [e0]) (e 11 (by omega)), M.2.2.2.cong (by rw [e0]) (e 12 (by omega))⟩
theorem FM.hi {h h2 : HP} (f : FM h h2) {j : Nat} (hj : 14 ≤ j) : h2 j = h j := f j (by simp; omega)
theorem n8 {a b : Nat} (ha : a < 1000) (hb : b < 1000) (e : nI a = nI b) : a = b := (nI_eq (by omega) (by omega)).mp e
theorem MS.fo {h h1 : HP} {A : AS} {o : Nat → Nat} {L O : List Nat} {r : Int32} (M : MS h A o L O) (f : FC h h1) : MS (up h1 58 0 r) A o L O := M.cong (fun j hj => by rw [up_ne (by omega)]; exact f j (Or.inl hj))
theorem fin {h1 h2 : HP} {r : Int32} {A : AS} {o : Nat → Nat} {L O : List Nat} (S : CS h1 A L O) (f : FM (up h1 58 0 r) h2) (M : MS h2 A o L O) : IV h2 ∧ h2 58 0 = r :=
  ⟨⟨A, L, O, S.cong (fun j a b => by rw [f.hi (by omega), up_ne (by omega)]), o, M⟩, by rw [f.hi (by omega), up_at]⟩
theorem fin0 {h1 h2 : HP} {A : AS} {o : Nat → Nat} {L O : List Nat} (S : CS h1 A L O) (f : FM h1 h2) (M : MS h2 A o L O) : IV h2 := ⟨A, L, O, S.cong (fun j a b => f.hi (by omega)), o, M⟩
theorem k58 : kd 58 = (13, 1) := rfl
theorem vi0 : vp_in 0 1 := (vp_in_nI (by omega) (by omega) : vp_in (nI 0) 1)
section OPS
variable {h : HP} {Ψ : Int32 → Int32 → HP → Prop} {Θ : Int32 → Int32 → Int32 → HP → Prop}
theorem op_nil {x : Int32} (I : IV h) (K : ∀ r h3, IV h3 → Ψ r r h3) : H_La_nil [.ref 14, .int x] h (fun r1 h1 => K_Mo_nil [.ref 0, .int x] h1 (fun h2 => K_Mo_thrown [.ref 0] h2 (fun r3 h3 => Ψ r1 r3 h3))) := by
  obtain ⟨A, L, O, S, o, M⟩ := I
  by_cases q : isr x
  · obtain ⟨t, ht, rfl⟩ := q
    refine HV_La_nil (s_cnil S ht (fun h1 f1 S1 => s_mnil (M.cong (fun j hj => f1 j (Or.inl hj))) (fun b => absurd ⟨t, ht, rfl⟩ b) (fun a ha e h2 f2 z M2 => s_mthrown ?_)))
    obtain rfl := n8 (by omega) (by omega) e
    rw [z]
    exact K 0 h2 (fin0 S1 f2 M2)
  · exact HX_La_nil (th_nil q) (s_mnil M (fun _ h2 f2 z M2 => s_mthrown (by rw [z]; exact K 1 h2 (fin0 S f2 M2))) (fun a ha e => absurd ⟨a, ha, e⟩ q))
theorem op_copy {x y : Int32} (I : IV h) (K : ∀ r h3, IV h3 → Ψ r r h3) : H_La_copy [.ref 14, .int x, .int y] h (fun r1 h1 => K_Mo_copy [.ref 0, .int x, .int y] h1 (fun h2 => K_Mo_thrown [.ref 0] h2 (fun r3 h3 => Ψ r1 r3 h3))) := by
  obtain ⟨A, L, O, S, o, M⟩ := I
  by_cases q : isr x ∧ isr y
  · obtain ⟨⟨t, ht, rfl⟩, ⟨f, hf, rfl⟩⟩ := id q
    refine HV_La_copy (s_ccopy S ht hf (fun h1 f1 S1 => s_mcopyR (M.cong (fun j hj => f1 j (Or.inl hj))) (fun b => absurd q b) (fun a b ha e hb e2 h2 f2 z M2 => s_mthrown ?_)))
    obtain rfl := n8 (by omega) (by omega) e
    obtain rfl := n8 (by omega) (by omega) e2
    rw [z]
    exact K 0 h2 (fin0 S1 f2 M2)
  · exact HX_La_copy (th_copy q) (s_mcopyR M (fun _ h2 f2 z M2 => s_mthrown (by rw [z]; exact K 1 h2 (fin0 S f2 M2))) (fun a b ha e hb e2 => absurd ⟨⟨a, ha, e⟩, ⟨b, hb, e2⟩⟩ q))
theorem op_load {x : Int32} {v : Int64} (I : IV h) (K : ∀ r1 r2 h3, IV h3 → (r1 = 0 → h3 58 0 = r2) → Θ r1 r2 r1 h3) : H_La_load [.ref 14, .int x, .long v, .ref 58] h (fun r1 h1 => K_Mo_load [.ref 0, .int x, .long v] h1 (fun r2 h2 => K_Mo_thrown [.ref 0] h2 (fun r3 h3 => Θ r1 r2 r3 h3))) := by
  obtain ⟨A, L, O, S, o, M⟩ := I
  by_cases q : isr x
  · obtain ⟨t, ht, rfl⟩ := q
    refine HV_La_load k58 (s_cload S ht (fun h1 f1 S1 => ⟨vi0, s_mload (M.fo f1) (fun b => absurd ⟨t, ht, rfl⟩ b) (fun a ha e h2 o2 f2 z M2 => s_mthrown ?_)⟩))
    obtain rfl := n8 (by omega) (by omega) e
    obtain ⟨i, j⟩ := fin S1 f2 M2
    rw [z]
    exact K 0 _ h2 i (fun _ => j)
  · exact HX_La_load k58 (th_load q) (s_mload M (fun _ h2 f2 z M2 => s_mthrown (by rw [z]; exact K 1 _ h2 (fin0 S f2 M2) (fun z => absurd z (by decide)))) (fun a ha e => absurd ⟨a, ha, e⟩ q))
theorem op_cons {x y z : Int32} (I : IV h) (K : ∀ r1 r2 h3, IV h3 → (r1 = 0 → h3 58 0 = r2) → Θ r1 r2 r1 h3) : H_La_cons [.ref 14, .int x, .int y, .int z, .ref 58] h (fun r1 h1 => K_Mo_cons [.ref 0, .int x, .int y, .int z] h1 (fun r2 h2 => K_Mo_thrown [.ref 0] h2 (fun r3 h3 => Θ r1 r2 r3 h3))) := by
  obtain ⟨A, L, O, S, o, M⟩ := I
  by_cases q : isr x ∧ isr y ∧ isr z
  · obtain ⟨⟨t, ht, rfl⟩, ⟨f, hf, rfl⟩, ⟨s, hs, rfl⟩⟩ := id q
    refine HV_La_cons k58 (s_ccons S ht hf hs (fun h1 f1 S1 => ⟨vi0, s_mcons (M.fo f1) (fun b => absurd q b) (fun a b c ha e hb e2 hc e3 h2 o2 f2 z M2 => s_mthrown ?_)⟩))
    obtain rfl := n8 (by omega) (by omega) e
    obtain rfl := n8 (by omega) (by omega) e2
    obtain rfl := n8 (by omega) (by omega) e3
    obtain ⟨i, j⟩ := fin S1 f2 M2
    rw [z]
    exact K 0 _ h2 i (fun _ => j)
  · exact HX_La_cons k58 (th_cons q) (s_mcons M (fun _ h2 f2 z M2 => s_mthrown (by rw [z]; exact K 1 _ h2 (fin0 S f2 M2) (fun z => absurd z (by decide)))) (fun a b c ha e hb e2 hc e3 => absurd ⟨⟨a, ha, e⟩, ⟨b, hb, e2⟩, ⟨c, hc, e3⟩⟩ q))
theorem op_part {x y b : Int32} (I : IV h) (K : ∀ r1 r2 h3, IV h3 → (r1 = 0 → h3 58 0 = r2) → Θ r1 r2 r1 h3) : H_La_part [.ref 14, .int x, .int y, .int b, .ref 58] h (fun r1 h1 => K_Mo_part [.ref 0, .int x, .int y, .int b] h1 (fun r2 h2 => K_Mo_thrown [.ref 0] h2 (fun r3 h3 => Θ r1 r2 r3 h3))) := by
  obtain ⟨A, L, O, S, o, M⟩ := I
  by_cases q : isr x ∧ isr y
  · obtain ⟨⟨t, ht, rfl⟩, ⟨f, hf, rfl⟩⟩ := id q
    refine HV_La_part k58 (s_cpart S ht hf (fun h1 f1 S1 => ⟨vi0, s_mpart (M.fo f1) (fun b => absurd q b) (fun a b ha e hb e2 h2 o2 f2 z M2 => s_mthrown ?_)⟩))
    obtain rfl := n8 (by omega) (by omega) e
    obtain rfl := n8 (by omega) (by omega) e2
    obtain ⟨i, j⟩ := fin S1 f2 M2
    rw [z]
    exact K 0 _ h2 i (fun _ => j)
  · exact HX_La_part k58 (th_part q) (s_mpart M (fun _ h2 f2 z M2 => s_mthrown (by rw [z]; exact K 1 _ h2 (fin0 S f2 M2) (fun z => absurd z (by decide)))) (fun a b ha e hb e2 => absurd ⟨⟨a, ha, e⟩, ⟨b, hb, e2⟩⟩ q))
theorem op_change {x y b : Int32} (I : IV h) (K : ∀ r1 r2 h3, IV h3 → (r1 = 0 → h3 58 0 = r2) → Θ r1 r2 r1 h3) : H_La_change [.ref 14, .int x, .int b, .int y, .ref 58] h (fun r1 h1 => K_Mo_change [.ref 0, .int x, .int b, .int y] h1 (fun r2 h2 => K_Mo_thrown [.ref 0] h2 (fun r3 h3 => Θ r1 r2 r3 h3))) := by
  obtain ⟨A, L, O, S, o, M⟩ := I
  by_cases q : isr x ∧ isr y
  · obtain ⟨⟨t, ht, rfl⟩, ⟨f, hf, rfl⟩⟩ := id q
    refine HV_La_change k58 (s_cchange S ht hf (fun h1 f1 S1 => ⟨vi0, s_mchange (M.fo f1) (fun b => absurd q b) (fun a b ha e hb e2 h2 o2 f2 z M2 => s_mthrown ?_)⟩))
    obtain rfl := n8 (by omega) (by omega) e
    obtain rfl := n8 (by omega) (by omega) e2
    obtain ⟨i, j⟩ := fin S1 f2 M2
    rw [z]
    exact K 0 _ h2 i (fun _ => j)
  · exact HX_La_change k58 (th_change q) (s_mchange M (fun _ h2 f2 z M2 => s_mthrown (by rw [z]; exact K 1 _ h2 (fin0 S f2 M2) (fun z => absurd z (by decide)))) (fun a b ha e hb e2 => absurd ⟨⟨a, ha, e⟩, ⟨b, hb, e2⟩⟩ q))
theorem op_work {x y z w : Int32} (I : IV h) (K : ∀ r1 r2 h3, IV h3 → (r1 = 0 → h3 58 0 = r2) → Θ r1 r2 r1 h3) : H_La_work [.ref 14, .int x, .int y, .int z, .int w, .ref 58] h (fun r1 h1 => K_Mo_work [.ref 0, .int x, .int y, .int z, .int w] h1 (fun r2 h2 => K_Mo_thrown [.ref 0] h2 (fun r3 h3 => Θ r1 r2 r3 h3))) := by
  obtain ⟨A, L, O, S, o, M⟩ := I
  by_cases q : isr x ∧ isr y ∧ isr z ∧ isn 7 w
  · obtain ⟨⟨t, ht, rfl⟩, ⟨f, hf, rfl⟩, ⟨s, hs, rfl⟩, ⟨w, hw, rfl⟩⟩ := id q
    refine HV_La_work k58 (s_cwork S ht hf hs hw (fun h1 f1 S1 => ⟨vi0, s_mwork (M.fo f1) (fun b => absurd q b) (fun a b c d ha e hb e2 hc e3 hd e4 h2 o2 f2 z M2 => s_mthrown ?_)⟩))
    obtain rfl := n8 (by omega) (by omega) e
    obtain rfl := n8 (by omega) (by omega) e2
    obtain rfl := n8 (by omega) (by omega) e3
    obtain rfl := n8 (by omega) (by omega) e4
    obtain ⟨i, j⟩ := fin S1 f2 M2
    rw [z]
    exact K 0 _ h2 i (fun _ => j)
  · exact HX_La_work k58 (th_work q) (s_mwork M (fun _ h2 f2 z M2 => s_mthrown (by rw [z]; exact K 1 _ h2 (fin0 S f2 M2) (fun z => absurd z (by decide)))) (fun a b c d ha e hb e2 hc e3 hd e4 => absurd ⟨⟨a, ha, e⟩, ⟨b, hb, e2⟩, ⟨c, hc, e3⟩, ⟨d, hd, e4⟩⟩ q))
theorem op_compare {x y : Int32} (I : IV h) (K : ∀ r1 r2 h3, IV h3 → (r1 = 0 → h3 58 0 = r2) → Θ r1 r2 r1 h3) : H_La_compare [.ref 14, .int x, .int y, .ref 58] h (fun r1 h1 => K_Mo_compare [.ref 0, .int x, .int y] h1 (fun r2 h2 => K_Mo_thrown [.ref 0] h2 (fun r3 h3 => Θ r1 r2 r3 h3))) := by
  obtain ⟨A, L, O, S, o, M⟩ := I
  by_cases q : isr x ∧ isr y
  · obtain ⟨⟨t, ht, rfl⟩, ⟨f, hf, rfl⟩⟩ := id q
    refine HV_La_compare k58 (s_ccompare S ht hf (fun h1 f1 S1 => ⟨vi0, s_mcompareR (M.fo f1) (fun b => absurd q b) (fun a b ha e hb e2 h2 f2 z M2 => s_mthrown ?_)⟩))
    obtain rfl := n8 (by omega) (by omega) e
    obtain rfl := n8 (by omega) (by omega) e2
    obtain ⟨i, j⟩ := fin S1 f2 M2
    rw [z]
    exact K 0 _ h2 i (fun _ => j)
  · exact HX_La_compare k58 (th_compare q) (s_mcompareR M (fun _ h2 f2 z M2 => s_mthrown (by rw [z]; exact K 1 _ h2 (fin0 S f2 M2) (fun z => absurd z (by decide)))) (fun a b ha e hb e2 => absurd ⟨⟨a, ha, e⟩, ⟨b, hb, e2⟩⟩ q))
theorem op_same {x y : Int32} (I : IV h) (K : ∀ r1 r2 h3, IV h3 → (r1 = 0 → h3 58 0 = r2 ∧ (r2 = 0 ∨ r2 = 1)) → Θ r1 r2 r1 h3) : H_La_same [.ref 14, .int x, .int y, .ref 58] h (fun r1 h1 => K_Mo_same [.ref 0, .int x, .int y] h1 (fun r2 h2 => K_Mo_thrown [.ref 0] h2 (fun r3 h3 => Θ r1 r2 r3 h3))) := by
  obtain ⟨A, L, O, S, o, M⟩ := I
  by_cases q : isr x ∧ isr y
  · obtain ⟨⟨t, ht, rfl⟩, ⟨f, hf, rfl⟩⟩ := id q
    have key : ∀ r : Int32, (r = 1 ∧ ar A t = ar A f) ∨ (r = 0 ∧ ¬ ar A t = ar A f) → K_Mo_same [.ref 0, .int (nI t), .int (nI f)] (up h 58 0 r) (fun r2 h2 => K_Mo_thrown [.ref 0] h2 (fun r3 h3 => Θ 0 r2 r3 h3)) := by
      intro r hr
      refine s_msame (M.fo (FC.rf h)) (fun b => absurd q b) (fun a b ha e hb e2 h2 f2 z M2 => ?_)
      obtain rfl := n8 (by omega) (by omega) e
      obtain rfl := n8 (by omega) (by omega) e2
      obtain ⟨i, j⟩ := fin S f2 M2
      refine ⟨fun y => s_mthrown ?_, fun y => s_mthrown ?_⟩
      · rcases hr with ⟨rfl, _⟩ | ⟨_, n⟩
        · rw [z]; exact K 0 _ h2 i (fun _ => ⟨j, Or.inr rfl⟩)
        · exact absurd y n
      · rcases hr with ⟨_, n⟩ | ⟨rfl, _⟩
        · exact absurd n y
        · rw [z]; exact K 0 _ h2 i (fun _ => ⟨j, Or.inl rfl⟩)
    refine HV_La_same k58 (s_csame S ht hf ⟨fun y => ⟨fun z => absurd z (by decide), fun _ => ⟨vi0, key 1 (Or.inl ⟨rfl, y⟩)⟩⟩, fun y => ⟨fun _ => ⟨vi0, key 0 (Or.inr ⟨rfl, y⟩)⟩, fun z => absurd rfl z⟩⟩)
  · exact HX_La_same k58 (th_same q) (s_msame M (fun _ h2 f2 z M2 => s_mthrown (by rw [z]; exact K 1 _ h2 (fin0 S f2 M2) (fun z => absurd z (by decide)))) (fun a b ha e hb e2 => absurd ⟨⟨a, ha, e⟩, ⟨b, hb, e2⟩⟩ q))
theorem op_type {a b c d e : Int32} (I : IV h) (K : ∀ r1 r2 h3, IV h3 → (r1 = 0 → h3 58 0 = r2) → Θ r1 r2 r1 h3) : H_La_type [.ref 14, .int a, .int b, .int c, .int d, .int e, .ref 58] h (fun r1 h1 => K_Mo_type [.ref 0, .int a, .int b, .int c, .int d, .int e] h1 (fun r2 h2 => K_Mo_thrown [.ref 0] h2 (fun r3 h3 => Θ r1 r2 r3 h3))) := by
  obtain ⟨A, L, O, S, o, M⟩ := I
  by_cases q : L.length + (tys a b c d e).length ≤ 200
  · refine HV_La_type k58 (s_ctype S q (fun h1 f1 S1 => ⟨vi0, s_mtype (M.fo f1) (fun b => absurd q (by omega)) (fun _ h2 f2 z M2 => s_mthrown ?_)⟩))
    obtain ⟨i, j⟩ := fin S1 f2 M2
    rw [z]
    exact K 0 _ h2 i (fun _ => j)
  · exact HX_La_type k58 (th_type S.2.1 (by omega)) (s_mtype M (fun _ h2 f2 z M2 => s_mthrown (by rw [z]; exact K 1 _ h2 (fin0 S f2 M2) (fun z => absurd z (by decide)))) (fun y => absurd y q))
theorem op_read {x : Int32} (I : IV h) (K : ∀ r1 r2 h3, IV h3 → (r1 = 0 → h3 58 0 = r2) → Θ r1 r2 r1 h3) : H_La_read [.ref 14, .int x, .ref 58] h (fun r1 h1 => K_Mo_read [.ref 0, .int x] h1 (fun r2 h2 => K_Mo_thrown [.ref 0] h2 (fun r3 h3 => Θ r1 r2 r3 h3))) := by
  obtain ⟨A, L, O, S, o, M⟩ := I
  by_cases q : isr x
  · obtain ⟨t, ht, rfl⟩ := q
    refine HV_La_read k58 (s_cread S ht (fun h1 res rd f1 S1 => ⟨vi0, s_mread (M.fo f1) (fun b => absurd ⟨t, ht, rfl⟩ b) (fun a ha e h2 o2 res2 rd2 f2 z M2 => s_mthrown ?_)⟩))
    obtain rfl := n8 (by omega) (by omega) e
    obtain rfl := rd.uni rd2
    obtain ⟨i, j⟩ := fin S1 f2 M2
    rw [z]
    exact K 0 _ h2 i (fun _ => j)
  · exact HX_La_read k58 (th_read q) (s_mread M (fun _ h2 f2 z M2 => s_mthrown (by rw [z]; exact K 1 _ h2 (fin0 S f2 M2) (fun z => absurd z (by decide)))) (fun a ha e => absurd ⟨a, ha, e⟩ q))
theorem op_write {x : Int32} (I : IV h) (K : ∀ r1 r2 h3, IV h3 → (r1 = 0 → h3 58 0 = r2) → Θ r1 r2 r1 h3) : H_La_write [.ref 14, .int x, .ref 58] h (fun r1 h1 => K_Mo_write [.ref 0, .int x] h1 (fun r2 h2 => K_Mo_thrown [.ref 0] h2 (fun r3 h3 => Θ r1 r2 r3 h3))) := by
  obtain ⟨A, L, O, S, o, M⟩ := I
  by_cases q : isr x
  · obtain ⟨t, ht, rfl⟩ := q
    refine HV_La_write k58 (s_cwrite S ht (fun h1 res rd f1 S1 => ⟨vi0, s_mwrite (M.fo f1) (fun b => absurd ⟨t, ht, rfl⟩ b) (fun a ha e h2 res2 rd2 f2 z M2 => s_mthrown ?_)⟩))
    obtain rfl := n8 (by omega) (by omega) e
    obtain rfl := rd.uni rd2
    obtain ⟨i, j⟩ := fin S1 f2 M2
    rw [z]
    exact K 0 _ h2 i (fun _ => j)
  · exact HX_La_write k58 (th_write q) (s_mwrite M (fun _ h2 f2 z M2 => s_mthrown (by rw [z]; exact K 1 _ h2 (fin0 S f2 M2) (fun z => absurd z (by decide)))) (fun a ha e => absurd ⟨a, ha, e⟩ q))
theorem op_value {x y : Int32} (I : IV h) (K : ∀ r1 r2 h3, IV h3 → (r1 = 0 → h3 58 0 = r2) → Θ r1 r2 r1 h3) : H_La_value [.ref 14, .int x, .int y, .ref 58] h (fun r1 h1 => K_Mo_value [.ref 0, .int x, .int y] h1 (fun r2 h2 => K_Mo_thrown [.ref 0] h2 (fun r3 h3 => Θ r1 r2 r3 h3))) := by
  obtain ⟨A, L, O, S, o, M⟩ := I
  by_cases q : isr x ∧ isn 4 y
  · obtain ⟨⟨t, ht, rfl⟩, ⟨f, hf, rfl⟩⟩ := id q
    refine HV_La_value k58 (s_cvalue S ht hf ⟨vi0, s_mvalue (M.fo (FC.rf h)) (fun b => absurd q b) (fun a b ha e hb e2 h2 f2 z M2 => s_mthrown ?_)⟩)
    obtain rfl := n8 (by omega) (by omega) e
    obtain rfl := n8 (by omega) (by omega) e2
    obtain ⟨i, j⟩ := fin S f2 M2
    rw [z]
    exact K 0 _ h2 i (fun _ => j)
  · exact HX_La_value k58 (th_value q) (s_mvalue M (fun _ h2 f2 z M2 => s_mthrown (by rw [z]; exact K 1 _ h2 (fin0 S f2 M2) (fun z => absurd z (by decide)))) (fun a b ha e hb e2 => absurd ⟨⟨a, ha, e⟩, ⟨b, hb, e2⟩⟩ q))
theorem op_count {x : Int32} (I : IV h) (K : ∀ r1 r2 h3, IV h3 → (r1 = 0 → h3 58 0 = r2) → Θ r1 r2 r1 h3) : H_La_count [.ref 14, .int x, .ref 58] h (fun r1 h1 => K_Mo_count [.ref 0, .int x] h1 (fun r2 h2 => K_Mo_thrown [.ref 0] h2 (fun r3 h3 => Θ r1 r2 r3 h3))) := by
  obtain ⟨A, L, O, S, o, M⟩ := I
  by_cases q : isn 4 x
  · obtain ⟨t, ht, rfl⟩ := q
    refine HV_La_count k58 (s_ccount S ht (fun h1 f1 S1 => ⟨vi0, s_mcount (M.fo f1) (fun b => absurd ⟨t, ht, rfl⟩ b) (fun a ha e h2 f2 z M2 => s_mthrown ?_)⟩))
    obtain rfl := n8 (by omega) (by omega) e
    obtain ⟨i, j⟩ := fin S1 f2 M2
    rw [z]
    exact K 0 _ h2 i (fun _ => j)
  · exact HX_La_count k58 (th_count q) (s_mcount M (fun _ h2 f2 z M2 => s_mthrown (by rw [z]; exact K 1 _ h2 (fin0 S f2 M2) (fun z => absurd z (by decide)))) (fun a ha e => absurd ⟨a, ha, e⟩ q))
theorem op_erase (I : IV h) (K : ∀ r h3, IV h3 → Ψ r r h3) : K_Ce_erase [.ref 14] h (fun r1 h1 => K_Mo_erase [.ref 0] h1 (fun r2 h2 => Ψ r1 r2 h2)) := by
  obtain ⟨A, L, O, S, o, M⟩ := I
  exact s_cerase S (fun h1 f1 S1 => s_merase (M.cong (fun j hj => f1 j (Or.inl hj))) (fun h2 f2 M2 => K _ h2 (fin0 S1 f2 M2)))
theorem op_collect (I : IV h) (K : ∀ r h3, IV h3 → Ψ r r h3) : K_Ce_collect [.ref 14] h (fun r1 h1 => K_Mo_collect [.ref 0] h1 (fun r2 h2 => Ψ r1 r2 h2)) := by
  obtain ⟨A, L, O, S, o, M⟩ := I
  exact s_ccollect S (fun h1 f1 S1 => s_mcollect (M.cong (fun j hj => f1 j (Or.inl hj))) (fun h2 o2 f2 M2 => K _ h2 (fin0 S1 f2 M2)))
theorem op_output {x : Int32} (I : IV h) (K : ∀ r h3, IV h3 → Ψ r r h3) : K_Ce_output [.ref 14, .int x] h (fun r1 h1 => K_Mo_output [.ref 0, .int x] h1 (fun r2 h2 => Ψ r1 r2 h2)) := by
  obtain ⟨A, L, O, S, o, M⟩ := I
  exact s_coutput S (fun i c e => (M.2.2.2.2.2 i c e).2) (s_moutput M (fun h2 f2 M2 => K _ h2 (fin0 S f2 M2)))
end OPS
