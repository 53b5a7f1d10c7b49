/-! What a heap of cells is, apart from any program: objects in their order, values, registers; collections. -/
abbrev Vl : Type := Option (Int ⊕ Nat)
abbrev Ob : Type := Int ⊕ (Nat × Vl × Vl)
abbrev AS : Type := (Nat × (Nat → Ob)) × ((Nat → Vl) × Nat)
/-- the objects below top, each object, the registers, the collections so far -/
def an (A : AS) : Nat := A.1.1
def ao (A : AS) : Nat → Ob := A.1.2
def ar (A : AS) : Nat → Vl := A.2.1
def ac (A : AS) : Nat := A.2.2
def osz : Ob → Nat
  | .inl z => 1 + gc 32 z.natAbs
  | .inr _ => 3
def osrt : Ob → Nat
  | .inl _ => 2
  | .inr t => t.1
/-- where an object begins -/
def ad (A : AS) (k : Nat) : Nat := fb_sm (fun i => osz (ao A i)) k
abbrev fxd (z : Int) : Prop := -1073741824 ≤ z ∧ z < 1073741824
def VW (n : Nat) : Vl → Prop
  | none => True
  | some (.inl z) => fxd z
  | some (.inr k) => k < n
def VH (A : AS) : Vl → Prop
  | none => False
  | some (.inl z) => fxd z
  | some (.inr k) => k < an A ∧ ∃ z, ao A k = .inl z
def wz (A : AS) : Vl → Int
  | none => 0
  | some (.inl z) => z
  | some (.inr k) => match ao A k with
    | .inl z => z
    | .inr _ => 0
def OW (A : AS) : Ob → Prop
  | .inl z => ¬ fxd z ∧ gc 32 z.natAbs ≤ 20
  | .inr t => (t.1 = 4 ∧ VW (an A) t.2.1 ∧ VW (an A) t.2.2) ∨ (t.1 = 3 ∧ VH A t.2.1 ∧ VH A t.2.2 ∧ wz A t.2.2 ≠ 0)
def WF (A : AS) : Prop := ad A (an A) ≤ 400 ∧ (∀ k, k < an A → OW A (ao A k)) ∧ ∀ r, r < 8 → VW (an A) (ar A r)
def vs (A : AS) : Vl → Nat
  | none => 0
  | some (.inl _) => 1
  | some (.inr k) => osrt (ao A k)
def nU (A : AS) : Vl → Int
  | none => 0
  | some (.inl z) => z
  | some (.inr k) => match ao A k with
    | .inl z => z
    | .inr t => wz A t.2.1
def nD (A : AS) : Vl → Int
  | none => 1
  | some (.inl _) => 1
  | some (.inr k) => match ao A k with
    | .inl _ => 1
    | .inr t => wz A t.2.2
theorem VH.toVW {A : AS} {v : Vl} (h : VH A v) : VW (an A) v := by
  match v, h with
  | some (.inl z), h => exact h
  | some (.inr k), h => exact h.1
theorem ad_succ (A : AS) (k : Nat) : ad A (k + 1) = ad A k + osz (ao A k) := rfl
theorem ad_0 (A : AS) : ad A 0 = 0 := rfl
theorem osz_pos (o : Ob) : 1 ≤ osz o := by
  match o with
  | .inl z => show 1 ≤ 1 + _; omega
  | .inr t => show 1 ≤ 3; omega
theorem osz_2 {A : AS} {o : Ob} (h : OW A o) : 2 ≤ osz o := by
  match o, h with
  | .inl z, h =>
    show 2 ≤ 1 + gc 32 z.natAbs
    have : gc 32 z.natAbs ≠ 0 := by
      rw [Ne, gc_eq0]
      intro q
      refine h.1 ⟨by omega, by omega⟩
    omega
  | .inr t, h => show 2 ≤ 3; omega
theorem osz_21 {A : AS} {o : Ob} (h : OW A o) : osz o ≤ 21 := by
  match o, h with
  | .inl z, h => show 1 + gc 32 z.natAbs ≤ 21; have := h.2; omega
  | .inr t, h => show 3 ≤ 21; omega
theorem ad_lt {A : AS} {j k : Nat} (h : j < k) : ad A j + osz (ao A j) ≤ ad A k := fb_sm_part (fun i => osz (ao A i)) h
theorem ad_mono {A : AS} {j k : Nat} (h : j ≤ k) : ad A j ≤ ad A k := by
  obtain ⟨m, rfl⟩ := Nat.exists_eq_add_of_le h
  exact fb_sm_mono _ _ _
theorem ad_inj {A : AS} {j k : Nat} (h : ad A j = ad A k) : j = k := by
  rcases Nat.lt_trichotomy j k with q | q | q
  · have := ad_lt (A := A) q
    have := osz_pos (ao A j)
    omega
  · exact q
  · have := ad_lt (A := A) q
    have := osz_pos (ao A k)
    omega
theorem WF.sz {A : AS} (w : WF A) {k : Nat} (h : k < an A) : ad A k + osz (ao A k) ≤ 400 := Nat.le_trans (ad_lt h) w.1
theorem WF.two {A : AS} (w : WF A) : ∀ k, k ≤ an A → 2 * k ≤ ad A k
  | 0, _ => Nat.le_refl _
  | k + 1, h => by
    have h1 := w.two k (by omega)
    have h2 := osz_2 (w.2.1 k (by omega))
    rw [ad_succ]
    omega
theorem WF.n {A : AS} (w : WF A) : an A ≤ 200 := by
  have := w.two (an A) (Nat.le_refl _)
  have := w.1
  omega
theorem WF.adl {A : AS} (w : WF A) {k : Nat} (h : k < an A) : ad A k < 400 := by
  have := w.sz h
  have := osz_pos (ao A k)
  omega
/-! ## What lives -/
def suc (A : AS) (i j : Nat) : Prop := match ao A i with
  | .inl _ => False
  | .inr t => t.2.1 = some (.inr j) ∨ t.2.2 = some (.inr j)
def Rch (A : AS) (k : Nat) : Prop := ∀ S : Nat → Prop, (∀ r j, r < 8 → ar A r = some (.inr j) → S j) → (∀ i j, S i → suc A i j → S j) → S k
theorem Rch.root {A : AS} {r j : Nat} (h : r < 8) (e : ar A r = some (.inr j)) : Rch A j := fun _ a _ => a r j h e
theorem Rch.step {A : AS} {i j : Nat} (h : Rch A i) (e : suc A i j) : Rch A j := fun S a b => b i j (h S a b) e
theorem suc_lt {A : AS} (w : WF A) {i j : Nat} (hi : i < an A) (e : suc A i j) : j < an A := by
  have o := w.2.1 i hi
  unfold suc at e
  generalize ao A i = x at o e
  match x, o, e with
  | .inr t, o, e =>
    have : VW (an A) t.2.1 ∧ VW (an A) t.2.2 := by
      rcases o with ⟨-, a, b⟩ | ⟨-, a, b, -⟩
      · exact ⟨a, b⟩
      · exact ⟨a.toVW, b.toVW⟩
    rcases e with e | e
    · have h := this.1
      rw [e] at h
      exact h
    · have h := this.2
      rw [e] at h
      exact h
theorem Rch.lt {A : AS} (w : WF A) {k : Nat} (h : Rch A k) : k < an A := h (fun k => k < an A) (fun r j hr e => by
  have := w.2.2 r hr
  rw [e] at this
  exact this) (fun i j hi e => suc_lt w hi e)
noncomputable def lve (A : AS) : Nat → Bool := fun k => @decide (Rch A k) (Classical.propDecidable _)
theorem lve_iff {A : AS} {k : Nat} : lve A k = true ↔ Rch A k := by
  unfold lve
  exact @decide_eq_true_iff _ (Classical.propDecidable _)
theorem lve_no {A : AS} {k : Nat} : lve A k = false ↔ ¬ Rch A k := by
  rw [← lve_iff]
  cases lve A k <;> simp
/-! ## A collection -/
noncomputable def na (A : AS) (k : Nat) : Nat := fb_sm (fun i => if lve A i then osz (ao A i) else 0) k
noncomputable def ix (A : AS) (k : Nat) : Nat := fb_ct (lve A) k
def mvv (f : Nat → Nat) : Vl → Vl
  | none => none
  | some (.inl z) => some (.inl z)
  | some (.inr k) => some (.inr (f k))
def mvo (f : Nat → Nat) : Ob → Ob
  | .inl z => .inl z
  | .inr t => .inr (t.1, mvv f t.2.1, mvv f t.2.2)
noncomputable def kt (A : AS) (j : Nat) : Nat := fa_first (fun k => lve A k && Nat.beq (ix A k) j) (an A)
noncomputable def gcA (A : AS) : AS := ((ix A (an A), fun j => mvo (ix A) (ao A (kt A j))), ((fun r => mvv (ix A) (ar A r)), ac A + 1))
theorem osz_mvo (f : Nat → Nat) (o : Ob) : osz (mvo f o) = osz o := by
  match o with
  | .inl z => rfl
  | .inr t => rfl
theorem ix_succ (A : AS) (k : Nat) : ix A (k + 1) = ix A k + (if lve A k then 1 else 0) := rfl
theorem na_succ (A : AS) (k : Nat) : na A (k + 1) = na A k + (if lve A k then osz (ao A k) else 0) := rfl
theorem kt_ix {A : AS} {k : Nat} (hk : k < an A) (hl : lve A k = true) : kt A (ix A k) = k := by
  have h1 : fa_first (fun i => lve A i && Nat.beq (ix A i) (ix A k)) (an A) < an A := by
    refine Nat.lt_of_not_le (fun q => ?_)
    have := fa_first_no (fun i => lve A i && Nat.beq (ix A i) (ix A k)) (an A) k (by omega)
    simp [hl] at this
  have h2 := fa_first_yes _ _ h1
  simp only [Bool.and_eq_true, Nat.beq_eq] at h2
  exact fb_ct_kth_one h2.1 hl h2.2
theorem ao_gc {A : AS} {k : Nat} (hk : k < an A) (hl : lve A k = true) : ao (gcA A) (ix A k) = mvo (ix A) (ao A k) := by
  show mvo (ix A) (ao A (kt A (ix A k))) = _
  rw [kt_ix hk hl]
theorem ad_gc {A : AS} : ∀ k, k ≤ an A → ad (gcA A) (ix A k) = na A k
  | 0, _ => rfl
  | k + 1, h => by
    have ih := ad_gc (A := A) k (by omega)
    rw [ix_succ, na_succ]
    cases hl : lve A k
    · simpa using ih
    · simp only [if_true]
      rw [ad_succ, ih, ao_gc (by omega) hl, osz_mvo]
theorem ix_lt {A : AS} {k : Nat} (hk : k < an A) (hl : lve A k = true) : ix A k < ix A (an A) := by
  have h1 : ix A (k + 1) ≤ ix A (an A) := fb_ct_mono _ hk
  rw [ix_succ, hl] at h1
  simp at h1
  omega
theorem ix_kth {A : AS} {j : Nat} (h : j < ix A (an A)) : ∃ k, k < an A ∧ lve A k = true ∧ ix A k = j := fb_ct_kth h
theorem na_le (A : AS) (k : Nat) : na A k ≤ ad A k := fb_sm_le (fun i _ => by
  show (if lve A i then osz (ao A i) else 0) ≤ osz (ao A i)
  split <;> omega)
/-- a value whose object, if it is one, lives -/
def VL (A : AS) : Vl → Prop
  | some (.inr k) => k < an A ∧ lve A k = true
  | _ => True
theorem VL.toVW {A : AS} {v : Vl} (h : VW (an A) v) (l : VL A v) : VW (an (gcA A)) (mvv (ix A) v) := by
  match v, h, l with
  | none, _, _ => trivial
  | some (.inl z), h, _ => exact h
  | some (.inr k), h, l => exact ix_lt l.1 l.2
theorem VL.wzE {A : AS} {v : Vl} (l : VL A v) : wz (gcA A) (mvv (ix A) v) = wz A v := by
  match v, l with
  | none, _ => rfl
  | some (.inl z), _ => rfl
  | some (.inr k), l =>
    show (match ao (gcA A) (ix A k) with | .inl z => z | .inr _ => 0) = (match ao A k with | .inl z => z | .inr _ => 0)
    rw [ao_gc l.1 l.2]
    cases ao A k <;> rfl
theorem VL.toVH {A : AS} {v : Vl} (h : VH A v) (l : VL A v) : VH (gcA A) (mvv (ix A) v) := by
  match v, h, l with
  | some (.inl z), h, _ => exact h
  | some (.inr k), h, l =>
    obtain ⟨-, z, hz⟩ := h
    exact ⟨ix_lt l.1 l.2, z, by rw [ao_gc l.1 l.2, hz]; rfl⟩
theorem reg_VL {A : AS} (w : WF A) {r : Nat} (hr : r < 8) : VL A (ar A r) := by
  generalize he : ar A r = v
  match v, he with
  | none, _ => trivial
  | some (.inl z), _ => trivial
  | some (.inr k), he => exact ⟨(Rch.root hr he).lt w, lve_iff.mpr (Rch.root hr he)⟩
theorem obj_VL {A : AS} (w : WF A) {k s : Nat} {a b : Vl} (hl : lve A k = true) (he : ao A k = .inr (s, a, b)) : VL A a ∧ VL A b := by
  have hk := lve_iff.mp hl
  have key : ∀ v : Vl, (∀ j, v = some (.inr j) → suc A k j) → VL A v := by
    intro v hv
    match v, hv with
    | none, _ => trivial
    | some (.inl z), _ => trivial
    | some (.inr j), hv => exact ⟨(hk.step (hv j rfl)).lt w, lve_iff.mpr (hk.step (hv j rfl))⟩
  exact ⟨key a (fun j hj => by unfold suc; rw [he]; exact Or.inl hj), key b (fun j hj => by unfold suc; rw [he]; exact Or.inr hj)⟩
theorem gcA_WF {A : AS} (w : WF A) : WF (gcA A) := by
  refine ⟨?_, ?_, ?_⟩
  · show ad (gcA A) (ix A (an A)) ≤ 400
    rw [ad_gc _ (Nat.le_refl _)]
    exact Nat.le_trans (na_le A _) w.1
  · intro j hj
    obtain ⟨k, hk, hl, rfl⟩ := ix_kth hj
    rw [ao_gc hk hl]
    have o := w.2.1 k hk
    generalize he : ao A k = x at o
    match x, o, he with
    | .inl z, o, _ => exact o
    | .inr (s, a, b), o, he =>
      obtain ⟨la, lb⟩ := obj_VL w hl he
      rcases o with ⟨e, oa, ob⟩ | ⟨e, oa, ob, o0⟩
      · exact Or.inl ⟨e, la.toVW oa, lb.toVW ob⟩
      · exact Or.inr ⟨e, la.toVH oa, lb.toVH ob, by rw [lb.wzE]; exact o0⟩
  · intro r hr
    exact (reg_VL w hr).toVW (w.2.2 r hr)
/-! ## What is made -/
def mk (A : AS) (o : Ob) : AS := ((an A + 1, fun k => if k = an A then o else ao A k), (ar A, ac A))
def sr (A : AS) (r : Nat) (v : Vl) : AS := ((an A, ao A), ((fun i => if i = r then v else ar A i), ac A))
def so (A : AS) (k : Nat) (o : Ob) : AS := ((an A, fun i => if i = k then o else ao A i), (ar A, ac A))
def cfw (z : Int) : Nat := if fxd z then 0 else 1 + gc 32 z.natAbs
def cfn (u d : Int) : Nat := if d = 1 then cfw u else cfw u + cfw d + 3
noncomputable def rmA (A : AS) (c : Nat) : AS := if 400 < ad A (an A) + c then gcA A else A
def aw (A : AS) (z : Int) : Vl × AS := if fxd z then (some (.inl z), A) else (some (.inr (an A)), mk A (.inl z))
def nkP (B : AS) (u d : Int) : Vl × AS := if d = 1 then aw B u else (some (.inr (an (aw (aw B u).2 d).2)), mk (aw (aw B u).2 d).2 (.inr (3, (aw B u).1, (aw (aw B u).2 d).1)))
def nk1 (B : AS) (to : Nat) (u d : Int) : AS := sr (nkP B u d).2 to (nkP B u d).1
noncomputable def nkR (A : AS) (u d : Int) : Int := if ¬ (gc 32 u.natAbs ≤ 20 ∧ gc 32 d.natAbs ≤ 20) then -3 else if 400 < ad (rmA A (cfn u d)) (an (rmA A (cfn u d))) + cfn u d then -2 else 0
noncomputable def nkA (A : AS) (to : Nat) (u d : Int) : AS := if ¬ (gc 32 u.natAbs ≤ 20 ∧ gc 32 d.natAbs ≤ 20) then A else if 400 < ad (rmA A (cfn u d)) (an (rmA A (cfn u d))) + cfn u d then rmA A (cfn u d) else nk1 (rmA A (cfn u d)) to u d
theorem rmA_WF {A : AS} (w : WF A) (c : Nat) : WF (rmA A c) := by
  unfold rmA
  split
  · exact gcA_WF w
  · exact w
theorem ao_mk (A : AS) (o : Ob) {k : Nat} (h : k < an A) : ao (mk A o) k = ao A k := if_neg (by omega)
theorem ao_mk_self (A : AS) (o : Ob) : ao (mk A o) (an A) = o := if_pos rfl
theorem an_mk (A : AS) (o : Ob) : an (mk A o) = an A + 1 := rfl
theorem ad_mk (A : AS) (o : Ob) {k : Nat} (h : k ≤ an A) : ad (mk A o) k = ad A k := fb_sm_cong (fun i hi => by rw [ao_mk A o (by omega)])
theorem ad_mk_top (A : AS) (o : Ob) : ad (mk A o) (an A + 1) = ad A (an A) + osz o := by
  rw [ad_succ, ad_mk A o (Nat.le_refl _), ao_mk_self]
theorem VW.upN {n m : Nat} {v : Vl} (h : VW n v) (hm : n ≤ m) : VW m v := by
  match v, h with
  | none, _ => trivial
  | some (.inl z), h => exact h
  | some (.inr k), h => exact Nat.lt_of_lt_of_le h hm
theorem VH.inMk {A : AS} {v : Vl} {o : Ob} (h : VH A v) : VH (mk A o) v := by
  match v, h with
  | some (.inl z), h => exact h
  | some (.inr k), h =>
    obtain ⟨hk, z, hz⟩ := h
    exact ⟨Nat.lt_succ_of_lt hk, z, by rw [ao_mk A o hk]; exact hz⟩
theorem wz_mk {A : AS} {v : Vl} {o : Ob} (h : VW (an A) v) : wz (mk A o) v = wz A v := by
  match v, h with
  | none, _ => rfl
  | some (.inl z), _ => rfl
  | some (.inr k), h =>
    show (match ao (mk A o) k with | .inl z => z | .inr _ => 0) = (match ao A k with | .inl z => z | .inr _ => 0)
    rw [ao_mk A o h]
theorem OW.inMk {A : AS} {x o : Ob} (h : OW A x) : OW (mk A o) x := by
  match x, h with
  | .inl z, h => exact h
  | .inr t, h =>
    rcases h with ⟨e, a, b⟩ | ⟨e, a, b, c⟩
    · exact Or.inl ⟨e, a.upN (by rw [an_mk]; omega), b.upN (by rw [an_mk]; omega)⟩
    · exact Or.inr ⟨e, a.inMk, b.inMk, by rw [wz_mk b.toVW]; exact c⟩
theorem mk_WF {A : AS} {o : Ob} (w : WF A) (h : OW A o) (hs : ad A (an A) + osz o ≤ 400) : WF (mk A o) := by
  refine ⟨?_, ?_, fun r hr => (w.2.2 r hr).upN (by rw [an_mk]; omega)⟩
  · rw [an_mk, ad_mk_top]
    exact hs
  · intro k hk
    rw [an_mk] at hk
    by_cases q : k = an A
    · subst q
      rw [ao_mk_self]
      exact h.inMk
    · rw [ao_mk A o (by omega)]
      exact (w.2.1 k (by omega)).inMk
theorem sr_WF {A : AS} {r : Nat} {v : Vl} (w : WF A) (h : VW (an A) v) : WF (sr A r v) := by
  refine ⟨w.1, ?_, ?_⟩
  · intro k hk
    exact w.2.1 k hk
  · intro i hi
    show VW (an A) (if i = r then v else ar A i)
    split
    · exact h
    · exact w.2.2 i hi
theorem aw_WF {A : AS} {z : Int} (w : WF A) (hz : gc 32 z.natAbs ≤ 20) (hs : ad A (an A) + cfw z ≤ 400) : WF (aw A z).2 ∧ ad (aw A z).2 (an (aw A z).2) = ad A (an A) + cfw z ∧ VH (aw A z).2 (aw A z).1 ∧ wz (aw A z).2 (aw A z).1 = z ∧ an A ≤ an (aw A z).2 ∧ (∀ v, VH A v → VH (aw A z).2 v) ∧ (∀ v, VW (an A) v → wz (aw A z).2 v = wz A v) := by
  unfold aw cfw
  unfold cfw at hs
  by_cases q : fxd z
  · rw [if_pos q, if_pos q]
    exact ⟨w, rfl, q, rfl, Nat.le_refl _, fun _ h => h, fun _ _ => rfl⟩
  · rw [if_neg q] at hs
    rw [if_neg q, if_neg q]
    refine ⟨mk_WF w ⟨q, hz⟩ hs, ad_mk_top A _, ⟨Nat.lt_succ_self _, z, ao_mk_self A _⟩, ?_, Nat.le_succ _, fun _ h => h.inMk, fun _ h => wz_mk h⟩
    show (match ao (mk A (.inl z)) (an A) with | .inl z => z | .inr _ => 0) = z
    rw [ao_mk_self]
theorem nk1_WF {B : AS} {to : Nat} {u d : Int} (w : WF B) (hu : gc 32 u.natAbs ≤ 20) (hd : gc 32 d.natAbs ≤ 20) (d0 : d ≠ 0) (hs : ad B (an B) + cfn u d ≤ 400) : WF (nk1 B to u d) := by
  unfold nk1 nkP
  unfold cfn at hs
  by_cases q : d = 1
  · rw [if_pos q] at hs
    rw [if_pos q]
    obtain ⟨a, -, b, -⟩ := aw_WF w hu hs
    exact sr_WF a b.toVW
  · rw [if_neg q] at hs
    rw [if_neg q]
    obtain ⟨a1, a2, a3, a4, a5, a6, a7⟩ := aw_WF w hu (by omega)
    obtain ⟨b1, b2, b3, b4, b5, b6, b7⟩ := aw_WF a1 hd (by omega)
    refine sr_WF (mk_WF b1 (Or.inr ⟨rfl, b6 _ a3, b3, ?_⟩) ?_) ?_
    · rw [b4]; exact d0
    · rw [b2, a2]
      show _ + 3 ≤ 400
      omega
    · exact Nat.lt_succ_self _
theorem nkA_WF {A : AS} {to : Nat} {u d : Int} (w : WF A) (d0 : d ≠ 0) : WF (nkA A to u d) := by
  unfold nkA
  split
  · exact w
  · rename_i h
    have h : gc 32 u.natAbs ≤ 20 ∧ gc 32 d.natAbs ≤ 20 := by
      by_cases q : gc 32 u.natAbs ≤ 20 ∧ gc 32 d.natAbs ≤ 20
      · exact q
      · exact absurd q h
    split
    · exact rmA_WF w _
    · exact nk1_WF (rmA_WF w _) h.1 h.2 d0 (by omega)
/-- a part of a pair changed -/
theorem so_ad {A : AS} {k : Nat} {o : Ob} (h : osz o = osz (ao A k)) (i : Nat) : ad (so A k o) i = ad A i := fb_sm_cong (fun j _ => by
  show osz (if j = k then o else ao A j) = _
  split
  · rename_i e; rw [e]; exact h
  · rfl)
theorem so_WF {A : AS} {k : Nat} {a b a' b' : Vl} (w : WF A) (hk : k < an A) (he : ao A k = .inr (4, a, b)) (ha : VW (an A) a') (hb : VW (an A) b') : WF (so A k (.inr (4, a', b'))) := by
  have hsz : osz (.inr (4, a', b')) = osz (ao A k) := by rw [he]; rfl
  have hno : ∀ z, ao A k ≠ .inl z := fun z q => by rw [he] at q; cases q
  have hao : ∀ i, i ≠ k → ao (so A k (.inr (4, a', b'))) i = ao A i := fun i hi => if_neg hi
  have hvh : ∀ v, VH A v → VH (so A k (.inr (4, a', b'))) v := by
    intro v h
    match v, h with
    | some (.inl z), h => exact h
    | some (.inr j), h =>
      obtain ⟨hj, z, hz⟩ := h
      exact ⟨hj, z, by rw [hao j (fun q => hno z (q ▸ hz))]; exact hz⟩
  have hwz : ∀ v, VH A v → wz (so A k (.inr (4, a', b'))) v = wz A v := by
    intro v h
    match v, h with
    | some (.inl z), h => rfl
    | some (.inr j), h =>
      obtain ⟨hj, z, hz⟩ := h
      show (match ao (so A k (.inr (4, a', b'))) j with | .inl z => z | .inr _ => 0) = (match ao A j with | .inl z => z | .inr _ => 0)
      rw [hao j (fun q => hno z (q ▸ hz))]
  refine ⟨by show ad (so A k (.inr (4, a', b'))) (an A) ≤ 400; rw [so_ad hsz]; exact w.1, ?_, fun r hr => w.2.2 r hr⟩
  intro i hi
  by_cases q : i = k
  · subst q
    show OW (so A i (.inr (4, a', b'))) (if i = i then .inr (4, a', b') else ao A i)
    rw [if_pos rfl]
    exact Or.inl ⟨rfl, ha, hb⟩
  · rw [hao i q]
    have o := w.2.1 i hi
    generalize ao A i = x at o
    match x, o with
    | .inl z, o => exact o
    | .inr t, o =>
      rcases o with ⟨e, x1, x2⟩ | ⟨e, x1, x2, x3⟩
      · exact Or.inl ⟨e, x1, x2⟩
      · exact Or.inr ⟨e, hvh _ x1, hvh _ x2, by rw [hwz _ x2]; exact x3⟩
