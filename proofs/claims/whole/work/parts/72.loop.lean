/-! The law's loop. -/
theorem lg_self (x : Int64) : lg_cmp x x = 0 := by
  unfold lg_cmp
  simp
theorem hmono {y : MethodName} {cc : ByteArray} {nL : Nat} {hh : List (Nat × Nat × Nat × Nat)} {lv mc ms : Nat} {As : List Value} {h : HP} {Φ Ψ : Int32 → HP → Prop} (k : CanH y cc nL (some .int) hh lv mc ms As h (fun r h2 => ∃ v, r = some (.int v) ∧ Φ v h2)) (i : ∀ v h2, Φ v h2 → Ψ v h2) : CanH y cc nL (some .int) hh lv mc ms As h (fun r h2 => ∃ v, r = some (.int v) ∧ Ψ v h2) :=
  CanH.mono k (fun r h2 ⟨v, e, z⟩ => ⟨v, e, i v h2 z⟩)
def TN (W : HP → Prop) (r1 r3 : Int32) (h3 : HP) : Prop := (r3 = r1 → W h3) ∧ (¬ r3 = r1 → False)
def TE (W : HP → Prop) (r1 r3 : Int32) (h3 : HP) : Prop := (r1 = r3 → W h3) ∧ (¬ r1 = r3 → False)
def TL (W : HP → Prop) (r1 r2 r3 : Int32) (h3 : HP) : Prop := (r3 = r1 → (¬ r1 = 0 → W h3) ∧ (r1 = 0 → vp_in 0 1 ∧ ((lg_cmp (Int32.toInt64 (h3 58 (0 : Int32).toNatClampNeg)) (Int32.toInt64 r2) = 0 → W h3) ∧ (¬ lg_cmp (Int32.toInt64 (h3 58 (0 : Int32).toNatClampNeg)) (Int32.toInt64 r2) = 0 → False)))) ∧ (¬ r3 = r1 → False)
def TS (W : HP → Prop) (r1 r2 r3 : Int32) (h3 : HP) : Prop := (r3 = r1 → (¬ r1 = 0 → W h3) ∧ (r1 = 0 → vp_in 0 1 ∧ ((r2 = 0 → (lg_cmp (Int32.toInt64 (h3 58 (0 : Int32).toNatClampNeg)) (Int32.toInt64 0) = 0 → W h3) ∧ (¬ lg_cmp (Int32.toInt64 (h3 58 (0 : Int32).toNatClampNeg)) (Int32.toInt64 0) = 0 → False)) ∧ (¬ r2 = 0 → (lg_cmp (Int32.toInt64 (h3 58 (0 : Int32).toNatClampNeg)) (Int32.toInt64 1) = 0 → W h3) ∧ (¬ lg_cmp (Int32.toInt64 (h3 58 (0 : Int32).toNatClampNeg)) (Int32.toInt64 1) = 0 → False))))) ∧ (¬ r3 = r1 → False)
theorem TN_ok {W : HP → Prop} {r : Int32} {h3 : HP} (w : W h3) : TN W r r h3 := ⟨fun _ => w, fun z => z rfl⟩
theorem TE_ok {W : HP → Prop} {r : Int32} {h3 : HP} (w : W h3) : TE W r r h3 := ⟨fun _ => w, fun z => z rfl⟩
theorem TL_ok {W : HP → Prop} {r1 r2 : Int32} {h3 : HP} (e : r1 = 0 → h3 58 0 = r2) (w : W h3) : TL W r1 r2 r1 h3 := by
  refine ⟨fun _ => ⟨fun _ => w, fun z => ⟨vi0, fun _ => w, fun y => y ?_⟩⟩, fun z => z rfl⟩
  show lg_cmp (Int32.toInt64 (h3 58 0)) (Int32.toInt64 r2) = 0
  rw [e z]
  exact lg_self _
theorem TS_ok {W : HP → Prop} {r1 r2 : Int32} {h3 : HP} (e : r1 = 0 → h3 58 0 = r2 ∧ (r2 = 0 ∨ r2 = 1)) (w : W h3) : TS W r1 r2 r1 h3 := by
  refine ⟨fun _ => ⟨fun _ => w, fun z => ⟨vi0, fun q => ⟨fun _ => w, fun y => y ?_⟩, fun q => ⟨fun _ => w, fun y => y ?_⟩⟩⟩, fun z => z rfl⟩
  · show lg_cmp (Int32.toInt64 (h3 58 0)) (Int32.toInt64 0) = 0
    rw [(e z).1, q]
    exact lg_self _
  · show lg_cmp (Int32.toInt64 (h3 58 0)) (Int32.toInt64 1) = 0
    rw [(e z).1, ((e z).2.resolve_left q)]
    exact lg_self _
abbrev LSc (v4 : Int32) : List (Nat × Value) := [(0, .ref 59), (1, .ref 14), (2, .ref 0), (3, .ref 58), (4, .int v4)]
set_option maxHeartbeats 4000000 in
set_option maxRecDepth 100000 in
theorem law_case {X : CX} {h : HP} {v4 : Int32} {L : Nat} {sx : Nat → Int32} {ce sl : Nat} (C : Cok X code 7 R_Lw ret) (N : NW (xs X)) (Rm : xR X = room_1) (S : SC X L sx) (hm : ce + 1 ≤ (xR X).cells ∧ sl + 6 ≤ (xR X).slots) (I : IV h) (nxt : ∀ h2, IV h2 → Wg X (ce + 1) (sl + 6) h2 (LSc v4) [] 1206)
    (v1 : vp_in (v4 + 1) L) (v2 : vp_in (v4 + 2) L) (v3 : vp_in (v4 + 3) L) (v4' : vp_in (v4 + 4) L) (v5 : vp_in (v4 + 5) L) {x : Int32} (m : Nat) (hmm : m < 32) (hx : x = nI m) : Wg X ce sl h (LSc v4) [.int x] 40 := by
  have nxt0 : ∀ h2, IV h2 → Wg X ce sl h2 (LSc v4) [] 1206 := fun h2 i => Wg.widen (Nat.le_succ _) (Nat.le_add_right _ _) hm.1 hm.2 (nxt h2 i)
  subst hx
  match m, hmm with
  | 0, _ => exact r_tabIn (off := 84) C 124 d_La_law_40 (by decide) (by decide) (by decide) (by decide) (w_0 C N Rm S hm ⟨v1, hmono (op_nil I (Ψ := TN (fun h2 => Wg X (ce + 1) (sl + 6) h2 (LSc v4) [] 1206)) (fun r h3 I3 => TN_ok (nxt h3 I3))) (fun r h2 z => ⟨v1, z⟩)⟩)
  | 1, _ => exact r_tabIn (off := 120) C 160 d_La_law_40 (by decide) (by decide) (by decide) (by decide) (w_1 C N Rm S hm ⟨v1, v2, v3, hmono (op_load I (Θ := TL (fun h2 => Wg X (ce + 1) (sl + 6) h2 (LSc v4) [] 1206)) (fun r1 r2 h3 I3 e => TL_ok e (nxt h3 I3))) (fun r h2 z => ⟨v1, v2, v3, z⟩)⟩)
  | 2, _ => exact r_tabIn (off := 220) C 260 d_La_law_40 (by decide) (by decide) (by decide) (by decide) (w_2 C N Rm S hm ⟨v1, v2, hmono (op_copy I (Ψ := TN (fun h2 => Wg X (ce + 1) (sl + 6) h2 (LSc v4) [] 1206)) (fun r h3 I3 => TN_ok (nxt h3 I3))) (fun r h2 z => ⟨v1, v2, z⟩)⟩)
  | 3, _ => exact r_tabIn (off := 268) C 308 d_La_law_40 (by decide) (by decide) (by decide) (by decide) (w_3 C N Rm S hm ⟨v1, v2, v3, hmono (op_cons I (Θ := TL (fun h2 => Wg X (ce + 1) (sl + 6) h2 (LSc v4) [] 1206)) (fun r1 r2 h3 I3 e => TL_ok e (nxt h3 I3))) (fun r h2 z => ⟨v1, v2, v3, z⟩)⟩)
  | 4, _ => exact r_tabIn (off := 348) C 388 d_La_law_40 (by decide) (by decide) (by decide) (by decide) (w_4 C N Rm S hm ⟨v1, v2, v3, fun q => hmono (op_part I (Θ := TL (fun h2 => Wg X (ce + 1) (sl + 6) h2 (LSc v4) [] 1206)) (fun r1 r2 h3 I3 e => TL_ok e (nxt h3 I3))) (fun r h2 z => ⟨v1, v2, v3, fun _ => z, fun n => absurd q n⟩), fun q => hmono (op_part I (Θ := TL (fun h2 => Wg X (ce + 1) (sl + 6) h2 (LSc v4) [] 1206)) (fun r1 r2 h3 I3 e => TL_ok e (nxt h3 I3))) (fun r h2 z => ⟨v1, v2, v3, fun n => absurd n q, fun _ => z⟩)⟩)
  | 5, _ => exact r_tabIn (off := 444) C 484 d_La_law_40 (by decide) (by decide) (by decide) (by decide) (w_5 C N Rm S hm ⟨v1, v2, fun q => ⟨v3, hmono (op_change I (Θ := TL (fun h2 => Wg X (ce + 1) (sl + 6) h2 (LSc v4) [] 1206)) (fun r1 r2 h3 I3 e => TL_ok e (nxt h3 I3))) (fun r h2 z => ⟨v1, v2, fun _ => ⟨v3, z⟩, fun n => absurd q n⟩)⟩, fun q => ⟨v3, hmono (op_change I (Θ := TL (fun h2 => Wg X (ce + 1) (sl + 6) h2 (LSc v4) [] 1206)) (fun r1 r2 h3 I3 e => TL_ok e (nxt h3 I3))) (fun r h2 z => ⟨v1, v2, fun n => absurd n q, fun _ => ⟨v3, z⟩⟩)⟩⟩)
  | 6, _ => exact r_tabIn (off := 540) C 580 d_La_law_40 (by decide) (by decide) (by decide) (by decide) (w_6 C N Rm S hm ⟨v1, v2, v3, v4', hmono (op_work I (Θ := TL (fun h2 => Wg X (ce + 1) (sl + 6) h2 (LSc v4) [] 1206)) (fun r1 r2 h3 I3 e => TL_ok e (nxt h3 I3))) (fun r h2 z => ⟨v1, v2, v3, v4', z⟩)⟩)
  | 7, _ => exact r_tabIn (off := 632) C 672 d_La_law_40 (by decide) (by decide) (by decide) (by decide) (w_7 C N Rm S hm ⟨v1, v2, hmono (op_compare I (Θ := TL (fun h2 => Wg X (ce + 1) (sl + 6) h2 (LSc v4) [] 1206)) (fun r1 r2 h3 I3 e => TL_ok e (nxt h3 I3))) (fun r h2 z => ⟨v1, v2, z⟩)⟩)
  | 8, _ => exact r_tabIn (off := 700) C 740 d_La_law_40 (by decide) (by decide) (by decide) (by decide) (w_8 C N Rm S hm ⟨v1, v2, hmono (op_same I (Θ := TS (fun h2 => Wg X (ce + 1) (sl + 6) h2 (LSc v4) [] 1206)) (fun r1 r2 h3 I3 e => TS_ok e (nxt h3 I3))) (fun r h2 z => ⟨v1, v2, z⟩)⟩)
  | 9, _ => exact r_tabIn (off := 775) C 815 d_La_law_40 (by decide) (by decide) (by decide) (by decide) (w_9 C N Rm S hm ⟨v1, v2, v3, v4', v5, hmono (op_type I (Θ := TL (fun h2 => Wg X (ce + 1) (sl + 6) h2 (LSc v4) [] 1206)) (fun r1 r2 h3 I3 e => TL_ok e (nxt h3 I3))) (fun r h2 z => ⟨v1, v2, v3, v4', v5, z⟩)⟩)
  | 10, _ => exact r_tabIn (off := 879) C 919 d_La_law_40 (by decide) (by decide) (by decide) (by decide) (w_10 C N Rm S hm (op_erase I (Ψ := TE (fun h2 => Wg X ce sl h2 (LSc v4) [] 1206)) (fun r h3 I3 => TE_ok (nxt0 h3 I3))))
  | 11, _ => exact r_tabIn (off := 892) C 932 d_La_law_40 (by decide) (by decide) (by decide) (by decide) (w_11 C N Rm S hm ⟨v1, hmono (op_read I (Θ := TL (fun h2 => Wg X (ce + 1) (sl + 6) h2 (LSc v4) [] 1206)) (fun r1 r2 h3 I3 e => TL_ok e (nxt h3 I3))) (fun r h2 z => ⟨v1, z⟩)⟩)
  | 12, _ => exact r_tabIn (off := 948) C 988 d_La_law_40 (by decide) (by decide) (by decide) (by decide) (w_12 C N Rm S hm ⟨v1, hmono (op_write I (Θ := TL (fun h2 => Wg X (ce + 1) (sl + 6) h2 (LSc v4) [] 1206)) (fun r1 r2 h3 I3 e => TL_ok e (nxt h3 I3))) (fun r h2 z => ⟨v1, z⟩)⟩)
  | 13, _ => exact r_tabIn (off := 1004) C 1044 d_La_law_40 (by decide) (by decide) (by decide) (by decide) (w_13 C N Rm S hm ⟨v1, Can.mono (op_output I (Ψ := TE (fun h2 => Wg X ce sl h2 (LSc v4) [] 1206)) (fun r h3 I3 => TE_ok (nxt0 h3 I3))) (fun r h2 ⟨v, e, z⟩ => ⟨v, e, v1, z⟩)⟩)
  | 14, _ => exact r_tabIn (off := 1029) C 1069 d_La_law_40 (by decide) (by decide) (by decide) (by decide) (w_14 C N Rm S hm (op_collect I (Ψ := TE (fun h2 => Wg X ce sl h2 (LSc v4) [] 1206)) (fun r h3 I3 => TE_ok (nxt0 h3 I3))))
  | 15, _ => exact r_tabIn (off := 1042) C 1082 d_La_law_40 (by decide) (by decide) (by decide) (by decide) (w_15 C N Rm S hm ⟨v1, v2, hmono (op_value I (Θ := TL (fun h2 => Wg X (ce + 1) (sl + 6) h2 (LSc v4) [] 1206)) (fun r1 r2 h3 I3 e => TL_ok e (nxt h3 I3))) (fun r h2 z => ⟨v1, v2, z⟩)⟩)
  | 16, _ => exact r_tabIn (off := 1110) C 1150 d_La_law_40 (by decide) (by decide) (by decide) (by decide) (w_16 C N Rm S hm ⟨v1, hmono (op_count I (Θ := TL (fun h2 => Wg X (ce + 1) (sl + 6) h2 (LSc v4) [] 1206)) (fun r1 r2 h3 I3 e => TL_ok e (nxt h3 I3))) (fun r h2 z => ⟨v1, z⟩)⟩)
  | m + 17, hm2 =>
    refine r_tabOut C 1206 d_La_law_40 (Or.inr ?_) (by decide) (nxt0 h I)
    rw [nI_toInt (by omega)]
    omega
