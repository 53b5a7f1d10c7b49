/-! The law's loop, whole. -/
set_option maxHeartbeats 1000000 in
theorem law_loop {X : CX} {L : Nat} {sx : Nat → Int32} {c0 s0 : Nat} (C : Cok X code 7 R_Lw ret) (N : NW (xs X)) (Rm : xR X = room_1) (S : SC X L sx) (hL : L ≤ 384) (hc : c0 + 66 ≤ (xR X).cells) (hs : s0 + 396 ≤ (xR X).slots)
    (hend : ∀ (ce sl : Nat) (h : HP) (ls : List (Nat × Value)), Wg X ce sl h ls [.int 1] 1213) :
    ∀ (n j : Nat) (h : HP), n + j = 65 → 6 * j ≤ L → IV h → Wg X (c0 + j) (s0 + 6 * j) h (LSc (nI (6 * j))) [] 23 := by
  intro n
  induction n with
  | zero =>
    intro j h hj hjl _
    omega
  | succ n ih =>
    intro j h hj hjl I
    refine r_iload C 4 rfl d_La_law_23 ?_
    refine r_aload_n C 0 rfl d_La_law_25 ?_
    refine r_slen C S d_La_law_26 ?_
    refine r_bipush (v := 6) C (by decide) d_La_law_27 ?_
    refine r_isub C d_La_law_29 ?_
    refine r_icmp_gt C 1212 d_La_law_30 (by decide) ⟨fun _ => ?_, fun z => ?_⟩
    · refine r_iconst (v := 1) C (by decide) d_La_law_1212 ?_
      exact hend _ _ _ _
    · have h6 : 6 * j + 6 ≤ L := by
        refine Nat.le_of_not_lt (fun y => z ?_)
        show nI L - nI 6 < nI (6 * j)
        by_cases q : 6 ≤ L
        · rw [nI_sub q, nI_ltI (by omega) (by omega)]
          omega
        · have hj0 : j = 0 := by omega
          subst hj0
          rcases (show L = 0 ∨ L = 1 ∨ L = 2 ∨ L = 3 ∨ L = 4 ∨ L = 5 by omega) with rfl | rfl | rfl | rfl | rfl | rfl <;> decide
      have vv : ∀ k : Nat, k < 6 → vp_in (nI (6 * j + k)) L := fun k hk => vp_in_nI (by omega) (by omega)
      refine r_aload_n C 0 rfl d_La_law_33 ?_
      refine r_iload C 4 rfl d_La_law_34 ?_
      refine r_sld C S (vv 0 (by omega)) d_La_law_36 ?_
      refine r_bipush (v := 31) C (by decide) d_La_law_37 ?_
      refine r_iand C d_La_law_39 ?_
      have hp : sx (nI (6 * j)).toNatClampNeg &&& 31 = _ := pk_and (sx (nI (6 * j)).toNatClampNeg) 5 (by decide)
      have a1 : vp_in (nI (6 * j) + 1) L := by rw [nI_1]; exact vv 1 (by omega)
      have a2 : vp_in (nI (6 * j) + 2) L := by rw [show (2 : Int32) = nI 2 from rfl, nI_add]; exact vv 2 (by omega)
      have a3 : vp_in (nI (6 * j) + 3) L := by rw [show (3 : Int32) = nI 3 from rfl, nI_add]; exact vv 3 (by omega)
      have a4 : vp_in (nI (6 * j) + 4) L := by rw [show (4 : Int32) = nI 4 from rfl, nI_add]; exact vv 4 (by omega)
      have a5 : vp_in (nI (6 * j) + 5) L := by rw [show (5 : Int32) = nI 5 from rfl, nI_add]; exact vv 5 (by omega)
      refine law_case C N Rm S ⟨by omega, by omega⟩ I (fun h2 I2 => ?_) a1 a2 a3 a4 a5 _ (Nat.mod_lt _ (by decide)) hp
      refine r_iinc (ls2 := LSc (nI (6 * j) + 6)) C 4 (m := 6) rfl (by decide) (by decide) rfl d_La_law_1206 ?_
      refine r_goto C 23 d_La_law_1209 (by decide) ?_
      rw [show (6 : Int32) = nI 6 from rfl, nI_add]
      exact ih (j + 1) h2 (by omega) (by omega) I2
