/-! What the tables say of the classes. -/
theorem K_of {args : Array Value} {s : State} (hts : ∀ w ∈ lw_tbl, w.before args s = true) : ∃ (D : va_G) (dA : Nat → ClassId), va_K D wcl [(dA 0, .int), (dA 1, .char), (dA 2, .boolean), (dA 3, .long)] s := by
  have ht : ∀ w ∈ wx_tbl, w.before args s = true := fun w hw => hts w (wx_sub w hw)
  obtain ⟨c0, s0, k0⟩ := u_known (C := R_Wh) (T := T_Wh) (N := 3) (n := 3) ht i_Wh (ht (.instantiable R_Wh 3) (by decide +kernel))
  obtain ⟨c1, s1, k1⟩ := u_known (C := R_Ra) (T := T_Ra) (N := 2) (n := 2) ht i_Ra (ht (.instantiable R_Ra 2) (by decide +kernel))
  obtain ⟨c2, s2, k2⟩ := u_known (C := R_Di) (T := T_Di) (N := 4) (n := 4) ht i_Di (ht (.instantiable R_Di 4) (by decide +kernel))
  obtain ⟨c3, s3, k3⟩ := u_known (C := R_Re) (T := T_Re) (N := 7) (n := 7) ht i_Re (ht (.instantiable R_Re 7) (by decide +kernel))
  obtain ⟨c4, s4, k4⟩ := u_known (C := R_He) (T := T_He) (N := 8) (n := 8) ht i_He (ht (.instantiable R_He 8) (by decide +kernel))
  obtain ⟨c5, s5, k5⟩ := u_known (C := R_Li) (T := T_Li) (N := 2) (n := 2) ht i_Li (ht (.instantiable R_Li 2) (by decide +kernel))
  obtain ⟨c6, s6, k6⟩ := u_known (C := R_Pr) (T := T_Pr) (N := 7) (n := 7) ht i_Pr (ht (.instantiable R_Pr 7) (by decide +kernel))
  obtain ⟨c7, s7, k7⟩ := u_known (C := R_Ce) (T := T_Ce) (N := 4) (n := 4) ht i_Ce (ht (.instantiable R_Ce 4) (by decide +kernel))
  obtain ⟨c8, s8, k8⟩ := u_known (C := R_Mo) (T := T_Mo) (N := 21) (n := 21) ht i_Mo (ht (.instantiable R_Mo 21) (by decide +kernel))
  obtain ⟨a0, f0, r0⟩ := arr_of (hts (.arrayClass .int) (by decide +kernel))
  obtain ⟨a1, f1, r1⟩ := arr_of (hts (.arrayClass .char) (by decide +kernel))
  obtain ⟨a2, f2, r2⟩ := arr_of (hts (.arrayClass .boolean) (by decide +kernel))
  obtain ⟨a3, f3, r3⟩ := arr_of (hts (.arrayClass .long) (by decide +kernel))
  refine ⟨(fun k => match k with | 0 => c0 | 1 => c1 | 2 => c2 | 3 => c3 | 4 => c4 | 5 => c5 | 6 => c6 | 7 => c7 | _ => c8, fun k => match k with | 0 => s0 | 1 => s1 | 2 => s2 | 3 => s3 | 4 => s4 | 5 => s5 | 6 => s6 | 7 => s7 | _ => s8), fun k => match k with | 0 => a0 | 1 => a1 | 2 => a2 | _ => a3, fun k q hq => ?_, fun k q hk => ?_⟩
  · match k, hq with
    | 0, hq => cases hq; exact k0
    | 1, hq => cases hq; exact k1
    | 2, hq => cases hq; exact k2
    | 3, hq => cases hq; exact k3
    | 4, hq => cases hq; exact k4
    | 5, hq => cases hq; exact k5
    | 6, hq => cases hq; exact k6
    | 7, hq => cases hq; exact k7
    | 8, hq => cases hq; exact k8
    | k + 9, hq => exact nomatch hq
  · match k, hk with
    | 0, hk => cases hk; exact ⟨r0, f0⟩
    | 1, hk => cases hk; exact ⟨r1, f1⟩
    | 2, hk => cases hk; exact ⟨r2, f2⟩
    | 3, hk => cases hk; exact ⟨r3, f3⟩
    | k + 4, hk => exact nomatch hk
