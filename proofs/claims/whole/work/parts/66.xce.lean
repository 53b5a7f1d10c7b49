/-! The class' calls that throw. -/
/-! Ce_checkRange throws. -/
abbrev X_Ce_checkRange := CanX y_Ce_checkRange b_Ce_checkRange 2 none 9
theorem IX_Ce_checkRange {h : HP} {v0 : Int32} {v1 : Int32} {E : String} (body : ∀ X : CX, Cok X b_Ce_checkRange 2 R_Ce none → CokX X E h → xR X = rml 9 1 6 → Wg X 0 0 h [(0, .int v0), (1, .int v1)] [] 0) : X_Ce_checkRange E [.int v0, .int v1] h := CanX.intro (by decide) (fun _ => Nat.le_of_ble_eq_true rfl) body
theorem d_Ce_checkRange_9 : decode b_Ce_checkRange 9 = .ok (.new 176, 3) := by decide +kernel
theorem d_Ce_checkRange_12 : decode b_Ce_checkRange 12 = .ok (.dup, 1) := by decide +kernel
theorem d_Ce_checkRange_13 : decode b_Ce_checkRange 13 = .ok (.invokespecial 178, 3) := by decide +kernel
theorem d_Ce_checkRange_16 : decode b_Ce_checkRange 16 = .ok (.athrow, 1) := by decide +kernel
set_option maxRecDepth 20000 in
theorem x_Ce_checkRange {X : CX} {h : HP} {v0 : Int32} {v1 : Int32} (C : Cok X b_Ce_checkRange 2 R_Ce none) (D : CokX X E_arg h) (Rm : xR X = rml 9 1 6)
    (K : (v0 < 0 → True) ∧ (¬ v0 < 0 → (v0 ≤ v1 → False) ∧ (¬ v0 ≤ v1 → True))) :
    Wg X 0 0 h [(0, .int v0), (1, .int v1)] [] 0 := by
  refine r_iload_n C 0 rfl d_Ce_checkRange_0 ?_
  refine r_if_lt C 9 d_Ce_checkRange_1 (by decide) ⟨fun c0 => ?_, fun c0 => ?_⟩
  · have K := K.1 c0
    exact r_throwG C D Rm (by decide) ft_arg in_arg at_arg og_arg (Nat.le_of_ble_eq_true rfl) d_Ce_checkRange_9 d_Ce_checkRange_12 d_Ce_checkRange_13 d_Ce_checkRange_16
  · have K := K.2 c0
    refine r_iload_n C 0 rfl d_Ce_checkRange_4 ?_
    refine r_iload_n C 1 rfl d_Ce_checkRange_5 ?_
    refine r_icmp_le C 17 d_Ce_checkRange_6 (by decide) ⟨fun c0 => ?_, fun c0 => ?_⟩
    · have K := K.1 c0
      exact K.elim
    · have K := K.2 c0
      exact r_throwG C D Rm (by decide) ft_arg in_arg at_arg og_arg (Nat.le_of_ble_eq_true rfl) d_Ce_checkRange_9 d_Ce_checkRange_12 d_Ce_checkRange_13 d_Ce_checkRange_16
/-! Ce_checkRegister throws. -/
abbrev X_Ce_checkRegister := CanX y_Ce_checkRegister b_Ce_checkRegister 1 none 10
theorem IX_Ce_checkRegister {h : HP} {v0 : Int32} {E : String} (body : ∀ X : CX, Cok X b_Ce_checkRegister 1 R_Ce none → CokX X E h → xR X = rml 10 1 6 → Wg X 0 0 h [(0, .int v0)] [] 0) : X_Ce_checkRegister E [.int v0] h := CanX.intro (by decide) (fun _ => Nat.le_of_ble_eq_true rfl) body
set_option maxRecDepth 20000 in
theorem x_Ce_checkRegister {X : CX} {h : HP} {v0 : Int32} (C : Cok X b_Ce_checkRegister 1 R_Ce none) (D : CokX X E_arg h) (Rm : xR X = rml 10 1 6)
    (K : (K_Ce_checkRange [.int v0, .int 7] h (fun h1 => h1 = h ∧ (False))) ∨ X_Ce_checkRange E_arg [.int v0, .int 7] h) :
    Wg X 0 0 h [(0, .int v0)] [] 0 := by
  refine r_iload_n C 0 rfl d_Ce_checkRegister_0 ?_
  refine r_bipush (v := 7) C (by decide) d_Ce_checkRegister_1 ?_
  rcases K with K | K
  · refine r_callS (As := [.int v0, .int 7]) (st := []) (lvc := 9) (mcc := 0) (msc := 0) C Rm M_Ce_checkRange rfl k_301 (by decide) (Nat.le_of_ble_eq_true rfl) ⟨by decide, by decide⟩ d_Ce_checkRegister_3 ?_
    refine Can.mono K (fun _ h1 z => ?_)
    obtain ⟨rfl, e, K⟩ := z
    rw [e]
    exact K.elim
  · exact r_callSX (As := [.int v0, .int 7]) (st := []) (lvc := 9) C D Rm M_Ce_checkRange rfl k_301 (by decide) (Nat.le_of_ble_eq_true rfl) d_Ce_checkRegister_3 K
/-! Ce_nil throws. -/
abbrev X_Ce_nil := CanX y_Ce_nil b_Ce_nil 2 none 11
theorem IX_Ce_nil {h : HP} {v1 : Int32} {E : String} (body : ∀ X : CX, Cok X b_Ce_nil 2 R_Ce none → CokX X E h → xR X = rml 11 1 6 → Wg X 0 0 h [(0, .ref 14), (1, .int v1)] [] 0) : X_Ce_nil E [.ref 14, .int v1] h := CanX.intro (by decide) (fun _ => Nat.le_of_ble_eq_true rfl) body
set_option maxRecDepth 20000 in
theorem x_Ce_nil {X : CX} {h : HP} {v1 : Int32} (C : Cok X b_Ce_nil 2 R_Ce none) (D : CokX X E_arg h) (Rm : xR X = rml 11 1 6)
    (K : (K_Ce_checkRegister [.int v1] h (fun h1 => h1 = h ∧ (False))) ∨ X_Ce_checkRegister E_arg [.int v1] h) :
    Wg X 0 0 h [(0, .ref 14), (1, .int v1)] [] 0 := by
  refine r_iload_n C 1 rfl d_Ce_nil_0 ?_
  rcases K with K | K
  · refine r_callS (As := [.int v1]) (st := []) (lvc := 10) (mcc := 0) (msc := 0) C Rm M_Ce_checkRegister rfl k_298 (by decide) (Nat.le_of_ble_eq_true rfl) ⟨by decide, by decide⟩ d_Ce_nil_1 ?_
    refine Can.mono K (fun _ h1 z => ?_)
    obtain ⟨rfl, e, K⟩ := z
    rw [e]
    exact K.elim
  · exact r_callSX (As := [.int v1]) (st := []) (lvc := 10) C D Rm M_Ce_checkRegister rfl k_298 (by decide) (Nat.le_of_ble_eq_true rfl) d_Ce_nil_1 K
/-! Ce_load throws. -/
abbrev X_Ce_load := CanX y_Ce_load b_Ce_load 4 ((some .int)) 11
theorem IX_Ce_load {h : HP} {v1 : Int32} {v2 : Int64} {E : String} (body : ∀ X : CX, Cok X b_Ce_load 4 R_Ce ((some .int)) → CokX X E h → xR X = rml 11 1 6 → Wg X 0 0 h [(0, .ref 14), (1, .int v1), (2, .long v2)] [] 0) : X_Ce_load E [.ref 14, .int v1, .long v2] h := CanX.intro (by decide) (fun _ => Nat.le_of_ble_eq_true rfl) body
set_option maxRecDepth 20000 in
theorem x_Ce_load {X : CX} {h : HP} {v1 : Int32} {v2 : Int64} (C : Cok X b_Ce_load 4 R_Ce ((some .int))) (D : CokX X E_arg h) (Rm : xR X = rml 11 1 6)
    (K : (K_Ce_checkRegister [.int v1] h (fun h1 => h1 = h ∧ (False))) ∨ X_Ce_checkRegister E_arg [.int v1] h) :
    Wg X 0 0 h [(0, .ref 14), (1, .int v1), (2, .long v2)] [] 0 := by
  refine r_iload_n C 1 rfl d_Ce_load_0 ?_
  rcases K with K | K
  · refine r_callS (As := [.int v1]) (st := []) (lvc := 10) (mcc := 0) (msc := 0) C Rm M_Ce_checkRegister rfl k_298 (by decide) (Nat.le_of_ble_eq_true rfl) ⟨by decide, by decide⟩ d_Ce_load_1 ?_
    refine Can.mono K (fun _ h1 z => ?_)
    obtain ⟨rfl, e, K⟩ := z
    rw [e]
    exact K.elim
  · exact r_callSX (As := [.int v1]) (st := []) (lvc := 10) C D Rm M_Ce_checkRegister rfl k_298 (by decide) (Nat.le_of_ble_eq_true rfl) d_Ce_load_1 K
/-! Ce_copy throws. -/
abbrev X_Ce_copy := CanX y_Ce_copy b_Ce_copy 3 none 11
theorem IX_Ce_copy {h : HP} {v1 : Int32} {v2 : Int32} {E : String} (body : ∀ X : CX, Cok X b_Ce_copy 3 R_Ce none → CokX X E h → xR X = rml 11 1 6 → Wg X 0 0 h [(0, .ref 14), (1, .int v1), (2, .int v2)] [] 0) : X_Ce_copy E [.ref 14, .int v1, .int v2] h := CanX.intro (by decide) (fun _ => Nat.le_of_ble_eq_true rfl) body
set_option maxRecDepth 20000 in
theorem x_Ce_copy {X : CX} {h : HP} {v1 : Int32} {v2 : Int32} (C : Cok X b_Ce_copy 3 R_Ce none) (D : CokX X E_arg h) (Rm : xR X = rml 11 1 6)
    (K : (K_Ce_checkRegister [.int v1] h (fun h1 => h1 = h ∧ ((K_Ce_checkRegister [.int v2] h (fun h2 => h2 = h ∧ (False))) ∨ X_Ce_checkRegister E_arg [.int v2] h))) ∨ X_Ce_checkRegister E_arg [.int v1] h) :
    Wg X 0 0 h [(0, .ref 14), (1, .int v1), (2, .int v2)] [] 0 := by
  refine r_iload_n C 1 rfl d_Ce_copy_0 ?_
  rcases K with K | K
  · refine r_callS (As := [.int v1]) (st := []) (lvc := 10) (mcc := 0) (msc := 0) C Rm M_Ce_checkRegister rfl k_298 (by decide) (Nat.le_of_ble_eq_true rfl) ⟨by decide, by decide⟩ d_Ce_copy_1 ?_
    refine Can.mono K (fun _ h1 z => ?_)
    obtain ⟨rfl, e, K⟩ := z
    rw [e]
    show Wg X 0 0 h [(0, .ref 14), (1, .int v1), (2, .int v2)] [] 4
    refine r_iload_n C 2 rfl d_Ce_copy_4 ?_
    rcases K with K | K
    · refine r_callS (As := [.int v2]) (st := []) (lvc := 10) (mcc := 0) (msc := 0) C Rm M_Ce_checkRegister rfl k_298 (by decide) (Nat.le_of_ble_eq_true rfl) ⟨by decide, by decide⟩ d_Ce_copy_5 ?_
      refine Can.mono K (fun _ h2 z => ?_)
      obtain ⟨rfl, e, K⟩ := z
      rw [e]
      exact K.elim
    · exact r_callSX (As := [.int v2]) (st := []) (lvc := 10) C D Rm M_Ce_checkRegister rfl k_298 (by decide) (Nat.le_of_ble_eq_true rfl) d_Ce_copy_5 K
  · exact r_callSX (As := [.int v1]) (st := []) (lvc := 10) C D Rm M_Ce_checkRegister rfl k_298 (by decide) (Nat.le_of_ble_eq_true rfl) d_Ce_copy_1 K
/-! Ce_cons throws. -/
abbrev X_Ce_cons := CanX y_Ce_cons b_Ce_cons 5 ((some .int)) 11
theorem IX_Ce_cons {h : HP} {v1 : Int32} {v2 : Int32} {v3 : Int32} {E : String} (body : ∀ X : CX, Cok X b_Ce_cons 5 R_Ce ((some .int)) → CokX X E h → xR X = rml 11 1 6 → Wg X 0 0 h [(0, .ref 14), (1, .int v1), (2, .int v2), (3, .int v3)] [] 0) : X_Ce_cons E [.ref 14, .int v1, .int v2, .int v3] h := CanX.intro (by decide) (fun _ => Nat.le_of_ble_eq_true rfl) body
set_option maxRecDepth 20000 in
theorem x_Ce_cons {X : CX} {h : HP} {v1 : Int32} {v2 : Int32} {v3 : Int32} (C : Cok X b_Ce_cons 5 R_Ce ((some .int))) (D : CokX X E_arg h) (Rm : xR X = rml 11 1 6)
    (K : (K_Ce_checkRegister [.int v1] h (fun h1 => h1 = h ∧ ((K_Ce_checkRegister [.int v2] h (fun h2 => h2 = h ∧ ((K_Ce_checkRegister [.int v3] h (fun h3 => h3 = h ∧ (False))) ∨ X_Ce_checkRegister E_arg [.int v3] h))) ∨ X_Ce_checkRegister E_arg [.int v2] h))) ∨ X_Ce_checkRegister E_arg [.int v1] h) :
    Wg X 0 0 h [(0, .ref 14), (1, .int v1), (2, .int v2), (3, .int v3)] [] 0 := by
  refine r_iload_n C 1 rfl d_Ce_cons_0 ?_
  rcases K with K | K
  · refine r_callS (As := [.int v1]) (st := []) (lvc := 10) (mcc := 0) (msc := 0) C Rm M_Ce_checkRegister rfl k_298 (by decide) (Nat.le_of_ble_eq_true rfl) ⟨by decide, by decide⟩ d_Ce_cons_1 ?_
    refine Can.mono K (fun _ h1 z => ?_)
    obtain ⟨rfl, e, K⟩ := z
    rw [e]
    show Wg X 0 0 h [(0, .ref 14), (1, .int v1), (2, .int v2), (3, .int v3)] [] 4
    refine r_iload_n C 2 rfl d_Ce_cons_4 ?_
    rcases K with K | K
    · refine r_callS (As := [.int v2]) (st := []) (lvc := 10) (mcc := 0) (msc := 0) C Rm M_Ce_checkRegister rfl k_298 (by decide) (Nat.le_of_ble_eq_true rfl) ⟨by decide, by decide⟩ d_Ce_cons_5 ?_
      refine Can.mono K (fun _ h2 z => ?_)
      obtain ⟨rfl, e, K⟩ := z
      rw [e]
      show Wg X 0 0 h [(0, .ref 14), (1, .int v1), (2, .int v2), (3, .int v3)] [] 8
      refine r_iload_n C 3 rfl d_Ce_cons_8 ?_
      rcases K with K | K
      · refine r_callS (As := [.int v3]) (st := []) (lvc := 10) (mcc := 0) (msc := 0) C Rm M_Ce_checkRegister rfl k_298 (by decide) (Nat.le_of_ble_eq_true rfl) ⟨by decide, by decide⟩ d_Ce_cons_9 ?_
        refine Can.mono K (fun _ h3 z => ?_)
        obtain ⟨rfl, e, K⟩ := z
        rw [e]
        exact K.elim
      · exact r_callSX (As := [.int v3]) (st := []) (lvc := 10) C D Rm M_Ce_checkRegister rfl k_298 (by decide) (Nat.le_of_ble_eq_true rfl) d_Ce_cons_9 K
    · exact r_callSX (As := [.int v2]) (st := []) (lvc := 10) C D Rm M_Ce_checkRegister rfl k_298 (by decide) (Nat.le_of_ble_eq_true rfl) d_Ce_cons_5 K
  · exact r_callSX (As := [.int v1]) (st := []) (lvc := 10) C D Rm M_Ce_checkRegister rfl k_298 (by decide) (Nat.le_of_ble_eq_true rfl) d_Ce_cons_1 K
/-! Ce_part throws. -/
abbrev X_Ce_part := CanX y_Ce_part b_Ce_part 5 ((some .int)) 11
theorem IX_Ce_part {h : HP} {v1 : Int32} {v2 : Int32} {v3 : Int32} {E : String} (body : ∀ X : CX, Cok X b_Ce_part 5 R_Ce ((some .int)) → CokX X E h → xR X = rml 11 1 6 → Wg X 0 0 h [(0, .ref 14), (1, .int v1), (2, .int v2), (3, .int v3)] [] 0) : X_Ce_part E [.ref 14, .int v1, .int v2, .int v3] h := CanX.intro (by decide) (fun _ => Nat.le_of_ble_eq_true rfl) body
set_option maxRecDepth 20000 in
theorem x_Ce_part {X : CX} {h : HP} {v1 : Int32} {v2 : Int32} {v3 : Int32} (C : Cok X b_Ce_part 5 R_Ce ((some .int))) (D : CokX X E_arg h) (Rm : xR X = rml 11 1 6)
    (K : (K_Ce_checkRegister [.int v1] h (fun h1 => h1 = h ∧ ((K_Ce_checkRegister [.int v2] h (fun h2 => h2 = h ∧ (False))) ∨ X_Ce_checkRegister E_arg [.int v2] h))) ∨ X_Ce_checkRegister E_arg [.int v1] h) :
    Wg X 0 0 h [(0, .ref 14), (1, .int v1), (2, .int v2), (3, .int v3)] [] 0 := by
  refine r_iload_n C 1 rfl d_Ce_part_0 ?_
  rcases K with K | K
  · refine r_callS (As := [.int v1]) (st := []) (lvc := 10) (mcc := 0) (msc := 0) C Rm M_Ce_checkRegister rfl k_298 (by decide) (Nat.le_of_ble_eq_true rfl) ⟨by decide, by decide⟩ d_Ce_part_1 ?_
    refine Can.mono K (fun _ h1 z => ?_)
    obtain ⟨rfl, e, K⟩ := z
    rw [e]
    show Wg X 0 0 h [(0, .ref 14), (1, .int v1), (2, .int v2), (3, .int v3)] [] 4
    refine r_iload_n C 2 rfl d_Ce_part_4 ?_
    rcases K with K | K
    · refine r_callS (As := [.int v2]) (st := []) (lvc := 10) (mcc := 0) (msc := 0) C Rm M_Ce_checkRegister rfl k_298 (by decide) (Nat.le_of_ble_eq_true rfl) ⟨by decide, by decide⟩ d_Ce_part_5 ?_
      refine Can.mono K (fun _ h2 z => ?_)
      obtain ⟨rfl, e, K⟩ := z
      rw [e]
      exact K.elim
    · exact r_callSX (As := [.int v2]) (st := []) (lvc := 10) C D Rm M_Ce_checkRegister rfl k_298 (by decide) (Nat.le_of_ble_eq_true rfl) d_Ce_part_5 K
  · exact r_callSX (As := [.int v1]) (st := []) (lvc := 10) C D Rm M_Ce_checkRegister rfl k_298 (by decide) (Nat.le_of_ble_eq_true rfl) d_Ce_part_1 K
/-! Ce_change throws. -/
abbrev X_Ce_change := CanX y_Ce_change b_Ce_change 5 ((some .int)) 11
theorem IX_Ce_change {h : HP} {v1 : Int32} {v2 : Int32} {v3 : Int32} {E : String} (body : ∀ X : CX, Cok X b_Ce_change 5 R_Ce ((some .int)) → CokX X E h → xR X = rml 11 1 6 → Wg X 0 0 h [(0, .ref 14), (1, .int v1), (2, .int v2), (3, .int v3)] [] 0) : X_Ce_change E [.ref 14, .int v1, .int v2, .int v3] h := CanX.intro (by decide) (fun _ => Nat.le_of_ble_eq_true rfl) body
set_option maxRecDepth 20000 in
theorem x_Ce_change {X : CX} {h : HP} {v1 : Int32} {v2 : Int32} {v3 : Int32} (C : Cok X b_Ce_change 5 R_Ce ((some .int))) (D : CokX X E_arg h) (Rm : xR X = rml 11 1 6)
    (K : (K_Ce_checkRegister [.int v1] h (fun h1 => h1 = h ∧ ((K_Ce_checkRegister [.int v3] h (fun h2 => h2 = h ∧ (False))) ∨ X_Ce_checkRegister E_arg [.int v3] h))) ∨ X_Ce_checkRegister E_arg [.int v1] h) :
    Wg X 0 0 h [(0, .ref 14), (1, .int v1), (2, .int v2), (3, .int v3)] [] 0 := by
  refine r_iload_n C 1 rfl d_Ce_change_0 ?_
  rcases K with K | K
  · refine r_callS (As := [.int v1]) (st := []) (lvc := 10) (mcc := 0) (msc := 0) C Rm M_Ce_checkRegister rfl k_298 (by decide) (Nat.le_of_ble_eq_true rfl) ⟨by decide, by decide⟩ d_Ce_change_1 ?_
    refine Can.mono K (fun _ h1 z => ?_)
    obtain ⟨rfl, e, K⟩ := z
    rw [e]
    show Wg X 0 0 h [(0, .ref 14), (1, .int v1), (2, .int v2), (3, .int v3)] [] 4
    refine r_iload_n C 3 rfl d_Ce_change_4 ?_
    rcases K with K | K
    · refine r_callS (As := [.int v3]) (st := []) (lvc := 10) (mcc := 0) (msc := 0) C Rm M_Ce_checkRegister rfl k_298 (by decide) (Nat.le_of_ble_eq_true rfl) ⟨by decide, by decide⟩ d_Ce_change_5 ?_
      refine Can.mono K (fun _ h2 z => ?_)
      obtain ⟨rfl, e, K⟩ := z
      rw [e]
      exact K.elim
    · exact r_callSX (As := [.int v3]) (st := []) (lvc := 10) C D Rm M_Ce_checkRegister rfl k_298 (by decide) (Nat.le_of_ble_eq_true rfl) d_Ce_change_5 K
  · exact r_callSX (As := [.int v1]) (st := []) (lvc := 10) C D Rm M_Ce_checkRegister rfl k_298 (by decide) (Nat.le_of_ble_eq_true rfl) d_Ce_change_1 K
/-! Ce_work throws. -/
abbrev X_Ce_work := CanX y_Ce_work b_Ce_work 7 ((some .int)) 13
theorem IX_Ce_work {h : HP} {v1 : Int32} {v2 : Int32} {v3 : Int32} {v4 : Int32} {E : String} (body : ∀ X : CX, Cok X b_Ce_work 7 R_Ce ((some .int)) → CokX X E h → xR X = rml 13 1 6 → Wg X 0 0 h [(0, .ref 14), (1, .int v1), (2, .int v2), (3, .int v3), (4, .int v4)] [] 0) : X_Ce_work E [.ref 14, .int v1, .int v2, .int v3, .int v4] h := CanX.intro (by decide) (fun _ => Nat.le_of_ble_eq_true rfl) body
set_option maxRecDepth 20000 in
theorem x_Ce_work {X : CX} {h : HP} {v1 : Int32} {v2 : Int32} {v3 : Int32} {v4 : Int32} (C : Cok X b_Ce_work 7 R_Ce ((some .int))) (D : CokX X E_arg h) (Rm : xR X = rml 13 1 6)
    (K : (K_Ce_checkRegister [.int v1] h (fun h1 => h1 = h ∧ ((K_Ce_checkRegister [.int v2] h (fun h2 => h2 = h ∧ ((K_Ce_checkRegister [.int v3] h (fun h3 => h3 = h ∧ ((K_Ce_checkRange [.int v4, .int 6] h (fun h4 => h4 = h ∧ (False))) ∨ X_Ce_checkRange E_arg [.int v4, .int 6] h))) ∨ X_Ce_checkRegister E_arg [.int v3] h))) ∨ X_Ce_checkRegister E_arg [.int v2] h))) ∨ X_Ce_checkRegister E_arg [.int v1] h) :
    Wg X 0 0 h [(0, .ref 14), (1, .int v1), (2, .int v2), (3, .int v3), (4, .int v4)] [] 0 := by
  refine r_iload_n C 1 rfl d_Ce_work_0 ?_
  rcases K with K | K
  · refine r_callS (As := [.int v1]) (st := []) (lvc := 10) (mcc := 0) (msc := 0) C Rm M_Ce_checkRegister rfl k_298 (by decide) (Nat.le_of_ble_eq_true rfl) ⟨by decide, by decide⟩ d_Ce_work_1 ?_
    refine Can.mono K (fun _ h1 z => ?_)
    obtain ⟨rfl, e, K⟩ := z
    rw [e]
    show Wg X 0 0 h [(0, .ref 14), (1, .int v1), (2, .int v2), (3, .int v3), (4, .int v4)] [] 4
    refine r_iload_n C 2 rfl d_Ce_work_4 ?_
    rcases K with K | K
    · refine r_callS (As := [.int v2]) (st := []) (lvc := 10) (mcc := 0) (msc := 0) C Rm M_Ce_checkRegister rfl k_298 (by decide) (Nat.le_of_ble_eq_true rfl) ⟨by decide, by decide⟩ d_Ce_work_5 ?_
      refine Can.mono K (fun _ h2 z => ?_)
      obtain ⟨rfl, e, K⟩ := z
      rw [e]
      show Wg X 0 0 h [(0, .ref 14), (1, .int v1), (2, .int v2), (3, .int v3), (4, .int v4)] [] 8
      refine r_iload_n C 3 rfl d_Ce_work_8 ?_
      rcases K with K | K
      · refine r_callS (As := [.int v3]) (st := []) (lvc := 10) (mcc := 0) (msc := 0) C Rm M_Ce_checkRegister rfl k_298 (by decide) (Nat.le_of_ble_eq_true rfl) ⟨by decide, by decide⟩ d_Ce_work_9 ?_
        refine Can.mono K (fun _ h3 z => ?_)
        obtain ⟨rfl, e, K⟩ := z
        rw [e]
        show Wg X 0 0 h [(0, .ref 14), (1, .int v1), (2, .int v2), (3, .int v3), (4, .int v4)] [] 12
        refine r_iload C 4 rfl d_Ce_work_12 ?_
        refine r_bipush (v := 6) C (by decide) d_Ce_work_14 ?_
        rcases K with K | K
        · refine r_callS (As := [.int v4, .int 6]) (st := []) (lvc := 9) (mcc := 0) (msc := 0) C Rm M_Ce_checkRange rfl k_301 (by decide) (Nat.le_of_ble_eq_true rfl) ⟨by decide, by decide⟩ d_Ce_work_16 ?_
          refine Can.mono K (fun _ h4 z => ?_)
          obtain ⟨rfl, e, K⟩ := z
          rw [e]
          exact K.elim
        · exact r_callSX (As := [.int v4, .int 6]) (st := []) (lvc := 9) C D Rm M_Ce_checkRange rfl k_301 (by decide) (Nat.le_of_ble_eq_true rfl) d_Ce_work_16 K
      · exact r_callSX (As := [.int v3]) (st := []) (lvc := 10) C D Rm M_Ce_checkRegister rfl k_298 (by decide) (Nat.le_of_ble_eq_true rfl) d_Ce_work_9 K
    · exact r_callSX (As := [.int v2]) (st := []) (lvc := 10) C D Rm M_Ce_checkRegister rfl k_298 (by decide) (Nat.le_of_ble_eq_true rfl) d_Ce_work_5 K
  · exact r_callSX (As := [.int v1]) (st := []) (lvc := 10) C D Rm M_Ce_checkRegister rfl k_298 (by decide) (Nat.le_of_ble_eq_true rfl) d_Ce_work_1 K
/-! Ce_compare throws. -/
abbrev X_Ce_compare := CanX y_Ce_compare b_Ce_compare 3 ((some .int)) 13
theorem IX_Ce_compare {h : HP} {v1 : Int32} {v2 : Int32} {E : String} (body : ∀ X : CX, Cok X b_Ce_compare 3 R_Ce ((some .int)) → CokX X E h → xR X = rml 13 1 6 → Wg X 0 0 h [(0, .ref 14), (1, .int v1), (2, .int v2)] [] 0) : X_Ce_compare E [.ref 14, .int v1, .int v2] h := CanX.intro (by decide) (fun _ => Nat.le_of_ble_eq_true rfl) body
set_option maxRecDepth 20000 in
theorem x_Ce_compare {X : CX} {h : HP} {v1 : Int32} {v2 : Int32} (C : Cok X b_Ce_compare 3 R_Ce ((some .int))) (D : CokX X E_arg h) (Rm : xR X = rml 13 1 6)
    (K : (K_Ce_checkRegister [.int v1] h (fun h1 => h1 = h ∧ ((K_Ce_checkRegister [.int v2] h (fun h2 => h2 = h ∧ (False))) ∨ X_Ce_checkRegister E_arg [.int v2] h))) ∨ X_Ce_checkRegister E_arg [.int v1] h) :
    Wg X 0 0 h [(0, .ref 14), (1, .int v1), (2, .int v2)] [] 0 := by
  refine r_iload_n C 1 rfl d_Ce_compare_0 ?_
  rcases K with K | K
  · refine r_callS (As := [.int v1]) (st := []) (lvc := 10) (mcc := 0) (msc := 0) C Rm M_Ce_checkRegister rfl k_298 (by decide) (Nat.le_of_ble_eq_true rfl) ⟨by decide, by decide⟩ d_Ce_compare_1 ?_
    refine Can.mono K (fun _ h1 z => ?_)
    obtain ⟨rfl, e, K⟩ := z
    rw [e]
    show Wg X 0 0 h [(0, .ref 14), (1, .int v1), (2, .int v2)] [] 4
    refine r_iload_n C 2 rfl d_Ce_compare_4 ?_
    rcases K with K | K
    · refine r_callS (As := [.int v2]) (st := []) (lvc := 10) (mcc := 0) (msc := 0) C Rm M_Ce_checkRegister rfl k_298 (by decide) (Nat.le_of_ble_eq_true rfl) ⟨by decide, by decide⟩ d_Ce_compare_5 ?_
      refine Can.mono K (fun _ h2 z => ?_)
      obtain ⟨rfl, e, K⟩ := z
      rw [e]
      exact K.elim
    · exact r_callSX (As := [.int v2]) (st := []) (lvc := 10) C D Rm M_Ce_checkRegister rfl k_298 (by decide) (Nat.le_of_ble_eq_true rfl) d_Ce_compare_5 K
  · exact r_callSX (As := [.int v1]) (st := []) (lvc := 10) C D Rm M_Ce_checkRegister rfl k_298 (by decide) (Nat.le_of_ble_eq_true rfl) d_Ce_compare_1 K
/-! Ce_same throws. -/
abbrev X_Ce_same := CanX y_Ce_same b_Ce_same 3 ((some .boolean)) 11
theorem IX_Ce_same {h : HP} {v1 : Int32} {v2 : Int32} {E : String} (body : ∀ X : CX, Cok X b_Ce_same 3 R_Ce ((some .boolean)) → CokX X E h → xR X = rml 11 1 6 → Wg X 0 0 h [(0, .ref 14), (1, .int v1), (2, .int v2)] [] 0) : X_Ce_same E [.ref 14, .int v1, .int v2] h := CanX.intro (by decide) (fun _ => Nat.le_of_ble_eq_true rfl) body
set_option maxRecDepth 20000 in
theorem x_Ce_same {X : CX} {h : HP} {v1 : Int32} {v2 : Int32} (C : Cok X b_Ce_same 3 R_Ce ((some .boolean))) (D : CokX X E_arg h) (Rm : xR X = rml 11 1 6)
    (K : (K_Ce_checkRegister [.int v1] h (fun h1 => h1 = h ∧ ((K_Ce_checkRegister [.int v2] h (fun h2 => h2 = h ∧ (False))) ∨ X_Ce_checkRegister E_arg [.int v2] h))) ∨ X_Ce_checkRegister E_arg [.int v1] h) :
    Wg X 0 0 h [(0, .ref 14), (1, .int v1), (2, .int v2)] [] 0 := by
  refine r_iload_n C 1 rfl d_Ce_same_0 ?_
  rcases K with K | K
  · refine r_callS (As := [.int v1]) (st := []) (lvc := 10) (mcc := 0) (msc := 0) C Rm M_Ce_checkRegister rfl k_298 (by decide) (Nat.le_of_ble_eq_true rfl) ⟨by decide, by decide⟩ d_Ce_same_1 ?_
    refine Can.mono K (fun _ h1 z => ?_)
    obtain ⟨rfl, e, K⟩ := z
    rw [e]
    show Wg X 0 0 h [(0, .ref 14), (1, .int v1), (2, .int v2)] [] 4
    refine r_iload_n C 2 rfl d_Ce_same_4 ?_
    rcases K with K | K
    · refine r_callS (As := [.int v2]) (st := []) (lvc := 10) (mcc := 0) (msc := 0) C Rm M_Ce_checkRegister rfl k_298 (by decide) (Nat.le_of_ble_eq_true rfl) ⟨by decide, by decide⟩ d_Ce_same_5 ?_
      refine Can.mono K (fun _ h2 z => ?_)
      obtain ⟨rfl, e, K⟩ := z
      rw [e]
      exact K.elim
    · exact r_callSX (As := [.int v2]) (st := []) (lvc := 10) C D Rm M_Ce_checkRegister rfl k_298 (by decide) (Nat.le_of_ble_eq_true rfl) d_Ce_same_5 K
  · exact r_callSX (As := [.int v1]) (st := []) (lvc := 10) C D Rm M_Ce_checkRegister rfl k_298 (by decide) (Nat.le_of_ble_eq_true rfl) d_Ce_same_1 K
/-! Ce_type throws. -/
abbrev X_Ce_type := CanX y_Ce_type b_Ce_type 7 ((some .int)) 9
theorem IX_Ce_type {h : HP} {v1 : Int32} {v2 : Int32} {v3 : Int32} {v4 : Int32} {v5 : Int32} {E : String} (body : ∀ X : CX, Cok X b_Ce_type 7 R_Ce ((some .int)) → CokX X E h → xR X = rml 9 1 6 → Wg X 0 0 h [(0, .ref 14), (1, .int v1), (2, .int v2), (3, .int v3), (4, .int v4), (5, .int v5)] [] 0) : X_Ce_type E [.ref 14, .int v1, .int v2, .int v3, .int v4, .int v5] h := CanX.intro (by decide) (fun _ => Nat.le_of_ble_eq_true rfl) body
theorem d_Ce_type_44 : decode b_Ce_type 44 = .ok (.new 130, 3) := by decide +kernel
theorem d_Ce_type_47 : decode b_Ce_type 47 = .ok (.dup, 1) := by decide +kernel
theorem d_Ce_type_48 : decode b_Ce_type 48 = .ok (.invokespecial 132, 3) := by decide +kernel
theorem d_Ce_type_51 : decode b_Ce_type 51 = .ok (.athrow, 1) := by decide +kernel
set_option maxRecDepth 20000 in
theorem x_Ce_type {X : CX} {h : HP} {v1 : Int32} {v2 : Int32} {v3 : Int32} {v4 : Int32} {v5 : Int32} (C : Cok X b_Ce_type 7 R_Ce ((some .int))) (D : CokX X E_sta h) (Rm : xR X = rml 9 1 6)
    (K : K_Li_charactersIn [.int v1] h (fun r1 h1 => h1 = h ∧ (K_Li_charactersIn [.int v2] h (fun r2 h2 => h2 = h ∧ (K_Li_charactersIn [.int v3] h (fun r3 h3 => h3 = h ∧ (K_Li_charactersIn [.int v4] h (fun r4 h4 => h4 = h ∧ (K_Li_charactersIn [.int v5] h (fun r5 h5 => h5 = h ∧ (((((h 21 1) + ((((r1 + r2) + r3) + r4) + r5))) ≤ (200 : Int32) → False) ∧ (¬ (((h 21 1) + ((((r1 + r2) + r3) + r4) + r5))) ≤ (200 : Int32) → True)))))))))))) :
    Wg X 0 0 h [(0, .ref 14), (1, .int v1), (2, .int v2), (3, .int v3), (4, .int v4), (5, .int v5)] [] 0 := by
  refine r_iload_n C 1 rfl d_Ce_type_0 ?_
  refine r_callS (As := [.int v1]) (st := []) (lvc := 0) (mcc := 0) (msc := 0) C Rm M_Li_charactersIn rfl k_898 (by decide) (Nat.le_of_ble_eq_true rfl) ⟨by decide, by decide⟩ d_Ce_type_1 ?_
  refine Can.mono K (fun _ h1 z => ?_)
  obtain ⟨r1, rfl, e, K⟩ := z
  rw [e]
  show Wg X 0 0 h [(0, .ref 14), (1, .int v1), (2, .int v2), (3, .int v3), (4, .int v4), (5, .int v5)] [.int r1] 4
  refine r_iload_n C 2 rfl d_Ce_type_4 ?_
  refine r_callS (As := [.int v2]) (st := [.int r1]) (lvc := 0) (mcc := 0) (msc := 0) C Rm M_Li_charactersIn rfl k_898 (by decide) (Nat.le_of_ble_eq_true rfl) ⟨by decide, by decide⟩ d_Ce_type_5 ?_
  refine Can.mono K (fun _ h2 z => ?_)
  obtain ⟨r2, rfl, e, K⟩ := z
  rw [e]
  show Wg X 0 0 h [(0, .ref 14), (1, .int v1), (2, .int v2), (3, .int v3), (4, .int v4), (5, .int v5)] [.int r2, .int r1] 8
  refine r_iadd C d_Ce_type_8 ?_
  refine r_iload_n C 3 rfl d_Ce_type_9 ?_
  refine r_callS (As := [.int v3]) (st := [.int (r1 + r2)]) (lvc := 0) (mcc := 0) (msc := 0) C Rm M_Li_charactersIn rfl k_898 (by decide) (Nat.le_of_ble_eq_true rfl) ⟨by decide, by decide⟩ d_Ce_type_10 ?_
  refine Can.mono K (fun _ h3 z => ?_)
  obtain ⟨r3, rfl, e, K⟩ := z
  rw [e]
  show Wg X 0 0 h [(0, .ref 14), (1, .int v1), (2, .int v2), (3, .int v3), (4, .int v4), (5, .int v5)] [.int r3, .int (r1 + r2)] 13
  refine r_iadd C d_Ce_type_13 ?_
  refine r_iload C 4 rfl d_Ce_type_14 ?_
  refine r_callS (As := [.int v4]) (st := [.int ((r1 + r2) + r3)]) (lvc := 0) (mcc := 0) (msc := 0) C Rm M_Li_charactersIn rfl k_898 (by decide) (Nat.le_of_ble_eq_true rfl) ⟨by decide, by decide⟩ d_Ce_type_16 ?_
  refine Can.mono K (fun _ h4 z => ?_)
  obtain ⟨r4, rfl, e, K⟩ := z
  rw [e]
  show Wg X 0 0 h [(0, .ref 14), (1, .int v1), (2, .int v2), (3, .int v3), (4, .int v4), (5, .int v5)] [.int r4, .int ((r1 + r2) + r3)] 19
  refine r_iadd C d_Ce_type_19 ?_
  refine r_iload C 5 rfl d_Ce_type_20 ?_
  refine r_callS (As := [.int v5]) (st := [.int (((r1 + r2) + r3) + r4)]) (lvc := 0) (mcc := 0) (msc := 0) C Rm M_Li_charactersIn rfl k_898 (by decide) (Nat.le_of_ble_eq_true rfl) ⟨by decide, by decide⟩ d_Ce_type_22 ?_
  refine Can.mono K (fun _ h5 z => ?_)
  obtain ⟨r5, rfl, e, K⟩ := z
  rw [e]
  show Wg X 0 0 h [(0, .ref 14), (1, .int v1), (2, .int v2), (3, .int v3), (4, .int v4), (5, .int v5)] [.int r5, .int (((r1 + r2) + r3) + r4)] 25
  refine r_iadd C d_Ce_type_25 ?_
  refine r_istore (ls2 := [(0, .ref 14), (1, .int v1), (2, .int v2), (3, .int v3), (4, .int v4), (5, .int v5), (6, .int ((((r1 + r2) + r3) + r4) + r5))]) C (by decide) rfl d_Ce_type_26 ?_
  refine r_aload_n C 0 rfl d_Ce_type_28 ?_
  refine gf_Ce_line (k2 := 21) C rfl rfl k_222 d_Ce_type_29 ?_
  refine gf_Li_length C rfl k_80 d_Ce_type_32 ?_
  refine r_iload C 6 rfl d_Ce_type_35 ?_
  refine r_iadd C d_Ce_type_37 ?_
  refine r_sipush (v := 200) C (by decide) d_Ce_type_38 ?_
  refine r_icmp_le C 52 d_Ce_type_41 (by decide) ⟨fun c0 => ?_, fun c0 => ?_⟩
  · have K := K.1 c0
    exact K.elim
  · have K := K.2 c0
    exact r_throwG C D Rm (by decide) ft_sta in_sta at_sta og_sta (Nat.le_of_ble_eq_true rfl) d_Ce_type_44 d_Ce_type_47 d_Ce_type_48 d_Ce_type_51
/-! Ce_read throws. -/
abbrev X_Ce_read := CanX y_Ce_read b_Ce_read 3 ((some .int)) 11
theorem IX_Ce_read {h : HP} {v1 : Int32} {E : String} (body : ∀ X : CX, Cok X b_Ce_read 3 R_Ce ((some .int)) → CokX X E h → xR X = rml 11 1 6 → Wg X 0 0 h [(0, .ref 14), (1, .int v1)] [] 0) : X_Ce_read E [.ref 14, .int v1] h := CanX.intro (by decide) (fun _ => Nat.le_of_ble_eq_true rfl) body
set_option maxRecDepth 20000 in
theorem x_Ce_read {X : CX} {h : HP} {v1 : Int32} (C : Cok X b_Ce_read 3 R_Ce ((some .int))) (D : CokX X E_arg h) (Rm : xR X = rml 11 1 6)
    (K : (K_Ce_checkRegister [.int v1] h (fun h1 => h1 = h ∧ (False))) ∨ X_Ce_checkRegister E_arg [.int v1] h) :
    Wg X 0 0 h [(0, .ref 14), (1, .int v1)] [] 0 := by
  refine r_iload_n C 1 rfl d_Ce_read_0 ?_
  rcases K with K | K
  · refine r_callS (As := [.int v1]) (st := []) (lvc := 10) (mcc := 0) (msc := 0) C Rm M_Ce_checkRegister rfl k_298 (by decide) (Nat.le_of_ble_eq_true rfl) ⟨by decide, by decide⟩ d_Ce_read_1 ?_
    refine Can.mono K (fun _ h1 z => ?_)
    obtain ⟨rfl, e, K⟩ := z
    rw [e]
    exact K.elim
  · exact r_callSX (As := [.int v1]) (st := []) (lvc := 10) C D Rm M_Ce_checkRegister rfl k_298 (by decide) (Nat.le_of_ble_eq_true rfl) d_Ce_read_1 K
/-! Ce_write throws. -/
abbrev X_Ce_write := CanX y_Ce_write b_Ce_write 2 ((some .int)) 11
theorem IX_Ce_write {h : HP} {v1 : Int32} {E : String} (body : ∀ X : CX, Cok X b_Ce_write 2 R_Ce ((some .int)) → CokX X E h → xR X = rml 11 1 6 → Wg X 0 0 h [(0, .ref 14), (1, .int v1)] [] 0) : X_Ce_write E [.ref 14, .int v1] h := CanX.intro (by decide) (fun _ => Nat.le_of_ble_eq_true rfl) body
set_option maxRecDepth 20000 in
theorem x_Ce_write {X : CX} {h : HP} {v1 : Int32} (C : Cok X b_Ce_write 2 R_Ce ((some .int))) (D : CokX X E_arg h) (Rm : xR X = rml 11 1 6)
    (K : (K_Ce_checkRegister [.int v1] h (fun h1 => h1 = h ∧ (False))) ∨ X_Ce_checkRegister E_arg [.int v1] h) :
    Wg X 0 0 h [(0, .ref 14), (1, .int v1)] [] 0 := by
  refine r_iload_n C 1 rfl d_Ce_write_0 ?_
  rcases K with K | K
  · refine r_callS (As := [.int v1]) (st := []) (lvc := 10) (mcc := 0) (msc := 0) C Rm M_Ce_checkRegister rfl k_298 (by decide) (Nat.le_of_ble_eq_true rfl) ⟨by decide, by decide⟩ d_Ce_write_1 ?_
    refine Can.mono K (fun _ h1 z => ?_)
    obtain ⟨rfl, e, K⟩ := z
    rw [e]
    exact K.elim
  · exact r_callSX (As := [.int v1]) (st := []) (lvc := 10) C D Rm M_Ce_checkRegister rfl k_298 (by decide) (Nat.le_of_ble_eq_true rfl) d_Ce_write_1 K
/-! Ce_value throws. -/
abbrev X_Ce_value := CanX y_Ce_value b_Ce_value 6 ((some .int)) 11
theorem IX_Ce_value {h : HP} {v1 : Int32} {v2 : Int32} {E : String} (body : ∀ X : CX, Cok X b_Ce_value 6 R_Ce ((some .int)) → CokX X E h → xR X = rml 11 1 6 → Wg X 0 0 h [(0, .ref 14), (1, .int v1), (2, .int v2)] [] 0) : X_Ce_value E [.ref 14, .int v1, .int v2] h := CanX.intro (by decide) (fun _ => Nat.le_of_ble_eq_true rfl) body
set_option maxRecDepth 20000 in
theorem x_Ce_value {X : CX} {h : HP} {v1 : Int32} {v2 : Int32} (C : Cok X b_Ce_value 6 R_Ce ((some .int))) (D : CokX X E_arg h) (Rm : xR X = rml 11 1 6)
    (K : (K_Ce_checkRegister [.int v1] h (fun h1 => h1 = h ∧ ((K_Ce_checkRange [.int v2, .int 3] h (fun h2 => h2 = h ∧ (False))) ∨ X_Ce_checkRange E_arg [.int v2, .int 3] h))) ∨ X_Ce_checkRegister E_arg [.int v1] h) :
    Wg X 0 0 h [(0, .ref 14), (1, .int v1), (2, .int v2)] [] 0 := by
  refine r_iload_n C 1 rfl d_Ce_value_0 ?_
  rcases K with K | K
  · refine r_callS (As := [.int v1]) (st := []) (lvc := 10) (mcc := 0) (msc := 0) C Rm M_Ce_checkRegister rfl k_298 (by decide) (Nat.le_of_ble_eq_true rfl) ⟨by decide, by decide⟩ d_Ce_value_1 ?_
    refine Can.mono K (fun _ h1 z => ?_)
    obtain ⟨rfl, e, K⟩ := z
    rw [e]
    show Wg X 0 0 h [(0, .ref 14), (1, .int v1), (2, .int v2)] [] 4
    refine r_iload_n C 2 rfl d_Ce_value_4 ?_
    refine r_iconst (v := 3) C (by decide) d_Ce_value_5 ?_
    rcases K with K | K
    · refine r_callS (As := [.int v2, .int 3]) (st := []) (lvc := 9) (mcc := 0) (msc := 0) C Rm M_Ce_checkRange rfl k_301 (by decide) (Nat.le_of_ble_eq_true rfl) ⟨by decide, by decide⟩ d_Ce_value_6 ?_
      refine Can.mono K (fun _ h2 z => ?_)
      obtain ⟨rfl, e, K⟩ := z
      rw [e]
      exact K.elim
    · exact r_callSX (As := [.int v2, .int 3]) (st := []) (lvc := 9) C D Rm M_Ce_checkRange rfl k_301 (by decide) (Nat.le_of_ble_eq_true rfl) d_Ce_value_6 K
  · exact r_callSX (As := [.int v1]) (st := []) (lvc := 10) C D Rm M_Ce_checkRegister rfl k_298 (by decide) (Nat.le_of_ble_eq_true rfl) d_Ce_value_1 K
/-! Ce_count throws. -/
abbrev X_Ce_count := CanX y_Ce_count b_Ce_count 2 ((some .int)) 10
theorem IX_Ce_count {h : HP} {v1 : Int32} {E : String} (body : ∀ X : CX, Cok X b_Ce_count 2 R_Ce ((some .int)) → CokX X E h → xR X = rml 10 1 6 → Wg X 0 0 h [(0, .ref 14), (1, .int v1)] [] 0) : X_Ce_count E [.ref 14, .int v1] h := CanX.intro (by decide) (fun _ => Nat.le_of_ble_eq_true rfl) body
set_option maxRecDepth 20000 in
theorem x_Ce_count {X : CX} {h : HP} {v1 : Int32} (C : Cok X b_Ce_count 2 R_Ce ((some .int))) (D : CokX X E_arg h) (Rm : xR X = rml 10 1 6)
    (K : (K_Ce_checkRange [.int v1, .int 3] h (fun h1 => h1 = h ∧ (False))) ∨ X_Ce_checkRange E_arg [.int v1, .int 3] h) :
    Wg X 0 0 h [(0, .ref 14), (1, .int v1)] [] 0 := by
  refine r_iload_n C 1 rfl d_Ce_count_0 ?_
  refine r_iconst (v := 3) C (by decide) d_Ce_count_1 ?_
  rcases K with K | K
  · refine r_callS (As := [.int v1, .int 3]) (st := []) (lvc := 9) (mcc := 0) (msc := 0) C Rm M_Ce_checkRange rfl k_301 (by decide) (Nat.le_of_ble_eq_true rfl) ⟨by decide, by decide⟩ d_Ce_count_2 ?_
    refine Can.mono K (fun _ h1 z => ?_)
    obtain ⟨rfl, e, K⟩ := z
    rw [e]
    exact K.elim
  · exact r_callSX (As := [.int v1, .int 3]) (st := []) (lvc := 9) C D Rm M_Ce_checkRange rfl k_301 (by decide) (Nat.le_of_ble_eq_true rfl) d_Ce_count_2 K
