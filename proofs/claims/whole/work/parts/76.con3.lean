/-! The constructors: the reckoner, the system. -/
set_option maxHeartbeats 4000000 in
set_option maxRecDepth 100000 in
theorem c_Re : Kc y_Re_init b_Re_init ({ frames := 3, cells := 28, slots := 615, locals := 52 } : Room) 28 615 3 [.null, .null, .null, .null, .null, .null, .null] S_Re := by
  refine Kc.intro (by decide) rfl (fun X A h0 C Rm fin => ?_)
  refine k_al C d_Re_init_0 ?_
  refine k_obj C k_92 (by rw [Rm]; exact ⟨Nat.le_of_ble_eq_true rfl, Nat.le_of_ble_eq_true rfl⟩) d_Re_init_1 ?_
  refine k_al C d_Re_init_4 ?_
  refine k_new (ci := 1) (fs := [.null, .null]) C i_Ra p_Ra k_93 (by decide +kernel) (by decide +kernel) rfl (fun j hj => by rcases (show j = 0 ∨ j = 1 by omega) with rfl | rfl <;> rfl) (by rw [Rm]; exact Nat.le_of_ble_eq_true rfl) (by rw [Rm]; exact Nat.le_of_ble_eq_true rfl) d_Re_init_5 (fun q1 => ?_)
  refine k_dup C rfl d_Re_init_8 ?_
  refine k_callN (host := "CellHeap") (n := 1) C c_Ra ⟨rfl, rfl⟩ k_97 k_5 (by decide +kernel) k_96 rfl (by decide +kernel) (by rw [Rm]; exact ⟨Nat.le_of_ble_eq_true rfl, Nat.le_of_ble_eq_true rfl⟩) (Nat.le_of_ble_eq_true rfl) (by rw [Rm]; exact ⟨Nat.le_of_ble_eq_true rfl, Nat.le_of_ble_eq_true rfl⟩) rfl [0] rfl (by decide) (by decide) d_Re_init_9 (fun am1 e1 => ?_)
  subst e1
  refine k_put (k := 0) C i_Re p_Re n_Re rfl rfl (by decide) k_164 rfl rfl rfl (p_Re 0 (by decide)) rfl rfl (Nat.le_of_ble_eq_true rfl) d_Re_init_12 ?_
  refine k_al C d_Re_init_15 ?_
  refine k_new (ci := 1) (fs := [.null, .null]) C i_Ra p_Ra k_93 (by decide +kernel) (by decide +kernel) rfl (fun j hj => by rcases (show j = 0 ∨ j = 1 by omega) with rfl | rfl <;> rfl) (by rw [Rm]; exact Nat.le_of_ble_eq_true rfl) (by rw [Rm]; exact Nat.le_of_ble_eq_true rfl) d_Re_init_16 (fun q2 => ?_)
  refine k_dup C rfl d_Re_init_19 ?_
  refine k_callN (host := "CellHeap") (n := 6) C c_Ra ⟨rfl, rfl⟩ k_97 k_5 (by decide +kernel) k_96 rfl (by decide +kernel) (by rw [Rm]; exact ⟨Nat.le_of_ble_eq_true rfl, Nat.le_of_ble_eq_true rfl⟩) (Nat.le_of_ble_eq_true rfl) (by rw [Rm]; exact ⟨Nat.le_of_ble_eq_true rfl, Nat.le_of_ble_eq_true rfl⟩) rfl [0, 1, 2, 3, 4, 5] rfl (by decide) (by decide) d_Re_init_20 (fun am2 e2 => ?_)
  subst e2
  refine k_put (k := 1) C i_Re p_Re n_Re rfl rfl (by decide) k_166 rfl rfl rfl (p_Re 1 (by decide)) rfl rfl (Nat.le_of_ble_eq_true rfl) d_Re_init_23 ?_
  refine k_al C d_Re_init_26 ?_
  refine k_new (ci := 1) (fs := [.null, .null]) C i_Ra p_Ra k_93 (by decide +kernel) (by decide +kernel) rfl (fun j hj => by rcases (show j = 0 ∨ j = 1 by omega) with rfl | rfl <;> rfl) (by rw [Rm]; exact Nat.le_of_ble_eq_true rfl) (by rw [Rm]; exact Nat.le_of_ble_eq_true rfl) d_Re_init_27 (fun q3 => ?_)
  refine k_dup C rfl d_Re_init_30 ?_
  refine k_callN (host := "CellHeap") (n := 11) C c_Ra ⟨rfl, rfl⟩ k_97 k_5 (by decide +kernel) k_96 rfl (by decide +kernel) (by rw [Rm]; exact ⟨Nat.le_of_ble_eq_true rfl, Nat.le_of_ble_eq_true rfl⟩) (Nat.le_of_ble_eq_true rfl) (by rw [Rm]; exact ⟨Nat.le_of_ble_eq_true rfl, Nat.le_of_ble_eq_true rfl⟩) rfl [0, 1, 2, 3, 4, 5, 6, 7, 8, 9, 10] rfl (by decide) (by decide) d_Re_init_31 (fun am3 e3 => ?_)
  subst e3
  refine k_put (k := 2) C i_Re p_Re n_Re rfl rfl (by decide) k_168 rfl rfl rfl (p_Re 2 (by decide)) rfl rfl (Nat.le_of_ble_eq_true rfl) d_Re_init_34 ?_
  refine k_al C d_Re_init_37 ?_
  refine k_new (ci := 0) (fs := [.null, .int 0, .int 0]) C i_Wh p_Wh k_139 (by decide +kernel) (by decide +kernel) rfl (fun j hj => by rcases (show j = 0 ∨ j = 1 ∨ j = 2 by omega) with rfl | rfl | rfl <;> rfl) (by rw [Rm]; exact Nat.le_of_ble_eq_true rfl) (by rw [Rm]; exact Nat.le_of_ble_eq_true rfl) d_Re_init_38 (fun q4 => ?_)
  refine k_dup C rfl d_Re_init_41 ?_
  refine k_callN (host := "CellHeap") (n := 16) C c_Wh ⟨rfl, rfl⟩ k_103 k_6 (by decide +kernel) k_102 rfl (by decide +kernel) (by rw [Rm]; exact ⟨Nat.le_of_ble_eq_true rfl, Nat.le_of_ble_eq_true rfl⟩) (Nat.le_of_ble_eq_true rfl) (by rw [Rm]; exact ⟨Nat.le_of_ble_eq_true rfl, Nat.le_of_ble_eq_true rfl⟩) rfl [0, 1, 2, 3, 4, 5, 6, 7, 8, 9, 10, 11, 12, 13, 14, 15] rfl (by decide) (by decide) d_Re_init_42 (fun am4 e4 => ?_)
  subst e4
  refine k_put (k := 3) C i_Re p_Re n_Re rfl rfl (by decide) k_170 rfl rfl rfl (p_Re 3 (by decide)) rfl rfl (Nat.le_of_ble_eq_true rfl) d_Re_init_45 ?_
  refine k_al C d_Re_init_48 ?_
  refine k_new (ci := 0) (fs := [.null, .int 0, .int 0]) C i_Wh p_Wh k_139 (by decide +kernel) (by decide +kernel) rfl (fun j hj => by rcases (show j = 0 ∨ j = 1 ∨ j = 2 by omega) with rfl | rfl | rfl <;> rfl) (by rw [Rm]; exact Nat.le_of_ble_eq_true rfl) (by rw [Rm]; exact Nat.le_of_ble_eq_true rfl) d_Re_init_49 (fun q5 => ?_)
  refine k_dup C rfl d_Re_init_52 ?_
  refine k_callN (host := "CellHeap") (n := 18) C c_Wh ⟨rfl, rfl⟩ k_103 k_6 (by decide +kernel) k_102 rfl (by decide +kernel) (by rw [Rm]; exact ⟨Nat.le_of_ble_eq_true rfl, Nat.le_of_ble_eq_true rfl⟩) (Nat.le_of_ble_eq_true rfl) (by rw [Rm]; exact ⟨Nat.le_of_ble_eq_true rfl, Nat.le_of_ble_eq_true rfl⟩) rfl [0, 1, 2, 3, 4, 5, 6, 7, 8, 9, 10, 11, 12, 13, 14, 15, 16, 17] rfl (by decide) (by decide) d_Re_init_53 (fun am5 e5 => ?_)
  subst e5
  refine k_put (k := 4) C i_Re p_Re n_Re rfl rfl (by decide) k_171 rfl rfl rfl (p_Re 4 (by decide)) rfl rfl (Nat.le_of_ble_eq_true rfl) d_Re_init_56 ?_
  refine k_al C d_Re_init_59 ?_
  refine k_new (ci := 0) (fs := [.null, .int 0, .int 0]) C i_Wh p_Wh k_139 (by decide +kernel) (by decide +kernel) rfl (fun j hj => by rcases (show j = 0 ∨ j = 1 ∨ j = 2 by omega) with rfl | rfl | rfl <;> rfl) (by rw [Rm]; exact Nat.le_of_ble_eq_true rfl) (by rw [Rm]; exact Nat.le_of_ble_eq_true rfl) d_Re_init_60 (fun q6 => ?_)
  refine k_dup C rfl d_Re_init_63 ?_
  refine k_callN (host := "CellHeap") (n := 20) C c_Wh ⟨rfl, rfl⟩ k_103 k_6 (by decide +kernel) k_102 rfl (by decide +kernel) (by rw [Rm]; exact ⟨Nat.le_of_ble_eq_true rfl, Nat.le_of_ble_eq_true rfl⟩) (Nat.le_of_ble_eq_true rfl) (by rw [Rm]; exact ⟨Nat.le_of_ble_eq_true rfl, Nat.le_of_ble_eq_true rfl⟩) rfl [0, 1, 2, 3, 4, 5, 6, 7, 8, 9, 10, 11, 12, 13, 14, 15, 16, 17, 18, 19] rfl (by decide) (by decide) d_Re_init_64 (fun am6 e6 => ?_)
  subst e6
  refine k_put (k := 5) C i_Re p_Re n_Re rfl rfl (by decide) k_172 rfl rfl rfl (p_Re 5 (by decide)) rfl rfl (Nat.le_of_ble_eq_true rfl) d_Re_init_67 ?_
  refine k_al C d_Re_init_70 ?_
  refine k_new (ci := 2) (fs := [.null, .null, .null, .null]) C i_Di p_Di k_141 (by decide +kernel) (by decide +kernel) rfl (fun j hj => by rcases (show j = 0 ∨ j = 1 ∨ j = 2 ∨ j = 3 by omega) with rfl | rfl | rfl | rfl <;> rfl) (by rw [Rm]; exact Nat.le_of_ble_eq_true rfl) (by rw [Rm]; exact Nat.le_of_ble_eq_true rfl) d_Re_init_71 (fun q7 => ?_)
  refine k_dup C rfl d_Re_init_74 ?_
  refine k_callN (host := "CellHeap") (n := 22) C c_Di ⟨rfl, rfl⟩ k_145 k_7 (by decide +kernel) k_144 rfl (by decide +kernel) (by rw [Rm]; exact ⟨Nat.le_of_ble_eq_true rfl, Nat.le_of_ble_eq_true rfl⟩) (Nat.le_of_ble_eq_true rfl) (by rw [Rm]; exact ⟨Nat.le_of_ble_eq_true rfl, Nat.le_of_ble_eq_true rfl⟩) rfl [0, 1, 2, 3, 4, 5, 6, 7, 8, 9, 10, 11, 12, 13, 14, 15, 16, 17, 18, 19, 20, 21] rfl (by decide) (by decide) d_Re_init_75 (fun am7 e7 => ?_)
  subst e7
  refine k_put (k := 6) C i_Re p_Re n_Re rfl rfl (by decide) k_173 rfl rfl rfl (p_Re 6 (by decide)) rfl rfl (Nat.le_of_ble_eq_true rfl) d_Re_init_78 ?_
  exact fin (fun i => match i with | 0 => h0 | 1 => am1 0 | 2 => am1 1 | 3 => am1 2 | 4 => am1 3 | 5 => am1 4 | 6 => am2 0 | 7 => am2 1 | 8 => am2 2 | 9 => am2 3 | 10 => am2 4 | 11 => am3 0 | 12 => am3 1 | 13 => am3 2 | 14 => am3 3 | 15 => am3 4 | 16 => am4 0 | 17 => am4 1 | 18 => am5 0 | 19 => am5 1 | 20 => am6 0 | 21 => am6 1 | 22 => am7 0 | 23 => am7 1 | 24 => am7 2 | 25 => am7 3 | 26 => am7 4 | 27 => am7 5 | 28 => am7 6 | _ => 0) _ 81 d_Re_init_81 rfl rfl
set_option maxHeartbeats 4000000 in
set_option maxRecDepth 100000 in
theorem c_Ce : Kc y_Ce_init b_Ce_init ({ frames := 4, cells := 43, slots := 3493, locals := 72 } : Room) 43 3493 7 [.null, .null, .null, .null] S_Ce := by
  refine Kc.intro (by decide) rfl (fun X A h0 C Rm fin => ?_)
  refine k_al C d_Ce_init_0 ?_
  refine k_obj C k_32 (by rw [Rm]; exact ⟨Nat.le_of_ble_eq_true rfl, Nat.le_of_ble_eq_true rfl⟩) d_Ce_init_1 ?_
  refine k_al C d_Ce_init_4 ?_
  refine k_new (ci := 4) (fs := [.null, .null, .int 0, .int 0, .null, .null, .null, .int 0]) C i_He p_He k_35 (by decide +kernel) (by decide +kernel) rfl (fun j hj => by rcases (show j = 0 ∨ j = 1 ∨ j = 2 ∨ j = 3 ∨ j = 4 ∨ j = 5 ∨ j = 6 ∨ j = 7 by omega) with rfl | rfl | rfl | rfl | rfl | rfl | rfl | rfl <;> rfl) (by rw [Rm]; exact Nat.le_of_ble_eq_true rfl) (by rw [Rm]; exact Nat.le_of_ble_eq_true rfl) d_Ce_init_5 (fun q1 => ?_)
  refine k_dup C rfl d_Ce_init_8 ?_
  refine k_callN (host := "CellHeap") (n := 1) C c_He ⟨rfl, rfl⟩ k_39 k_2 (by decide +kernel) k_38 rfl (by decide +kernel) (by rw [Rm]; exact ⟨Nat.le_of_ble_eq_true rfl, Nat.le_of_ble_eq_true rfl⟩) (Nat.le_of_ble_eq_true rfl) (by rw [Rm]; exact ⟨Nat.le_of_ble_eq_true rfl, Nat.le_of_ble_eq_true rfl⟩) rfl [0] rfl (by decide) (by decide) d_Ce_init_9 (fun am1 e1 => ?_)
  subst e1
  refine k_put (k := 0) C i_Ce p_Ce n_Ce rfl rfl (by decide) k_221 rfl rfl rfl (p_Ce 0 (by decide)) rfl rfl (Nat.le_of_ble_eq_true rfl) d_Ce_init_12 ?_
  refine k_al C d_Ce_init_15 ?_
  refine k_new (ci := 5) (fs := [.null, .int 0]) C i_Li p_Li k_72 (by decide +kernel) (by decide +kernel) rfl (fun j hj => by rcases (show j = 0 ∨ j = 1 by omega) with rfl | rfl <;> rfl) (by rw [Rm]; exact Nat.le_of_ble_eq_true rfl) (by rw [Rm]; exact Nat.le_of_ble_eq_true rfl) d_Ce_init_16 (fun q2 => ?_)
  refine k_dup C rfl d_Ce_init_19 ?_
  refine k_callN (host := "CellHeap") (n := 7) C c_Li ⟨rfl, rfl⟩ k_76 k_3 (by decide +kernel) k_75 rfl (by decide +kernel) (by rw [Rm]; exact ⟨Nat.le_of_ble_eq_true rfl, Nat.le_of_ble_eq_true rfl⟩) (Nat.le_of_ble_eq_true rfl) (by rw [Rm]; exact ⟨Nat.le_of_ble_eq_true rfl, Nat.le_of_ble_eq_true rfl⟩) rfl [0, 1, 2, 3, 4, 5, 6] rfl (by decide) (by decide) d_Ce_init_20 (fun am2 e2 => ?_)
  subst e2
  refine k_put (k := 1) C i_Ce p_Ce n_Ce rfl rfl (by decide) k_222 rfl rfl rfl (p_Ce 1 (by decide)) rfl rfl (Nat.le_of_ble_eq_true rfl) d_Ce_init_23 ?_
  refine k_al C d_Ce_init_26 ?_
  refine k_new (ci := 3) (fs := [.null, .null, .null, .null, .null, .null, .null]) C i_Re p_Re k_87 (by decide +kernel) (by decide +kernel) rfl (fun j hj => by rcases (show j = 0 ∨ j = 1 ∨ j = 2 ∨ j = 3 ∨ j = 4 ∨ j = 5 ∨ j = 6 by omega) with rfl | rfl | rfl | rfl | rfl | rfl | rfl <;> rfl) (by rw [Rm]; exact Nat.le_of_ble_eq_true rfl) (by rw [Rm]; exact Nat.le_of_ble_eq_true rfl) d_Ce_init_27 (fun q3 => ?_)
  refine k_dup C rfl d_Ce_init_30 ?_
  refine k_callN (host := "CellHeap") (n := 9) C c_Re ⟨rfl, rfl⟩ k_91 k_4 (by decide +kernel) k_90 rfl (by decide +kernel) (by rw [Rm]; exact ⟨Nat.le_of_ble_eq_true rfl, Nat.le_of_ble_eq_true rfl⟩) (Nat.le_of_ble_eq_true rfl) (by rw [Rm]; exact ⟨Nat.le_of_ble_eq_true rfl, Nat.le_of_ble_eq_true rfl⟩) rfl [0, 1, 2, 3, 4, 5, 6, 7, 8] rfl (by decide) (by decide) d_Ce_init_31 (fun am3 e3 => ?_)
  subst e3
  refine k_put (k := 2) C i_Ce p_Ce n_Ce rfl rfl (by decide) k_223 rfl rfl rfl (p_Ce 2 (by decide)) rfl rfl (Nat.le_of_ble_eq_true rfl) d_Ce_init_34 ?_
  refine k_al C d_Ce_init_37 ?_
  refine k_new (ci := 6) (fs := [.null, .int 0, .int 0, .null, .int 0, .null, .null]) C i_Pr p_Pr k_189 (by decide +kernel) (by decide +kernel) rfl (fun j hj => by rcases (show j = 0 ∨ j = 1 ∨ j = 2 ∨ j = 3 ∨ j = 4 ∨ j = 5 ∨ j = 6 by omega) with rfl | rfl | rfl | rfl | rfl | rfl | rfl <;> rfl) (by rw [Rm]; exact Nat.le_of_ble_eq_true rfl) (by rw [Rm]; exact Nat.le_of_ble_eq_true rfl) d_Ce_init_38 (fun q4 => ?_)
  refine k_dup C rfl d_Ce_init_41 ?_
  refine k_callN (host := "CellHeap") (n := 38) C c_Pr ⟨rfl, rfl⟩ k_193 k_8 (by decide +kernel) k_192 rfl (by decide +kernel) (by rw [Rm]; exact ⟨Nat.le_of_ble_eq_true rfl, Nat.le_of_ble_eq_true rfl⟩) (Nat.le_of_ble_eq_true rfl) (by rw [Rm]; exact ⟨Nat.le_of_ble_eq_true rfl, Nat.le_of_ble_eq_true rfl⟩) rfl [0, 1, 2, 3, 4, 5, 6, 7, 8, 9, 10, 11, 12, 13, 14, 15, 16, 17, 18, 19, 20, 21, 22, 23, 24, 25, 26, 27, 28, 29, 30, 31, 32, 33, 34, 35, 36, 37] rfl (by decide) (by decide) d_Ce_init_42 (fun am4 e4 => ?_)
  subst e4
  refine k_put (k := 3) C i_Ce p_Ce n_Ce rfl rfl (by decide) k_224 rfl rfl rfl (p_Ce 3 (by decide)) rfl rfl (Nat.le_of_ble_eq_true rfl) d_Ce_init_45 ?_
  exact fin (fun i => match i with | 0 => h0 | 1 => am1 0 | 2 => am1 1 | 3 => am1 2 | 4 => am1 3 | 5 => am1 4 | 6 => am1 5 | 7 => am2 0 | 8 => am2 1 | 9 => am3 0 | 10 => am3 1 | 11 => am3 2 | 12 => am3 3 | 13 => am3 4 | 14 => am3 5 | 15 => am3 6 | 16 => am3 7 | 17 => am3 8 | 18 => am3 9 | 19 => am3 10 | 20 => am3 11 | 21 => am3 12 | 22 => am3 13 | 23 => am3 14 | 24 => am3 15 | 25 => am3 16 | 26 => am3 17 | 27 => am3 18 | 28 => am3 19 | 29 => am3 20 | 30 => am3 21 | 31 => am3 22 | 32 => am3 23 | 33 => am3 24 | 34 => am3 25 | 35 => am3 26 | 36 => am3 27 | 37 => am3 28 | 38 => am4 0 | 39 => am4 1 | 40 => am4 2 | 41 => am4 3 | 42 => am4 4 | 43 => am4 5 | _ => 0) _ 48 d_Ce_init_48 rfl rfl
