/-! The class' calls, where they throw. -/
theorem th_range {n : Nat} {v : Int32} {h : HP} (hn : n < 1000) (hv : ¬ isn (n + 1) v) : X_Ce_checkRange E_arg [.int v, .int (nI n)] h :=
  IX_Ce_checkRange (fun X C D Rm => x_Ce_checkRange C D Rm ⟨fun _ => trivial, fun z => ⟨fun y => hv ((isn_iff hn).mpr ⟨z, Int32.not_lt.mpr y⟩), fun _ => trivial⟩⟩)
theorem ckN {n : Nat} {v : Int32} {h : HP} {T : Prop} (hn : n < 1000) (hT : isn (n + 1) v → T) : (K_Ce_checkRange [.int v, .int (nI n)] h (fun h1 => h1 = h ∧ T)) ∨ X_Ce_checkRange E_arg [.int v, .int (nI n)] h := by
  by_cases q : isn (n + 1) v
  · exact Or.inl (s_ckn hn q ⟨rfl, hT q⟩)
  · exact Or.inr (th_range hn q)
theorem th_reg {v : Int32} {h : HP} (hv : ¬ isr v) : X_Ce_checkRegister E_arg [.int v] h :=
  IX_Ce_checkRegister (fun X C D Rm => x_Ce_checkRegister C D Rm (ckN (n := 7) (by omega) hv))
theorem ckD {v : Int32} {h : HP} {T : Prop} (hT : isr v → T) : (K_Ce_checkRegister [.int v] h (fun h1 => h1 = h ∧ T)) ∨ X_Ce_checkRegister E_arg [.int v] h := by
  by_cases q : isr v
  · obtain ⟨a, ha, rfl⟩ := q
    exact Or.inl (s_ckr ha ⟨rfl, hT ⟨a, ha, rfl⟩⟩)
  · exact Or.inr (th_reg q)
theorem th_nil {x : Int32} {h : HP} (hb : ¬ isr x) : X_Ce_nil E_arg [.ref 14, .int x] h := IX_Ce_nil (fun X C D Rm => x_Ce_nil C D Rm (ckD hb))
theorem th_load {x : Int32} {z : Int64} {h : HP} (hb : ¬ isr x) : X_Ce_load E_arg [.ref 14, .int x, .long z] h := IX_Ce_load (fun X C D Rm => x_Ce_load C D Rm (ckD hb))
theorem th_copy {x y : Int32} {h : HP} (hb : ¬ (isr x ∧ isr y)) : X_Ce_copy E_arg [.ref 14, .int x, .int y] h := IX_Ce_copy (fun X C D Rm => x_Ce_copy C D Rm (ckD (fun q => ckD (fun q2 => hb ⟨q, q2⟩))))
theorem th_cons {x y z : Int32} {h : HP} (hb : ¬ (isr x ∧ isr y ∧ isr z)) : X_Ce_cons E_arg [.ref 14, .int x, .int y, .int z] h := IX_Ce_cons (fun X C D Rm => x_Ce_cons C D Rm (ckD (fun q => ckD (fun q2 => ckD (fun q3 => hb ⟨q, q2, q3⟩)))))
theorem th_part {x y b : Int32} {h : HP} (hb : ¬ (isr x ∧ isr y)) : X_Ce_part E_arg [.ref 14, .int x, .int y, .int b] h := IX_Ce_part (fun X C D Rm => x_Ce_part C D Rm (ckD (fun q => ckD (fun q2 => hb ⟨q, q2⟩))))
theorem th_change {x y b : Int32} {h : HP} (hb : ¬ (isr x ∧ isr y)) : X_Ce_change E_arg [.ref 14, .int x, .int b, .int y] h := IX_Ce_change (fun X C D Rm => x_Ce_change C D Rm (ckD (fun q => ckD (fun q2 => hb ⟨q, q2⟩))))
theorem th_work {x y z w : Int32} {h : HP} (hb : ¬ (isr x ∧ isr y ∧ isr z ∧ isn 7 w)) : X_Ce_work E_arg [.ref 14, .int x, .int y, .int z, .int w] h := IX_Ce_work (fun X C D Rm => x_Ce_work C D Rm (ckD (fun q => ckD (fun q2 => ckD (fun q3 => ckN (n := 6) (by omega) (fun q4 => hb ⟨q, q2, q3, q4⟩))))))
theorem th_compare {x y : Int32} {h : HP} (hb : ¬ (isr x ∧ isr y)) : X_Ce_compare E_arg [.ref 14, .int x, .int y] h := IX_Ce_compare (fun X C D Rm => x_Ce_compare C D Rm (ckD (fun q => ckD (fun q2 => hb ⟨q, q2⟩))))
theorem th_same {x y : Int32} {h : HP} (hb : ¬ (isr x ∧ isr y)) : X_Ce_same E_arg [.ref 14, .int x, .int y] h := IX_Ce_same (fun X C D Rm => x_Ce_same C D Rm (ckD (fun q => ckD (fun q2 => hb ⟨q, q2⟩))))
theorem th_read {x : Int32} {h : HP} (hb : ¬ isr x) : X_Ce_read E_arg [.ref 14, .int x] h := IX_Ce_read (fun X C D Rm => x_Ce_read C D Rm (ckD hb))
theorem th_write {x : Int32} {h : HP} (hb : ¬ isr x) : X_Ce_write E_arg [.ref 14, .int x] h := IX_Ce_write (fun X C D Rm => x_Ce_write C D Rm (ckD hb))
theorem th_value {x y : Int32} {h : HP} (hb : ¬ (isr x ∧ isn 4 y)) : X_Ce_value E_arg [.ref 14, .int x, .int y] h := IX_Ce_value (fun X C D Rm => x_Ce_value C D Rm (ckD (fun q => ckN (n := 3) (by omega) (fun q2 => hb ⟨q, q2⟩))))
theorem th_count {x : Int32} {h : HP} (hb : ¬ isn 4 x) : X_Ce_count E_arg [.ref 14, .int x] h := IX_Ce_count (fun X C D Rm => x_Ce_count C D Rm (ckN (n := 3) (by omega) hb))
theorem th_type {L : List Nat} {a b c d e : Int32} {h : HP} (P : PL h L) (hb : 200 < L.length + (tys a b c d e).length) : X_Ce_type E_sta [.ref 14, .int a, .int b, .int c, .int d, .int e] h := by
  have tl := tys_len a b c d e
  have ba := bys_len a
  have bb := bys_len b
  have bc := bys_len c
  have bd := bys_len d
  have be := bys_len e
  have hl := P.1
  refine IX_Ce_type (fun X C D Rm => x_Ce_type C D Rm (s_charactersIn ⟨rfl, s_charactersIn ⟨rfl, s_charactersIn ⟨rfl, s_charactersIn ⟨rfl, s_charactersIn ⟨rfl, fun z => ?_, fun _ => trivial⟩⟩⟩⟩⟩))
  rw [P.2.1, nI_add, nI_add, nI_add, nI_add, nI_add, show (200 : Int32) = nI 200 from rfl, nI_leI (by omega) (by omega)] at z
  omega
