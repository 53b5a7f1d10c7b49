/-! The world at the beginning. -/
def A0 : AS := ((0, fun _ => .inl 0), ((fun _ => none), 0))
theorem A0_WF : WF A0 := ⟨Nat.zero_le _, fun k hk => absurd hk (Nat.not_lt_zero k), fun _ _ => trivial⟩
theorem IV0 : IV (fun _ _ => 0) := by
  have e0 : (0 : Int32) = nI 0 := rfl
  refine ⟨A0, [], [], ⟨⟨A0_WF, e0, e0, fun _ _ => rfl, fun k hk => absurd hk (Nat.not_lt_zero k)⟩, ⟨Nat.zero_le _, e0, fun i c z => nomatch z⟩, ⟨Nat.zero_le _, e0, fun i c z => nomatch z⟩, ⟨Or.inl rfl, Or.inl rfl⟩⟩, id, A0_WF, ⟨⟨fun i _ hi => absurd hi (Nat.not_lt_zero i), fun k hk => absurd hk (Nat.not_lt_zero k), fun _ _ _ => rfl, e0, e0, e0⟩, fun _ _ => rfl⟩, ⟨Nat.zero_le _, e0, fun i c z => nomatch z⟩, ⟨Nat.zero_le _, e0, fun i c z => nomatch z⟩⟩
