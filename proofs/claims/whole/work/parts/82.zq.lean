/-! The statics that a throw looks at. -/
theorem Zq_of {G : WG} {s : State} {b : Nat} (hts : ∀ w ∈ lw_tbl, w.before #[Value.ref b] s = true) (hgv : (Jvm.Cond.and given_1 narrow_1).before #[Value.ref b] s = true) (hbase : s.heap.size ≤ G.2.2.2) : Zq G s s.heap := by
  have hA : ∀ a : Nat, a < s.heap.size → ¬ Ga G a := fun a h1 h2 => by
    have h2 : G.2.2.2 ≤ a := h2
    omega
  have hq := flat_of_before _ hgv
  exact ⟨vx_Zqof (hts _ (by decide +kernel)) (hts _ (by decide +kernel)) (hq _ (by decide +kernel)) hA, vx_Zqof (hts _ (by decide +kernel)) (hts _ (by decide +kernel)) (hq _ (by decide +kernel)) hA⟩
