/-! The classes of arrays. -/
theorem arr_of {args : Array Value} {s : State} {ty : FieldType} (h : (Cond.arrayClass ty).before args s = true) : ∃ cA : ClassId, s.vm.findClass ("[" ++ ty.toString) = some cA ∧ ArrOfT s cA ty := by
  obtain ⟨cA, kA, comp, h1, h2, h3⟩ := Cond.arrayClass_spec h
  exact ⟨cA, h1, fun n z => ⟨fun k h => (by cases h), kA, h2, comp, h3⟩⟩
theorem XNk_in : ∀ w ∈ XNk, w ∈ lw_tbl ∧ w.onTables = true := by decide +kernel
theorem XNw_in : ∀ w ∈ XNw, w ∈ lw_tbl ∧ w.onTables = true := by decide +kernel
theorem NK_of {args : Array Value} {s : State} (hts : ∀ w ∈ lw_tbl, w.before args s = true) : NK s := fun w hw => va_Nw.of (XNk_in w hw).2 (hts w (XNk_in w hw).1)
theorem NW_of {args : Array Value} {s : State} (hts : ∀ w ∈ lw_tbl, w.before args s = true) : NW s := fun w hw => va_Nw.of (XNw_in w hw).2 (hts w (XNw_in w hw).1)
