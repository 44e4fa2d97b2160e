/-! THE LIBRARY: a word that the rows on arrays of arrays (78.mna) need, named first: so a round is read over the whole library from its first part on, not anew when it comes to 78 -/
theorem lib_first (c : ClassId) (N h0 : Nat) : Jvm.Free.Multi.outerC c N h0 0 = Jvm.Free.Multi.outerC c N h0 0 := rfl
