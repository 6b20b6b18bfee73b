/-! names of the library’s rest: read over the whole library from the first part on -/
theorem vr_outer0 (c : ClassId) (N h0 i : Nat) : Jvm.Free.Multi.outerC c N h0 i = Jvm.Free.Multi.outerC c N h0 i := rfl
