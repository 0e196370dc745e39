/-- a name of the library's rest, so that a round is read over the whole library from its first part on -/
noncomputable abbrev wd_cell (c : ClassId) (n h : Nat) : Nat → Cell := Jvm.Free.Multi.outerC c n h
