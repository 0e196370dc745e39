/-- a name of the library's rest, so that a round is read over the whole library from its first part on -/
abbrev wd_thr : String := Bundle.tN
