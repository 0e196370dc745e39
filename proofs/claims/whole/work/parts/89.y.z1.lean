/-! an application, one name -/
def TGs (n : Nat) (r : List Itm) (ap : Nat) (g h : Nat → Option Pt) (tag : Nat → Nat → Nat × Nat) : Prop := (∀ v k, Dst r v k → v < n ∧ (tag v k).1 ≠ r.length ∧ (tag v k).1 ≠ r.length + 1) ∧ (ap < n ∧ tag ap 1 = (r.length, 0)) ∧ (∀ j p, g j = some p → p.1 < n ∧ tag p.1 p.2 = (r.length, j + 1)) ∧ ∀ j p, h j = some p → p.1 < n ∧ tag p.1 p.2 = (r.length + 1, j + 1)
theorem TGs.ny {n : Nat} {r : List Itm} {ap : Nat} {g h : Nat → Option Pt} {tag : Nat → Nat → Nat × Nat} (T : TGs n r ap g h tag) {i : Nat} {y : Pt} (hi : h i = some y) {v k : Nat} (q : Dst r v k ∨ (v = ap ∧ k = 1) ∨ (∃ j, g j = some (v, k)) ∨ ∃ j, j ≠ i ∧ h j = some (v, k)) : v < n ∧ ¬ (v = y.1 ∧ k = y.2) := by
  obtain ⟨t1, t2, t3, t4⟩ := T
  have ty := (t4 i y hi).2
  have key : v < n ∧ tag v k ≠ (r.length + 1, i + 1) := by
    rcases q with q | ⟨q1, q2⟩ | ⟨j, q⟩ | ⟨j, nj, q⟩
    · obtain ⟨a1, a2, a3⟩ := t1 v k q
      exact ⟨a1, fun z => a3 (by rw [z])⟩
    · rw [q1, q2, t2.2]
      exact ⟨t2.1, fun z => absurd (congrArg Prod.snd z) (by show ¬ (0 : Nat) = i + 1; omega)⟩
    · obtain ⟨a1, a2⟩ := t3 j _ q
      have a2 : tag v k = (r.length, j + 1) := a2
      rw [a2]
      exact ⟨a1, fun z => absurd (congrArg Prod.fst z) (by show ¬ r.length = r.length + 1; omega)⟩
    · obtain ⟨a1, a2⟩ := t4 j _ q
      have a2 : tag v k = (r.length + 1, j + 1) := a2
      rw [a2]
      refine ⟨a1, fun z => nj ?_⟩
      have : j + 1 = i + 1 := congrArg Prod.snd z
      omega
  exact ⟨key.1, fun z => key.2 (by rw [z.1, z.2]; exact ty)⟩
theorem TGs.nz {n : Nat} {r : List Itm} {ap : Nat} {g h : Nat → Option Pt} {tag : Nat → Nat → Nat × Nat} (T : TGs n r ap g h tag) {i : Nat} {y : Pt} (hi : g i = some y) {v k : Nat} (q : Dst r v k ∨ (v = ap ∧ k = 1) ∨ (∃ j, j ≠ i ∧ g j = some (v, k)) ∨ ∃ j, h j = some (v, k)) : v < n ∧ ¬ (v = y.1 ∧ k = y.2) := by
  obtain ⟨t1, t2, t3, t4⟩ := T
  have ty := (t3 i y hi).2
  have key : v < n ∧ tag v k ≠ (r.length, i + 1) := by
    rcases q with q | ⟨q1, q2⟩ | ⟨j, nj, q⟩ | ⟨j, q⟩
    · obtain ⟨a1, a2, a3⟩ := t1 v k q
      exact ⟨a1, fun z => a2 (by rw [z])⟩
    · rw [q1, q2, t2.2]
      exact ⟨t2.1, fun z => absurd (congrArg Prod.snd z) (by show ¬ (0 : Nat) = i + 1; omega)⟩
    · obtain ⟨a1, a2⟩ := t3 j _ q
      have a2 : tag v k = (r.length, j + 1) := a2
      rw [a2]
      refine ⟨a1, fun z => nj ?_⟩
      have : j + 1 = i + 1 := congrArg Prod.snd z
      omega
    · obtain ⟨a1, a2⟩ := t4 j _ q
      have a2 : tag v k = (r.length + 1, j + 1) := a2
      rw [a2]
      exact ⟨a1, fun z => absurd (congrArg Prod.fst z) (by show ¬ r.length + 1 = r.length; omega)⟩
  exact ⟨key.1, fun z => key.2 (by rw [z.1, z.2]; exact ty)⟩
theorem AP_set1 {n : Nat} {r : List Itm} {ap : Nat} {g h : Nat → Option Pt} {tag : Nat → Nat → Nat × Nat} (T : TGs n r ap g h tag) {i : Nat} {y : Pt} (gi : g i = none) (hi : h i = some y) : (fun v k => (DL r ap g h v k ∨ (v = n ∧ k < nP 4)) ∧ ¬ (v = n ∧ k = 1) ∧ ¬ (v = y.1 ∧ k = y.2)) = DL r ap (updO g i (some (n, 0))) (updO h i none) := by
  funext v k
  have yn := (T.2.2.2 i y hi).1
  refine propext ⟨fun ⟨q1, q3, q4⟩ => ?_, fun q => ?_⟩
  · rcases q1 with (q | q | ⟨j, q⟩ | ⟨j, q⟩) | ⟨q1, q2⟩
    · exact Or.inl q
    · exact Or.inr (Or.inl q)
    · exact Or.inr (Or.inr (Or.inl ⟨j, by rw [updO_ne (fun z => by rw [z, gi] at q; cases q)]; exact q⟩))
    · refine Or.inr (Or.inr (Or.inr ⟨j, ?_⟩))
      rw [updO_ne (fun z => ?_)]
      · exact q
      · rw [z, hi] at q
        have q := Option.some.inj q
        exact q4 ⟨(congrArg Prod.fst q).symm, (congrArg Prod.snd q).symm⟩
    · have q2 : k < 2 := q2
      have : k = 0 := Classical.byContradiction fun z => q3 ⟨q1, by omega⟩
      exact Or.inr (Or.inr (Or.inl ⟨i, by rw [updO_eq, q1, this]⟩))
  · rcases q with q | q | ⟨j, q⟩ | ⟨j, q⟩
    · obtain ⟨a1, a2⟩ := T.ny hi (Or.inl q)
      exact ⟨Or.inl (Or.inl q), fun z => by omega, a2⟩
    · obtain ⟨a1, a2⟩ := T.ny hi (Or.inr (Or.inl q))
      exact ⟨Or.inl (Or.inr (Or.inl q)), fun z => by omega, a2⟩
    · by_cases z : j = i
      · rw [z, updO_eq] at q
        have q := Option.some.inj q
        have q1 : n = v := congrArg Prod.fst q
        have q2 : 0 = k := congrArg Prod.snd q
        exact ⟨Or.inr ⟨q1.symm, by rw [← q2]; decide⟩, fun z => by omega, fun z => by omega⟩
      · rw [updO_ne z] at q
        obtain ⟨a1, a2⟩ := T.ny hi (v := v) (k := k) (Or.inr (Or.inr (Or.inl ⟨j, q⟩)))
        exact ⟨Or.inl (Or.inr (Or.inr (Or.inl ⟨j, q⟩))), fun z => by omega, a2⟩
    · by_cases z : j = i
      · rw [z, updO_eq] at q; cases q
      · rw [updO_ne z] at q
        obtain ⟨a1, a2⟩ := T.ny hi (v := v) (k := k) (Or.inr (Or.inr (Or.inr ⟨j, z, q⟩)))
        exact ⟨Or.inl (Or.inr (Or.inr (Or.inr ⟨j, q⟩))), fun z => by omega, a2⟩
theorem AP_set2 {n : Nat} {r : List Itm} {ap : Nat} {g h : Nat → Option Pt} {tag : Nat → Nat → Nat × Nat} (T : TGs n r ap g h tag) {i : Nat} {y z0 : Pt} (gi : g i = some z0) (hi : h i = some y) : (fun v k => ((((DL r ap g h v k ∨ (v = n ∧ k < nP 4)) ∧ ¬ (v = n ∧ k = 1) ∧ ¬ (v = y.1 ∧ k = y.2)) ∨ (v = n + 1 ∧ k < nP 2)) ∧ ¬ (v = n + 1 ∧ k = 1) ∧ ¬ (v = z0.1 ∧ k = z0.2)) ∧ ¬ (v = n + 1 ∧ k = 2) ∧ ¬ (v = n ∧ k = 0)) = DL r ap (updO g i (some (n + 1, 0))) (updO h i none) := by
  funext v k
  have yn := (T.2.2.2 i y hi).1
  have zn := (T.2.2.1 i z0 gi).1
  refine propext ⟨fun ⟨⟨q1, q3, q4⟩, q5, q6⟩ => ?_, fun q => ?_⟩
  · rcases q1 with ⟨(q | q | ⟨j, q⟩ | ⟨j, q⟩) | ⟨q1, q2⟩, q7, q8⟩ | ⟨q1, q2⟩
    · exact Or.inl q
    · exact Or.inr (Or.inl q)
    · refine Or.inr (Or.inr (Or.inl ⟨j, ?_⟩))
      rw [updO_ne (fun z => ?_)]
      · exact q
      · rw [z, gi] at q
        have q := Option.some.inj q
        exact q4 ⟨(congrArg Prod.fst q).symm, (congrArg Prod.snd q).symm⟩
    · refine Or.inr (Or.inr (Or.inr ⟨j, ?_⟩))
      rw [updO_ne (fun z => ?_)]
      · exact q
      · rw [z, hi] at q
        have q := Option.some.inj q
        exact q8 ⟨(congrArg Prod.fst q).symm, (congrArg Prod.snd q).symm⟩
    · exfalso
      have q2 : k < 2 := q2
      have : k = 0 := Classical.byContradiction fun z => q7 ⟨q1, by omega⟩
      exact q6 ⟨q1, this⟩
    · have q2 : k < 3 := q2
      have : k = 0 := Classical.byContradiction fun z => by
        have : k = 1 ∨ k = 2 := by omega
        rcases this with y | y
        · exact q3 ⟨q1, y⟩
        · exact q5 ⟨q1, y⟩
      exact Or.inr (Or.inr (Or.inl ⟨i, by rw [updO_eq, q1, this]⟩))
  · have fin : v < n → DL r ap g h v k → ¬ (v = y.1 ∧ k = y.2) → ¬ (v = z0.1 ∧ k = z0.2) → ((((DL r ap g h v k ∨ (v = n ∧ k < nP 4)) ∧ ¬ (v = n ∧ k = 1) ∧ ¬ (v = y.1 ∧ k = y.2)) ∨ (v = n + 1 ∧ k < nP 2)) ∧ ¬ (v = n + 1 ∧ k = 1) ∧ ¬ (v = z0.1 ∧ k = z0.2)) ∧ ¬ (v = n + 1 ∧ k = 2) ∧ ¬ (v = n ∧ k = 0) := fun a1 a2 a3 a4 => ⟨⟨Or.inl ⟨Or.inl a2, fun z => by omega, a3⟩, fun z => by omega, a4⟩, fun z => by omega, fun z => by omega⟩
    rcases q with q | q | ⟨j, q⟩ | ⟨j, q⟩
    · obtain ⟨a1, a2⟩ := T.ny hi (Or.inl q)
      exact fin a1 (Or.inl q) a2 (T.nz gi (Or.inl q)).2
    · obtain ⟨a1, a2⟩ := T.ny hi (Or.inr (Or.inl q))
      exact fin a1 (Or.inr (Or.inl q)) a2 (T.nz gi (Or.inr (Or.inl q))).2
    · by_cases z : j = i
      · rw [z, updO_eq] at q
        have q := Option.some.inj q
        have q1 : n + 1 = v := congrArg Prod.fst q
        have q2 : 0 = k := congrArg Prod.snd q
        exact ⟨⟨Or.inr ⟨q1.symm, by rw [← q2]; decide⟩, fun z => by omega, fun z => by omega⟩, fun z => by omega, fun z => by omega⟩
      · rw [updO_ne z] at q
        obtain ⟨a1, a2⟩ := T.ny hi (v := v) (k := k) (Or.inr (Or.inr (Or.inl ⟨j, q⟩)))
        exact fin a1 (Or.inr (Or.inr (Or.inl ⟨j, q⟩))) a2 (T.nz gi (Or.inr (Or.inr (Or.inl ⟨j, z, q⟩)))).2
    · by_cases z : j = i
      · rw [z, updO_eq] at q; cases q
      · rw [updO_ne z] at q
        obtain ⟨a1, a2⟩ := T.ny hi (v := v) (k := k) (Or.inr (Or.inr (Or.inr ⟨j, z, q⟩)))
        exact fin a1 (Or.inr (Or.inr (Or.inr ⟨j, q⟩))) a2 (T.nz gi (Or.inr (Or.inr (Or.inr ⟨j, q⟩)))).2
