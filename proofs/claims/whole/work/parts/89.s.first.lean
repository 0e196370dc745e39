/-! the first graph: which way a walk can go in it -/
def outP (K q : Nat) : Prop := (K = 0 ∧ q = 1) ∨ (K = 1 ∧ q ≠ 1) ∨ (2 ≤ K ∧ q = 0)
/-- names at the ports of a node: xh the index of a name's abstraction, be its node -/
def EnN (G : Gr) (E : Nat → Nat → Nat → Prop) (xh be : Nat → Nat) (U : Nat → Prop) (v : Nat) : Prop :=
  (G.1 v = 0 → ∃ i, U i ∧ be i = v ∧ xh i = G.2.1 v ∧ (∀ j, E v 2 j ↔ j = i) ∧ (∀ j, E v 1 j → j = i ∨ E v 0 j) ∧ (∀ j, E v 0 j → xh j ≤ G.2.1 v)) ∧
  (G.1 v = 1 → (∀ j, E v 0 j → E v 1 j) ∧ (∀ j, E v 2 j → E v 1 j) ∧ ∀ j, E v 1 j → xh j ≤ G.2.1 v) ∧
  (isC (G.1 v) → ∃ i, (∀ k j, E v k j ↔ j = i) ∧ xh i ≤ G.2.1 v) ∧
  (G.1 v = 6 → ∀ j, ¬ E v 0 j)
def FL (n : Nat) (G : Gr) (E : Nat → Nat → Nat → Prop) (xh be : Nat → Nat) (U : Nat → Prop) : Prop := GVr n G ∧ (∀ v, v < n → EnN G E xh be U v) ∧ ∀ v k, v < n → k < nP (G.1 v) → (∀ j, E (G.2.2.1 v k) (G.2.2.2 v k) j ↔ E v k j) ∧ (outP (G.1 v) k ↔ ¬ outP (G.1 (G.2.2.1 v k)) (G.2.2.2 v k))
theorem FL_WG {n : Nat} {G : Gr} {E : Nat → Nat → Nat → Prop} {xh be : Nat → Nat} {U : Nat → Prop} (h : FL n G E xh be U) : WG G := by
  obtain ⟨hG, hN, hW⟩ := h
  obtain ⟨P, eP⟩ : ∃ P : Ts → Prop, P = fun s => s.1 < n ∧ s.2.1 < nP (G.1 s.1) ∧ outP (G.1 s.1) s.2.1 ∧ ∀ i, E s.1 s.2.1 i → ∃ ce, (be i, ce) ∈ s.2.2.2 ∧ agr (xh i) ce s.2.2.1 := ⟨_, rfl⟩
  have at_ : ∀ v k cx H, P (v, k, cx, H) → G.2.2.1 v k < n ∧ G.2.2.2 v k < nP (G.1 (G.2.2.1 v k)) ∧ ¬ outP (G.1 (G.2.2.1 v k)) (G.2.2.2 v k) ∧ ∀ i, E (G.2.2.1 v k) (G.2.2.2 v k) i → ∃ ce, (be i, ce) ∈ H ∧ agr (xh i) ce cx := by
    intro v k cx H hp
    rw [eP] at hp
    obtain ⟨p1, p2, p3, p4⟩ := hp
    obtain ⟨g1, g2, -⟩ := hG.1 v k p1 p2
    obtain ⟨w1, w2⟩ := hW v k p1 p2
    exact ⟨g1, g2, w2.mp p3, fun i hi => p4 i ((w1 i).mp hi)⟩
  have cl : TCl G P := by
    refine ⟨fun cx => ?_, fun v k cx H hp k0 q0 cy ha => ?_, fun v k cx H hp k1 q1 cy ha => ?_, fun v k cx H hp kc qa => ?_, fun v k cx H hp kc q0 => ?_⟩
    · rw [eP]
      refine ⟨hG.2.2, by show 0 < nP (G.1 0); rw [hG.2.1]; decide, Or.inr (Or.inr ⟨by show 2 ≤ G.1 0; rw [hG.2.1]; decide, rfl⟩), fun i hi => ?_⟩
      exact absurd hi ((hN 0 hG.2.2).2.2.2 hG.2.1 i)
    · obtain ⟨w, ew⟩ : ∃ w, w = G.2.2.1 v k := ⟨_, rfl⟩
      obtain ⟨a1, a2, a3, a4⟩ := at_ v k cx H hp
      rw [q0] at a4
      rw [← ew] at k0 ha a1 a4 ⊢
      obtain ⟨i, u1, u2, u3, u4, u5, u6⟩ := (hN w a1).1 k0
      rw [eP]
      refine ⟨a1, by show 1 < nP (G.1 w); rw [k0]; decide, Or.inl ⟨k0, rfl⟩, fun j hj => ?_⟩
      have hj : E w 1 j := hj
      by_cases c : j = i
      · rw [c, u2, u3]
        exact ⟨cx, List.mem_cons_self .., ha.symm⟩
      · have hj0 := (u5 j hj).resolve_left c
        obtain ⟨ce, c1, c2⟩ := a4 j hj0
        have := u6 j hj0
        exact ⟨ce, List.mem_cons_of_mem _ c1, fun t ht => (c2 t ht).trans (ha t (by omega)).symm⟩
    · obtain ⟨w, ew⟩ : ∃ w, w = G.2.2.1 v k := ⟨_, rfl⟩
      obtain ⟨a1, a2, a3, a4⟩ := at_ v k cx H hp
      rw [q1] at a4
      rw [← ew] at k1 ha a1 a4 ⊢
      obtain ⟨u1, u2, u3⟩ := (hN w a1).2.1 k1
      have key : ∀ j, E w 1 j → ∃ ce, (be j, ce) ∈ H ∧ agr (xh j) ce cy := fun j hj => by
        obtain ⟨ce, c1, c2⟩ := a4 j hj
        have := u3 j hj
        exact ⟨ce, c1, fun t ht => (c2 t ht).trans (ha t (by omega)).symm⟩
      rw [eP]
      exact ⟨⟨a1, by show 0 < nP (G.1 w); rw [k1]; decide, Or.inr (Or.inl ⟨k1, by show ¬ (0 : Nat) = 1; decide⟩), fun j hj => key j (u1 j hj)⟩, ⟨a1, by show 2 < nP (G.1 w); rw [k1]; decide, Or.inr (Or.inl ⟨k1, by show ¬ (2 : Nat) = 1; decide⟩), fun j hj => key j (u2 j hj)⟩⟩
    · obtain ⟨w, ew⟩ : ∃ w, w = G.2.2.1 v k := ⟨_, rfl⟩
      obtain ⟨a1, a2, a3, a4⟩ := at_ v k cx H hp
      rw [← ew] at kc qa a1 a4 ⊢
      obtain ⟨i, u1, u2⟩ := (hN w a1).2.2.1 kc
      rw [eP]
      refine ⟨a1, nP_c kc, Or.inr (Or.inr ⟨by show 2 ≤ G.1 w; rcases kc with e | e | e <;> omega, rfl⟩), fun j hj => ?_⟩
      have hj : j = i := (u1 0 j).mp hj
      obtain ⟨ce, c1, c2⟩ := a4 j ((u1 _ j).mpr hj)
      rw [hj] at c1 c2 ⊢
      exact ⟨ce, c1, fun t ht => (c2 t ht).trans (push_lo kc (by omega)).symm⟩
    · exfalso
      obtain ⟨a1, a2, a3, a4⟩ := at_ v k cx H hp
      exact a3 (Or.inr (Or.inr ⟨by rcases kc with e | e | e <;> omega, q0⟩))
  intro v k cx H hT
  obtain ⟨a1, a2, a3, a4⟩ := at_ v k cx H (hT P cl)
  obtain ⟨w, ew⟩ : ∃ w, w = G.2.2.1 v k := ⟨_, rfl⟩
  obtain ⟨q, eq⟩ : ∃ q, q = G.2.2.2 v k := ⟨_, rfl⟩
  rw [← ew, ← eq] at a2 a3 a4 ⊢
  rw [← ew] at a1
  have k7 := nP_7 (Nat.lt_of_le_of_lt (Nat.zero_le _) a2)
  by_cases k0 : G.1 w = 0
  · rw [k0] at a2
    have a2 : q < 3 := a2
    have : q = 0 ∨ q = 1 ∨ q = 2 := by omega
    rcases this with z | z | z
    · exact Or.inl ⟨k0, z⟩
    · exact absurd (Or.inl ⟨k0, z⟩) a3
    · obtain ⟨i, u1, u2, u3, u4, u5, u6⟩ := (hN w a1).1 k0
      rw [z] at a4
      obtain ⟨ce, c1, c2⟩ := a4 i ((u4 i).mpr rfl)
      rw [u2] at c1
      rw [u3] at c2
      exact Or.inr (Or.inl ⟨k0, z, ce, c1, c2⟩)
  · by_cases k1 : G.1 w = 1
    · by_cases z : q = 1
      · exact Or.inr (Or.inr (Or.inl ⟨k1, z⟩))
      · exact absurd (Or.inr (Or.inl ⟨k1, z⟩)) a3
    · have q0 : q ≠ 0 := fun z => a3 (Or.inr (Or.inr ⟨by omega, z⟩))
      have kc : isC (G.1 w) := by
        refine Classical.byContradiction fun nc => ?_
        unfold isC at nc
        have : G.1 w = 5 ∨ G.1 w = 6 := by omega
        rcases this with e | e
        · rw [e] at a2; have a2 : q < 1 := a2; omega
        · rw [e] at a2; have a2 : q < 1 := a2; omega
      exact Or.inr (Or.inr (Or.inr (Or.inl ⟨kc, aux_of kc q0 a2⟩)))
