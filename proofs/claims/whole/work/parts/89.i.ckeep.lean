/-! the class: the levels that a binder keeps -/
def FrW (S S' : St) (is as : List Nat) : Prop := (∀ k, k ∉ is → S'.1 k = S.1 k) ∧ (∀ k, k ∉ as → S'.2.1 k = S.2.1 k) ∧ S'.2.2.1 = S.2.2.1 ∧ S'.2.2.2.1 = S.2.2.2.1
theorem Fr.w {S S' : St} {is as : List Nat} (h : Fr S S' is as) : FrW S S' is as := ⟨h.1, h.2.1, by rw [h.2.2], by rw [h.2.2]⟩
theorem FrW.rf {S : St} {is as : List Nat} : FrW S S is as := ⟨fun _ _ => rfl, fun _ _ => rfl, rfl, rfl⟩
theorem FrW.trans {S S1 S2 : St} {is as : List Nat} (h : FrW S S1 is as) (g : FrW S1 S2 is as) : FrW S S2 is as := ⟨fun k hk => (g.1 k hk).trans (h.1 k hk), fun k hk => (g.2.1 k hk).trans (h.2.1 k hk), g.2.2.1.trans h.2.2.1, g.2.2.2.trans h.2.2.2⟩
theorem FrW.mono {S S' : St} {is as is' as' : List Nat} (h : FrW S S' is as) (h1 : ∀ k ∈ is, k ∈ is') (h2 : ∀ k ∈ as, k ∈ as') : FrW S S' is' as' := ⟨fun k hk => h.1 k (fun q => hk (h1 k q)), fun k hk => h.2.1 k (fun q => hk (h2 k q)), h.2.2⟩
/-- room for the levels -/
def RmC (S : St) : Prop := 2048 ≤ S.2.2.2.2.1 ∧ S.2.2.2.2.1 ≤ 252000 ∧ gc S + 2048 ≤ S.2.2.2.2.1 ∧ gs S ≤ 756000 ∧ (S.2.2.2.2.1 < 252000 → gs S ≤ 2 * S.2.2.2.2.1)
theorem RmC.of {S S' : St} (h : RmC S) (h2 : S'.2.2 = S.2.2) : RmC S' := by
  have e1 : gc S' = gc S := by unfold gc; rw [h2]
  have e2 : gs S' = gs S := by unfold gs; rw [h2]
  unfold RmC
  rw [e1, e2, h2]
  exact h
theorem X6_grow {S : St} {N q : Nat} (h : RmC S) (hq : q ≤ 252000) : ∃ S', fX6_growLevels N S (nI q) = some S' ∧ FrW S S' [] [134] ∧ (∀ j, j < S.2.2.2.2.1 → S'.2.1 134 j = S.2.1 134 j) ∧ q ≤ S'.2.2.2.2.1 ∧ S.2.2.2.2.1 ≤ S'.2.2.2.2.1 ∧ RmC S' := by
  obtain ⟨h1, h2, h3, h4, h5⟩ := id h
  obtain ⟨l, el⟩ : ∃ l, l = S.2.2.2.2.1 := ⟨_, rfl⟩
  unfold fX6_growLevels
  rw [show Int32.ofNat S.2.2.2.2.1 = nI l by rw [el]; rfl, ← el]
  rw [← el] at h1 h2 h3 h5
  by_cases c : q ≤ l
  · rw [if_pos (nI_le c (by omega))]
    exact ⟨S, rfl, FrW.rf, fun _ _ => rfl, by rw [← el]; exact c, by rw [← el]; exact Nat.le_refl _, h⟩
  · rw [if_neg (fun z => c ((nI_leI (by omega) (by omega)).mp z)), show (252000 : Int32) = nI 252000 from rfl, if_neg (nI_nlt hq (by omega)), show (2 : Int32) = nI 2 from rfl, pk_mul, bnd_eq]
    obtain ⟨z, ez, z1, z2, z3⟩ : ∃ z, (if nI 252000 < nI (q * 2) then nI 252000 else nI (q * 2)) = nI z ∧ q ≤ z ∧ z ≤ 252000 ∧ (z = 252000 ∨ z = q * 2) := by
      by_cases d : 252000 < q * 2
      · rw [if_pos (nI_lt d (by omega))]
        exact ⟨252000, rfl, by omega, by omega, Or.inl rfl⟩
      · rw [if_neg (nI_nlt (by omega) (by omega))]
        exact ⟨q * 2, rfl, by omega, by omega, Or.inr rfl⟩
    rw [ez, nI_clamp (by omega), ckp_ok (decide_eq_true ⟨nI_pos (by omega), by omega, z2⟩)]
    refine ⟨_, rfl, ⟨fun _ _ => rfl, fun k hk => ?_, rfl, rfl⟩, fun j hj => ?_, ?_, ?_, ?_⟩
    · show (if k = 134 then _ else S.2.1 k) = S.2.1 k
      rw [if_neg (fun e => hk (by rw [e]; decide))]
    · show (if 134 = 134 then va_cpy (S.2.1 134) (fun _ => 0) 0 0 (nI l).toNatClampNeg else S.2.1 134) j = _
      rw [if_pos rfl, nI_clamp (by omega), pk_cpy_in (by omega) (by omega), show 0 + (j - 0) = j by omega]
    · exact z1
    · show l ≤ z
      omega
    · show 2048 ≤ z ∧ z ≤ 252000 ∧ gc S + 1 + 2048 ≤ z ∧ gs S + z ≤ 756000 ∧ (z < 252000 → gs S + z ≤ 2 * z)
      have := h5 (by omega)
      exact ⟨by omega, z2, by omega, by omega, fun _ => by omega⟩
theorem X6_keepLp {N n k bc : Nat} {L : Nat → Nat} (hk : k ≤ 63) : ∀ (d i f : Nat) (S : St) (D : Nat), i + d = k → d < f → CtR S D L n → S.1 135 = nI (bc + i) → bc + k ≤ S.2.2.2.2.1 → S.2.2.2.2.1 ≤ 252000 → ∃ S', loopN (fun k x => fX6_keepLevels_12s N k x.1 x.2.1 x.2.2) f (S, nI k, nI i) = some S' ∧ Fr S S' [135] [134] ∧ S'.1 135 = nI (bc + k) ∧ (∀ j, j < bc + i → S'.2.1 134 j = S.2.1 134 j) ∧ (∀ j, i ≤ j → j < k → S'.2.1 134 (bc + j) = nI (L j)) := by
  intro d
  induction d with
  | zero =>
    intro i f S D hi hf hC h135 hlen hl2
    obtain ⟨f, rfl⟩ : ∃ f', f = f' + 1 := ⟨f - 1, by omega⟩
    have hi : i = k := by omega
    subst hi
    refine ⟨S, ?_, Fr.rf, h135, fun _ _ => rfl, fun j h1 h2 => by omega⟩
    show fX6_keepLevels_12s N _ S (nI i) (nI i) = _
    unfold fX6_keepLevels_12s
    rw [if_pos (nI_le (Nat.le_refl _) (by omega))]
  | succ d ih =>
    intro i f S D hi hf hC h135 hlen hl2
    obtain ⟨f, rfl⟩ : ∃ f', f = f' + 1 := ⟨f - 1, by omega⟩
    obtain ⟨Lp, eL⟩ : ∃ Lp, Lp = loopN (fun k x => fX6_keepLevels_12s N k x.1 x.2.1 x.2.2) f := ⟨_, rfl⟩
    show ∃ S', fX6_keepLevels_12s N (loopN (fun k x => fX6_keepLevels_12s N k x.1 x.2.1 x.2.2) f) S (nI k) (nI i) = some S' ∧ _
    rw [← eL]
    unfold fX6_keepLevels_12s
    rw [if_neg (fun q => absurd ((nI_leI (by omega) (by omega)).mp q) (by omega)), show Int32.ofNat S.2.2.2.2.1 = nI S.2.2.2.2.1 from rfl, h135, if_neg (fun q => absurd ((nI_leI (by omega) (by omega)).mp q) (by omega)), bd2_ok (X1_level hC (by omega)), ckx_ok (vp_in_nI (by omega) (by omega)), bnd_eq, bnd_eq, bnd_eq, nI_clamp (by omega), nI_1, eL]
    obtain ⟨S8, e8⟩ : ∃ z, z = sI (sA S 134 (upd (S.2.1 134) (bc + i) (nI (L i)))) 135 ((sA S 134 (upd (S.2.1 134) (bc + i) (nI (L i)))).1 135 + 1) := ⟨_, rfl⟩
    rw [← e8]
    have f8 : Fr S S8 [135] [134] := by rw [e8]; exact (Fr.A (by decide)).trans (Fr.I (by decide))
    have z134 : S8.2.1 134 = upd (S.2.1 134) (bc + i) (nI (L i)) := by rw [e8]; rfl
    obtain ⟨S', q1, q2, q3, q4, q5⟩ := ih (i + 1) f S8 D (by omega) (by omega) (hC.of (f8.1 22 (by decide)) (f8.2.1 21 (by decide))) (by
      rw [e8]
      show S.1 135 + 1 = _
      rw [h135, nI_1]
      rfl) (by rw [f8.2.2]; exact hlen) (by rw [f8.2.2]; exact hl2)
    refine ⟨S', q1, f8.trans q2, q3, fun j hj => ?_, fun j h1 h2 => ?_⟩
    · rw [q4 j (by omega), z134, upd_at, if_neg (by omega)]
    · by_cases c : j = i
      · subst c
        rw [q4 (bc + j) (by omega), z134, upd_at, if_pos rfl]
      · exact q5 j (by omega) h2
theorem X6_keepLevels {S : St} {N n D k bc : Nat} {L : Nat → Nat} (hN : Big N) (hk : k ≤ 63) (hC : CtR S D L n) (h135 : S.1 135 = nI bc) (hbc : bc + k ≤ 252000) (hbl : bc ≤ S.2.2.2.2.1) (hR : RmC S) : ∃ S', fX6_keepLevels N S (nI k) = some S' ∧ FrW S S' [135] [134] ∧ S'.1 135 = nI (bc + k) ∧ (∀ j, j < bc → S'.2.1 134 j = S.2.1 134 j) ∧ (∀ j, j < k → S'.2.1 134 (bc + j) = nI (L j)) ∧ bc + k ≤ S'.2.2.2.2.1 ∧ S.2.2.2.2.1 ≤ S'.2.2.2.2.1 ∧ RmC S' := by
  have hb := hN
  unfold Big at hb
  obtain ⟨S1, a1, a2, a3, a4, a5, a6⟩ := X6_grow (N := N) hR hbc
  obtain ⟨S', q1, q2, q3, q4, q5⟩ := X6_keepLp (N := N) (bc := bc) hk k 0 N S1 D (by omega) (by omega) (hC.of (a2.1 22 (by decide)) (a2.2.1 21 (by decide))) (by rw [a2.1 135 (by decide)]; exact h135) a4 a6.2.1
  refine ⟨S', ?_, (a2.mono (fun _ h => (List.not_mem_nil h).elim) (by decide)).trans q2.w, q3, fun j hj => ?_, fun j hj => q5 j (by omega) hj, by rw [q2.2.2]; exact a4, by rw [q2.2.2]; exact a5, a6.of q2.2.2⟩
  · unfold fX6_keepLevels
    rw [h135, nI_add, bdo_ok a1, bnd_eq]
    exact q1
  · rw [q4 j (by omega)]
    exact a3 j (by omega)
