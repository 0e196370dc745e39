/-! the class: all the erasing -/
theorem oP : ∀ k, k < 5 → fX7_otherPorts (kI k) = some (nI (nP k - 1)) := by decide +kernel
theorem X2_eraseLp {S0 : St} {N v r0 : Nat} (hV : GVr 3002 (Gc S0)) (hv : v < 3002) (h5 : cK S0 v < 5) (hA : cntA 3002 (cK S0) ≤ 3000) (hE : ∃ j, j < nP (cK S0 v) ∧ eE (Gc S0) v j) : ∀ (d k f r : Nat) (S : St) (x : Nat → Nat), k + d = nP (cK S0 v) → d < f → EV S0 S v k r r0 x → ∃ S1 r1 x1, loopN (fun k x => fX2_erase_11s N k x.1 x.2.1 x.2.2.1 x.2.2.2) f (S, nI v, nI (nP (cK S0 v) - 1), nI k) = (bdo (fX2_discard N S1 (nI v)) fun S4 => bnd (sI S4 49 (S4.1 49 + 1)) fun S5 => some S5) ∧ EV S0 S1 v (nP (cK S0 v)) r1 r0 x1 := by
  intro d
  have n3 := nP_le (cK S0 v)
  have n0 : 0 < nP (cK S0 v) := lv_p (n := 3002) (G := Gc S0) (v := v) ⟨hv, Or.inl h5⟩
  induction d with
  | zero =>
    intro k f r S x hk hf h
    obtain ⟨f, rfl⟩ : ∃ f', f = f' + 1 := ⟨f - 1, by omega⟩
    have hk : k = nP (cK S0 v) := by omega
    refine ⟨S, r, x, ?_, by rw [← hk]; exact h⟩
    show fX2_erase_11s N _ S (nI v) (nI (nP (cK S0 v) - 1)) (nI k) = _
    unfold fX2_erase_11s
    rw [if_pos (nI_lt (by omega) (by omega))]
  | succ d ih =>
    intro k f r S x hk hf h
    obtain ⟨f, rfl⟩ : ∃ f', f = f' + 1 := ⟨f - 1, by omega⟩
    obtain ⟨S', r', x', e1, e2⟩ := X2_eraseStep (N := N) hV hv h5 (by omega) h hA hE
    obtain ⟨S1, r1, x1, a1, a2⟩ := ih (k + 1) f r' S' x' (by omega) (by omega) e2
    refine ⟨S1, r1, x1, ?_, a2⟩
    rw [← a1]
    obtain ⟨L, eL⟩ : ∃ L, L = loopN (fun k x => fX2_erase_11s N k x.1 x.2.1 x.2.2.1 x.2.2.2) f := ⟨_, rfl⟩
    show fX2_erase_11s N (loopN (fun k x => fX2_erase_11s N k x.1 x.2.1 x.2.2.1 x.2.2.2) f) S (nI v) (nI (nP (cK S0 v) - 1)) (nI k) = _
    rw [← eL]
    unfold fX2_erase_11s
    rw [if_neg (nI_nlt (by omega) (by omega))]
    have := e1 (fun S19 => fX2_erase_64 N L S19 (nI v) (nI (nP (cK S0 v) - 1)) (nI k))
    rw [this]
    unfold fX2_erase_64
    rw [bnd_eq, nI_1]
theorem X2_erase {S : St} {N v r : Nat} (hN : Big N) (hV : GVr 3002 (Gc S)) (hG : GC S) (hR : RcR S r) (hv : v < 3002) (h5 : cK S v < 5) (hA : cntA 3002 (cK S) ≤ 3000) (hE : ∃ j, j < nP (cK S v) ∧ eE (Gc S) v j) :
    ∃ S' r', fX2_erase N S (nI v) = some S' ∧ Fr S S' [44, 48, 49] [40, 41, 42, 43, 45, 46, 47] ∧ GC S' ∧ RcR S' r' ∧ r' ≤ r + 6 ∧ AP 3002 (Gc S) v (eZ (Gc S) v (nP (cK S v))) (Gc S') (Rc S') ∧ (∀ y, Rc S y → Rc S' y) ∧ S'.1 49 = S.1 49 + 1 ∧ cntL 3002 (cK S') + 1 = cntL 3002 (cK S) ∧ cntA 3002 (cK S') ≤ cntA 3002 (cK S) := by
  have hb := hN
  unfold Big at hb
  have n3 := nP_le (cK S v)
  have ev0 : EV S S v 0 r r (fun _ => 0) := by
    have z0 : ∀ w, ¬ eZ (Gc S) v 0 w := fun w ⟨j, hj, _⟩ => absurd hj (Nat.not_lt_zero _)
    refine ⟨hG, hR, by omega, Fr.rf, fun _ h => h, fun j hj => absurd hj (Nat.not_lt_zero _), fun w hw _ => ⟨fun q => absurd q (z0 w), fun _ => rfl⟩, fun u i _ _ _ _ _ => ⟨rfl, rfl⟩, fun u _ _ _ => rfl, ?_, rfl⟩
    show cntA 3002 (cK S) + 2 * 0 ≤ _
    omega
  obtain ⟨S1, r1, x, e1, h1, h2, h3, h4, h5', h6, h7, h8, h9, h10, h11⟩ := X2_eraseLp (N := N) (r0 := r) hV hv h5 hA hE (nP (cK S v)) 0 N r S (fun _ => 0) (by omega) (by omega) ev0
  have vz : ¬ eZ (Gc S) v (nP (cK S v)) v := fun q => by
    have : cK S v = 5 := (eZ_w (j := 0) hV hv (Nat.le_refl _) q).1
    omega
  have eZ5 : ∀ w, eZ (Gc S) v (nP (cK S v)) w → cK S w = 5 ∧ cV S w 0 = v := fun w q => ⟨(eZ_w (j := 0) hV hv (Nat.le_refl _) q).1, (eZ_w (j := 0) hV hv (Nat.le_refl _) q).2.1⟩
  -- what is active at the end
  have act : ∀ j, j < nP (cK S v) → eAc (Gc S) v j (nP (cK S v)) → cV S v j ≠ v := by
    intro j hj ha
    rcases ha.2 with q | q
    · exact q
    · intro e
      have g2 := (hV.1 v j hv hj).2.1
      have g2 : cP S v j < nP (cK S (cV S v j)) := g2
      rw [e] at g2
      have q : nP (cK S v) ≤ cP S v j := q
      omega
  have xv : ∀ j, j < nP (cK S v) → eAc (Gc S) v j (nP (cK S v)) → x j ≠ v := by
    intro j hj ha q
    rcases (h6 j hj ha).2.2.2.2.2 with e | e
    · rw [q] at e; omega
    · rw [q] at e; exact vz e
  have kv : cK S1 v = cK S v := (h7 v hv (fun j hj ha q => xv j hj ha q.symm)).2 vz
  obtain ⟨S4, d1, d2, d3, d4, d5⟩ := X2_discard (N := N) h1 hv (by rw [kv]; omega)
  obtain ⟨S5, e5⟩ : ∃ z, z = sI S4 49 (S4.1 49 + 1) := ⟨_, rfl⟩
  have f5 : Fr S4 S5 [49] [] := by rw [e5]; exact Fr.I (by decide)
  obtain ⟨g5, m5⟩ := d3.of f5 (by decide) (by decide)
  have k5 : cK S5 = updN (cK S1) v 7 := by rw [← d4]; exact congrArg Prod.fst m5
  have w5 : ∀ u i, cV S5 u i = cV S1 u i ∧ cP S5 u i = cP S1 u i := fun u i => by
    unfold cV cP cW
    rw [f5.2.1 42 (by decide), d2.2.1 42 (by decide)]
    exact ⟨rfl, rfl⟩
  have x5 : ∀ u, cX S5 u = cX S1 u := fun u => by
    unfold cX
    rw [f5.2.1 41 (by decide), d2.2.1 41 (by decide)]
  have rc5 : Rc S5 = Rc S1 := (Rc.of (f5.2.1 47 (by decide))).trans (Rc.of (d2.2.1 47 (by decide)))
  -- a port that was wired to v
  have atv : ∀ u k, u < 3002 → u ≠ v → ¬ eZ (Gc S) v (nP (cK S v)) u → k < nP (cK S u) → cV S u k = v → cP S u k < nP (cK S v) ∧ eAc (Gc S) v (cP S u k) (nP (cK S v)) ∧ cV S v (cP S u k) = u ∧ cP S v (cP S u k) = k ∧ cK S u ≠ 5 := by
    intro u k hu uv uz hk e
    obtain ⟨-, g2, g3, g4, -⟩ := hV.1 u k hu hk
    have g2 : cP S u k < nP (cK S (cV S u k)) := g2
    have g3 : cV S (cV S u k) (cP S u k) = u := g3
    have g4 : cP S (cV S u k) (cP S u k) = k := g4
    rw [e] at g2 g3 g4
    have n5 : cK S u ≠ 5 := fun q => uz ⟨cP S u k, g2, by show cK S (cV S v (cP S u k)) = 5; rw [g3]; exact q, g3⟩
    refine ⟨g2, ⟨fun q => ?_, Or.inl ?_⟩, g3, g4, n5⟩
    · have q : cK S (cV S v (cP S u k)) = 5 := q
      rw [g3] at q; exact n5 q
    · show cV S v (cP S u k) ≠ v
      rw [g3]; exact uv
  refine ⟨S5, r1, ?_, ?_, g5, (h2.of (d2.1 48 (by decide)) (d2.2.1 46 (by decide)) (d2.2.1 47 (by decide))).of (f5.1 48 (by decide)) (f5.2.1 46 (by decide)) (f5.2.1 47 (by decide)), by omega, ⟨fun u k => x (cP S u k), fun u k hu uv uz hk e => ?_, fun w hw hx => ?_, fun u hu uv uz u7 => ?_, eZ5⟩, fun y hy => by rw [rc5]; exact h5' y hy, ?_, ?_, ?_⟩
  · unfold fX2_erase
    rw [bd2_ok (X2_kindOf hG.1 hv), bdo_ok (oP _ h5), bnd_eq]
    have e1' : fX2_erase_11 N (S, nI v, nI (nP (cK S v) - 1), 0) = (bdo (fX2_discard N S1 (nI v)) fun S4 => bnd (sI S4 49 (S4.1 49 + 1)) fun S5 => some S5) := e1
    rw [e1', bdo_ok d1, bnd_eq, ← e5]
  · exact ((h4.mono (by decide) (by decide)).trans (d2.mono (by decide) (by decide))).trans (f5.mono (by decide) (fun _ h => (List.not_mem_nil h).elim))
  · obtain ⟨a1, a2, a3, a4, a5⟩ := atv u k hu uv uz hk e
    obtain ⟨b1, b2, ⟨b3, b4⟩, ⟨b5, b6⟩, b7, b8⟩ := h6 _ a1 a2
    rw [a3] at b3
    rw [a4] at b4
    rw [a3, a4] at b5 b6
    have xn := xv _ a1 a2
    refine ⟨b1, ?_, ?_, ?_, ?_, ?_, ?_, ?_, fun q => absurd q a5⟩
    · show cK S5 _ = 5
      rw [k5, updN_at, if_neg xn]; exact b2
    · show cV S5 _ 0 = u
      rw [(w5 _ _).1]; exact b3
    · show cP S5 _ 0 = k
      rw [(w5 _ _).2]; exact b4
    · show cV S5 u k = _
      rw [(w5 _ _).1]; exact b5
    · show cP S5 u k = 0
      rw [(w5 _ _).2]; exact b6
    · exact b8.imp id Or.inr
    · rw [rc5]; exact b7
  · have hx' : ∀ j, j < nP (cK S v) → eAc (Gc S) v j (nP (cK S v)) → w ≠ x j := by
      intro j hj ha
      have uv := act j hj ha
      obtain ⟨g1, g2, g3, g4, -⟩ := hV.1 v j hv hj
      have g4 : cP S (cV S v j) (cP S v j) = j := g4
      have := hx (cV S v j) (cP S v j) g1 uv (fun q => ha.1 (eZ5 _ q).1) g2 g3
      dsimp only at this
      rw [g4] at this
      exact this
    obtain ⟨b1, b2⟩ := h7 w hw hx'
    refine ⟨fun q => ?_, fun wv wz => ?_⟩
    · show cK S5 w = 7
      rw [k5, updN_at]
      by_cases c : w = v
      · rw [if_pos c]
      · rw [if_neg c]; exact b1 (q.resolve_left c)
    · show cK S5 w = cK S w
      rw [k5, updN_at, if_neg wv]
      exact b2 wz
  · refine ⟨?_, fun k hk ne => ?_⟩
    · show cX S5 u = cX S u
      rw [x5]
      exact h9 u hu u7 uz
    · show cV S5 u k = cV S u k ∧ cP S5 u k = cP S u k
      rw [(w5 _ _).1, (w5 _ _).2]
      exact h8 u k hu hk uz (fun q => ne q.1) (fun q => absurd q uv)
  · rw [e5]
    show S4.1 49 + 1 = _
    rw [d2.1 49 (by decide), h4.1 49 (by decide)]
  · rw [k5, ← h11]
    exact cntL_free hv (by rw [kv]; exact h5)
  · have hc5 : cntA 3002 (cK S5) + 1 = cntA 3002 (cK S1) := by rw [k5, ← d4]; exact d5
    obtain ⟨j0, j1, j2⟩ := hE
    have := neE_pos j2 _ j1
    omega
theorem kI_eq : ∀ k, k ≤ 7 → ∀ j, j < 7 → (kI k = nI j ↔ k = j) := by decide +kernel
/-- whether a node goes because of an eraser at its port q -/
noncomputable def yld (S : St) (v q : Nat) : Prop := (q = 0 ∧ cK S v < 5) ∨ (q = 1 ∧ (cK S v = 1 ∨ cK S v = 3 ∨ cK S v = 4)) ∨ (cK S v = 2 ∧ cK S (cV S v 1) = 5 ∧ cK S (cV S v 2) = 5)
theorem X2_yields {S : St} {N v q : Nat} (hV : GVr 3002 (Gc S)) (hG : COk S) (hv : v < 3002) (h7 : cK S v < 7) (h5 : cK S v ≠ 5) (hq : q < 3) : ∃ x : Int32, fX2_yields N S (nI v) (nI q) = some (x, S) ∧ (x = 0 ↔ ¬ yld S v q) := by
  have k7 := (hG.1 v hv).2.1
  unfold fX2_yields
  rw [bd2_ok (X2_kindOf hG hv), kI_lt h7, if_neg (fun e => by
    have : ¬ nI (cK S v) < 0 := nI_pos (by omega)
    rw [e] at this
    exact this (by decide))]
  have no : ∀ {x : Int32}, x = 0 → ¬ yld S v q → ∃ x' : Int32, some (x, S) = some (x', S) ∧ (x' = 0 ↔ ¬ yld S v q) := fun {x} hx hy => ⟨x, rfl, fun _ => hy, fun _ => hx⟩
  have yes : ∀ {x : Int32}, x = 1 → yld S v q → ∃ x' : Int32, some (x, S) = some (x', S) ∧ (x' = 0 ↔ ¬ yld S v q) := fun {x} hx hy => ⟨x, rfl, fun e => by rw [hx] at e; exact absurd e (by decide), fun e => absurd hy e⟩
  by_cases c6 : cK S v = 6
  · rw [if_pos (by rw [c6]; rfl)]
    exact no rfl (by unfold yld; omega)
  · rw [if_neg (fun e => c6 ((nI_eq (by omega) (by omega)).mp (e.trans (show (6 : Int32) = nI 6 from rfl))))]
    by_cases q0 : q = 0
    · rw [if_pos (by rw [q0]; rfl)]
      exact yes rfl (Or.inl ⟨q0, by omega⟩)
    · rw [if_neg (fun e => q0 ((nI_eq (by omega) (by omega)).mp (e.trans (show (0 : Int32) = nI 0 from rfl))))]
      by_cases c2 : cK S v = 2
      · rw [if_pos (by rw [c2]; rfl), show (1 : Int32) = nI 1 from rfl, bdo_ok (pO v 1)]
        have w1 : cV S v 1 < 3002 := (hV.1 v 1 hv (by show 1 < nP (cK S v); rw [c2]; decide)).1
        have w2 : cV S v 2 < 3002 := (hV.1 v 2 hv (by show 2 < nP (cK S v); rw [c2]; decide)).1
        rw [bd2_ok (X2_isErased hG hv (by decide) w1)]
        by_cases e1 : cK S (cV S v 1) = 5
        · rw [if_pos e1, if_neg (by decide), show (2 : Int32) = nI 2 from rfl, bdo_ok (pO v 2), bd2_ok (X2_isErased hG hv (by decide) w2)]
          by_cases e2 : cK S (cV S v 2) = 5
          · rw [if_pos e2, if_neg (by decide)]
            exact yes rfl (Or.inr (Or.inr ⟨c2, e1, e2⟩))
          · rw [if_neg e2, if_pos rfl]
            exact no rfl (by unfold yld; omega)
        · rw [if_neg e1, if_pos rfl]
          exact no rfl (by unfold yld; omega)
      · rw [if_neg (fun e => c2 ((nI_eq (by omega) (by omega)).mp (e.trans (show (2 : Int32) = nI 2 from rfl))))]
        by_cases q1 : q = 1
        · rw [if_pos (by rw [q1]; rfl)]
          by_cases c3 : cK S v = 3
          · rw [if_pos (by rw [c3]; rfl)]
            exact yes rfl (Or.inr (Or.inl ⟨q1, by omega⟩))
          · rw [if_neg (fun e => c3 ((nI_eq (by omega) (by omega)).mp (e.trans (show (3 : Int32) = nI 3 from rfl))))]
            by_cases c4 : cK S v = 4
            · rw [if_pos (by rw [c4]; rfl)]
              exact yes rfl (Or.inr (Or.inl ⟨q1, by omega⟩))
            · rw [if_neg (fun e => c4 ((nI_eq (by omega) (by omega)).mp (e.trans (show (4 : Int32) = nI 4 from rfl))))]
              by_cases c1 : cK S v = 1
              · rw [if_pos (by rw [c1]; rfl)]
                exact yes rfl (Or.inr (Or.inl ⟨q1, by omega⟩))
              · rw [if_neg (fun e => c1 ((nI_eq (by omega) (by omega)).mp (e.trans (show (1 : Int32) = nI 1 from rfl))))]
                exact no rfl (by unfold yld; omega)
        · rw [if_neg (fun e => q1 ((nI_eq (by omega) (by omega)).mp (e.trans (show (1 : Int32) = nI 1 from rfl))))]
          exact no rfl (by unfold yld; omega)
/-- one step of the class's erasing -/
def EStC (S0 S S' : St) (a r r' : Nat) : Prop := EI 3002 (Gc S0) (Gc S') (Rc S') ∧ GC S' ∧ RcR S' r' ∧ Fr S S' [44, 48, 49] [40, 41, 42, 43, 45, 46, 47] ∧ cntA 3002 (cK S') ≤ 3000 ∧ cntA 3002 (cK S') ≤ cntA 3002 (cK S) ∧ (∃ b, S'.1 49 = nI b ∧ b + cntL 3002 (cK S') = a + cntL 3002 (cK S)) ∧ 7 * cntL 3002 (cK S') + r' ≤ 7 * cntL 3002 (cK S) + r
/-- e was taken off the row, and is calmed -/
theorem X2_calm {S0 S : St} {N r e a : Nat} (hN : Big N) (hV0 : GVr 3002 (Gc S0)) (hI : EI 3002 (Gc S0) (Gc S) (Rc S)) (hG : GC S) (h48 : S.1 48 = nI r) (hr : RcR (sI S 48 (nI (r + 1))) (r + 1)) (he46 : S.2.1 46 r = nI e) (he : e < 3002) (hc : cntA 3002 (cK S) ≤ 3000) (h49 : S.1 49 = nI a) : ∃ S' r', fX2_calm N S (nI e) = some S' ∧ EStC S0 S S' a r r' := by
  obtain ⟨F, f1, f2, f3, hV, hCov⟩ := id hI
  unfold fX2_calm
  rw [if_neg (nI_pos (by omega)), show (3002 : Int32) = nI 3002 from rfl, if_pos (nI_lt he (by omega)), ckx_ok (vp_in_nI (by omega) (by omega)), bnd_eq, nI_clamp (show e < 2 ^ 31 by omega)]
  obtain ⟨S4, e4⟩ : ∃ z, z = sA S 47 (upd (S.2.1 47) e (vp_nar .boolean 0)) := ⟨_, rfl⟩
  rw [← e4]
  have f4 : Fr S S4 [] [47] := by rw [e4]; exact Fr.A (by decide)
  have b0 : vp_nar .boolean (0 : Int32) = 0 := by decide
  have z47 : S4.2.1 47 = upd (S.2.1 47) e 0 := by rw [e4, b0]; rfl
  obtain ⟨g4, m4⟩ := hG.of f4 (by decide) (by decide)
  have k4 : cK S4 = cK S := congrArg Prod.fst m4
  have v4 : cV S4 = cV S := congrArg (fun G : Gr => G.2.2.1) m4
  have p4 : cP S4 = cP S := congrArg (fun G : Gr => G.2.2.2) m4
  have hRR : ∀ x, Rc S x → x ≠ e → Rc S4 x := fun x hx ne => ⟨hx.1, by rw [z47, upd_at, if_neg ne]; exact hx.2⟩
  -- the row again
  have r4 : RcR S4 r := by
    obtain ⟨-, q2, q3, q4, q5, q6⟩ := hr
    have q3 : ∀ v, v < 3002 → S.2.1 47 v = 0 ∨ S.2.1 47 v = 1 := q3
    have q4 : ∀ i, i < r + 1 → ∃ v, S.2.1 46 i = nI v ∧ Rc S v := q4
    have q5 : ∀ v, Rc S v → ∃ i, i < r + 1 ∧ S.2.1 46 i = nI v := q5
    have q6 : ∀ i j, i < r + 1 → j < r + 1 → S.2.1 46 i = S.2.1 46 j → i = j := q6
    have e46 : S4.2.1 46 = S.2.1 46 := f4.2.1 46 (by decide)
    refine ⟨by rw [f4.1 48 (by decide)]; exact h48, by omega, fun v hv => ?_, fun i hi => ?_, fun v hv => ?_, fun i j hi hj => ?_⟩
    · rw [z47, upd_at]
      by_cases c : v = e
      · rw [if_pos c]; exact Or.inl rfl
      · rw [if_neg c]; exact q3 v hv
    · obtain ⟨v, v1, v2⟩ := q4 i (by omega)
      refine ⟨v, by rw [e46]; exact v1, hRR v v2 (fun q => ?_)⟩
      have := q6 i r (by omega) (by omega) (by rw [v1, he46, q])
      omega
    · have ve : v ≠ e := fun q => by
        have := hv.2
        rw [q, z47, upd_at, if_pos rfl] at this
        exact this rfl
      have hv' : Rc S v := ⟨hv.1, by have := hv.2; rw [z47, upd_at, if_neg ve] at this; exact this⟩
      obtain ⟨i, i1, i2⟩ := q5 v hv'
      refine ⟨i, ?_, by rw [e46]; exact i2⟩
      by_cases c : i = r
      · rw [c, he46] at i2
        exact absurd ((nI_eq (by omega) (by have := hv.1; omega)).mp i2).symm ve
      · omega
    · rw [e46]
      exact q6 i j (by omega) (by omega)
  have hI4 : EI 3002 (Gc S0) (Gc S4) (Rc S) := by rw [m4]; exact hI
  have hV4 : GVr 3002 (Gc S4) := by rw [m4]; exact hV
  have a49 : S4.1 49 = nI a := by rw [f4.1 49 (by decide)]; exact h49
  have idle : (cK S4 e = 5 → cK S4 (cV S4 e 0) ≠ 5 ∧ ¬ yld S4 (cV S4 e 0) (cP S4 e 0)) → EStC S0 S S4 a r r := by
    intro hd
    refine ⟨EI_idle (e := e) hI4 hRR (fun q => ⟨he, ?_⟩), g4, r4, f4.mono (fun _ h => (List.not_mem_nil h).elim) (by decide), by rw [k4]; exact hc, by rw [k4]; exact Nat.le_refl _, ⟨a, a49, by rw [k4]⟩, by rw [k4]; exact Nat.le_refl _⟩
    obtain ⟨d1, d2⟩ := hd q
    exact ⟨d1, fun z => d2 (Or.inl z), fun z => d2 (Or.inr (Or.inl z)), fun z => d2 (Or.inr (Or.inr z))⟩
  rw [ckx_ok (vp_in_nI (by omega) (by omega)), (g4.1.1 e he).1]
  have ke7 := (g4.1.1 e he).2.1
  by_cases c5 : cK S4 e = 5
  · rw [if_pos (by rw [c5]; rfl), show (0 : Int32) = nI 0 from rfl, bdo_ok (pO e 0), bd2_ok (X2_across g4.1 he (by decide))]
    obtain ⟨g1, g2, g3, g4', g5⟩ := hV4.1 e 0 he (by show 0 < nP (cK S4 e); rw [c5]; decide)
    obtain ⟨v, ev⟩ : ∃ v, v = cV S4 e 0 := ⟨_, rfl⟩
    obtain ⟨k, ek⟩ : ∃ k, k = cP S4 e 0 := ⟨_, rfl⟩
    have g1 : v < 3002 := by rw [ev]; exact g1
    have g2 : k < nP (cK S4 v) := by rw [ev, ek]; exact g2
    have g3 : cV S4 v k = e := by rw [ev, ek]; exact g3
    have k3 : k < 3 := Nat.lt_of_lt_of_le g2 (nP_le _)
    have v7 : cK S4 v < 7 := nP_7 (Nat.lt_of_le_of_lt (Nat.zero_le _) g2)
    rw [← ev, ← ek, bdo_ok (nA (by omega)), show (4 * v + k) / 4 = v by omega, bd2_ok (X2_kindOf g4.1 g1), kI_lt v7]
    by_cases cv : cK S4 v = 5
    · rw [if_pos (by rw [cv]; rfl)]
      rw [cv] at g2
      have k0 : k = 0 := by have : k < 1 := g2; omega
      have ve : v ≠ e := fun q => by
        have : ¬ (cV S4 e 0 = e ∧ cP S4 e 0 = 0) := g5
        rw [← ev, ← ek] at this
        exact this ⟨q, k0⟩
      obtain ⟨S5, d1, d2, d3, d4, d5⟩ := X2_discard (N := N) g4 he (by omega)
      obtain ⟨S6, y1, y2, y3, y4, y5⟩ := X2_discard (N := N) d3 g1 (by rw [d4, updN_at, if_neg ve]; omega)
      rw [bdo_ok d1, bdo_ok y1]
      have fr := d2.trans y2
      have cl : cntL 3002 (cK S6) = cntL 3002 (cK S4) := by
        rw [y4, cntL_other g1 (by rw [d4, updN_at, if_neg ve]; omega) (by omega), d4]
        exact cntL_other he (by omega) (by omega)
      rw [k4] at cl d5
      refine ⟨S6, r, rfl, EI_pair (e := e) (v := v) hI4 he c5 ev.symm cv (fun u hu => ?_) (fun u hu => ?_) (fun u j hu hj => ?_) (fun x hx hne => by rw [Rc.of (fr.2.1 47 (by decide))]; exact hRR x hx hne), y3, r4.of (fr.1 48 (by decide)) (fr.2.1 46 (by decide)) (fr.2.1 47 (by decide)), (f4.mono (fun _ h => (List.not_mem_nil h).elim) (by decide)).trans (fr.mono (by decide) (by decide)), by omega, by omega, ⟨a, by rw [fr.1 49 (by decide)]; exact a49, by omega⟩, by omega⟩
      · show cK S6 u = if u = e ∨ u = v then 7 else cK S4 u
        rw [y4, updN_at, d4, updN_at]
        by_cases q : u = v
        · rw [if_pos q, if_pos (Or.inr q)]
        · rw [if_neg q]
          by_cases z : u = e
          · rw [if_pos z, if_pos (Or.inl z)]
          · rw [if_neg z, if_neg (fun w => w.elim z q)]
      · show cX S6 u = cX S4 u
        unfold cX
        rw [fr.2.1 41 (by decide)]
      · show cV S6 u j = cV S4 u j ∧ cP S6 u j = cP S4 u j
        unfold cV cP cW
        rw [fr.2.1 42 (by decide)]
        exact ⟨rfl, rfl⟩
    · rw [if_neg (fun q => cv ((nI_eq (by omega) (by omega)).mp (q.trans (show (5 : Int32) = nI 5 from rfl)))), bdo_ok (wA (by omega)), show (4 * v + k) % 4 = k by omega]
      obtain ⟨x, x1, x2⟩ := X2_yields (N := N) hV4 g4.1 g1 v7 cv k3
      rw [bd2_ok x1]
      by_cases cy : yld S4 v k
      · rw [if_neg (show ¬ x = nI 0 from fun q => x2.mp q cy)]
        have er : ∀ j, j = k → cK S4 (cV S4 v j) = 5 := fun j q => by rw [q, g3]; exact c5
        have v5 : cK S4 v < 5 := by rcases cy with q | q | q <;> omega
        have hf : frb (Gc S4) (fun _ => False) v := by
          rcases cy with q | q | q
          · exact Or.inl (Or.inl (er 0 q.1.symm))
          · exact Or.inr (Or.inl ⟨q.2, Or.inl (er 1 q.1.symm)⟩)
          · exact Or.inr (Or.inr ⟨q.1, Or.inl q.2.1, Or.inl q.2.2⟩)
        obtain ⟨S', r', t1, t2, t3, t4, t5, t6, t7, t8, t9, t10⟩ := X2_erase (S := S4) (N := N) hN hV4 g4 r4 g1 v5 (by rw [k4]; exact hc) ⟨k, g2, er k rfl⟩
        rw [bdo_ok t1]
        rw [k4] at t9 t10
        refine ⟨S', r', rfl, EI_fire (e := e) hV0 hI4 g1 v5 hf ev.symm t6.fd (fun x hx hne => t7 x (hRR x hx hne)), t3, t4, (f4.mono (fun _ h => (List.not_mem_nil h).elim) (by decide)).trans t2, by omega, by omega, ⟨a + 1, by rw [t8, a49, nI_1], by omega⟩, by omega⟩
      · rw [if_pos (show x = nI 0 from x2.mpr cy)]
        refine ⟨S4, r, rfl, idle (fun _ => ?_)⟩
        rw [← ev, ← ek]
        exact ⟨cv, cy⟩
  · rw [if_neg (fun q => c5 ((kI_eq _ ke7 5 (by decide)).mp (q.trans (show (5 : Int32) = nI 5 from rfl))))]
    exact ⟨S4, r, rfl, idle (fun q => absurd q c5)⟩
theorem X2_eraseAll {S : St} {N r a : Nat} (hN : Big N) (hG : GC S) (hV : GVr 3002 (Gc S)) (hC : Cov 3002 (Gc S) (Rc S)) (hR : RcR S r) (hc : cntA 3002 (cK S) ≤ 3000) (h49 : S.1 49 = nI a) :
    ∃ S', fX2_eraseAll N S = some S' ∧ ESp 3002 (Gc S) (Gc S') ∧ GVr 3002 (Gc S') ∧ NE 3002 (Gc S') ∧ Cov 3002 (Gc S') (fun _ => False) ∧ GC S' ∧ RcR S' 0 ∧ Fr S S' [44, 48, 49] [40, 41, 42, 43, 45, 46, 47] ∧ cntA 3002 (cK S') ≤ cntA 3002 (cK S) ∧ (∃ b, S'.1 49 = nI b ∧ b + cntL 3002 (cK S') = a + cntL 3002 (cK S)) := by
  have hb := hN
  unfold Big at hb
  have hla := cntL_A (n := 3002) (K := cK S)
  have hr2 := hR.2.1
  obtain ⟨R, e1, e2⟩ := loop_par (step := fun k x => fX2_eraseAll_2s N k x.1 x.2) (fun t : St × Nat × Nat × Nat => (t.1, nI t.2.2.2)) (fun t => 7 * cntL 3002 (cK t.1) + t.2.1)
    (fun t => EI 3002 (Gc S) (Gc t.1) (Rc t.1) ∧ GC t.1 ∧ RcR t.1 t.2.1 ∧ cntA 3002 (cK t.1) ≤ 3000 ∧ cntA 3002 (cK t.1) ≤ cntA 3002 (cK S) ∧ t.1.1 49 = nI t.2.2.1 ∧ t.2.2.1 + cntL 3002 (cK t.1) = a + cntL 3002 (cK S) ∧ Fr S t.1 [44, 48, 49] [40, 41, 42, 43, 45, 46, 47] ∧ t.2.2.2 + (7 * cntL 3002 (cK t.1) + t.2.1) ≤ 30000)
    (fun _ S' => ESp 3002 (Gc S) (Gc S') ∧ GVr 3002 (Gc S') ∧ NE 3002 (Gc S') ∧ Cov 3002 (Gc S') (fun _ => False) ∧ GC S' ∧ RcR S' 0 ∧ Fr S S' [44, 48, 49] [40, 41, 42, 43, 45, 46, 47] ∧ cntA 3002 (cK S') ≤ cntA 3002 (cK S) ∧ (∃ b, S'.1 49 = nI b ∧ b + cntL 3002 (cK S') = a + cntL 3002 (cK S))) (by
      rintro f ⟨S1, r1, a1, x1⟩ ⟨i1, i2, i3, i5, i6, i7, i8, i9, i10⟩ ih
      dsimp only at i1 i2 i3 i5 i6 i7 i8 i9 i10 ih ⊢
      unfold fX2_eraseAll_2s
      have r13 := i3.2.1
      rw [show (1000000 : Int32) = nI 1000000 from rfl, if_neg (fun q => absurd ((nI_leI (by omega) (by omega)).mp q) (by omega)), i3.1]
      by_cases c0 : r1 = 0
      · subst c0
        rw [if_pos (by decide)]
        obtain ⟨d1, d2, d3, d4⟩ := EI_end hV i1 (fun v q => by
          obtain ⟨i, hi, -⟩ := i3.2.2.2.2.1 v q
          omega)
        exact ⟨S1, rfl, d1, d2, d3, d4, i2, i3, i9, i6, a1, i7, i8⟩
      · rw [if_neg (nI_nle (by omega) (by omega)), show (3002 : Int32) = nI 3002 from rfl, if_neg (nI_nlt (by omega) (by omega)), bnd_eq, nI_sub1 (by omega)]
        obtain ⟨S2, e2⟩ : ∃ z, z = sI S1 48 (nI (r1 - 1)) := ⟨_, rfl⟩
        rw [← e2]
        have f2 : Fr S1 S2 [48] [] := by rw [e2]; exact Fr.I (by decide)
        have z48 : S2.1 48 = nI (r1 - 1) := by rw [e2]; rfl
        obtain ⟨x, x1', x2, x3⟩ := i3.2.2.2.1 (r1 - 1) (by omega)
        obtain ⟨g2, m2⟩ := i2.of f2 (by decide) (by decide)
        have k2 : cK S2 = cK S1 := congrArg Prod.fst m2
        have rc2 : Rc S2 = Rc S1 := Rc.of (f2.2.1 47 (by decide))
        have rr : RcR (sI S2 48 (nI (r1 - 1 + 1))) (r1 - 1 + 1) := by
          rw [show r1 - 1 + 1 = r1 by omega]
          refine i3.of ?_ ?_ ?_
          · show nI r1 = _
            exact i3.1.symm
          · exact f2.2.1 46 (by decide)
          · exact f2.2.1 47 (by decide)
        obtain ⟨S', r', t1, t2, t3, t4, t5, t6, t7, ⟨b, u2, u3⟩, t8⟩ := X2_calm (S0 := S) (S := S2) (N := N) (a := a1) hN hV (by rw [m2, rc2]; exact i1) g2 z48 rr (by rw [f2.2.1 46 (by decide)]; exact x1') x2 (by rw [k2]; exact i5) (by rw [f2.1 49 (by decide)]; exact i7)
        rw [z48, ckx_ok (vp_in_nI (by omega) (by omega)), nI_clamp (by omega), f2.2.1 46 (by decide), x1', bdo_ok t1, bnd_eq, nI_1]
        rw [k2] at u3 t7 t8
        refine ih (S', r', b, x1 + 1) ⟨t2, t3, t4, t6, by show cntA 3002 (cK S') ≤ _; omega, u2, by show b + cntL 3002 (cK S') = _; omega, (i9.trans (f2.mono (by decide) (fun _ h => (List.not_mem_nil h).elim))).trans t5, by show x1 + 1 + (7 * cntL 3002 (cK S') + r') ≤ 30000; omega⟩ ?_
        show 7 * cntL 3002 (cK S') + r' < 7 * cntL 3002 (cK S1) + r1
        omega) N (S, r, a, 0) ⟨EI_start hV hC, hG, hR, hc, Nat.le_refl _, h49, rfl, Fr.rf, by show 0 + (7 * cntL 3002 (cK S) + r) ≤ 30000; omega⟩ (by show 7 * cntL 3002 (cK S) + r < N; omega)
  refine ⟨R, ?_, e2⟩
  unfold fX2_eraseAll
  rw [bnd_eq]
  exact e1
