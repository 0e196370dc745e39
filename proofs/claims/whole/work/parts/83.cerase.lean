/-! the class: one node is erased -/
/-- an eraser at port j of v; and the erasers at the ports below k -/
def eE (G : Gr) (v j : Nat) : Prop := G.1 (G.2.2.1 v j) = 5
def eZ (G : Gr) (v k w : Nat) : Prop := ∃ j, j < k ∧ eE G v j ∧ G.2.2.1 v j = w
/-- an eraser made for port j of v is there still -/
def eAc (G : Gr) (v j k : Nat) : Prop := ¬ eE G v j ∧ (G.2.2.1 v j ≠ v ∨ k ≤ G.2.2.2 v j)
noncomputable def neE (G : Gr) (v : Nat) : Nat → Nat
  | 0 => 0
  | k + 1 => neE G v k + @ite _ (eE G v k) (Classical.propDecidable _) 1 0
theorem neE_pos {G : Gr} {v j : Nat} (h : eE G v j) : ∀ k, j < k → 1 ≤ neE G v k
  | 0, hk => absurd hk (Nat.not_lt_zero _)
  | k + 1, hk => by
    show 1 ≤ neE G v k + @ite _ (eE G v k) (Classical.propDecidable _) 1 0
    by_cases c : j = k
    · rw [← c, if_pos h]; omega
    · have := neE_pos h k (by omega)
      omega
/-- in the middle of the erasing of v: its ports below k are done -/
def EV (S0 S : St) (v k r r0 : Nat) (x : Nat → Nat) : Prop := GC S ∧ RcR S r ∧ r ≤ r0 + 2 * k ∧ Fr S0 S [44, 48] [40, 41, 42, 43, 45, 46, 47] ∧ (∀ y, Rc S0 y → Rc S y) ∧
  (∀ j, j < k → eAc (Gc S0) v j k → x j < 3002 ∧ cK S (x j) = 5 ∧ (cV S (x j) 0 = cV S0 v j ∧ cP S (x j) 0 = cP S0 v j) ∧ (cV S (cV S0 v j) (cP S0 v j) = x j ∧ cP S (cV S0 v j) (cP S0 v j) = 0) ∧ Rc S (x j) ∧ (cK S0 (x j) = 7 ∨ eZ (Gc S0) v k (x j))) ∧
  (∀ w, w < 3002 → (∀ j, j < k → eAc (Gc S0) v j k → w ≠ x j) → (eZ (Gc S0) v k w → cK S w = 7) ∧ (¬ eZ (Gc S0) v k w → cK S w = cK S0 w)) ∧
  (∀ u i, u < 3002 → i < nP (cK S0 u) → ¬ eZ (Gc S0) v k u → ¬ (cV S0 u i = v ∧ cP S0 u i < k ∧ eAc (Gc S0) v (cP S0 u i) k) → (u = v → k ≤ i) → cV S u i = cV S0 u i ∧ cP S u i = cP S0 u i) ∧
  (∀ u, u < 3002 → cK S0 u < 7 → ¬ eZ (Gc S0) v k u → cX S u = cX S0 u) ∧ cntA 3002 (cK S) + 2 * neE (Gc S0) v k ≤ cntA 3002 (cK S0) + k ∧ cntL 3002 (cK S) = cntL 3002 (cK S0)
theorem eZ_w {n : Nat} {G : Gr} {v j k w : Nat} (hG : GVr n G) (hv : v < n) (hk : k ≤ nP (G.1 v)) (h : eZ G v k w) : G.1 w = 5 ∧ G.2.2.1 w 0 = v ∧ G.2.2.2 w 0 < k := by
  obtain ⟨j, hj, he, e⟩ := h
  obtain ⟨g1, g2, g3, g4, -⟩ := hG.1 v j hv (by omega)
  have he' : G.1 (G.2.2.1 v j) = 5 := he
  rw [he'] at g2
  have q0 : G.2.2.2 v j = 0 := by have : G.2.2.2 v j < 1 := g2; omega
  rw [q0, e] at g3 g4
  rw [← e]
  rw [e]
  exact ⟨by rw [← e]; exact he', g3, by rw [g4]; exact hj⟩
theorem X2_isErased {S : St} {N v k : Nat} (h : COk S) (hv : v < 3002) (hk : k < 4) (hw : cV S v k < 3002) : fX2_isErased N S (nI (4 * v + k)) = some (if cK S (cV S v k) = 5 then 1 else 0, S) := by
  have p4 : cP S v k < 4 := Nat.mod_lt _ (by decide)
  unfold fX2_isErased
  rw [bd2_ok (X2_across h hv hk), bdo_ok (nA (by omega)), show (4 * cV S v k + cP S v k) / 4 = cV S v k by omega, bd2_ok (X2_kindOf h hw)]
  have k7 := (h.1 _ hw).2.1
  by_cases c : cK S (cV S v k) = 5
  · rw [if_pos c, if_pos (by rw [c]; rfl)]
  · rw [if_neg c, if_neg (fun q => c ?_)]
    have : ∀ k, k ≤ 7 → kI k = 5 → k = 5 := by decide +kernel
    exact this _ k7 q
theorem X2_eraseStep {S0 S : St} {N v k r r0 : Nat} {x : Nat → Nat} (hV : GVr 3002 (Gc S0)) (hv : v < 3002) (h5 : cK S0 v < 5) (hk : k < nP (cK S0 v)) (h : EV S0 S v k r r0 x) (hA : cntA 3002 (cK S0) ≤ 3000) (hE : ∃ j, j < nP (cK S0 v) ∧ eE (Gc S0) v j) :
    ∃ S' r' x', (∀ K : St → Option St, (bdo (fX7_portOf (nI v) (nI k)) fun v6 => bd2 (fX2_isErased N S v6) fun v8 S10 => if v8 = 0 then bd2 (fX2_make N S10 (5 : Int32) (-1 : Int32)) fun v12 S14 => bdo (fX7_portOf v12 (0 : Int32)) fun v15 => bdo (fX2_replace N S14 v6 v15) fun S19 => K S19 else bd2 (fX2_across N S10 v6) fun v20 S22 => bdo (fX7_nodeAt v20) fun v23 => bdo (fX2_discard N S22 v23) fun S27 => K S27) = K S') ∧ EV S0 S' v (k + 1) r' r0 x' := by
  obtain ⟨h1, h2, h3, h4, h5', h6, h7, h8, h9, h10, h11⟩ := h
  have n3 := nP_le (cK S0 v)
  obtain ⟨g1, g2, g3, g4, g5⟩ := hV.1 v k hv hk
  obtain ⟨t, et⟩ : ∃ t, t = cV S0 v k := ⟨_, rfl⟩
  obtain ⟨i, ei⟩ : ∃ i, i = cP S0 v k := ⟨_, rfl⟩
  have g1 : t < 3002 := by rw [et]; exact g1
  have g2 : i < nP (cK S0 t) := by rw [et, ei]; exact g2
  have g3 : cV S0 t i = v := by rw [et, ei]; exact g3
  have g4 : cP S0 t i = k := by rw [et, ei]; exact g4
  have g5 : ¬ (t = v ∧ i = k) := by rw [et, ei]; exact g5
  have t7 := nP_7 (Nat.lt_of_le_of_lt (Nat.zero_le _) g2)
  have i3 : i < 3 := Nat.lt_of_lt_of_le g2 (nP_le _)
  have kle : k ≤ nP (cK S0 v) := by omega
  have vz : ∀ k', k' ≤ nP (cK S0 v) → ¬ eZ (Gc S0) v k' v := fun k' hk' q => by
    have : cK S0 v = 5 := (eZ_w (j := 0) hV hv hk' q).1
    omega
  -- an active one is none of the old
  have xo : ∀ j, j < k → eAc (Gc S0) v j k → ∀ w, cK S0 w < 7 → ¬ eZ (Gc S0) v k w → w ≠ x j := by
    intro j hj ha w w7 wz q
    rcases (h6 j hj ha).2.2.2.2.2 with e | e
    · rw [← q] at e; omega
    · rw [← q] at e; exact wz e
  have inj : ∀ a b, a < nP (cK S0 v) → b < nP (cK S0 v) → cV S0 v a = cV S0 v b → cP S0 v a = cP S0 v b → a = b := by
    intro a b ha hb e1 e2
    have q1 : cP S0 (cV S0 v a) (cP S0 v a) = a := (hV.1 v a hv ha).2.2.2.1
    have q2 : cP S0 (cV S0 v b) (cP S0 v b) = b := (hV.1 v b hv hb).2.2.2.1
    rw [e1, e2] at q1
    exact q1.symm.trans q2
  have Zs : ∀ w, eZ (Gc S0) v (k + 1) w ↔ eZ (Gc S0) v k w ∨ (eE (Gc S0) v k ∧ t = w) := by
    intro w
    constructor
    · rintro ⟨j, hj, he, e⟩
      by_cases c : j = k
      · subst c
        exact Or.inr ⟨he, et.trans e⟩
      · exact Or.inl ⟨j, by omega, he, e⟩
    · rintro (⟨j, hj, he, e⟩ | ⟨he, e⟩)
      · exact ⟨j, by omega, he, e⟩
      · exact ⟨k, by omega, he, et.symm.trans e⟩
  have As : ∀ j, eAc (Gc S0) v j (k + 1) → eAc (Gc S0) v j k := fun j ha => ⟨ha.1, ha.2.imp id (fun q => by omega)⟩
  by_cases cs : t = v ∧ i < k
  · -- the second end of a wire from v to v
    obtain ⟨tv, ik⟩ := cs
    have hi' : i < nP (cK S0 v) := by omega
    have wi : cV S0 v i = v ∧ cP S0 v i = k := by rw [tv] at g3 g4; exact ⟨g3, g4⟩
    have ai : eAc (Gc S0) v i k := by
      refine ⟨fun q => ?_, Or.inr ?_⟩
      · have q : cK S0 (cV S0 v i) = 5 := q
        rw [wi.1] at q; omega
      · show k ≤ cP S0 v i
        rw [wi.2]
        exact Nat.le_refl _
    obtain ⟨y1, y2, ⟨y3, y4⟩, ⟨y5, y6⟩, y7, y8⟩ := h6 i ik ai
    rw [wi.1] at y3
    rw [wi.2] at y4
    rw [wi.1, wi.2] at y5 y6
    have eE' : fX2_isErased N S (nI (4 * v + k)) = some (1, S) := by
      rw [X2_isErased h1.1 hv (by omega) (by rw [y5]; exact y1), if_pos (by rw [y5]; exact y2)]
    obtain ⟨S', d1, d2, d3, d4, d5⟩ := X2_discard (N := N) h1 y1 (by omega)
    have nk : ¬ eE (Gc S0) v k := fun q => by
      have q : cK S0 (cV S0 v k) = 5 := q
      rw [← et, tv] at q; omega
    have Zk : ∀ w, eZ (Gc S0) v (k + 1) w ↔ eZ (Gc S0) v k w := fun w => (Zs w).trans ⟨fun q => q.elim id (fun q => absurd q.1 nk), Or.inl⟩
    have wS : ∀ u j, cV S' u j = cV S u j ∧ cP S' u j = cP S u j := fun u j => by
      unfold cV cP cW
      rw [d2.2.1 42 (by decide)]
      exact ⟨rfl, rfl⟩
    have rcE : Rc S' = Rc S := Rc.of (d2.2.1 47 (by decide))
    -- those that are left
    have act : ∀ j, j < k + 1 → eAc (Gc S0) v j (k + 1) → j < k ∧ j ≠ i := by
      intro j hj ha
      have jk : j ≠ k := fun q => by
        rw [q] at ha
        rcases ha.2 with z | z
        · exact z (by show cV S0 v k = v; rw [← et]; exact tv)
        · have z : k + 1 ≤ cP S0 v k := z
          rw [← ei] at z; omega
      refine ⟨by omega, fun q => ?_⟩
      rw [q] at ha
      rcases ha.2 with z | z
      · exact z wi.1
      · have z : k + 1 ≤ cP S0 v i := z
        rw [wi.2] at z; omega
    have xne : ∀ j, j < k → eAc (Gc S0) v j k → j ≠ i → x j ≠ x i := by
      intro j hj ha hji q
      obtain ⟨-, -, ⟨q3, q4⟩, -⟩ := h6 j hj ha
      rw [q, y3] at q3
      rw [q, y4] at q4
      exact hji (inj j i (by omega) hi' (by rw [wi.1]; exact q3.symm) (by rw [wi.2]; exact q4.symm))
    refine ⟨S', r, x, fun K => ?_, d3, h2.of (d2.1 48 (by decide)) (d2.2.1 46 (by decide)) (d2.2.1 47 (by decide)), by omega, h4.trans (d2.mono (by decide) (by decide)), fun y hy => by rw [rcE]; exact h5' y hy, fun j hj ha => ?_, fun w hw hx => ?_, fun u j hu hj uz ua uv => ?_, fun u hu u7 uz => ?_, ?_, ?_⟩
    · rw [bdo_ok (pO v k), bd2_ok eE', if_neg (by decide), bd2_ok (X2_across h1.1 hv (by omega)), y5, y6, bdo_ok (nA (by omega)), show (4 * x i + 0) / 4 = x i by omega, bdo_ok d1]
    · obtain ⟨j1, j2⟩ := act j hj ha
      obtain ⟨b1, b2, b3, b4, b5, b6⟩ := h6 j j1 (As j ha)
      have ne := xne j j1 (As j ha) j2
      rw [(wS _ _).1, (wS _ _).2, (wS _ _).1, (wS _ _).2, rcE, d4, updN_at, if_neg ne]
      exact ⟨b1, b2, b3, b4, b5, b6.imp id (fun q => (Zk _).mpr q)⟩
    · rw [Zk, d4, updN_at]
      by_cases c : w = x i
      · rw [if_pos c]
        refine ⟨fun _ => rfl, fun q => ?_⟩
        rcases y8 with z | z
        · rw [c]; exact z.symm
        · rw [← c] at z; exact absurd z q
      · rw [if_neg c]
        refine h7 w hw (fun j hj ha => ?_)
        by_cases z : j = i
        · rw [z]; exact c
        · refine hx j (by omega) ⟨ha.1, ?_⟩
          rcases ha.2 with q | q
          · exact Or.inl q
          · have q : k ≤ cP S0 v j := q
            by_cases e : cP S0 v j = k
            · by_cases f : cV S0 v j = v
              · exact absurd (inj j i (by omega) hi' (by rw [f, wi.1]) (by rw [e, wi.2])) z
              · exact Or.inl f
            · exact Or.inr (by show k + 1 ≤ cP S0 v j; omega)
    · rw [(wS _ _).1, (wS _ _).2]
      refine h8 u j hu hj (fun q => uz ((Zk u).mpr q)) (fun q => ua ?_) (fun q => by have := uv q; omega)
      refine ⟨q.1, by omega, ⟨q.2.2.1, ?_⟩⟩
      rcases q.2.2.2 with z | z
      · exact Or.inl z
      · have z : k ≤ cP S0 v (cP S0 u j) := z
        obtain ⟨-, -, w3, w4, -⟩ := hV.1 u j hu hj
        have w3 : cV S0 (cV S0 u j) (cP S0 u j) = u := w3
        have w4 : cP S0 (cV S0 u j) (cP S0 u j) = j := w4
        rw [q.1] at w3 w4
        by_cases f : u = v
        · have := uv f
          exact Or.inr (by show k + 1 ≤ cP S0 v (cP S0 u j); rw [w4]; exact this)
        · exact Or.inl (by show cV S0 v (cP S0 u j) ≠ v; rw [w3]; exact f)
    · have : cX S' u = cX S u := by unfold cX; rw [d2.2.1 41 (by decide)]
      rw [this]
      exact h9 u hu u7 (fun q => uz ((Zk u).mpr q))
    · show cntA 3002 (cK S') + 2 * (neE (Gc S0) v k + @ite _ (eE (Gc S0) v k) (Classical.propDecidable _) 1 0) ≤ _
      rw [if_neg nk]
      omega
    · rw [d4, cntL_other y1 (by omega) (by omega)]
      exact h11
  · -- as it was
    have wk : cV S v k = t ∧ cP S v k = i := by
      have := h8 v k hv hk (vz k kle) (fun q => by
        have q1 : cV S0 v k = v := q.1
        have q2 : cP S0 v k < k := q.2.1
        rw [← et] at q1
        rw [← ei] at q2
        exact cs ⟨q1, q2⟩) (fun _ => Nat.le_refl _)
      rw [et, ei]
      exact this
    have tz : ¬ eZ (Gc S0) v k t := fun q => by
      obtain ⟨q1, q2, q3⟩ := eZ_w (j := 0) hV hv kle q
      have q1 : cK S0 t = 5 := q1
      rw [q1] at g2
      have i0 : i = 0 := by have : i < 1 := g2; omega
      rw [i0] at g4
      have q3 : cP S0 t 0 < k := q3
      omega
    have kt : cK S t = cK S0 t := (h7 t g1 (fun j hj ha => xo j hj ha t t7 tz)).2 tz
    by_cases ce : cK S0 t = 5
    · -- an eraser there goes
      have ek : eE (Gc S0) v k := by show cK S0 (cV S0 v k) = 5; rw [← et]; exact ce
      have i0 : i = 0 := by rw [ce] at g2; have : i < 1 := g2; omega
      have eE' : fX2_isErased N S (nI (4 * v + k)) = some (1, S) := by
        rw [X2_isErased h1.1 hv (by omega) (by rw [wk.1]; exact g1), if_pos (by rw [wk.1, kt]; exact ce)]
      obtain ⟨S', d1, d2, d3, d4, d5⟩ := X2_discard (N := N) h1 g1 (by rw [kt]; omega)
      have wS : ∀ u j, cV S' u j = cV S u j ∧ cP S' u j = cP S u j := fun u j => by
        unfold cV cP cW
        rw [d2.2.1 42 (by decide)]
        exact ⟨rfl, rfl⟩
      have rcE : Rc S' = Rc S := Rc.of (d2.2.1 47 (by decide))
      have act : ∀ j, j < k + 1 → eAc (Gc S0) v j (k + 1) → j < k := by
        intro j hj ha
        have : j ≠ k := fun q => ha.1 (by rw [q]; exact ek)
        omega
      refine ⟨S', r, x, fun K => ?_, d3, h2.of (d2.1 48 (by decide)) (d2.2.1 46 (by decide)) (d2.2.1 47 (by decide)), by omega, h4.trans (d2.mono (by decide) (by decide)), fun y hy => by rw [rcE]; exact h5' y hy, fun j hj ha => ?_, fun w hw hx => ?_, fun u j hu hj uz ua uv => ?_, fun u hu u7 uz => ?_, ?_, ?_⟩
      · rw [bdo_ok (pO v k), bd2_ok eE', if_neg (by decide), bd2_ok (X2_across h1.1 hv (by omega)), wk.1, wk.2, bdo_ok (nA (by omega)), show (4 * t + i) / 4 = t by omega, bdo_ok d1]
      · have j1 := act j hj ha
        obtain ⟨b1, b2, b3, b4, b5, b6⟩ := h6 j j1 (As j ha)
        have ne := xo j j1 (As j ha) t t7 tz
        rw [(wS _ _).1, (wS _ _).2, (wS _ _).1, (wS _ _).2, rcE, d4, updN_at, if_neg (fun q => ne q.symm)]
        exact ⟨b1, b2, b3, b4, b5, b6.imp id (fun q => (Zs _).mpr (Or.inl q))⟩
      · have old : ∀ j, j < k → eAc (Gc S0) v j k → w ≠ t → w ≠ x j := by
          intro j hj ha wt
          refine hx j (by omega) ⟨ha.1, ?_⟩
          rcases ha.2 with q | q
          · exact Or.inl q
          · have q : k ≤ cP S0 v j := q
            by_cases e : cP S0 v j = k
            · by_cases f : cV S0 v j = v
              · exfalso
                obtain ⟨-, -, w3, w4, -⟩ := hV.1 v j hv (show j < nP (cK S0 v) by omega)
                have w3 : cV S0 (cV S0 v j) (cP S0 v j) = v := w3
                rw [f, e, ← et] at w3
                rw [w3] at ce; omega
              · exact Or.inl f
            · exact Or.inr (by show k + 1 ≤ cP S0 v j; omega)
        rw [Zs, d4, updN_at]
        by_cases c : w = t
        · rw [if_pos c]
          exact ⟨fun _ => rfl, fun q => absurd (Or.inr ⟨ek, c.symm⟩) q⟩
        · rw [if_neg c]
          obtain ⟨b1, b2⟩ := h7 w hw (fun j hj ha => old j hj ha c)
          exact ⟨fun q => b1 (q.resolve_right (fun z => c z.2.symm)), fun q => b2 (fun z => q (Or.inl z))⟩
      · rw [(wS _ _).1, (wS _ _).2]
        have uz' : ¬ eZ (Gc S0) v k u := fun q => uz ((Zs u).mpr (Or.inl q))
        refine h8 u j hu hj uz' (fun q => ua ?_) (fun q => by have := uv q; omega)
        refine ⟨q.1, by omega, ⟨q.2.2.1, ?_⟩⟩
        rcases q.2.2.2 with z | z
        · exact Or.inl z
        · have z : k ≤ cP S0 v (cP S0 u j) := z
          obtain ⟨-, -, w3, w4, -⟩ := hV.1 u j hu hj
          have w3 : cV S0 (cV S0 u j) (cP S0 u j) = u := w3
          have w4 : cP S0 (cV S0 u j) (cP S0 u j) = j := w4
          rw [q.1] at w3 w4
          by_cases f : u = v
          · have := uv f
            exact Or.inr (by show k + 1 ≤ cP S0 v (cP S0 u j); rw [w4]; exact this)
          · exact Or.inl (by show cV S0 v (cP S0 u j) ≠ v; rw [w3]; exact f)
      · have : cX S' u = cX S u := by unfold cX; rw [d2.2.1 41 (by decide)]
        rw [this]
        exact h9 u hu u7 (fun q => uz ((Zs u).mpr (Or.inl q)))
      · show cntA 3002 (cK S') + 2 * (neE (Gc S0) v k + @ite _ (eE (Gc S0) v k) (Classical.propDecidable _) 1 0) ≤ _
        rw [if_pos ek]
        omega
      · rw [d4, cntL_other g1 (by rw [kt]; omega) (by omega)]
        exact h11
    · -- a new eraser
      have nk : ¬ eE (Gc S0) v k := fun q => by
        have q : cK S0 (cV S0 v k) = 5 := q
        rw [← et] at q; exact ce q
      have eE' : fX2_isErased N S (nI (4 * v + k)) = some (0, S) := by
        rw [X2_isErased h1.1 hv (by omega) (by rw [wk.1]; exact g1), if_neg (by rw [wk.1, kt]; exact ce)]
      have room : cntA 3002 (cK S) < 3002 := by
        by_cases k2 : k ≤ 1
        · omega
        · obtain ⟨j0, j1, j2⟩ := hE
          have : j0 ≠ k := fun q => nk (by rw [← q]; exact j2)
          have := neE_pos j2 k (by omega)
          omega
      obtain ⟨y, S14, m1, m2, m3, m4, m5, m6, m7, -, m9⟩ := X2_make (N := N) (k := 5) (x := -1) h1 room (by decide) (fun q => absurd q (by decide))
      have r14 : RcR S14 r := h2.of (m4.1 48 (by decide)) (m4.2.1 46 (by decide)) (m4.2.1 47 (by decide))
      obtain ⟨S', r', l1, l2, l3, l4, l5, l6, -, l7, l8, l9⟩ := X2_link (N := N) (a := y) (i := 0) (b := t) (j := i) m5 r14 m2 (by decide) g1 (by omega)
      have w14 : ∀ u j, cV S14 u j = cV S u j ∧ cP S14 u j = cP S u j := fun u j => by
        unfold cV cP cW
        rw [m4.2.1 42 (by decide)]
        exact ⟨rfl, rfl⟩
      have kS : cK S' = updN (cK S) y 5 := by
        rw [← m6]; funext w; unfold cK; rw [l2.2.1 40 (by decide)]
      have rc14 : Rc S14 = Rc S := Rc.of (m4.2.1 47 (by decide))
      have yt : y ≠ t := fun q => by rw [q, kt] at m3; omega
      have ynew : cK S0 y = 7 ∨ eZ (Gc S0) v k y := by
        by_cases z : eZ (Gc S0) v k y
        · exact Or.inr z
        · left
          rw [← (h7 y m2 (fun j hj ha q => by
            have := (h6 j hj ha).2.1
            rw [← q, m3] at this
            omega)).2 z]
          exact m3
      have yold : ∀ w, cK S0 w < 7 → ¬ eZ (Gc S0) v k w → w ≠ y := fun w w7 wz q => by
        rcases ynew with e | e
        · rw [← q] at e; omega
        · rw [← q] at e; exact wz e
      have Zk : ∀ w, eZ (Gc S0) v (k + 1) w ↔ eZ (Gc S0) v k w := fun w => (Zs w).trans ⟨fun q => q.elim id (fun q => absurd q.1 nk), Or.inl⟩
      have W : ∀ u j, j < 4 → cV S' u j = (if u = t ∧ j = i then y else if u = y ∧ j = 0 then t else cV S u j) ∧ cP S' u j = (if u = t ∧ j = i then 0 else if u = y ∧ j = 0 then i else cP S u j) := fun u j hj => by
        have := l4 u j hj
        rw [(w14 u j).1, (w14 u j).2] at this
        exact this
      have xj : ∀ j, j ≠ k → (fun j => if j = k then y else x j) j = x j := fun j hj => if_neg hj
      have xk : (fun j => if j = k then y else x j) k = y := if_pos rfl
      refine ⟨S', r', fun j => if j = k then y else x j, fun K => ?_, l3, l5, by omega, (h4.trans (m4.mono (by decide) (by decide))).trans (l2.mono (by decide) (by decide)), fun z hz => l7 z (by rw [rc14]; exact h5' z hz), fun j hj ha => ?_, fun w hw hx => ?_, fun u j hu hj uz ua uv => ?_, fun u hu u7 uz => ?_, ?_, ?_⟩
      · rw [bdo_ok (pO v k), bd2_ok eE', if_pos rfl, show (5 : Int32) = nI 5 from rfl, bd2_ok m1, show (0 : Int32) = nI 0 from rfl, bdo_ok (pO y 0)]
        have e14 : fX2_across N S14 (nI (4 * v + k)) = some (nI (4 * t + i), S14) := by
          rw [X2_across m5.1 hv (by omega), (w14 v k).1, (w14 v k).2, wk.1, wk.2]
        have er : fX2_replace N S14 (nI (4 * v + k)) (nI (4 * y + 0)) = some S' := by
          unfold fX2_replace
          rw [bd2_ok e14, bdo_ok l1]
        rw [bdo_ok er]
      · by_cases c : j = k
        · subst c
          rw [xk, ← et, ← ei]
          obtain ⟨a1, a2⟩ := W y 0 (by decide)
          obtain ⟨a3, a4⟩ := W t i (by omega)
          rw [if_neg (fun q => yt q.1), if_pos ⟨rfl, rfl⟩] at a1 a2
          rw [if_pos ⟨rfl, rfl⟩] at a3 a4
          exact ⟨m2, by rw [kS, updN_at, if_pos rfl], ⟨a1, a2⟩, ⟨a3, a4⟩, l8 (by rw [m6, updN_at, if_pos rfl]), ynew.imp id (fun q => (Zk y).mpr q)⟩
        · have jk : j < k := by omega
          have haj := As j ha
          obtain ⟨b1, b2, b3, b4, b5, b6⟩ := h6 j jk haj
          have ne : x j ≠ y := fun q => by rw [q, m3] at b2; omega
          have xt : x j ≠ t := fun q => xo j jk haj t t7 tz q.symm
          rw [xj j c]
          obtain ⟨a1, a2⟩ := W (x j) 0 (by decide)
          rw [if_neg (fun q => xt q.1), if_neg (fun q => ne q.1)] at a1 a2
          obtain ⟨c1, c2, c3, c4, c5⟩ := hV.1 v j hv (show j < nP (cK S0 v) by omega)
          have c2 : cP S0 v j < nP (cK S0 (cV S0 v j)) := c2
          have c7 := nP_7 (Nat.lt_of_le_of_lt (Nat.zero_le _) c2)
          have pz : ¬ eZ (Gc S0) v k (cV S0 v j) := fun q => haj.1 (eZ_w (j := 0) hV hv kle q).1
          obtain ⟨a3, a4⟩ := W (cV S0 v j) (cP S0 v j) (Nat.lt_of_lt_of_le c2 (Nat.le_trans (nP_le _) (by decide)))
          rw [if_neg (fun q => c (inj j k (by omega) hk (by rw [q.1, et]) (by rw [q.2, ei]))), if_neg (fun q => yold _ c7 pz q.1)] at a3 a4
          rw [a1, a2, a3, a4, kS, updN_at, if_neg ne]
          exact ⟨b1, b2, b3, b4, l7 _ (by rw [rc14]; exact b5), b6.imp id (fun q => (Zk _).mpr q)⟩
      · have ak : eAc (Gc S0) v k (k + 1) := by
          refine ⟨nk, ?_⟩
          by_cases z : t = v
          · have : i ≠ k := fun q => g5 ⟨z, q⟩
            have : ¬ i < k := fun q => cs ⟨z, q⟩
            exact Or.inr (by show k + 1 ≤ cP S0 v k; rw [← ei]; omega)
          · exact Or.inl (by show cV S0 v k ≠ v; rw [← et]; exact z)
        have wy : w ≠ y := by
          have := hx k (by omega) ak
          rw [xk] at this
          exact this
        rw [Zk, kS, updN_at, if_neg wy]
        refine h7 w hw (fun j hj ha => ?_)
        have haj : eAc (Gc S0) v j (k + 1) := by
          refine ⟨ha.1, ?_⟩
          rcases ha.2 with q | q
          · exact Or.inl q
          · have q : k ≤ cP S0 v j := q
            by_cases e : cP S0 v j = k
            · by_cases f : cV S0 v j = v
              · exfalso
                obtain ⟨-, -, w3, w4, -⟩ := hV.1 v j hv (show j < nP (cK S0 v) by omega)
                have w3 : cV S0 (cV S0 v j) (cP S0 v j) = v := w3
                have w4 : cP S0 (cV S0 v j) (cP S0 v j) = j := w4
                rw [f, e, ← et] at w3
                rw [f, e, ← ei] at w4
                exact cs ⟨w3, by omega⟩
              · exact Or.inl f
            · exact Or.inr (by show k + 1 ≤ cP S0 v j; omega)
        have := hx j (by omega) haj
        rw [xj j (by omega)] at this
        exact this
      · have j3 : j < 3 := Nat.lt_of_lt_of_le hj (nP_le _)
        have uz' : ¬ eZ (Gc S0) v k u := fun q => uz ((Zk u).mpr q)
        have u7 := nP_7 (Nat.lt_of_le_of_lt (Nat.zero_le _) hj)
        obtain ⟨a1, a2⟩ := W u j (by omega)
        have nz : ¬ (u = t ∧ j = i) := fun q => by
          refine ua ?_
          rw [q.1, q.2, g3, g4]
          refine ⟨rfl, by omega, nk, ?_⟩
          by_cases z : t = v
          · have : i ≠ k := fun q => g5 ⟨z, q⟩
            have : ¬ i < k := fun q => cs ⟨z, q⟩
            exact Or.inr (by show k + 1 ≤ cP S0 v k; rw [← ei]; omega)
          · exact Or.inl (by show cV S0 v k ≠ v; rw [← et]; exact z)
        rw [if_neg nz, if_neg (fun q => yold u u7 uz' q.1)] at a1 a2
        rw [a1, a2]
        refine h8 u j hu hj uz' (fun q => ua ?_) (fun q => by have := uv q; omega)
        refine ⟨q.1, by omega, ⟨q.2.2.1, ?_⟩⟩
        rcases q.2.2.2 with z | z
        · exact Or.inl z
        · have z : k ≤ cP S0 v (cP S0 u j) := z
          obtain ⟨-, -, w3, w4, -⟩ := hV.1 u j hu hj
          have w3 : cV S0 (cV S0 u j) (cP S0 u j) = u := w3
          have w4 : cP S0 (cV S0 u j) (cP S0 u j) = j := w4
          rw [q.1] at w3 w4
          by_cases f : u = v
          · have := uv f
            exact Or.inr (by show k + 1 ≤ cP S0 v (cP S0 u j); rw [w4]; exact this)
          · exact Or.inl (by show cV S0 v (cP S0 u j) ≠ v; rw [w3]; exact f)
      · have uz' : ¬ eZ (Gc S0) v k u := fun q => uz ((Zk u).mpr q)
        have e1 : cX S' u = cX S14 u := by unfold cX; rw [l2.2.1 41 (by decide)]
        rw [e1, m7 u (yold u u7 uz')]
        exact h9 u hu u7 uz'
      · show cntA 3002 (cK S') + 2 * (neE (Gc S0) v k + @ite _ (eE (Gc S0) v k) (Classical.propDecidable _) 1 0) ≤ _
        have : cK S' = cK S14 := by funext w; unfold cK; rw [l2.2.1 40 (by decide)]
        rw [if_neg nk, this]
        omega
      · rw [kS, cntL_other m2 (by omega) (by omega)]
        exact h11
