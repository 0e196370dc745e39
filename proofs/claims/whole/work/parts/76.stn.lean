/-! a passing: the new nodes, and what must be wired -/
def FRS (n : Nat) (G : Gr) (c u : Nat) (o lk : Nat → Nat) : Prop := (∀ a, auxC (G.1 c) a → o a < n ∧ G.1 (o a) = 7) ∧ (∀ k, 0 < k → k < nP (G.1 u) → lk k < n ∧ G.1 (lk k) = 7) ∧ (∀ a k, auxC (G.1 c) a → 0 < k → k < nP (G.1 u) → o a ≠ lk k) ∧ (∀ a b, auxC (G.1 c) a → auxC (G.1 c) b → o a = o b → a = b) ∧ (∀ k j, 0 < k → k < nP (G.1 u) → 0 < j → j < nP (G.1 u) → lk k = lk j → k = j)
/-- a port that a passing keeps -/
def kpt (n : Nat) (G : Gr) (c u v k : Nat) : Prop := v < n ∧ k < nP (G.1 v) ∧ ¬ (v = c ∧ k = 0) ∧ ¬ (v = u ∧ k = 0)
theorem stn_c {c u : Nat} {o lk : Nat → Nat} (k : Nat) : stn c u o lk (c, k) = (o k, 0) := by
  unfold stn
  rw [if_pos rfl]
theorem stn_u {c u : Nat} {o lk : Nat → Nat} (ne : c ≠ u) (k : Nat) : stn c u o lk (u, k) = (lk k, 0) := by
  unfold stn
  rw [if_neg (fun q => ne q.symm), if_pos rfl]
theorem stn_o {c u : Nat} {o lk : Nat → Nat} {v : Nat} (h1 : v ≠ c) (h2 : v ≠ u) (k : Nat) : stn c u o lk (v, k) = (v, k) := by
  unfold stn
  rw [if_neg h1, if_neg h2]
theorem stn_inj {n : Nat} {G : Gr} {c u : Nat} {o lk : Nat → Nat} (hc : isC (G.1 c)) (h : FRS n G c u o lk) {v k w j : Nat} (hv : kpt n G c u v k) (hw : kpt n G c u w j) (e : stn c u o lk (v, k) = stn c u o lk (w, j)) : v = w ∧ k = j := by
  obtain ⟨n1, n2, n3, n4, n5⟩ := h
  obtain ⟨-, hk, m1, m2⟩ := hv
  obtain ⟨-, hj, m3, m4⟩ := hw
  have v7 := nP_7 (Nat.lt_of_le_of_lt (Nat.zero_le _) hk)
  have w7 := nP_7 (Nat.lt_of_le_of_lt (Nat.zero_le _) hj)
  unfold stn at e
  dsimp only at e
  by_cases c1 : v = c
  · rw [if_pos c1] at e
    subst c1
    have ha := aux_of hc (fun q => m1 ⟨rfl, q⟩) hk
    by_cases d1 : w = v
    · rw [if_pos d1] at e
      subst d1
      exact ⟨rfl, n4 _ _ ha (aux_of hc (fun q => m3 ⟨rfl, q⟩) hj) (congrArg Prod.fst e)⟩
    · rw [if_neg d1] at e
      by_cases d2 : w = u
      · rw [if_pos d2] at e
        subst d2
        exact absurd (congrArg Prod.fst e) (n3 k j ha (Nat.pos_of_ne_zero (fun q => m4 ⟨rfl, q⟩)) hj)
      · rw [if_neg d2] at e
        have : o k = w := congrArg Prod.fst e
        have q := (n1 k ha).2
        rw [this] at q; omega
  · rw [if_neg c1] at e
    by_cases c2 : v = u
    · rw [if_pos c2] at e
      subst c2
      have h0 : 0 < k := Nat.pos_of_ne_zero (fun q => m2 ⟨rfl, q⟩)
      by_cases d1 : w = c
      · rw [if_pos d1] at e
        subst d1
        exact absurd (congrArg Prod.fst e).symm (n3 j k (aux_of hc (fun q => m3 ⟨rfl, q⟩) hj) h0 hk)
      · rw [if_neg d1] at e
        by_cases d2 : w = v
        · rw [if_pos d2] at e
          subst d2
          exact ⟨rfl, n5 _ _ h0 hk (Nat.pos_of_ne_zero (fun q => m4 ⟨rfl, q⟩)) hj (congrArg Prod.fst e)⟩
        · rw [if_neg d2] at e
          have : lk k = w := congrArg Prod.fst e
          have q := (n2 k h0 hk).2
          rw [this] at q; omega
    · rw [if_neg c2] at e
      by_cases d1 : w = c
      · rw [if_pos d1] at e
        subst d1
        have : v = o j := congrArg Prod.fst e
        have q := (n1 j (aux_of hc (fun q => m3 ⟨rfl, q⟩) hj)).2
        rw [← this] at q; omega
      · rw [if_neg d1] at e
        by_cases d2 : w = u
        · rw [if_pos d2] at e
          subst d2
          have : v = lk j := congrArg Prod.fst e
          have q := (n2 j (Nat.pos_of_ne_zero (fun q => m4 ⟨rfl, q⟩)) hj).2
          rw [← this] at q; omega
        · rw [if_neg d2] at e
          exact ⟨congrArg Prod.fst e, congrArg Prod.snd e⟩
theorem kpt.w {n : Nat} {G : Gr} {c u v k : Nat} (hG : GVr n G) (hcu : G.2.2.1 c 0 = u ∧ G.2.2.2 c 0 = 0 ∧ G.2.2.1 u 0 = c ∧ G.2.2.2 u 0 = 0) (h : kpt n G c u v k) : kpt n G c u (G.2.2.1 v k) (G.2.2.2 v k) ∧ G.2.2.1 (G.2.2.1 v k) (G.2.2.2 v k) = v ∧ G.2.2.2 (G.2.2.1 v k) (G.2.2.2 v k) = k := by
  obtain ⟨hv, hk, m1, m2⟩ := h
  obtain ⟨g1, g2, g3, g4, g5⟩ := hG.1 v k hv hk
  refine ⟨⟨g1, g2, fun q => ?_, fun q => ?_⟩, g3, g4⟩
  · rw [q.1, q.2] at g3 g4
    exact m2 ⟨g3.symm.trans hcu.1, g4.symm.trans hcu.2.1⟩
  · rw [q.1, q.2] at g3 g4
    exact m1 ⟨g3.symm.trans hcu.2.2.1, g4.symm.trans hcu.2.2.2⟩
theorem PX_mk {n : Nat} {G G' : Gr} {c u : Nat} {o lk : Nat → Nat} (hc : isC (G.1 c)) (lc : lv n G c) (lu : lv n G u) (ne : c ≠ u) (hF : FRS n G c u o lk) (k1 : G'.1 c = 7) (k2 : G'.1 u = 7)
    (k3 : ∀ a, auxC (G.1 c) a → G'.1 (o a) = G.1 u ∧ G'.2.1 (o a) = sh (G.1 c) (G.2.1 u)) (k4 : ∀ k, 0 < k → k < nP (G.1 u) → G'.1 (lk k) = G.1 c ∧ G'.2.1 (lk k) = G.2.1 c)
    (k5 : ∀ w, w < n → w ≠ c → w ≠ u → (∀ a, auxC (G.1 c) a → w ≠ o a) → (∀ k, 0 < k → k < nP (G.1 u) → w ≠ lk k) → G'.1 w = G.1 w ∧ G'.2.1 w = G.2.1 w)
    (w1 : ∀ v k, kpt n G c u v k → (G'.2.2.1 (stn c u o lk (v, k)).1 (stn c u o lk (v, k)).2, G'.2.2.2 (stn c u o lk (v, k)).1 (stn c u o lk (v, k)).2) = stn c u o lk (G.2.2.1 v k, G.2.2.2 v k))
    (w2 : ∀ a k, auxC (G.1 c) a → 0 < k → k < nP (G.1 u) → (G'.2.2.1 (o a) k = lk k ∧ G'.2.2.2 (o a) k = a) ∧ (G'.2.2.1 (lk k) a = o a ∧ G'.2.2.2 (lk k) a = k)) : PX n G c u o lk G' := by
  obtain ⟨n1, n2, n3, n4, n5⟩ := hF
  have nn : ∀ w, G.1 w < 7 → (∀ a, auxC (G.1 c) a → w ≠ o a) ∧ (∀ k, 0 < k → k < nP (G.1 u) → w ≠ lk k) := fun w h7 => ⟨fun a ha q => by have := (n1 a ha).2; rw [← q] at this; omega, fun k h0 hk q => by have := (n2 k h0 hk).2; rw [← q] at this; omega⟩
  refine ⟨⟨fun v hv vc vu h0 => ?_, fun a ha => ?_, fun k h0 hk => ?_⟩, n1, n2, n3, n4, n5, k1, k2, fun v hv => ?_⟩
  · obtain ⟨a1, a2⟩ := nn v (nP_7 h0)
    obtain ⟨b1, b2⟩ := k5 v hv vc vu a1 a2
    refine ⟨b1, b2, fun k hk => ?_⟩
    have := w1 v k ⟨hv, hk, fun q => vc q.1, fun q => vu q.1⟩
    rw [stn_o vc vu] at this
    exact this
  · obtain ⟨b1, b2⟩ := k3 a ha
    refine ⟨b1, b2, ?_, fun k h0 hk => (w2 a k ha h0 hk).1⟩
    have := w1 c a ⟨lc.1, (auxC_lt hc ha).1, fun q => (auxC_lt hc ha).2 q.2, fun q => ne q.1⟩
    rw [stn_c] at this
    exact this
  · obtain ⟨b1, b2⟩ := k4 k h0 hk
    refine ⟨b1, b2, ?_, fun a ha => (w2 a k ha h0 hk).2⟩
    have := w1 u k ⟨lu.1, hk, fun q => ne q.1.symm, fun q => by omega⟩
    rw [stn_u ne] at this
    exact this
  · by_cases a1 : ∃ a, auxC (G.1 c) a ∧ v = o a
    · exact Or.inr (Or.inl a1)
    · by_cases a2 : ∃ k, 0 < k ∧ k < nP (G.1 u) ∧ v = lk k
      · exact Or.inr (Or.inr a2)
      · have vc : v ≠ c := fun q => lv_7 hv (by rw [q]; exact k1)
        have vu : v ≠ u := fun q => lv_7 hv (by rw [q]; exact k2)
        have := (k5 v hv.1 vc vu (fun a ha q => a1 ⟨a, ha, q⟩) (fun k h0 hk q => a2 ⟨k, h0, hk, q⟩)).1
        exact Or.inl ⟨⟨hv.1, by rw [← this]; exact hv.2⟩, vc, vu⟩
theorem PX.no5 {n : Nat} {G G' : Gr} {c u : Nat} {o lk : Nat → Nat} (lc : lv n G c) (lu : lv n G u) (k1 : G'.1 c = 7) (k2 : G'.1 u = 7)
    (k3 : ∀ a, auxC (G.1 c) a → G'.1 (o a) = G.1 u) (k4 : ∀ k, 0 < k → k < nP (G.1 u) → G'.1 (lk k) = G.1 c)
    (k5 : ∀ w, w < n → w ≠ c → w ≠ u → (∀ a, auxC (G.1 c) a → w ≠ o a) → (∀ k, 0 < k → k < nP (G.1 u) → w ≠ lk k) → G'.1 w = G.1 w) : ∀ v, v < n → G'.1 v = 5 → G.1 v = 5 := by
  intro v hv h5
  have vc : v ≠ c := fun q => by rw [q, k1] at h5; omega
  have vu : v ≠ u := fun q => by rw [q, k2] at h5; omega
  rw [← k5 v hv vc vu (fun a ha q => lv_5 lu (by rw [← k3 a ha, ← q]; exact h5)) (fun k h0 hk q => lv_5 lc (by rw [← k4 k h0 hk, ← q]; exact h5))]
  exact h5
