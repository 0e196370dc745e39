/-! two that meet: the wires behind it -/
def JH (n : Nat) (G : Gr) (l r : Nat) : Prop := GVr n G ∧ l < n ∧ r < n ∧ l ≠ r ∧ (G.2.2.1 l 0 = r ∧ G.2.2.2 l 0 = 0 ∧ G.2.2.1 r 0 = l ∧ G.2.2.2 r 0 = 0) ∧ nP (G.1 l) = nP (G.1 r) ∧ 0 < nP (G.1 l)
theorem bnc_l {G : Gr} {l r f q : Nat} : bnc G l r (f + 1) (l, q) = bnc G l r f (G.2.2.1 r q, G.2.2.2 r q) := by
  show (if l = l then _ else _) = _
  rw [if_pos rfl]
theorem bnc_r {G : Gr} {l r f q : Nat} (h : l ≠ r) : bnc G l r (f + 1) (r, q) = bnc G l r f (G.2.2.1 l q, G.2.2.2 l q) := by
  show (if r = l then _ else if r = r then _ else _) = _
  rw [if_neg (fun e => h e.symm), if_pos rfl]
/-- the other of the two -/
def swp (l r x : Nat) : Nat := if x = l then r else l
theorem swp_in {l r x : Nat} (h : x = l ∨ x = r) : swp l r x = l ∨ swp l r x = r := by
  unfold swp
  by_cases c : x = l
  · rw [if_pos c]; exact Or.inr rfl
  · rw [if_neg c]; exact Or.inl rfl
theorem swp_swp {l r x : Nat} (hlr : l ≠ r) (h : x = l ∨ x = r) : swp l r (swp l r x) = x := by
  unfold swp
  by_cases c : x = l
  · rw [if_pos c, if_neg (fun e => hlr e.symm), c]
  · rw [if_neg c, if_pos rfl, h.resolve_left c]
theorem swp_ne {l r x : Nat} (hlr : l ≠ r) (h : x = l ∨ x = r) : swp l r x ≠ x := by
  unfold swp
  by_cases c : x = l
  · rw [if_pos c, c]; exact fun e => hlr e.symm
  · rw [if_neg c]; exact fun e => c e.symm
theorem bnc_in {G : Gr} {l r f x q : Nat} (hlr : l ≠ r) (h : x = l ∨ x = r) : bnc G l r (f + 1) (x, q) = bnc G l r f (G.2.2.1 (swp l r x) q, G.2.2.2 (swp l r x) q) := by
  unfold swp
  by_cases c : x = l
  · subst c
    rw [if_pos rfl]
    exact bnc_l
  · have := h.resolve_left c
    subst this
    rw [if_neg c]
    exact bnc_r hlr
theorem bnc_end {n : Nat} {G : Gr} {l r : Nat} (hJ : JH n G l r) {v k : Nat} (hv : v < n) (vl : v ≠ l) (vr : v ≠ r) (hk : k < nP (G.1 v)) (hin : G.2.2.1 v k = l ∨ G.2.2.1 v k = r) : ∃ y j, (∀ f, bnc G l r (f + 3) (G.2.2.1 v k, G.2.2.2 v k) = (y, j)) ∧ y < n ∧ y ≠ l ∧ y ≠ r ∧ j < nP (G.1 y) ∧ (G.2.2.1 y j = l ∨ G.2.2.1 y j = r) ∧ (∀ f, bnc G l r (f + 3) (G.2.2.1 y j, G.2.2.2 y j) = (v, k)) ∧ ¬ (y = v ∧ j = k) := by
  obtain ⟨hG, hl, hr, hlr, hw, hn, hp⟩ := hJ
  obtain ⟨g1, g2, g3, g4, -⟩ := hG.1 v k hv hk
  -- a port of one of the two that isn't 0
  have kin : ∀ x, x = l ∨ x = r → nP (G.1 x) = nP (G.1 l) ∧ x < n ∧ G.2.2.2 x 0 = 0 ∧ G.2.2.1 x 0 = swp l r x := by
    intro x hx
    rcases hx with q | q
    · rw [q]
      refine ⟨rfl, hl, hw.2.1, ?_⟩
      unfold swp; rw [if_pos rfl]; exact hw.1
    · rw [q]
      refine ⟨hn.symm, hr, hw.2.2.2, ?_⟩
      unfold swp; rw [if_neg (fun e => hlr e.symm)]; exact hw.2.2.1
  obtain ⟨x1, e1⟩ : ∃ x, x = G.2.2.1 v k := ⟨_, rfl⟩
  obtain ⟨j1, d1⟩ : ∃ j, j = G.2.2.2 v k := ⟨_, rfl⟩
  rw [← e1, ← d1] at g2 g3 g4
  rw [← e1] at hin g1
  rw [← e1, ← d1]
  have j10 : j1 ≠ 0 := fun q => by
    rw [q, (kin x1 hin).2.2.2] at g3
    rcases swp_in hin with z | z
    · rw [z] at g3; exact vl g3.symm
    · rw [z] at g3; exact vr g3.symm
  rw [(kin x1 hin).1] at g2
  have s1 := swp_in hin
  obtain ⟨h1, h2, h3, h4, h5⟩ := hG.1 (swp l r x1) j1 (kin _ s1).2.1 (by rw [(kin _ s1).1]; exact g2)
  obtain ⟨x2, e2⟩ : ∃ x, x = G.2.2.1 (swp l r x1) j1 := ⟨_, rfl⟩
  obtain ⟨j2, d2⟩ : ∃ j, j = G.2.2.2 (swp l r x1) j1 := ⟨_, rfl⟩
  rw [← e2, ← d2] at h2 h3 h4 h5
  rw [← e2] at h1
  by_cases c2 : x2 = l ∨ x2 = r
  · have j20 : j2 ≠ 0 := fun q => by
      rw [q, (kin x2 c2).2.2.1] at h4
      exact j10 h4.symm
    have j21 : j2 ≠ j1 := fun q => by
      rw [q] at h3 h4 h5
      by_cases z : x2 = swp l r x1
      · exact h5 ⟨z, rfl⟩
      · have : x2 = x1 := by
          unfold swp at z
          by_cases w : x1 = l
          · rw [if_pos w] at z; rw [w]; exact c2.resolve_right z
          · rw [if_neg w] at z; rw [hin.resolve_left w]; exact c2.resolve_left z
        rw [this, g3] at h3
        rcases s1 with w | w
        · rw [w] at h3; exact vl h3
        · rw [w] at h3; exact vr h3
    rw [(kin x2 c2).1] at h2
    have s2 := swp_in c2
    obtain ⟨a1, a2, a3, a4, a5⟩ := hG.1 (swp l r x2) j2 (kin _ s2).2.1 (by rw [(kin _ s2).1]; exact h2)
    obtain ⟨x3, e3⟩ : ∃ x, x = G.2.2.1 (swp l r x2) j2 := ⟨_, rfl⟩
    obtain ⟨j3, d3⟩ : ∃ j, j = G.2.2.2 (swp l r x2) j2 := ⟨_, rfl⟩
    rw [← e3, ← d3] at a2 a3 a4 a5
    rw [← e3] at a1
    have c3 : ¬ (x3 = l ∨ x3 = r) := by
      intro c3
      have j30 : j3 ≠ 0 := fun q => by
        rw [q, (kin x3 c3).2.2.1] at a4
        exact j20 a4.symm
      rw [(kin x3 c3).1] at a2
      have n3 := nP_le (G.1 l)
      have j3c : j3 = j1 ∨ j3 = j2 := by omega
      have either : ∀ x y : Nat, x = l ∨ x = r → y = l ∨ y = r → x = y ∨ x = swp l r y := by
        intro x y hx hy
        unfold swp
        by_cases w : y = l
        · rw [if_pos w, w]; exact hx
        · rw [if_neg w, hy.resolve_left w]; exact hx.symm
      rcases j3c with q | q
      · rw [q] at a3 a4
        rcases either x3 x1 c3 hin with z | z
        · rw [z, g3] at a3
          rcases s2 with w | w
          · rw [w] at a3; exact vl a3
          · rw [w] at a3; exact vr a3
        · rw [z, ← e2] at a3
          exact swp_ne hlr c2 a3.symm
      · rw [q] at a3 a4 a5
        rcases either x3 x2 c3 c2 with z | z
        · rw [z, h4] at a4
          exact j21 a4.symm
        · exact a5 ⟨z, rfl⟩
    have n1 : x3 ≠ l := fun q => c3 (Or.inl q)
    have n2 : x3 ≠ r := fun q => c3 (Or.inr q)
    refine ⟨x3, j3, fun f => ?_, a1, n1, n2, a2, by rw [a3]; exact s2, fun f => ?_, fun q => ?_⟩
    · rw [bnc_in hlr hin, ← e2, ← d2, bnc_in hlr c2, ← e3, ← d3]
      exact bnc_out n1 n2
    · rw [a3, a4, bnc_in hlr s2, swp_swp hlr c2, h3, h4, bnc_in hlr s1, swp_swp hlr hin, g3, g4]
      exact bnc_out vl vr
    · rw [q.1, q.2, ← e1] at a3
      rw [q.1, q.2, ← d1] at a4
      exact j21 a4.symm
  · have n1 : x2 ≠ l := fun q => c2 (Or.inl q)
    have n2 : x2 ≠ r := fun q => c2 (Or.inr q)
    refine ⟨x2, j2, fun f => ?_, h1, n1, n2, h2, by rw [h3]; exact s1, fun f => ?_, fun q => ?_⟩
    · rw [bnc_in hlr hin, ← e2, ← d2]
      exact bnc_out n1 n2
    · rw [h3, h4, bnc_in hlr s1, swp_swp hlr hin, g3, g4]
      exact bnc_out vl vr
    · rw [q.1, q.2, ← e1] at h3
      exact swp_ne hlr hin h3.symm
/-- the wires of the rest, behind a join -/
def JW (n : Nat) (G : Gr) (l r : Nat) (G' : Gr) : Prop := ∀ v, v < n → v ≠ l → v ≠ r → G'.1 v = G.1 v ∧ G'.2.1 v = G.2.1 v ∧ ∀ k, k < nP (G.1 v) → (G'.2.2.1 v k, G'.2.2.2 v k) = bnc G l r 5 (G.2.2.1 v k, G.2.2.2 v k)
theorem JW_at {n : Nat} {G : Gr} {l r : Nat} (hJ : JH n G l r) {v k : Nat} (hv : v < n) (vl : v ≠ l) (vr : v ≠ r) (hk : k < nP (G.1 v)) : ∃ y j, bnc G l r 5 (G.2.2.1 v k, G.2.2.2 v k) = (y, j) ∧ y < n ∧ y ≠ l ∧ y ≠ r ∧ j < nP (G.1 y) ∧ bnc G l r 5 (G.2.2.1 y j, G.2.2.2 y j) = (v, k) ∧ ¬ (y = v ∧ j = k) := by
  obtain ⟨g1, g2, g3, g4, g5⟩ := hJ.1.1 v k hv hk
  by_cases c : G.2.2.1 v k = l ∨ G.2.2.1 v k = r
  · obtain ⟨y, j, h1, h2, h3, h4, h5, h6, h7, h8⟩ := bnc_end hJ hv vl vr hk c
    exact ⟨y, j, h1 2, h2, h3, h4, h5, h7 2, h8⟩
  · have n1 : G.2.2.1 v k ≠ l := fun q => c (Or.inl q)
    have n2 : G.2.2.1 v k ≠ r := fun q => c (Or.inr q)
    refine ⟨_, _, bnc_out n1 n2, g1, n1, n2, g2, ?_, g5⟩
    rw [g3, g4]
    exact bnc_out vl vr
theorem JW.jx {n : Nat} {G G' : Gr} {l r : Nat} (hJ : JH n G l r) (h : JW n G l r G') (h1 : G'.1 l = 7) (h2 : G'.1 r = 7) : JX n G l r G' := by
  refine ⟨fun v hv vl vr => ?_, h1, h2⟩
  obtain ⟨a1, a2, a3⟩ := h v hv vl vr
  refine ⟨a1, a2, fun k hk => ?_⟩
  obtain ⟨y, j, b1, -, b3, b4, -⟩ := JW_at hJ hv vl vr hk
  have e := a3 k hk
  refine ⟨e, ?_⟩
  rw [b1] at e
  have e1 : G'.2.2.1 v k = y := congrArg Prod.fst e
  rw [e1]
  exact ⟨b3, b4⟩
theorem JX.gv {n : Nat} {G G' : Gr} {l r : Nat} (hJ : JH n G l r) (hl : G.1 l ≠ 6) (hr : G.1 r ≠ 6) (h : JX n G l r G') : GVr n G' := by
  obtain ⟨hG, -, -, -, -, -, -⟩ := id hJ
  have z1 : (0 : Nat) ≠ l := fun e => hl (by rw [← e]; exact hG.2.1)
  have z2 : (0 : Nat) ≠ r := fun e => hr (by rw [← e]; exact hG.2.1)
  refine ⟨fun v k hv hk => ?_, by rw [(h.1 0 hG.2.2 z1 z2).1]; exact hG.2.1, hG.2.2⟩
  have v7 := nP_7 (Nat.lt_of_le_of_lt (Nat.zero_le _) hk)
  have vl : v ≠ l := fun e => by rw [e, h.2.1] at v7; omega
  have vr : v ≠ r := fun e => by rw [e, h.2.2] at v7; omega
  obtain ⟨a1, -, a3⟩ := h.1 v hv vl vr
  rw [a1] at hk
  obtain ⟨y, j, b1, b2, b3, b4, b5, b6, b7⟩ := JW_at hJ hv vl vr hk
  have e := (a3 k hk).1
  rw [b1] at e
  obtain ⟨c1, -, c3⟩ := h.1 y b2 b3 b4
  have e' := (c3 j b5).1
  rw [b6] at e'
  have w1 : G'.2.2.1 v k = y := congrArg Prod.fst e
  have w2 : G'.2.2.2 v k = j := congrArg Prod.snd e
  rw [w1, w2, c1]
  exact ⟨b2, b5, congrArg Prod.fst e', congrArg Prod.snd e', b7⟩
theorem Cov_new {n : Nat} {G G' : Gr} {R' : Nat → Prop} (hC : Cov n G (fun _ => False)) (h : ∀ v k, v < n → k < nP (G'.1 v) → (G.1 v = G'.1 v ∧ G'.2.2.1 v k = G.2.2.1 v k ∧ G.1 (G.2.2.1 v k) = G'.1 (G.2.2.1 v k)) ∨ ((G'.1 (G'.2.2.1 v k) = 5 → R' (G'.2.2.1 v k)) ∧ (G'.1 v = 5 → R' v))) : Cov n G' R' := by
  obtain ⟨c1, c2, c3, c4⟩ := hC
  refine ⟨fun v hv h5 q => ?_, fun v hv h5 q => ?_, fun v hv h5 q1 q2 => ?_, fun v hv h5 q => ?_⟩
  · rcases h v 0 hv (lv_p (G := G') ⟨hv, Or.inl h5⟩) with ⟨a1, a2, a3⟩ | ⟨a1, -⟩
    · exact (c1 v hv (by omega) (by rw [a3, ← a2]; exact q)).elim
    · exact a1 q
  · rcases h v 1 hv (by rcases h5 with e | e | e <;> rw [e] <;> decide) with ⟨a1, a2, a3⟩ | ⟨a1, -⟩
    · exact (c2 v hv (by omega) (by rw [a3, ← a2]; exact q)).elim
    · exact a1 q
  · rcases h v 1 hv (by rw [h5]; decide) with ⟨a1, a2, a3⟩ | ⟨a1, -⟩
    · rcases h v 2 hv (by rw [h5]; decide) with ⟨b1, b2, b3⟩ | ⟨b1, -⟩
      · exact (c3 v hv (by omega) (by rw [a3, ← a2]; exact q1) (by rw [b3, ← b2]; exact q2)).elim (fun x => x.elim) (fun x => x.elim)
      · exact Or.inr (b1 q2)
    · exact Or.inl (a1 q1)
  · rcases h v 0 hv (by rw [h5]; decide) with ⟨a1, a2, a3⟩ | ⟨-, a1⟩
    · exact (c4 v hv (by omega) (by rw [a3, ← a2]; exact q)).elim (fun x => x.elim) (fun x => x.elim)
    · exact Or.inl (a1 h5)
theorem JX.cov {n : Nat} {G G' : Gr} {l r : Nat} {R' : Nat → Prop} (hJ : JH n G l r) (hl : G.1 l ≠ 5) (hr : G.1 r ≠ 5) (h : JX n G l r G') (hC : Cov n G (fun _ => False)) (hR : ∀ e, e < n → G.1 e = 5 → (G.2.2.1 e 0 = l ∨ G.2.2.1 e 0 = r) → R' e) : Cov n G' R' := by
  refine Cov_new hC (fun v k hv hk => ?_)
  have v7 := nP_7 (Nat.lt_of_le_of_lt (Nat.zero_le _) hk)
  have vl : v ≠ l := fun e => by rw [e, h.2.1] at v7; omega
  have vr : v ≠ r := fun e => by rw [e, h.2.2] at v7; omega
  obtain ⟨a1, -, a3⟩ := h.1 v hv vl vr
  rw [a1] at hk
  have e := (a3 k hk).1
  by_cases c : G.2.2.1 v k = l ∨ G.2.2.1 v k = r
  · obtain ⟨y, j, b1, b2, b3, b4, b5, b6, b7, b8⟩ := bnc_end hJ hv vl vr hk c
    rw [b1 2] at e
    have w1 : G'.2.2.1 v k = y := congrArg Prod.fst e
    right
    refine ⟨fun q => ?_, fun q => ?_⟩
    · rw [w1] at q ⊢
      rw [(h.1 y b2 b3 b4).1] at q
      rw [q] at b5
      have j0 : j = 0 := by have : j < 1 := b5; omega
      rw [j0] at b6
      exact hR y b2 q b6
    · rw [a1] at q
      rw [q] at hk
      have k0 : k = 0 := by have : k < 1 := hk; omega
      rw [k0] at c
      exact hR v hv q c
  · have n1 : G.2.2.1 v k ≠ l := fun q => c (Or.inl q)
    have n2 : G.2.2.1 v k ≠ r := fun q => c (Or.inr q)
    rw [bnc_out n1 n2] at e
    exact Or.inl ⟨a1.symm, congrArg Prod.fst e, ((h.1 _ (hJ.1.1 v k hv hk).1 n1 n2).1).symm⟩
/-- the wires behind a passing: a port p of G is stn p in G' -/
theorem PX.gv {n : Nat} {G G' : Gr} {c u : Nat} {o lk : Nat → Nat} (hG : GVr n G) (hcu : G.2.2.1 c 0 = u ∧ G.2.2.2 c 0 = 0 ∧ G.2.2.1 u 0 = c ∧ G.2.2.2 u 0 = 0) (hc : isC (G.1 c)) (lc : lv n G c) (lu : lv n G u) (hu : G.1 u < 5) (ne : c ≠ u) (h : PX n G c u o lk G') (h5 : ∀ v, v < n → G'.1 v = 5 → G.1 v = 5) : GVr n G' := by
  obtain ⟨hP, n1, n2, n3, n4, n5, n6, n7, n8⟩ := id h
  have z1 : (0 : Nat) ≠ c := fun e => by rw [← e, hG.2.1] at hc; rcases hc with q | q | q <;> omega
  have z2 : (0 : Nat) ≠ u := fun e => by rw [← e, hG.2.1] at hu; omega
  -- what the new port is, and its wire
  have nw : ∀ v k, v < n → k < nP (G.1 v) → ¬ (v = c ∧ k = 0) → ¬ (v = u ∧ k = 0) → (stn c u o lk (v, k)).1 < n ∧ (stn c u o lk (v, k)).2 < nP (G'.1 (stn c u o lk (v, k)).1) ∧ (G'.2.2.1 (stn c u o lk (v, k)).1 (stn c u o lk (v, k)).2, G'.2.2.2 (stn c u o lk (v, k)).1 (stn c u o lk (v, k)).2) = stn c u o lk (G.2.2.1 v k, G.2.2.2 v k) := by
    intro v k hv hk m1 m2
    have k0 : 0 < nP (G.1 v) := Nat.lt_of_le_of_lt (Nat.zero_le _) hk
    unfold stn
    dsimp only
    by_cases c1 : v = c
    · rw [if_pos c1]
      subst c1
      have ha := aux_of hc (fun q => m1 ⟨rfl, q⟩) hk
      obtain ⟨a1, a2, a3, -⟩ := hP.2.1 k ha
      refine ⟨(n1 k ha).1, ?_, a3⟩
      show 0 < nP (G'.1 (o k))
      rw [a1]; exact lv_p lu
    · rw [if_neg c1]
      by_cases c2 : v = u
      · rw [if_pos c2]
        subst c2
        have h0 : 0 < k := Nat.pos_of_ne_zero (fun q => m2 ⟨rfl, q⟩)
        obtain ⟨a1, a2, a3, -⟩ := hP.2.2 k h0 hk
        refine ⟨(n2 k h0 hk).1, ?_, a3⟩
        show 0 < nP (G'.1 (lk k))
        rw [a1]; exact lv_p lc
      · rw [if_neg c2]
        obtain ⟨a1, a2, a3⟩ := hP.1 v hv c1 c2 k0
        exact ⟨hv, by rw [a1]; exact hk, a3 k hk⟩
  have inj : ∀ v k w j, v < n → k < nP (G.1 v) → ¬ (v = c ∧ k = 0) → ¬ (v = u ∧ k = 0) → w < n → j < nP (G.1 w) → ¬ (w = c ∧ j = 0) → ¬ (w = u ∧ j = 0) → stn c u o lk (v, k) = stn c u o lk (w, j) → v = w ∧ k = j := by
    intro v k w j hv hk m1 m2 hw hj m3 m4 e
    have v7 := nP_7 (Nat.lt_of_le_of_lt (Nat.zero_le _) hk)
    have w7 := nP_7 (Nat.lt_of_le_of_lt (Nat.zero_le _) hj)
    unfold stn at e
    dsimp only at e
    by_cases c1 : v = c
    · rw [if_pos c1] at e
      subst c1
      have ha := aux_of hc (fun q => m1 ⟨rfl, q⟩) hk
      by_cases d1 : w = v
      · rw [if_pos d1] at e
        subst d1
        exact ⟨rfl, n4 _ _ ha (aux_of hc (fun q => m3 ⟨rfl, q⟩) hj) (congrArg Prod.fst e)⟩
      · rw [if_neg d1] at e
        by_cases d2 : w = u
        · rw [if_pos d2] at e
          subst d2
          exact absurd (congrArg Prod.fst e) (n3 k j ha (Nat.pos_of_ne_zero (fun q => m4 ⟨rfl, q⟩)) hj)
        · rw [if_neg d2] at e
          have : o k = w := congrArg Prod.fst e
          have q := (n1 k ha).2
          rw [this] at q; omega
    · rw [if_neg c1] at e
      by_cases c2 : v = u
      · rw [if_pos c2] at e
        subst c2
        have h0 : 0 < k := Nat.pos_of_ne_zero (fun q => m2 ⟨rfl, q⟩)
        by_cases d1 : w = c
        · rw [if_pos d1] at e
          subst d1
          exact absurd (congrArg Prod.fst e).symm (n3 j k (aux_of hc (fun q => m3 ⟨rfl, q⟩) hj) h0 hk)
        · rw [if_neg d1] at e
          by_cases d2 : w = v
          · rw [if_pos d2] at e
            subst d2
            exact ⟨rfl, n5 _ _ h0 hk (Nat.pos_of_ne_zero (fun q => m4 ⟨rfl, q⟩)) hj (congrArg Prod.fst e)⟩
          · rw [if_neg d2] at e
            have : lk k = w := congrArg Prod.fst e
            have q := (n2 k h0 hk).2
            rw [this] at q; omega
      · rw [if_neg c2] at e
        by_cases d1 : w = c
        · rw [if_pos d1] at e
          subst d1
          have : v = o j := congrArg Prod.fst e
          have q := (n1 j (aux_of hc (fun q => m3 ⟨rfl, q⟩) hj)).2
          rw [← this] at q; omega
        · rw [if_neg d1] at e
          by_cases d2 : w = u
          · rw [if_pos d2] at e
            subst d2
            have : v = lk j := congrArg Prod.fst e
            have q := (n2 j (Nat.pos_of_ne_zero (fun q => m4 ⟨rfl, q⟩)) hj).2
            rw [← this] at q; omega
          · rw [if_neg d2] at e
            exact ⟨congrArg Prod.fst e, congrArg Prod.snd e⟩
  have old : ∀ v k, v < n → k < nP (G.1 v) → ¬ (v = c ∧ k = 0) → ¬ (v = u ∧ k = 0) → ∀ x j, (x, j) = stn c u o lk (v, k) → G'.2.2.1 x j < n ∧ G'.2.2.2 x j < nP (G'.1 (G'.2.2.1 x j)) ∧ G'.2.2.1 (G'.2.2.1 x j) (G'.2.2.2 x j) = x ∧ G'.2.2.2 (G'.2.2.1 x j) (G'.2.2.2 x j) = j ∧ ¬ (G'.2.2.1 x j = x ∧ G'.2.2.2 x j = j) := by
    intro v k hv hk m1 m2 x j e
    obtain ⟨g1, g2, g3, g4, g5⟩ := hG.1 v k hv hk
    have m3 : ¬ (G.2.2.1 v k = c ∧ G.2.2.2 v k = 0) := fun q => by
      rw [q.1, q.2] at g3 g4
      exact m2 ⟨g3.symm.trans hcu.1, g4.symm.trans hcu.2.1⟩
    have m4 : ¬ (G.2.2.1 v k = u ∧ G.2.2.2 v k = 0) := fun q => by
      rw [q.1, q.2] at g3 g4
      exact m1 ⟨g3.symm.trans hcu.2.2.1, g4.symm.trans hcu.2.2.2⟩
    obtain ⟨a1, a2, a3⟩ := nw v k hv hk m1 m2
    obtain ⟨b1, b2, b3⟩ := nw _ _ g1 g2 m3 m4
    rw [g3, g4] at b3
    have ex : x = (stn c u o lk (v, k)).1 := congrArg Prod.fst e
    have ej : j = (stn c u o lk (v, k)).2 := congrArg Prod.snd e
    rw [← ex, ← ej] at a3
    have w1 : G'.2.2.1 x j = (stn c u o lk (G.2.2.1 v k, G.2.2.2 v k)).1 := congrArg Prod.fst a3
    have w2 : G'.2.2.2 x j = (stn c u o lk (G.2.2.1 v k, G.2.2.2 v k)).2 := congrArg Prod.snd a3
    rw [w1, w2]
    refine ⟨b1, b2, (congrArg Prod.fst b3).trans ex.symm, (congrArg Prod.snd b3).trans ej.symm, fun q => ?_⟩
    obtain ⟨i1, i2⟩ := inj _ _ v k g1 g2 m3 m4 hv hk m1 m2 (Prod.ext (q.1.trans ex) (q.2.trans ej))
    exact g5 ⟨i1, i2⟩
  refine ⟨fun x j hx hj => ?_, by rw [(hP.1 0 hG.2.2 z1 z2 (by rw [hG.2.1]; decide)).1]; exact hG.2.1, hG.2.2⟩
  have x7 := nP_7 (Nat.lt_of_le_of_lt (Nat.zero_le _) hj)
  have oldv : ∀ (hxc : x ≠ c) (hxu : x ≠ u) (_ : 0 < nP (G.1 x)), G'.2.2.1 x j < n ∧ G'.2.2.2 x j < nP (G'.1 (G'.2.2.1 x j)) ∧ G'.2.2.1 (G'.2.2.1 x j) (G'.2.2.2 x j) = x ∧ G'.2.2.2 (G'.2.2.1 x j) (G'.2.2.2 x j) = j ∧ ¬ (G'.2.2.1 x j = x ∧ G'.2.2.2 x j = j) := by
    intro hxc hxu h0
    have a1 := (hP.1 x hx hxc hxu h0).1
    rw [a1] at hj
    exact old x j hx hj (fun q => hxc q.1) (fun q => hxu q.1) x j (by unfold stn; dsimp only; rw [if_neg hxc, if_neg hxu])
  by_cases x5 : G'.1 x = 5
  · have g5 := h5 x hx x5
    exact oldv (fun q => lv_5 lc (by rw [← q]; exact g5)) (fun q => lv_5 lu (by rw [← q]; exact g5)) (by rw [g5]; decide)
  · rcases n8 x ⟨hx, by omega⟩ with ⟨p1, p2, p3⟩ | ⟨a, ha, e⟩ | ⟨k, k0, hk, e⟩
    · exact oldv p2 p3 (lv_p p1)
    · subst e
      obtain ⟨a1, a2, a3, a4⟩ := hP.2.1 a ha
      rw [a1] at hj
      by_cases j0 : j = 0
      · subst j0
        exact old c a lc.1 (auxC_lt hc ha).1 (fun q => (auxC_lt hc ha).2 q.2) (fun q => ne q.1) (o a) 0 (by unfold stn; dsimp only; rw [if_pos rfl])
      · have jp := Nat.pos_of_ne_zero j0
        obtain ⟨b1, b2⟩ := a4 j jp hj
        obtain ⟨d1, d2, d3, d4⟩ := hP.2.2 j jp hj
        obtain ⟨e1, e2⟩ := d4 a ha
        rw [b1, b2, d1]
        exact ⟨(n2 j jp hj).1, (auxC_lt hc ha).1, e1, e2, fun q => n3 a j ha jp hj q.1.symm⟩
    · subst e
      obtain ⟨a1, a2, a3, a4⟩ := hP.2.2 k k0 hk
      rw [a1] at hj
      by_cases j0 : j = 0
      · subst j0
        exact old u k lu.1 hk (fun q => ne q.1.symm) (fun q => by omega) (lk k) 0 (by unfold stn; dsimp only; rw [if_neg (fun q => ne q.symm), if_pos rfl])
      · have ha := aux_of hc j0 hj
        obtain ⟨b1, b2⟩ := a4 j ha
        obtain ⟨d1, d2, d3, d4⟩ := hP.2.1 j ha
        obtain ⟨e1, e2⟩ := d4 k k0 hk
        rw [b1, b2, d1]
        exact ⟨(n1 j ha).1, hk, e1, e2, fun q => n3 j k ha k0 hk q.1⟩
theorem PX.cov {n : Nat} {G G' : Gr} {c u : Nat} {o lk : Nat → Nat} {R' : Nat → Prop} (hG : GVr n G) (hcu : G.2.2.1 c 0 = u ∧ G.2.2.2 c 0 = 0 ∧ G.2.2.1 u 0 = c ∧ G.2.2.2 u 0 = 0) (hc : isC (G.1 c)) (lc : lv n G c) (lu : lv n G u) (hu : G.1 u < 5) (h : PX n G c u o lk G') (h5 : ∀ v, v < n → G'.1 v = 5 → G.1 v = 5) (hC : Cov n G (fun _ => False)) (hR : ∀ e, e < n → G.1 e = 5 → (G.2.2.1 e 0 = c ∨ G.2.2.1 e 0 = u) → R' e) : Cov n G' R' := by
  obtain ⟨hP, n1, n2, n3, n4, n5, n6, n7, n8⟩ := id h
  have hc5 : G.1 c ≠ 5 := lv_5 lc
  -- a port that c or u had
  have st5 : ∀ v k, v < n → k < nP (G.1 v) → (v = c ∨ v = u) → k ≠ 0 → G'.1 (stn c u o lk (G.2.2.1 v k, G.2.2.2 v k)).1 = 5 → R' (stn c u o lk (G.2.2.1 v k, G.2.2.2 v k)).1 := by
    intro v k hv hk hin k0 q
    obtain ⟨g1, g2, g3, g4, -⟩ := hG.1 v k hv hk
    unfold stn at q ⊢
    dsimp only at q ⊢
    by_cases c1 : G.2.2.1 v k = c
    · rw [if_pos c1] at q
      have z : G.2.2.2 v k ≠ 0 := fun z => by
        rw [c1, z, hcu.2.1] at g4
        exact k0 g4.symm
      rw [c1] at g2
      have := (hP.2.1 _ (aux_of hc z g2)).1
      rw [this] at q; omega
    · rw [if_neg c1] at q ⊢
      by_cases c2 : G.2.2.1 v k = u
      · rw [if_pos c2] at q
        have z : G.2.2.2 v k ≠ 0 := fun z => by
          rw [c2, z, hcu.2.2.2] at g4
          exact k0 g4.symm
        rw [c2] at g2
        have := (hP.2.2 _ (Nat.pos_of_ne_zero z) g2).1
        rw [this] at q; omega
      · rw [if_neg c2] at q ⊢
        have := (hP.1 _ g1 c1 c2 (Nat.lt_of_le_of_lt (Nat.zero_le _) g2)).1
        have q : G'.1 (G.2.2.1 v k) = 5 := q
        rw [this] at q
        refine hR _ g1 q ?_
        rw [q] at g2
        have z : G.2.2.2 v k = 0 := by have : G.2.2.2 v k < 1 := g2; omega
        rw [z] at g3
        rw [g3]
        exact hin
  refine Cov_new hC (fun v k hv hk => ?_)
  have v7 := nP_7 (Nat.lt_of_le_of_lt (Nat.zero_le _) hk)
  have oldv : ∀ (hxc : v ≠ c) (hxu : v ≠ u) (_ : 0 < nP (G.1 v)), (G.1 v = G'.1 v ∧ G'.2.2.1 v k = G.2.2.1 v k ∧ G.1 (G.2.2.1 v k) = G'.1 (G.2.2.1 v k)) ∨ ((G'.1 (G'.2.2.1 v k) = 5 → R' (G'.2.2.1 v k)) ∧ (G'.1 v = 5 → R' v)) := by
    intro hxc hxu h0
    obtain ⟨a1, -, a3⟩ := hP.1 v hv hxc hxu h0
    have hk1 := hk
    rw [a1] at hk1
    obtain ⟨g1, g2, g3, g4, -⟩ := hG.1 v k hv hk1
    have e := a3 k hk1
    unfold stn at e
    dsimp only at e
    have self : (G.2.2.1 v k = c ∨ G.2.2.1 v k = u) → G'.1 v = 5 → R' v := by
      intro hin q
      rw [a1] at q
      rw [q] at hk1
      have k0 : k = 0 := by have : k < 1 := hk1; omega
      rw [k0] at hin
      exact hR v hv q hin
    by_cases c1 : G.2.2.1 v k = c
    · rw [if_pos c1] at e
      right
      have w1 : G'.2.2.1 v k = o (G.2.2.2 v k) := congrArg Prod.fst e
      have z : G.2.2.2 v k ≠ 0 := fun z => by
        rw [c1, z, hcu.1] at g3
        exact hxu g3.symm
      rw [c1] at g2
      refine ⟨fun q => ?_, self (Or.inl c1)⟩
      rw [w1, (hP.2.1 _ (aux_of hc z g2)).1] at q
      omega
    · rw [if_neg c1] at e
      by_cases c2 : G.2.2.1 v k = u
      · rw [if_pos c2] at e
        right
        have w1 : G'.2.2.1 v k = lk (G.2.2.2 v k) := congrArg Prod.fst e
        have z : G.2.2.2 v k ≠ 0 := fun z => by
          rw [c2, z, hcu.2.2.1] at g3
          exact hxc g3.symm
        rw [c2] at g2
        refine ⟨fun q => ?_, self (Or.inr c2)⟩
        rw [w1, (hP.2.2 _ (Nat.pos_of_ne_zero z) g2).1] at q
        exact absurd q hc5
      · rw [if_neg c2] at e
        exact Or.inl ⟨a1.symm, congrArg Prod.fst e, ((hP.1 _ g1 c1 c2 (Nat.lt_of_le_of_lt (Nat.zero_le _) g2)).1).symm⟩
  by_cases x5 : G'.1 v = 5
  · have g5 := h5 v hv x5
    exact oldv (fun q => lv_5 lc (by rw [← q]; exact g5)) (fun q => lv_5 lu (by rw [← q]; exact g5)) (by rw [g5]; decide)
  · rcases n8 v ⟨hv, by omega⟩ with ⟨p1, p2, p3⟩ | ⟨a, ha, e⟩ | ⟨j, j0, hj, e⟩
    · exact oldv p2 p3 (lv_p p1)
    · subst e
      obtain ⟨a1, a2, a3, a4⟩ := hP.2.1 a ha
      right
      refine ⟨fun q => ?_, fun q => absurd q x5⟩
      rw [a1] at hk
      by_cases k0 : k = 0
      · subst k0
        have w1 := congrArg Prod.fst a3
        dsimp only at w1
        rw [w1] at q ⊢
        exact st5 c a lc.1 (auxC_lt hc ha).1 (Or.inl rfl) (auxC_lt hc ha).2 q
      · have kp := Nat.pos_of_ne_zero k0
        rw [(a4 k kp hk).1, (hP.2.2 k kp hk).1] at q
        exact absurd q hc5
    · subst e
      obtain ⟨a1, a2, a3, a4⟩ := hP.2.2 j j0 hj
      right
      refine ⟨fun q => ?_, fun q => absurd q x5⟩
      rw [a1] at hk
      by_cases k0 : k = 0
      · subst k0
        have w1 := congrArg Prod.fst a3
        dsimp only at w1
        rw [w1] at q ⊢
        exact st5 u j lu.1 hj (Or.inr rfl) (by omega) q
      · have ha := aux_of hc k0 hk
        rw [(a4 k ha).1, (hP.2.1 k ha).1] at q
        omega
