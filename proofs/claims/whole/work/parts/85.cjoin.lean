/-! the class: two are joined -/
theorem bnc_path {n : Nat} {G : Gr} {l r : Nat} (hJ : JH n G l r) {v k : Nat} (hv : v < n) (vl : v ≠ l) (vr : v ≠ r) (hk : k < nP (G.1 v)) (hin : G.2.2.1 v k = l ∨ G.2.2.1 v k = r) :
    G.2.2.2 v k ≠ 0 ∧ G.2.2.2 v k < nP (G.1 l) ∧
    ((¬ (G.2.2.1 (swp l r (G.2.2.1 v k)) (G.2.2.2 v k) = l ∨ G.2.2.1 (swp l r (G.2.2.1 v k)) (G.2.2.2 v k) = r) ∧ bnc G l r 5 (G.2.2.1 v k, G.2.2.2 v k) = (G.2.2.1 (swp l r (G.2.2.1 v k)) (G.2.2.2 v k), G.2.2.2 (swp l r (G.2.2.1 v k)) (G.2.2.2 v k))) ∨
     ∃ x j, G.2.2.1 (swp l r (G.2.2.1 v k)) (G.2.2.2 v k) = x ∧ G.2.2.2 (swp l r (G.2.2.1 v k)) (G.2.2.2 v k) = j ∧ (x = l ∨ x = r) ∧ j ≠ 0 ∧ j ≠ G.2.2.2 v k ∧ j < nP (G.1 l) ∧ ¬ (G.2.2.1 (swp l r x) j = l ∨ G.2.2.1 (swp l r x) j = r) ∧ bnc G l r 5 (G.2.2.1 v k, G.2.2.2 v k) = (G.2.2.1 (swp l r x) j, G.2.2.2 (swp l r x) j)) := by
  obtain ⟨hG, hl, hr, hlr, hw, hn, hp⟩ := hJ
  obtain ⟨g1, g2, g3, g4, -⟩ := hG.1 v k hv hk
  have kin : ∀ x, x = l ∨ x = r → nP (G.1 x) = nP (G.1 l) ∧ x < n ∧ G.2.2.2 x 0 = 0 ∧ G.2.2.1 x 0 = swp l r x := by
    intro x hx
    rcases hx with q | q
    · rw [q]
      refine ⟨rfl, hl, hw.2.1, ?_⟩
      unfold swp; rw [if_pos rfl]; exact hw.1
    · rw [q]
      refine ⟨hn.symm, hr, hw.2.2.2, ?_⟩
      unfold swp; rw [if_neg (fun e => hlr e.symm)]; exact hw.2.2.1
  obtain ⟨x1, e1⟩ : ∃ x, x = G.2.2.1 v k := ⟨_, rfl⟩
  obtain ⟨j1, d1⟩ : ∃ j, j = G.2.2.2 v k := ⟨_, rfl⟩
  rw [← e1, ← d1] at g2 g3 g4
  rw [← e1] at hin g1
  rw [← e1, ← d1]
  have j10 : j1 ≠ 0 := fun q => by
    rw [q, (kin x1 hin).2.2.2] at g3
    rcases swp_in hin with z | z
    · rw [z] at g3; exact vl g3.symm
    · rw [z] at g3; exact vr g3.symm
  rw [(kin x1 hin).1] at g2
  have s1 := swp_in hin
  obtain ⟨h1, h2, h3, h4, h5⟩ := hG.1 (swp l r x1) j1 (kin _ s1).2.1 (by rw [(kin _ s1).1]; exact g2)
  obtain ⟨x2, e2⟩ : ∃ x, x = G.2.2.1 (swp l r x1) j1 := ⟨_, rfl⟩
  obtain ⟨j2, d2⟩ : ∃ j, j = G.2.2.2 (swp l r x1) j1 := ⟨_, rfl⟩
  rw [← e2, ← d2] at h2 h3 h4 h5
  rw [← e2] at h1
  rw [← e2, ← d2]
  refine ⟨j10, g2, ?_⟩
  by_cases c2 : x2 = l ∨ x2 = r
  · right
    have j20 : j2 ≠ 0 := fun q => by
      rw [q, (kin x2 c2).2.2.1] at h4
      exact j10 h4.symm
    have j21 : j2 ≠ j1 := fun q => by
      rw [q] at h3 h4 h5
      by_cases z : x2 = swp l r x1
      · exact h5 ⟨z, rfl⟩
      · have : x2 = x1 := by
          unfold swp at z
          by_cases w : x1 = l
          · rw [if_pos w] at z; rw [w]; exact c2.resolve_right z
          · rw [if_neg w] at z; rw [hin.resolve_left w]; exact c2.resolve_left z
        rw [this, g3] at h3
        rcases s1 with w | w
        · rw [w] at h3; exact vl h3
        · rw [w] at h3; exact vr h3
    rw [(kin x2 c2).1] at h2
    have s2 := swp_in c2
    obtain ⟨a1, a2, a3, a4, a5⟩ := hG.1 (swp l r x2) j2 (kin _ s2).2.1 (by rw [(kin _ s2).1]; exact h2)
    obtain ⟨x3, e3⟩ : ∃ x, x = G.2.2.1 (swp l r x2) j2 := ⟨_, rfl⟩
    obtain ⟨j3, d3⟩ : ∃ j, j = G.2.2.2 (swp l r x2) j2 := ⟨_, rfl⟩
    rw [← e3, ← d3] at a2 a3 a4 a5
    have c3 : ¬ (x3 = l ∨ x3 = r) := by
      intro c3
      have j30 : j3 ≠ 0 := fun q => by
        rw [q, (kin x3 c3).2.2.1] at a4
        exact j20 a4.symm
      rw [(kin x3 c3).1] at a2
      have n3 := nP_le (G.1 l)
      have j3c : j3 = j1 ∨ j3 = j2 := by omega
      have either : ∀ x y : Nat, x = l ∨ x = r → y = l ∨ y = r → x = y ∨ x = swp l r y := by
        intro x y hx hy
        unfold swp
        by_cases w : y = l
        · rw [if_pos w, w]; exact hx
        · rw [if_neg w, hy.resolve_left w]; exact hx.symm
      rcases j3c with q | q
      · rw [q] at a3 a4
        rcases either x3 x1 c3 hin with z | z
        · rw [z, g3] at a3
          rcases s2 with w | w
          · rw [w] at a3; exact vl a3
          · rw [w] at a3; exact vr a3
        · rw [z, ← e2] at a3
          exact swp_ne hlr c2 a3.symm
      · rw [q] at a3 a4 a5
        rcases either x3 x2 c3 c2 with z | z
        · rw [z, h4] at a4
          exact j21 a4.symm
        · exact a5 ⟨z, rfl⟩
    refine ⟨x2, j2, rfl, rfl, c2, j20, j21, h2, by rw [← e3]; exact c3, ?_⟩
    rw [bnc_in hlr hin, ← e2, ← d2, bnc_in hlr c2]
    exact bnc_out (by show G.2.2.1 (swp l r x2) j2 ≠ l; rw [← e3]; exact fun q => c3 (Or.inl q)) (by show G.2.2.1 (swp l r x2) j2 ≠ r; rw [← e3]; exact fun q => c3 (Or.inr q))
  · left
    refine ⟨c2, ?_⟩
    rw [bnc_in hlr hin, ← e2, ← d2]
    exact bnc_out (fun q => c2 (Or.inl q)) (fun q => c2 (Or.inr q))
abbrev Pt : Type := Nat × Nat
/-- a wire from each to another -/
def Inv (V : Pt → Prop) (W : Pt → Pt) : Prop := ∀ p, V p → V (W p) ∧ W (W p) = p ∧ W p ≠ p
theorem elim {V : Pt → Prop} {W W' : Pt → Pt} {a b : Pt} (h : Inv V W) (ha : V a) (hb : V b) (hab : a ≠ b) (h' : ∀ p, V p → W' p = if p = W b then W a else if p = W a then W b else W p) : Inv (fun p => V p ∧ p ≠ a ∧ p ≠ b) W' ∧ ∀ p, V p → p ≠ a → p ≠ b → W' p = if W p = a then W b else if W p = b then W a else W p := by
  obtain ⟨a1, a2, a3⟩ := h a ha
  obtain ⟨b1, b2, b3⟩ := h b hb
  have inj : ∀ p q, V p → V q → W p = W q → p = q := fun p q hp hq e => by
    rw [← (h p hp).2.1, e, (h q hq).2.1]
  have key : ∀ p, V p → p ≠ a → p ≠ b → (W' p = if W p = a then W b else if W p = b then W a else W p) ∧ (V (W' p) ∧ W' p ≠ a ∧ W' p ≠ b) ∧ W' (W' p) = p ∧ W' p ≠ p := by
    intro p hp pa pb
    obtain ⟨p1, p2, p3⟩ := h p hp
    by_cases c1 : W p = a
    · have ep : p = W a := by rw [← c1]; exact p2.symm
      have nab : W a ≠ W b := fun e => hab (inj a b ha hb e)
      have wba : W b ≠ a := fun e => pb (by rw [ep, ← e]; exact b2)
      have e1 : W' p = W b := by rw [h' p hp, ep, if_neg nab, if_pos rfl]
      rw [if_pos c1, e1]
      refine ⟨rfl, ⟨b1, wba, b3⟩, ?_, fun e => nab (by rw [← ep, e])⟩
      rw [h' _ b1, if_pos rfl, ep]
    · rw [if_neg c1]
      by_cases c2 : W p = b
      · have ep : p = W b := by rw [← c2]; exact p2.symm
        have nab : W a ≠ W b := fun e => hab (inj a b ha hb e)
        have wab : W a ≠ b := fun e => pa (by rw [ep, ← e]; exact a2)
        have e1 : W' p = W a := by rw [h' p hp, ep, if_pos rfl]
        rw [if_pos c2, e1]
        refine ⟨rfl, ⟨a1, a3, wab⟩, ?_, fun e => nab (by rw [e, ← ep])⟩
        rw [h' _ a1, if_neg nab, if_pos rfl, ep]
      · rw [if_neg c2]
        have n1 : p ≠ W b := fun e => c2 (by rw [e]; exact b2)
        have n2 : p ≠ W a := fun e => c1 (by rw [e]; exact a2)
        have e1 : W' p = W p := by rw [h' p hp, if_neg n1, if_neg n2]
        rw [e1]
        refine ⟨rfl, ⟨p1, c1, c2⟩, ?_, p3⟩
        rw [h' _ p1, if_neg (fun e => pb (inj p b hp hb e)), if_neg (fun e => pa (inj p a hp ha e))]
        exact p2
  exact ⟨fun p hp => (key p hp.1 hp.2.1 hp.2.2).2, fun p hp pa pb => (key p hp pa pb).1⟩
def wf (S : St) (p : Pt) : Pt := (cV S p.1 p.2, cP S p.1 p.2)
/-- one pair of ports is joined -/
theorem X3_join1 {S : St} {N l r k s : Nat} {V : Pt → Prop} (hG : GC S) (hR : RcR S s) (hl : l < 3002) (hr : r < 3002) (hlr : l ≠ r) (k4 : k < 4) (hV : ∀ p, V p → p.1 < 3002 ∧ p.2 < 4) (h : Inv V (wf S)) (ha : V (l, k)) (hb : V (r, k)) :
    ∃ S' s', (∀ K : St → Option St, (bdo (fX7_portOf (nI l) (nI k)) fun v8 => bdo (fX7_portOf (nI r) (nI k)) fun v10 => bdo (fX2_join N S v8 v10) fun S14 => K S14) = K S') ∧ Fr S S' [48] [42, 46, 47] ∧ GC S' ∧ RcR S' s' ∧ s' ≤ s + 2 ∧ (∀ y, Rc S y → Rc S' y) ∧ (cK S (wf S (l, k)).1 = 5 → Rc S' (wf S (l, k)).1) ∧ (cK S (wf S (r, k)).1 = 5 → Rc S' (wf S (r, k)).1) ∧ Inv (fun p => V p ∧ p ≠ (l, k) ∧ p ≠ (r, k)) (wf S') ∧ (∀ p, V p → p ≠ (l, k) → p ≠ (r, k) → wf S' p = if wf S p = (l, k) then wf S (r, k) else if wf S p = (r, k) then wf S (l, k) else wf S p) := by
  obtain ⟨a1, -, -⟩ := h _ ha
  obtain ⟨b1, -, -⟩ := h _ hb
  obtain ⟨u1, u2⟩ := hV _ a1
  obtain ⟨w1, w2⟩ := hV _ b1
  obtain ⟨S', s', l1, l2, l3, l4, l5, l6, -, l7, l8, l9⟩ := X2_link (N := N) (a := (wf S (l, k)).1) (i := (wf S (l, k)).2) (b := (wf S (r, k)).1) (j := (wf S (r, k)).2) hG hR u1 u2 w1 w2
  have hab : (l, k) ≠ (r, k) := fun e => hlr (congrArg Prod.fst e)
  have hW : ∀ p, V p → wf S' p = if p = wf S (r, k) then wf S (l, k) else if p = wf S (l, k) then wf S (r, k) else wf S p := by
    intro p hp
    obtain ⟨q1, q2⟩ := l4 p.1 p.2 (hV p hp).2
    unfold wf at q1 q2 ⊢
    dsimp only at q1 q2 ⊢
    by_cases c1 : p = (cV S r k, cP S r k)
    · rw [if_pos c1]
      have : p.1 = cV S r k ∧ p.2 = cP S r k := by rw [c1]; exact ⟨rfl, rfl⟩
      rw [if_pos this] at q1 q2
      rw [q1, q2]
    · rw [if_neg c1]
      rw [if_neg (fun e => c1 (Prod.ext e.1 e.2))] at q1 q2
      by_cases c2 : p = (cV S l k, cP S l k)
      · rw [if_pos c2]
        have : p.1 = cV S l k ∧ p.2 = cP S l k := by rw [c2]; exact ⟨rfl, rfl⟩
        rw [if_pos this] at q1 q2
        rw [q1, q2]
      · rw [if_neg c2]
        rw [if_neg (fun e => c2 (Prod.ext e.1 e.2))] at q1 q2
        rw [q1, q2]
  obtain ⟨e1, e2⟩ := elim h ha hb hab hW
  refine ⟨S', s', fun K => ?_, l2, l3, l5, l6, l7, l8, l9, e1, e2⟩
  have ej : fX2_join N S (nI (4 * l + k)) (nI (4 * r + k)) = some S' := by
    unfold fX2_join
    rw [bd2_ok (X2_across hG.1 hl k4), bd2_ok (X2_across hG.1 hr k4)]
    exact (bdo_ok l1)
  rw [bdo_ok (pO l k), bdo_ok (pO r k), bdo_ok ej]
theorem X3_joinPorts {S : St} {N l r s : Nat} (hN : Big N) (hG : GC S) (hJ : JH 3002 (Gc S) l r) (hl5 : cK S l < 5) (hr5 : cK S r < 5) (hR : RcR S s) : ∃ S' s', fX3_joinPorts N S (nI l) (nI r) = some S' ∧ Fr S S' [44, 48] [40, 42, 43, 45, 46, 47] ∧ GC S' ∧ RcR S' s' ∧ JX 3002 (Gc S) l r (Gc S') ∧ (∀ e, e < 3002 → cK S e = 5 → (cV S e 0 = l ∨ cV S e 0 = r) → Rc S' e) ∧ cntA 3002 (cK S') + 2 = cntA 3002 (cK S) ∧ cntL 3002 (cK S') + 2 = cntL 3002 (cK S) := by
  obtain ⟨hV, hl, hr, hlr, hw, hn, hp⟩ := id hJ
  have hl : l < 3002 := hl
  have hr : r < 3002 := hr
  have hn : nP (cK S l) = nP (cK S r) := hn
  have hb := hN
  unfold Big at hb
  have n3 := nP_le (cK S l)
  have n2 : 2 ≤ nP (cK S l) := by
    have : ∀ k, k < 5 → 2 ≤ nP k := by decide
    exact this _ hl5
  obtain ⟨V, eV⟩ : ∃ V : Pt → Prop, V = fun p => p.1 < 3002 ∧ p.2 < nP (cK S p.1) ∧ p ≠ (l, 0) ∧ p ≠ (r, 0) := ⟨_, rfl⟩
  have V4 : ∀ p, V p → p.1 < 3002 ∧ p.2 < 4 := fun p hp => by
    rw [eV] at hp
    exact ⟨hp.1, Nat.lt_of_lt_of_le hp.2.1 (Nat.le_trans (nP_le _) (by decide))⟩
  have inv0 : Inv V (wf S) := by
    intro p hp
    rw [eV] at hp ⊢
    obtain ⟨p1, p2, p3, p4⟩ := hp
    obtain ⟨g1, g2, g3, g4, g5⟩ := hV.1 p.1 p.2 p1 p2
    have g3 : cV S (cV S p.1 p.2) (cP S p.1 p.2) = p.1 := g3
    have g4 : cP S (cV S p.1 p.2) (cP S p.1 p.2) = p.2 := g4
    refine ⟨⟨g1, g2, fun q => ?_, fun q => ?_⟩, Prod.ext g3 g4, fun q => g5 ⟨congrArg Prod.fst q, congrArg Prod.snd q⟩⟩
    · have q1 : cV S p.1 p.2 = l := congrArg Prod.fst q
      have q2 : cP S p.1 p.2 = 0 := congrArg Prod.snd q
      rw [q1, q2] at g3 g4
      exact p4 (Prod.ext (g3.symm.trans hw.1) (g4.symm.trans hw.2.1))
    · have q1 : cV S p.1 p.2 = r := congrArg Prod.fst q
      have q2 : cP S p.1 p.2 = 0 := congrArg Prod.snd q
      rw [q1, q2] at g3 g4
      exact p3 (Prod.ext (g3.symm.trans hw.2.2.1) (g4.symm.trans hw.2.2.2))
  have inV : ∀ x k, (x = l ∨ x = r) → 0 < k → k < nP (cK S l) → V (x, k) := by
    intro x k hx k0 hk
    rw [eV]
    refine ⟨?_, ?_, fun q => ?_, fun q => ?_⟩
    · rcases hx with q | q <;> rw [q] <;> assumption
    · rcases hx with q | q
      · rw [q]; exact hk
      · rw [q]; show k < nP (cK S r); rw [← hn]; exact hk
    · have : k = 0 := congrArg Prod.snd q
      omega
    · have : k = 0 := congrArg Prod.snd q
      omega
  have outV : ∀ v k, v < 3002 → v ≠ l → v ≠ r → k < nP (cK S v) → V (v, k) := fun v k hv vl vr hk => by
    rw [eV]
    exact ⟨hv, hk, fun q => vl (congrArg Prod.fst q), fun q => vr (congrArg Prod.fst q)⟩
  -- the first pair
  obtain ⟨S1, s1, c1, c2, c3, c4, c5, c6, c7, c8, c9, c10⟩ := X3_join1 (N := N) hG hR hl hr hlr (k := 1) (by decide) V4 inv0 (inV l 1 (Or.inl rfl) (by decide) (by omega)) (inV r 1 (Or.inr rfl) (by decide) (by omega))
  have k1 : cK S1 = cK S := by funext w; unfold cK; rw [c2.2.1 40 (by decide)]
  have x1 : cX S1 = cX S := by funext w; unfold cX; rw [c2.2.1 41 (by decide)]
  -- the end, from a state where all is wired
  have fin : ∀ (S2 : St) (s2 : Nat), Fr S S2 [48] [42, 46, 47] → GC S2 → RcR S2 s2 → (∀ v k, v < 3002 → v ≠ l → v ≠ r → k < nP (cK S v) → wf S2 (v, k) = bnc (Gc S) l r 5 (wf S (v, k))) → (∀ e, e < 3002 → cK S e = 5 → (cV S e 0 = l ∨ cV S e 0 = r) → Rc S2 e) → ∃ S' s', (bdo (fX2_discard N S2 (nI l)) fun S4 => bdo (fX2_discard N S4 (nI r)) fun S7 => some S7) = some S' ∧ Fr S S' [44, 48] [40, 42, 43, 45, 46, 47] ∧ GC S' ∧ RcR S' s' ∧ JX 3002 (Gc S) l r (Gc S') ∧ (∀ e, e < 3002 → cK S e = 5 → (cV S e 0 = l ∨ cV S e 0 = r) → Rc S' e) ∧ cntA 3002 (cK S') + 2 = cntA 3002 (cK S) ∧ cntL 3002 (cK S') + 2 = cntL 3002 (cK S) := by
    intro S2 s2 f2 g2 r2 hb5 hrc
    have k2 : cK S2 = cK S := by funext w; unfold cK; rw [f2.2.1 40 (by decide)]
    have x2 : cX S2 = cX S := by funext w; unfold cX; rw [f2.2.1 41 (by decide)]
    obtain ⟨S4, d1, d2, d3, d4, d5⟩ := X2_discard (N := N) g2 hl (by rw [k2]; omega)
    obtain ⟨S7, e1, e2, e3, e4, e5⟩ := X2_discard (N := N) d3 hr (by rw [d4, updN_at, if_neg (fun q => hlr q.symm), k2]; omega)
    have fr := d2.trans e2
    have kS : cK S7 = updN (updN (cK S) l 7) r 7 := by rw [e4, d4, k2]
    have xS : cX S7 = cX S := by
      rw [← x2]; funext w; unfold cX; rw [fr.2.1 41 (by decide)]
    have wS : ∀ w k, cV S7 w k = cV S2 w k ∧ cP S7 w k = cP S2 w k := fun w k => by
      unfold cV cP cW
      rw [fr.2.1 42 (by decide)]
      exact ⟨rfl, rfl⟩
    have hJW : JW 3002 (Gc S) l r (Gc S7) := by
      intro w hw wl wr
      refine ⟨?_, ?_, fun k hk => ?_⟩
      · show cK S7 w = cK S w
        rw [kS, updN_at, if_neg wr, updN_at, if_neg wl]
      · show cX S7 w = cX S w
        rw [xS]
      · show (cV S7 w k, cP S7 w k) = _
        rw [(wS w k).1, (wS w k).2]
        exact hb5 w k hw wl wr hk
    refine ⟨S7, s2, by rw [bdo_ok d1, bdo_ok e1], (f2.mono (by decide) (by decide)).trans (fr.mono (by decide) (by decide)), e3, r2.of (fr.1 48 (by decide)) (fr.2.1 46 (by decide)) (fr.2.1 47 (by decide)), hJW.jx hJ ?_ ?_, fun e he h5 hin => by rw [Rc.of (fr.2.1 47 (by decide))]; exact hrc e he h5 hin, ?_, ?_⟩
    · show cK S7 l = 7
      rw [kS, updN_at, if_neg hlr, updN_at, if_pos rfl]
    · show cK S7 r = 7
      rw [kS, updN_at, if_pos rfl]
    · rw [k2] at d5
      omega
    · have a1 := cntL_free hl (K := cK S) hl5
      have a2 := cntL_free hr (K := updN (cK S) l 7) (by rw [updN_at, if_neg (fun q => hlr q.symm)]; exact hr5)
      rw [kS]
      omega
  -- an eraser at port k of x, x one of the two
  have ers : ∀ e, e < 3002 → cK S e = 5 → (cV S e 0 = l ∨ cV S e 0 = r) → ∃ k, 0 < k ∧ k < nP (cK S l) ∧ wf S (cV S e 0, k) = (e, 0) ∧ cP S e 0 = k ∧ e ≠ l ∧ e ≠ r := by
    intro e he h5 hin
    have el : e ≠ l := fun q => by rw [q] at h5; omega
    have er : e ≠ r := fun q => by rw [q] at h5; omega
    have h0 : 0 < nP (cK S e) := by rw [h5]; decide
    obtain ⟨p1, p2, -⟩ := bnc_path hJ he el er h0 hin
    obtain ⟨-, -, g3, g4, -⟩ := hV.1 e 0 he h0
    exact ⟨cP S e 0, Nat.pos_of_ne_zero p1, p2, Prod.ext g3 g4, rfl, el, er⟩
  have start : fX3_joinPorts N S (nI l) (nI r) = loopN (fun k x => fX3_joinPorts_15s N k x.1 x.2.1 x.2.2.1 x.2.2.2.1 x.2.2.2.2) N (S, nI l, nI r, nI (nP (cK S l) - 1), nI 1) := by
    unfold fX3_joinPorts
    rw [bd2_ok (X2_kindOf hG.1 hl), bdo_ok (oP _ hl5), bnd_eq]
    rfl
  obtain ⟨m, rfl⟩ : ∃ m, N = m + 4 := ⟨N - 4, by omega⟩
  have step1 : fX3_joinPorts (m + 4) S (nI l) (nI r) = loopN (fun k x => fX3_joinPorts_15s (m + 4) k x.1 x.2.1 x.2.2.1 x.2.2.2.1 x.2.2.2.2) (m + 3) (S1, nI l, nI r, nI (nP (cK S l) - 1), nI 2) := by
    rw [start]
    obtain ⟨L, eL⟩ : ∃ L, L = loopN (fun k x => fX3_joinPorts_15s (m + 4) k x.1 x.2.1 x.2.2.1 x.2.2.2.1 x.2.2.2.2) (m + 3) := ⟨_, rfl⟩
    show fX3_joinPorts_15s (m + 4) (loopN (fun k x => fX3_joinPorts_15s (m + 4) k x.1 x.2.1 x.2.2.1 x.2.2.2.1 x.2.2.2.2) (m + 3)) S (nI l) (nI r) (nI (nP (cK S l) - 1)) (nI 1) = _
    rw [← eL]
    unfold fX3_joinPorts_15s
    rw [if_neg (nI_nlt (by omega) (by omega)), c1]
    rfl
  have pin : ∀ v k, v < 3002 → v ≠ l → v ≠ r → k < nP (cK S v) → (cV S v k = l ∨ cV S v k = r) → cP S v k ≠ 0 ∧ cP S v k < nP (cK S l) := fun v k hv vl vr hk hin => ⟨(bnc_path hJ hv vl vr hk hin).1, (bnc_path hJ hv vl vr hk hin).2.1⟩
  by_cases cn : nP (cK S l) = 2
  · -- one pair
    have hb5 : ∀ v k, v < 3002 → v ≠ l → v ≠ r → k < nP (cK S v) → wf S1 (v, k) = bnc (Gc S) l r 5 (wf S (v, k)) := by
      intro v k hv vl vr hk
      rw [c10 (v, k) (outV v k hv vl vr hk) (fun q => vl (congrArg Prod.fst q)) (fun q => vr (congrArg Prod.fst q))]
      by_cases hin : cV S v k = l ∨ cV S v k = r
      · obtain ⟨p1, p2, p3⟩ := bnc_path hJ hv vl vr hk hin
        have pk : cP S v k = 1 := by
          have p1 : cP S v k ≠ 0 := p1
          have p2 : cP S v k < nP (cK S l) := p2
          omega
        have e5 : bnc (Gc S) l r 5 (wf S (v, k)) = wf S (swp l r (cV S v k), 1) := by
          rcases p3 with ⟨-, p3⟩ | ⟨x, j, -, -, -, j0, j1, j2, -⟩
          · have p3 : bnc (Gc S) l r 5 (cV S v k, cP S v k) = (cV S (swp l r (cV S v k)) (cP S v k), cP S (swp l r (cV S v k)) (cP S v k)) := p3
            show bnc (Gc S) l r 5 (cV S v k, cP S v k) = (cV S (swp l r (cV S v k)) 1, cP S (swp l r (cV S v k)) 1)
            rw [p3, pk]
          · have j1 : j ≠ cP S v k := j1
            have j2 : j < nP (cK S l) := j2
            omega
        rw [e5]
        rcases hin with q | q
        · rw [if_pos (show wf S (v, k) = (l, 1) from Prod.ext q pk), q]
          unfold swp; rw [if_pos rfl]
        · rw [if_neg (fun z => hlr ((congrArg Prod.fst z).symm.trans q)), if_pos (show wf S (v, k) = (r, 1) from Prod.ext q pk), q]
          unfold swp; rw [if_neg (fun z => hlr z.symm)]
      · rw [if_neg (fun q => hin (Or.inl (congrArg Prod.fst q))), if_neg (fun q => hin (Or.inr (congrArg Prod.fst q)))]
        exact (bnc_out (fun q => hin (Or.inl q)) (fun q => hin (Or.inr q))).symm
    have hrc : ∀ e, e < 3002 → cK S e = 5 → (cV S e 0 = l ∨ cV S e 0 = r) → Rc S1 e := by
      intro e he h5 hin
      obtain ⟨k, k0, kn, wk, -⟩ := ers e he h5 hin
      have k1' : k = 1 := by omega
      subst k1'
      rcases hin with q | q
      · rw [q] at wk; rw [wk] at c7; exact c7 h5
      · rw [q] at wk; rw [wk] at c8; exact c8 h5
    obtain ⟨S', s', q1, q2⟩ := fin S1 s1 c2 c3 c4 hb5 hrc
    · refine ⟨S', s', ?_, q2⟩
      rw [step1, ← q1]
      show fX3_joinPorts_15s (m + 4) _ S1 (nI l) (nI r) (nI (nP (cK S l) - 1)) (nI 2) = _
      unfold fX3_joinPorts_15s
      rw [if_pos (nI_lt (by omega) (by omega))]
  · -- two pairs
    have cn3 : nP (cK S l) = 3 := by omega
    have V4' : ∀ p, (V p ∧ p ≠ (l, 1) ∧ p ≠ (r, 1)) → p.1 < 3002 ∧ p.2 < 4 := fun p hp => V4 p hp.1
    have n21 : ∀ x y : Nat, (x, 2) ≠ (y, 1) := fun x y q => absurd (congrArg Prod.snd q) (by show ¬ (2 : Nat) = 1; decide)
    obtain ⟨S2, s2, d1, d2, d3, d4, d5, d6, d7, d8, d9, d10⟩ := X3_join1 (N := m + 4) c3 c4 hl hr hlr (k := 2) (by decide) V4' c9 ⟨inV l 2 (Or.inl rfl) (by decide) (by omega), n21 _ _, n21 _ _⟩ ⟨inV r 2 (Or.inr rfl) (by decide) (by omega), n21 _ _, n21 _ _⟩
    have e2l : ∀ x, x = l ∨ x = r → wf S1 (x, 2) = if wf S (x, 2) = (l, 1) then wf S (r, 1) else if wf S (x, 2) = (r, 1) then wf S (l, 1) else wf S (x, 2) := fun x hx => c10 (x, 2) (inV x 2 hx (by decide) (by omega)) (n21 _ _) (n21 _ _)
    have hb5 : ∀ v k, v < 3002 → v ≠ l → v ≠ r → k < nP (cK S v) → wf S2 (v, k) = bnc (Gc S) l r 5 (wf S (v, k)) := by
      intro v k hv vl vr hk
      have vne : ∀ k', ((v, k) : Pt) ≠ (l, k') ∧ ((v, k) : Pt) ≠ (r, k') := fun k' => ⟨fun q => vl (congrArg Prod.fst q), fun q => vr (congrArg Prod.fst q)⟩
      rw [d10 (v, k) ⟨outV v k hv vl vr hk, (vne 1).1, (vne 1).2⟩ (vne 2).1 (vne 2).2, c10 (v, k) (outV v k hv vl vr hk) (vne 1).1 (vne 1).2]
      by_cases hin : cV S v k = l ∨ cV S v k = r
      · obtain ⟨p1, p2, p3⟩ := bnc_path hJ hv vl vr hk hin
        have p1 : cP S v k ≠ 0 := p1
        have p2 : cP S v k < nP (cK S l) := p2
        have wv : wf S (v, k) = (cV S v k, cP S v k) := rfl
        have sw := swp_in (l := l) (r := r) hin
        have ss : swp l r (swp l r (cV S v k)) = cV S v k := swp_swp hlr hin
        -- which of the two
        have pick : ∀ (x j : Nat) (A B C : Pt), (x = l ∨ x = r) → (if ((x, j) : Pt) = (l, j) then A else if ((x, j) : Pt) = (r, j) then B else C) = if x = l then A else B := by
          intro x j A B C hx
          by_cases q : x = l
          · rw [if_pos (by rw [q]), if_pos q]
          · have q2 := hx.resolve_left q
            rw [if_neg (fun z => q (congrArg Prod.fst z)), if_pos (by rw [q2]), if_neg q]
        have pn : ∀ (p : Pt) (A B C : Pt) (j : Nat), (p.2 ≠ j ∨ ¬ (p.1 = l ∨ p.1 = r)) → (if p = (l, j) then A else if p = (r, j) then B else C) = C := by
          intro p A B C j hp
          have a1 : p ≠ (l, j) := fun z => by
            rcases hp with q | q
            · exact q (congrArg Prod.snd z)
            · exact q (Or.inl (congrArg Prod.fst z))
          have a2 : p ≠ (r, j) := fun z => by
            rcases hp with q | q
            · exact q (congrArg Prod.snd z)
            · exact q (Or.inr (congrArg Prod.fst z))
          rw [if_neg a1, if_neg a2]
        have sel : ∀ (x j : Nat) (S : St), (x = l ∨ x = r) → (if x = l then wf S (r, j) else wf S (l, j)) = wf S (swp l r x, j) := by
          intro x j S hx
          unfold swp
          by_cases q : x = l
          · rw [if_pos q, if_pos q]
          · rw [if_neg q, if_neg q]
        by_cases j1 : cP S v k = 1
        · have wv1 : wf S (v, k) = (cV S v k, 1) := by rw [wv, j1]
          rw [wv1, pick _ 1 _ _ _ hin, sel _ 1 S hin]
          rcases p3 with ⟨o1, p3⟩ | ⟨x, j, y1, y2, y3, y4, y5, y6, y7, y8⟩
          · have o1 : ¬ ((wf S (swp l r (cV S v k), 1)).1 = l ∨ (wf S (swp l r (cV S v k), 1)).1 = r) := by
              have : ¬ (cV S (swp l r (cV S v k)) (cP S v k) = l ∨ cV S (swp l r (cV S v k)) (cP S v k) = r) := o1
              rw [j1] at this; exact this
            rw [pn _ _ _ _ 2 (Or.inr o1)]
            have p3 : bnc (Gc S) l r 5 (cV S v k, cP S v k) = (cV S (swp l r (cV S v k)) (cP S v k), cP S (swp l r (cV S v k)) (cP S v k)) := p3
            rw [j1] at p3
            exact p3.symm
          · have y1 : cV S (swp l r (cV S v k)) (cP S v k) = x := y1
            have y2 : cP S (swp l r (cV S v k)) (cP S v k) = j := y2
            have y5 : j ≠ cP S v k := y5
            have y6 : j < nP (cK S l) := y6
            rw [j1] at y1 y2 y5
            have j2 : j = 2 := by omega
            subst j2
            have ew : wf S (swp l r (cV S v k), 1) = (x, 2) := Prod.ext y1 y2
            rw [ew, pick x 2 _ _ _ y3, sel x 2 S1 y3, e2l _ (swp_in y3)]
            have y7 : ¬ ((wf S (swp l r x, 2)).1 = l ∨ (wf S (swp l r x, 2)).1 = r) := y7
            rw [pn _ _ _ _ 1 (Or.inr y7)]
            have y8 : bnc (Gc S) l r 5 (cV S v k, cP S v k) = (cV S (swp l r x) 2, cP S (swp l r x) 2) := y8
            rw [j1] at y8
            exact y8.symm
        · have j2 : cP S v k = 2 := by omega
          have wv2 : wf S (v, k) = (cV S v k, 2) := by rw [wv, j2]
          rw [wv2, pn (cV S v k, 2) _ _ _ 1 (Or.inl (by show (2 : Nat) ≠ 1; decide)), pick _ 2 _ _ _ hin, sel _ 2 S1 hin, e2l _ sw]
          rcases p3 with ⟨o1, p3⟩ | ⟨x, j, y1, y2, y3, y4, y5, y6, y7, y8⟩
          · have o1 : ¬ ((wf S (swp l r (cV S v k), 2)).1 = l ∨ (wf S (swp l r (cV S v k), 2)).1 = r) := by
              have : ¬ (cV S (swp l r (cV S v k)) (cP S v k) = l ∨ cV S (swp l r (cV S v k)) (cP S v k) = r) := o1
              rw [j2] at this; exact this
            rw [pn _ _ _ _ 1 (Or.inr o1)]
            have p3 : bnc (Gc S) l r 5 (cV S v k, cP S v k) = (cV S (swp l r (cV S v k)) (cP S v k), cP S (swp l r (cV S v k)) (cP S v k)) := p3
            rw [j2] at p3
            exact p3.symm
          · have y1 : cV S (swp l r (cV S v k)) (cP S v k) = x := y1
            have y2 : cP S (swp l r (cV S v k)) (cP S v k) = j := y2
            have y5 : j ≠ cP S v k := y5
            have y6 : j < nP (cK S l) := y6
            rw [j2] at y1 y2 y5
            have j1' : j = 1 := by omega
            subst j1'
            have ew : wf S (swp l r (cV S v k), 2) = (x, 1) := Prod.ext y1 y2
            rw [ew, pick x 1 _ _ _ y3, sel x 1 S y3]
            have y8 : bnc (Gc S) l r 5 (cV S v k, cP S v k) = (cV S (swp l r x) 1, cP S (swp l r x) 1) := y8
            rw [j2] at y8
            exact y8.symm
      · have o : (wf S (v, k)).1 ≠ l ∧ (wf S (v, k)).1 ≠ r := ⟨fun q => hin (Or.inl q), fun q => hin (Or.inr q)⟩
        have a1 : ∀ j, wf S (v, k) ≠ (l, j) ∧ wf S (v, k) ≠ (r, j) := fun j => ⟨fun z => o.1 (congrArg Prod.fst z), fun z => o.2 (congrArg Prod.fst z)⟩
        rw [if_neg (a1 1).1, if_neg (a1 1).2, if_neg (a1 2).1, if_neg (a1 2).2]
        exact (bnc_out o.1 o.2).symm
    have hrc : ∀ e, e < 3002 → cK S e = 5 → (cV S e 0 = l ∨ cV S e 0 = r) → Rc S2 e := by
      intro e he h5 hin
      obtain ⟨k, k0, kn, wk, -, el, er⟩ := ers e he h5 hin
      by_cases k1' : k = 1
      · subst k1'
        refine d6 e ?_
        rcases hin with q | q
        · rw [q] at wk; rw [wk] at c7; exact c7 h5
        · rw [q] at wk; rw [wk] at c8; exact c8 h5
      · have k2' : k = 2 := by omega
        subst k2'
        have we : wf S1 (cV S e 0, 2) = (e, 0) := by
          rw [e2l _ hin, wk, if_neg (fun z => el (congrArg Prod.fst z)), if_neg (fun z => er (congrArg Prod.fst z))]
        rw [k1] at d7 d8
        rcases hin with q | q
        · rw [q] at we; rw [we] at d7; exact d7 h5
        · rw [q] at we; rw [we] at d8; exact d8 h5
    obtain ⟨S', s', q1, q2⟩ := fin S2 s2 (c2.trans d2) d3 d4 hb5 hrc
    · refine ⟨S', s', ?_, q2⟩
      rw [step1, ← q1]
      obtain ⟨L, eL⟩ : ∃ L, L = loopN (fun k x => fX3_joinPorts_15s (m + 4) k x.1 x.2.1 x.2.2.1 x.2.2.2.1 x.2.2.2.2) (m + 2) := ⟨_, rfl⟩
      show fX3_joinPorts_15s (m + 4) (loopN (fun k x => fX3_joinPorts_15s (m + 4) k x.1 x.2.1 x.2.2.1 x.2.2.2.1 x.2.2.2.2) (m + 2)) S1 (nI l) (nI r) (nI (nP (cK S l) - 1)) (nI 2) = _
      rw [← eL]
      have z : fX3_joinPorts_15s (m + 4) L S1 (nI l) (nI r) (nI (nP (cK S l) - 1)) (nI 2) = L (S2, nI l, nI r, nI (nP (cK S l) - 1), nI 2 + 1) := by
        unfold fX3_joinPorts_15s
        rw [if_neg (nI_nlt (by omega) (by omega)), d1]
        rfl
      rw [z, eL, nI_1]
      show fX3_joinPorts_15s (m + 4) _ S2 (nI l) (nI r) (nI (nP (cK S l) - 1)) (nI 3) = _
      unfold fX3_joinPorts_15s
      rw [if_pos (nI_lt (by omega) (by omega))]
