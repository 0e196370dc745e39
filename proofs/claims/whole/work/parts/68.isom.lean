/-! meetings and erasing under other names -/
def prl (n : Nat) (φ : Nat → Nat) (G G' : Gr) (p p' : Nat × Nat) : Prop := (G.1 p.1 = 5 ∧ G'.1 p'.1 = 5) ∨ (lv n G p.1 ∧ p.2 < nP (G.1 p.1) ∧ p' = (φ p.1, p.2))
theorem lv_5 {n : Nat} {G : Gr} {v : Nat} (h : lv n G v) : G.1 v ≠ 5 := by
  rcases h.2 with e | e <;> omega
theorem prl_w {n n' : Nat} {φ ψ : Nat → Nat} {G G' : Gr} (hG : GVr n G) (hI : IsoH n n' φ ψ G G') {v k : Nat} (hv : lv n G v) (hk : k < nP (G.1 v)) : prl n φ G G' (G.2.2.1 v k, G.2.2.2 v k) (G'.2.2.1 (φ v) k, G'.2.2.2 (φ v) k) := by
  obtain ⟨-, -, -, -, i5⟩ := hI v hv
  obtain ⟨w1, w2⟩ := i5 k hk
  by_cases h5 : G.1 (G.2.2.1 v k) = 5
  · exact Or.inl ⟨h5, w1 h5⟩
  · obtain ⟨e1, e2⟩ := w2 h5
    exact Or.inr ⟨hG.lv hv.1 hk h5, (hG.1 v k hv.1 hk).2.1, by rw [e1, e2]⟩
theorem prl_b {n n' : Nat} {φ ψ : Nat → Nat} {G G' : Gr} {l r : Nat} (hG : GVr n G) (hI : IsoH n n' φ ψ G G') (hl : lv n G l) (hr : lv n G r) (hn : nP (G.1 l) = nP (G.1 r)) : ∀ (f : Nat) (p p' : Nat × Nat), prl n φ G G' p p' → prl n φ G G' (bnc G l r f p) (bnc G' (φ l) (φ r) f p')
  | 0, p, p', h => h
  | f + 1, p, p', h => by
    rcases h with ⟨h1, h2⟩ | ⟨h1, h2, h3⟩
    · rw [bnc_out (fun e => lv_5 hl (by rw [← e]; exact h1)) (fun e => lv_5 hr (by rw [← e]; exact h1)), bnc_out (fun e => lv_5 (hI l hl).1 (by rw [← e]; exact h2)) (fun e => lv_5 (hI r hr).1 (by rw [← e]; exact h2))]
      exact Or.inl ⟨h1, h2⟩
    · have e1 : bnc G l r (f + 1) p = if p.1 = l then bnc G l r f (G.2.2.1 r p.2, G.2.2.2 r p.2) else if p.1 = r then bnc G l r f (G.2.2.1 l p.2, G.2.2.2 l p.2) else p := rfl
      have e2 : bnc G' (φ l) (φ r) (f + 1) p' = if p'.1 = φ l then bnc G' (φ l) (φ r) f (G'.2.2.1 (φ r) p'.2, G'.2.2.2 (φ r) p'.2) else if p'.1 = φ r then bnc G' (φ l) (φ r) f (G'.2.2.1 (φ l) p'.2, G'.2.2.2 (φ l) p'.2) else p' := rfl
      rw [e1, e2, h3]
      dsimp only
      by_cases c1 : p.1 = l
      · rw [if_pos c1, if_pos (by rw [c1])]
        exact prl_b hG hI hl hr hn f _ _ (prl_w hG hI hr (by rw [← hn, ← c1]; exact h2))
      · rw [if_neg c1, if_neg (fun e => c1 (hI.inj h1 hl e))]
        by_cases c2 : p.1 = r
        · rw [if_pos c2, if_pos (by rw [c2])]
          exact prl_b hG hI hl hr hn f _ _ (prl_w hG hI hl (by rw [hn, ← c2]; exact h2))
        · rw [if_neg c2, if_neg (fun e => c2 (hI.inj h1 hr e))]
          exact Or.inr ⟨h1, h2, rfl⟩
/-- joined, and the two gone -/
def JX (n : Nat) (G : Gr) (l r : Nat) (G' : Gr) : Prop := JS n G l r G' ∧ G'.1 l = 7 ∧ G'.1 r = 7
theorem JX.lv {n : Nat} {G G1 : Gr} {l r v : Nat} (h : JX n G l r G1) (hv : lv n G1 v) : lv n G v ∧ v ≠ l ∧ v ≠ r := by
  obtain ⟨h1, h2, h3⟩ := h
  have z1 : v ≠ l := fun e => by rw [← e] at h2; rcases hv.2 with q | q <;> omega
  have z2 : v ≠ r := fun e => by rw [← e] at h3; rcases hv.2 with q | q <;> omega
  have := (h1 v hv.1 z1 z2).1
  exact ⟨⟨hv.1, by rw [← this]; exact hv.2⟩, z1, z2⟩
theorem IsoH_join {n n' : Nat} {φ ψ : Nat → Nat} {G G' G1 G1' : Gr} {l r : Nat} (hG : GVr n G) (hG' : GVr n' G') (hI : IsoH n n' φ ψ G G') (hl : lv n G l) (hr : lv n G r) (hn : nP (G.1 l) = nP (G.1 r)) (hJ : JX n G l r G1) (hJ' : JX n' G' (φ l) (φ r) G1') (hV : GV n G1.1 G1.2.2.1 G1.2.2.2) (hV' : GV n' G1'.1 G1'.2.2.1 G1'.2.2.2) : IsoH n n' φ ψ G1 G1' := by
  intro v hv1
  obtain ⟨hv, vl, vr⟩ := hJ.lv hv1
  obtain ⟨i1, i2, i3, i4, i5⟩ := hI v hv
  obtain ⟨j1, j2, j3⟩ := hJ.1 v hv.1 vl vr
  have vl' : φ v ≠ φ l := fun e => vl (hI.inj hv hl e)
  have vr' : φ v ≠ φ r := fun e => vr (hI.inj hv hr e)
  obtain ⟨j1', j2', j3'⟩ := hJ'.1 (φ v) i1.1 vl' vr'
  refine ⟨⟨i1.1, by rw [j1', i3]; exact hv.2⟩, i2, by rw [j1', i3, j1], fun h5 => by rw [j2', j2]; exact i4 (by rw [← j1]; exact h5), fun k hk => ?_⟩
  have hk1 := hk
  rw [j1] at hk
  obtain ⟨b1, b2, b3⟩ := j3 k hk
  obtain ⟨b1', b2', b3'⟩ := j3' k (by rw [i3]; exact hk)
  have hp := prl_b hG hI hl hr hn 5 _ _ (prl_w hG hI hv hk)
  rw [← b1, ← b1'] at hp
  obtain ⟨g1, -, -, -, -⟩ := hV v k hv.1 hk1
  obtain ⟨g1', -, -, -, -⟩ := hV' (φ v) k i1.1 (by rw [j1', i3]; exact hk)
  rw [(hJ.1 _ g1 b2 b3).1, (hJ'.1 _ g1' b2' b3').1]
  rcases hp with ⟨p1, p2⟩ | ⟨p1, p2, p3⟩
  · exact ⟨fun _ => p2, fun h => absurd p1 h⟩
  · exact ⟨fun h => absurd h (lv_5 p1), fun _ => ⟨congrArg Prod.fst p3, congrArg Prod.snd p3⟩⟩
theorem Iso_join {n n' : Nat} {φ ψ : Nat → Nat} {G G' G1 G1' : Gr} {l r : Nat} (hG : GVr n G) (hG' : GVr n' G') (hI : Iso n n' φ ψ G G') (hl : lv n G l) (hr : lv n G r) (hn : nP (G.1 l) = nP (G.1 r)) (hJ : JX n G l r G1) (hJ' : JX n' G' (φ l) (φ r) G1') (hV : GV n G1.1 G1.2.2.1 G1.2.2.2) (hV' : GV n' G1'.1 G1'.2.2.1 G1'.2.2.2) : Iso n n' φ ψ G1 G1' := by
  obtain ⟨l1, l2, l3, -⟩ := hI.1 l hl
  obtain ⟨r1, r2, r3, -⟩ := hI.1 r hr
  exact ⟨IsoH_join hG hG' hI.1 hl hr hn hJ hJ' hV hV', IsoH_join hG' hG hI.2.1 l1 r1 (by rw [l3, r3]; exact hn) hJ' (by rw [l2, r2]; exact hJ) hV' hV, hI.2.2.1, hI.2.2.2⟩
/-- passed: which nodes are new -/
def PX (n : Nat) (G : Gr) (c u : Nat) (o lk : Nat → Nat) (G' : Gr) : Prop := PS n G c u o lk G' ∧ (∀ a, auxC (G.1 c) a → o a < n ∧ G.1 (o a) = 7) ∧ (∀ k, 0 < k → k < nP (G.1 u) → lk k < n ∧ G.1 (lk k) = 7) ∧ (∀ a k, auxC (G.1 c) a → 0 < k → k < nP (G.1 u) → o a ≠ lk k) ∧ (∀ a b, auxC (G.1 c) a → auxC (G.1 c) b → o a = o b → a = b) ∧ (∀ k j, 0 < k → k < nP (G.1 u) → 0 < j → j < nP (G.1 u) → lk k = lk j → k = j) ∧ G'.1 c = 7 ∧ G'.1 u = 7 ∧ (∀ v, lv n G' v → (lv n G v ∧ v ≠ c ∧ v ≠ u) ∨ (∃ a, auxC (G.1 c) a ∧ v = o a) ∨ (∃ k, 0 < k ∧ k < nP (G.1 u) ∧ v = lk k))
noncomputable def phP (G : Gr) (c u : Nat) (o lk o' lk' : Nat → Nat) (φ : Nat → Nat) (v : Nat) : Nat := @dite _ (∃ a, auxC (G.1 c) a ∧ v = o a) (Classical.propDecidable _) (fun h => o' (Classical.choose h)) (fun _ => @dite _ (∃ k, (0 < k ∧ k < nP (G.1 u)) ∧ v = lk k) (Classical.propDecidable _) (fun h => lk' (Classical.choose h)) (fun _ => φ v))
theorem phP_o {n : Nat} {G G1 : Gr} {c u : Nat} {o lk o' lk' φ : Nat → Nat} (h : PX n G c u o lk G1) {a : Nat} (ha : auxC (G.1 c) a) : phP G c u o lk o' lk' φ (o a) = o' a := by
  have e : ∃ b, auxC (G.1 c) b ∧ o a = o b := ⟨a, ha, rfl⟩
  unfold phP
  rw [dif_pos e]
  have s := Classical.choose_spec e
  rw [← h.2.2.2.2.1 _ _ ha s.1 s.2]
theorem phP_l {n : Nat} {G G1 : Gr} {c u : Nat} {o lk o' lk' φ : Nat → Nat} (h : PX n G c u o lk G1) {k : Nat} (h0 : 0 < k) (hk : k < nP (G.1 u)) : phP G c u o lk o' lk' φ (lk k) = lk' k := by
  have e : ∃ j, (0 < j ∧ j < nP (G.1 u)) ∧ lk k = lk j := ⟨k, ⟨h0, hk⟩, rfl⟩
  have n1 : ¬ ∃ a, auxC (G.1 c) a ∧ lk k = o a := fun ⟨a, ha, e⟩ => h.2.2.2.1 a k ha h0 hk e.symm
  unfold phP
  rw [dif_neg n1, dif_pos e]
  have s := Classical.choose_spec e
  rw [← h.2.2.2.2.2.1 _ _ h0 hk s.1.1 s.1.2 s.2]
theorem phP_v {n : Nat} {G G1 : Gr} {c u : Nat} {o lk o' lk' φ : Nat → Nat} (h : PX n G c u o lk G1) {v : Nat} (hv : G.1 v ≠ 7) : phP G c u o lk o' lk' φ v = φ v := by
  have n1 : ¬ ∃ a, auxC (G.1 c) a ∧ v = o a := fun ⟨a, ha, e⟩ => hv (by rw [e]; exact (h.2.1 a ha).2)
  have n2 : ¬ ∃ k, (0 < k ∧ k < nP (G.1 u)) ∧ v = lk k := fun ⟨k, hk, e⟩ => hv (by rw [e]; exact (h.2.2.1 k hk.1 hk.2).2)
  unfold phP
  rw [dif_neg n1, dif_neg n2]
theorem lv_7 {n : Nat} {G : Gr} {v : Nat} (h : lv n G v) : G.1 v ≠ 7 := by
  rcases h.2 with e | e <;> omega
theorem lv_p {n : Nat} {G : Gr} {v : Nat} (h : lv n G v) : 0 < nP (G.1 v) := by
  unfold nP
  rcases h.2 with e | e
  · by_cases a : G.1 v < 3
    · rw [if_pos a]; decide
    · rw [if_neg a, if_pos e]; decide
  · rw [e]; decide
theorem aux_of {d a : Nat} (hd : isC d) (h0 : a ≠ 0) (h : a < nP d) : auxC d a := by
  unfold auxC
  rcases hd with e | e | e
  · rw [e] at h; have : a < 3 := h; omega
  · rw [e] at h; have : a < 2 := h; omega
  · rw [e] at h; have : a < 2 := h; omega
theorem prl_s {n n' : Nat} {φ ψ : Nat → Nat} {G G' G1 G1' : Gr} {c u : Nat} {o lk o' lk' : Nat → Nat} (hG : GVr n G) (hG' : GVr n' G') (hI : IsoH n n' φ ψ G G') (hc : isC (G.1 c)) (lc : lv n G c) (lu : lv n G u) (hu : G.1 u < 5) (hX : PX n G c u o lk G1) (hX' : PX n' G' (φ c) (φ u) o' lk' G1') (p p' : Nat × Nat) (hp : prl n φ G G' p p') (h5 : G.1 p.1 = 5 → p.1 < n ∧ p'.1 < n') (hz : p.1 = c ∨ p.1 = u → p.2 ≠ 0) : (G1.1 (stn c u o lk p).1 = 5 → G1'.1 (stn (φ c) (φ u) o' lk' p').1 = 5) ∧ (G1.1 (stn c u o lk p).1 ≠ 5 → stn (φ c) (φ u) o' lk' p' = (phP G c u o lk o' lk' φ (stn c u o lk p).1, (stn c u o lk p).2)) := by
  rcases hp with ⟨p1, p2⟩ | ⟨p1, p2, p3⟩
  · have z1 : p.1 ≠ c := fun e => lv_5 lc (by rw [← e]; exact p1)
    have z2 : p.1 ≠ u := fun e => lv_5 lu (by rw [← e]; exact p1)
    have z1' : p'.1 ≠ φ c := fun e => lv_5 (hI c lc).1 (by rw [← e]; exact p2)
    have z2' : p'.1 ≠ φ u := fun e => lv_5 (hI u lu).1 (by rw [← e]; exact p2)
    have e1 : stn c u o lk p = p := by unfold stn; rw [if_neg z1, if_neg z2]
    have e2 : stn (φ c) (φ u) o' lk' p' = p' := by unfold stn; rw [if_neg z1', if_neg z2']
    obtain ⟨b1, b2⟩ := h5 p1
    have f1 := (hX.1.1 p.1 b1 z1 z2 (by rw [p1]; decide)).1
    have f2 := (hX'.1.1 p'.1 b2 z1' z2' (by rw [p2]; decide)).1
    rw [e1, e2, f1, f2]
    exact ⟨fun _ => p2, fun h => absurd p1 h⟩
  · obtain ⟨i1, -, i3, -⟩ := hI p.1 p1
    obtain ⟨-, -, c3, -⟩ := hI c lc
    obtain ⟨-, -, u3, -⟩ := hI u lu
    rw [p3]
    unfold stn
    dsimp only
    by_cases z1 : p.1 = c
    · rw [if_pos z1, if_pos (by rw [z1])]
      have ha : auxC (G.1 c) p.2 := aux_of hc (hz (Or.inl z1)) (by rw [← z1]; exact p2)
      obtain ⟨q1, -⟩ := hX.1.2.1 p.2 ha
      obtain ⟨q1', -⟩ := hX'.1.2.1 p.2 (by rw [c3]; exact ha)
      refine ⟨fun h => ?_, fun _ => ?_⟩
      · have h : G1.1 (o p.2) = 5 := h
        omega
      · show (o' p.2, 0) = (phP G c u o lk o' lk' φ (o p.2), 0)
        rw [phP_o hX ha]
    · rw [if_neg z1, if_neg (fun e => z1 (hI.inj p1 lc e))]
      by_cases z2 : p.1 = u
      · rw [if_pos z2, if_pos (by rw [z2])]
        have h0 : 0 < p.2 := Nat.pos_of_ne_zero (hz (Or.inr z2))
        have hk : p.2 < nP (G.1 u) := by rw [← z2]; exact p2
        obtain ⟨q1, -⟩ := hX.1.2.2 p.2 h0 hk
        refine ⟨fun h => ?_, fun _ => ?_⟩
        · have h : G1.1 (lk p.2) = 5 := h
          rcases hc with e | e | e <;> omega
        · show (lk' p.2, 0) = (phP G c u o lk o' lk' φ (lk p.2), 0)
          rw [phP_l hX h0 hk]
      · rw [if_neg z2, if_neg (fun e => z2 (hI.inj p1 lu e))]
        have f1 := (hX.1.1 p.1 p1.1 z1 z2 (lv_p p1)).1
        refine ⟨fun h => ?_, fun _ => ?_⟩
        · exact absurd (f1.symm.trans h) (lv_5 p1)
        · rw [phP_v hX (lv_7 p1)]
theorem IsoH_pass {n n' : Nat} {φ ψ : Nat → Nat} {G G' G1 G1' : Gr} {c u : Nat} {o lk o' lk' : Nat → Nat} (hG : GVr n G) (hG' : GVr n' G') (hI : IsoH n n' φ ψ G G') (hI' : IsoH n' n ψ φ G' G) (hcu : G.2.2.1 c 0 = u ∧ G.2.2.2 c 0 = 0 ∧ G.2.2.1 u 0 = c ∧ G.2.2.2 u 0 = 0) (hc : isC (G.1 c)) (lc : lv n G c) (lu : lv n G u) (hu : G.1 u < 5) (hX : PX n G c u o lk G1) (hX' : PX n' G' (φ c) (φ u) o' lk' G1') : IsoH n n' (phP G c u o lk o' lk' φ) (phP G' (φ c) (φ u) o' lk' o lk ψ) G1 G1' := by
  obtain ⟨c1, c2, c3, c4, -⟩ := hI c lc
  obtain ⟨u1, u2, u3, u4, -⟩ := hI u lu
  have hc5 : G.1 c < 5 := by rcases hc with e | e | e <;> omega
  have via : ∀ v0 k0, lv n G v0 → k0 < nP (G.1 v0) → ¬ (v0 = c ∧ k0 = 0) → ¬ (v0 = u ∧ k0 = 0) → ∀ x k x' : Nat, (G1.2.2.1 x k, G1.2.2.2 x k) = stn c u o lk (G.2.2.1 v0 k0, G.2.2.2 v0 k0) → (G1'.2.2.1 x' k, G1'.2.2.2 x' k) = stn (φ c) (φ u) o' lk' (G'.2.2.1 (φ v0) k0, G'.2.2.2 (φ v0) k0) → (G1.1 (G1.2.2.1 x k) = 5 → G1'.1 (G1'.2.2.1 x' k) = 5) ∧ (G1.1 (G1.2.2.1 x k) ≠ 5 → G1'.2.2.1 x' k = phP G c u o lk o' lk' φ (G1.2.2.1 x k) ∧ G1'.2.2.2 x' k = G1.2.2.2 x k) := by
    intro v0 k0 l0 hk0 n1 n2 x k x' e1 e2
    obtain ⟨g1, g2, g3, g4, -⟩ := hG.1 v0 k0 l0.1 hk0
    obtain ⟨i1, -, i3, -⟩ := hI v0 l0
    obtain ⟨g1', -⟩ := hG'.1 (φ v0) k0 i1.1 (by rw [i3]; exact hk0)
    have hz : G.2.2.1 v0 k0 = c ∨ G.2.2.1 v0 k0 = u → G.2.2.2 v0 k0 ≠ 0 := by
      intro h h0
      rw [h0] at g3 g4
      rcases h with h | h
      · rw [h] at g3 g4
        exact n2 ⟨g3.symm.trans hcu.1, g4.symm.trans hcu.2.1⟩
      · rw [h] at g3 g4
        exact n1 ⟨g3.symm.trans hcu.2.2.1, g4.symm.trans hcu.2.2.2⟩
    obtain ⟨s1, s2⟩ := prl_s hG hG' hI hc lc lu hu hX hX' _ _ (prl_w hG hI l0 hk0) (fun _ => ⟨g1, g1'⟩) hz
    rw [← e1, ← e2] at s1 s2
    exact ⟨s1, fun h => ⟨congrArg Prod.fst (s2 h), congrArg Prod.snd (s2 h)⟩⟩
  intro v hv1
  rcases hX.2.2.2.2.2.2.2.2 v hv1 with ⟨hv, vc, vu⟩ | ⟨a, ha, e⟩ | ⟨k0, h0, hk0, e⟩
  · obtain ⟨i1, i2, i3, i4, -⟩ := hI v hv
    obtain ⟨j1, j2, j3⟩ := hX.1.1 v hv.1 vc vu (lv_p hv)
    have vc' : φ v ≠ φ c := fun e => vc (hI.inj hv lc e)
    have vu' : φ v ≠ φ u := fun e => vu (hI.inj hv lu e)
    obtain ⟨j1', j2', j3'⟩ := hX'.1.1 (φ v) i1.1 vc' vu' (lv_p i1)
    rw [phP_v hX (lv_7 hv), phP_v hX' (lv_7 i1)]
    refine ⟨⟨i1.1, by rw [j1', i3]; exact hv.2⟩, i2, by rw [j1', i3, j1], fun h5 => by rw [j2', j2]; exact i4 (by rw [← j1]; exact h5), fun k hk => ?_⟩
    rw [j1] at hk
    exact via v k hv hk (fun q => vc q.1) (fun q => vu q.1) v k (φ v) (j3 k hk) (j3' k (by rw [i3]; exact hk))
  · subst e
    obtain ⟨j1, j2, j3, j4⟩ := hX.1.2.1 a ha
    have ha' : auxC (G'.1 (φ c)) a := by rw [c3]; exact ha
    obtain ⟨j1', j2', j3', j4'⟩ := hX'.1.2.1 a ha'
    rw [phP_o hX ha, phP_o hX' ha']
    refine ⟨⟨(hX'.2.1 a ha').1, by rw [j1', u3]; exact Or.inl hu⟩, rfl, by rw [j1', u3, j1], fun _ => by rw [j2', j2, c3, u4 hu], fun k hk => ?_⟩
    rw [j1] at hk
    by_cases k0 : k = 0
    · subst k0
      exact via c a lc (auxC_lt hc ha).1 (fun q => (auxC_lt hc ha).2 q.2) (fun q => (auxC_lt hc ha).2 q.2) (o a) 0 (o' a) j3 j3'
    · have kp := Nat.pos_of_ne_zero k0
      obtain ⟨m1, m2⟩ := j4 k kp hk
      obtain ⟨m1', m2'⟩ := j4' k kp (by rw [u3]; exact hk)
      rw [m1, m2, m1', m2', phP_l hX kp hk]
      refine ⟨fun h => ?_, fun _ => ⟨rfl, rfl⟩⟩
      rw [(hX.1.2.2 k kp hk).1] at h
      omega
  · subst e
    obtain ⟨j1, j2, j3, j4⟩ := hX.1.2.2 k0 h0 hk0
    have hk0' : k0 < nP (G'.1 (φ u)) := by rw [u3]; exact hk0
    obtain ⟨j1', j2', j3', j4'⟩ := hX'.1.2.2 k0 h0 hk0'
    rw [phP_l hX h0 hk0, phP_l hX' h0 hk0']
    refine ⟨⟨(hX'.2.2.1 k0 h0 hk0').1, by rw [j1', c3]; exact Or.inl hc5⟩, rfl, by rw [j1', c3, j1], fun _ => by rw [j2', j2, c4 hc5], fun k hk => ?_⟩
    rw [j1] at hk
    by_cases kz : k = 0
    · subst kz
      exact via u k0 lu hk0 (fun q => by omega) (fun q => by omega) (lk k0) 0 (lk' k0) j3 j3'
    · have ha := aux_of hc kz hk
      obtain ⟨m1, m2⟩ := j4 k ha
      obtain ⟨m1', m2'⟩ := j4' k (by rw [c3]; exact ha)
      rw [m1, m2, m1', m2', phP_o hX ha]
      refine ⟨fun h => ?_, fun _ => ⟨rfl, rfl⟩⟩
      rw [(hX.1.2.1 k ha).1] at h
      omega
theorem Iso_pass {n n' : Nat} {φ ψ : Nat → Nat} {G G' G1 G1' : Gr} {c u : Nat} {o lk o' lk' : Nat → Nat} (hG : GVr n G) (hG' : GVr n' G') (hI : Iso n n' φ ψ G G') (hcu : G.2.2.1 c 0 = u ∧ G.2.2.2 c 0 = 0 ∧ G.2.2.1 u 0 = c ∧ G.2.2.2 u 0 = 0) (hc : isC (G.1 c)) (lc : lv n G c) (lu : lv n G u) (hu : G.1 u < 5) (hX : PX n G c u o lk G1) (hX' : PX n' G' (φ c) (φ u) o' lk' G1') : ∃ φ1 ψ1, Iso n n' φ1 ψ1 G1 G1' := by
  obtain ⟨c1, c2, c3, c4, c5⟩ := hI.1 c lc
  obtain ⟨u1, u2, u3, u4, u5⟩ := hI.1 u lu
  have hc5 : G.1 c < 5 := by rcases hc with e | e | e <;> omega
  have z0 : G.1 0 = 6 := hG.2.1
  have z0' : G'.1 0 = 6 := hG'.2.1
  have hcu' : G'.2.2.1 (φ c) 0 = φ u ∧ G'.2.2.2 (φ c) 0 = 0 ∧ G'.2.2.1 (φ u) 0 = φ c ∧ G'.2.2.2 (φ u) 0 = 0 := by
    obtain ⟨a1, a2⟩ := (c5 0 (lv_p lc)).2 (by rw [hcu.1]; exact lv_5 lu)
    obtain ⟨b1, b2⟩ := (u5 0 (lv_p lu)).2 (by rw [hcu.2.2.1]; exact lv_5 lc)
    rw [hcu.1] at a1
    rw [hcu.2.1] at a2
    rw [hcu.2.2.1] at b1
    rw [hcu.2.2.2] at b2
    exact ⟨a1, a2, b1, b2⟩
  refine ⟨phP G c u o lk o' lk' φ, phP G' (φ c) (φ u) o' lk' o lk ψ, IsoH_pass hG hG' hI.1 hI.2.1 hcu hc lc lu hu hX hX', ?_, ?_, ?_⟩
  · have h := IsoH_pass (φ := ψ) (ψ := φ) (c := φ c) (u := φ u) (o := o') (lk := lk') (o' := o) (lk' := lk) (G1 := G1') (G1' := G1) hG' hG hI.2.1 hI.1 hcu' (by rw [c3]; exact hc) c1 u1 (by rw [u3]; exact hu) hX' (by rw [c2, u2]; exact hX)
    rw [c2, u2] at h
    exact h
  · rw [phP_v hX (by rw [z0]; decide)]
    exact hI.2.2.1
  · rw [phP_v hX' (by rw [z0']; decide)]
    exact hI.2.2.2
theorem ES_iso {n n' : Nat} {φ ψ : Nat → Nat} {G G' : Gr} (hG : GVr n G) (hI : Iso n n' φ ψ G G') {v : Nat} (hv : lv n G v) (h : ES n G v) : ES n' G' (φ v) := by
  have key : EC n G (fun v => lv n G v ∧ ES n' G' (φ v)) := by
    intro w hw hk hf
    have lw : lv n G w := ⟨hw, Or.inl hk⟩
    obtain ⟨i1, i2, i3, -, i5⟩ := hI.1 w lw
    have tr : ∀ k, k < nP (G.1 w) → ern G (fun v => lv n G v ∧ ES n' G' (φ v)) w k → ern G' (ES n' G') (φ w) k := by
      intro k hk e
      obtain ⟨w1, w2⟩ := i5 k hk
      rcases e with e | ⟨e1, e2⟩
      · exact Or.inl (w1 e)
      · exact Or.inr (by rw [(w2 (lv_5 e1)).1]; exact e2)
    refine ⟨lw, ES_cl _ i1.1 (by rw [i3]; exact hk) ?_⟩
    unfold frb
    rw [i3]
    rcases hf with f | ⟨f1, f2⟩ | ⟨f1, f2, f3⟩
    · exact Or.inl (tr 0 (lv_p lw) f)
    · refine Or.inr (Or.inl ⟨f1, tr 1 ?_ f2⟩)
      rcases f1 with e | e | e <;> rw [e] <;> decide
    · exact Or.inr (Or.inr ⟨f1, tr 1 (by rw [f1]; decide) f2, tr 2 (by rw [f1]; decide) f3⟩)
  exact (h.2.2 _ key).2
theorem IsoH_erase {n n' : Nat} {φ ψ : Nat → Nat} {G G' G1 G1' : Gr} (hG : GVr n G) (hG' : GVr n' G') (hI : Iso n n' φ ψ G G') (hE : ESp n G G1) (hE' : ESp n' G' G1') (hV : GV n G1.1 G1.2.2.1 G1.2.2.2) : IsoH n n' φ ψ G1 G1' := by
  have nes : ∀ v, lv n G v → ¬ ES n G v → ¬ ES n' G' (φ v) := fun v hv h h' => h (by
    have := ES_iso hG' hI.symm (hI.1 v hv).1 h'
    rw [(hI.1 v hv).2.1] at this
    exact this)
  intro v hv1
  have s := hE.2.1 v hv1.1 hv1.2
  have hv : lv n G v := ⟨s.1, s.2.1⟩
  obtain ⟨i1, i2, i3, i4, i5⟩ := hI.1 v hv
  obtain ⟨j1, j2, j3⟩ := hE.1 v s
  obtain ⟨j1', j2', j3'⟩ := hE'.1 (φ v) ⟨i1.1, i1.2, nes v hv s.2.2⟩
  refine ⟨⟨i1.1, by rw [j1', i3]; exact hv.2⟩, i2, by rw [j1', i3, j1], fun h5 => by rw [j2', j2]; exact i4 (by rw [← j1]; exact h5), fun k hk => ?_⟩
  have hk1 := hk
  rw [j1] at hk
  obtain ⟨a1, a2⟩ := j3 k hk
  obtain ⟨b1, b2⟩ := j3' k (by rw [i3]; exact hk)
  obtain ⟨w1, w2⟩ := i5 k hk
  by_cases z : ern G (ES n G) v k
  · have z' : ern G' (ES n' G') (φ v) k := by
      by_cases h5 : G.1 (G.2.2.1 v k) = 5
      · exact Or.inl (w1 h5)
      · rcases z with e | e
        · exact absurd e h5
        · exact Or.inr (by rw [(w2 h5).1]; exact ES_iso hG hI (hG.lv hv.1 hk h5) e)
    exact ⟨fun _ => b1 z', fun h => absurd (a1 z) h⟩
  · obtain ⟨e1, e2⟩ := a2 z
    have h5 : G.1 (G.2.2.1 v k) ≠ 5 := fun e => z (Or.inl e)
    have lw := hG.lv hv.1 hk h5
    have nz' : ¬ ern G' (ES n' G') (φ v) k := by
      obtain ⟨f1, f2⟩ := w2 h5
      rintro (e | e)
      · rw [f1, (hI.1 _ lw).2.2.1] at e
        exact h5 e
      · rw [f1] at e
        exact nes _ lw (fun q => z (Or.inr q)) e
    obtain ⟨e1', e2'⟩ := b2 nz'
    obtain ⟨f1, f2⟩ := w2 h5
    rw [e1, e2, e1', e2']
    refine ⟨fun h => ?_, fun _ => ⟨f1, f2⟩⟩
    have := (hE.1 _ ⟨lw.1, lw.2, fun q => z (Or.inr q)⟩).1
    exact absurd (this.symm.trans h) h5
theorem Iso_erase {n n' : Nat} {φ ψ : Nat → Nat} {G G' G1 G1' : Gr} (hG : GVr n G) (hG' : GVr n' G') (hI : Iso n n' φ ψ G G') (hE : ESp n G G1) (hE' : ESp n' G' G1') (hV : GV n G1.1 G1.2.2.1 G1.2.2.2) (hV' : GV n' G1'.1 G1'.2.2.1 G1'.2.2.2) : Iso n n' φ ψ G1 G1' :=
  ⟨IsoH_erase hG hG' hI hE hE' hV, IsoH_erase hG' hG hI.symm hE' hE hV', hI.2.2.1, hI.2.2.2⟩
