/-! erasing as it goes: one fires, and another, until nothing can -/
/-- each that could fire has an eraser that waits -/
def Cov (n : Nat) (G : Gr) (R : Nat → Prop) : Prop :=
  (∀ v, v < n → G.1 v < 5 → G.1 (G.2.2.1 v 0) = 5 → R (G.2.2.1 v 0)) ∧
  (∀ v, v < n → G.1 v = 1 ∨ G.1 v = 3 ∨ G.1 v = 4 → G.1 (G.2.2.1 v 1) = 5 → R (G.2.2.1 v 1)) ∧
  (∀ v, v < n → G.1 v = 2 → G.1 (G.2.2.1 v 1) = 5 → G.1 (G.2.2.1 v 2) = 5 → R (G.2.2.1 v 1) ∨ R (G.2.2.1 v 2)) ∧
  (∀ v, v < n → G.1 v = 5 → G.1 (G.2.2.1 v 0) = 5 → R v ∨ R (G.2.2.1 v 0))
/-- in the middle of erasing: F have gone -/
def EI (n : Nat) (G0 G : Gr) (R : Nat → Prop) : Prop := ∃ F : Nat → Prop, (∀ v, F v → ES n G0 v) ∧
  (∀ v, lv n G0 v → ¬ F v → G.1 v = G0.1 v ∧ G.2.1 v = G0.2.1 v ∧ ∀ k, k < nP (G0.1 v) → (ern G0 F v k → G.1 (G.2.2.1 v k) = 5) ∧ (¬ ern G0 F v k → G.2.2.1 v k = G0.2.2.1 v k ∧ G.2.2.2 v k = G0.2.2.2 v k)) ∧
  (∀ v, lv n G v → lv n G0 v ∧ ¬ F v) ∧ GVr n G ∧ Cov n G R
theorem EI_start {n : Nat} {G : Gr} {R : Nat → Prop} (hG : GVr n G) (hC : Cov n G R) : EI n G G R :=
  ⟨fun _ => False, fun _ h => h.elim, fun v hv _ => ⟨rfl, rfl, fun k hk => ⟨fun e => e.elim id False.elim, fun _ => ⟨rfl, rfl⟩⟩⟩, fun v hv => ⟨hv, id⟩, hG, hC⟩
theorem EI_end {n : Nat} {G0 G : Gr} {R : Nat → Prop} (hG0 : GVr n G0) (h : EI n G0 G R) (hR : ∀ v, ¬ R v) : ESp n G0 G ∧ GVr n G ∧ NE n G ∧ Cov n G (fun _ => False) := by
  obtain ⟨F, f1, f2, f3, f4, c1, c2, c3, c4⟩ := h
  have cl : EC n G0 F := by
    intro v hv hk hf
    refine Classical.byContradiction fun nf => ?_
    obtain ⟨e1, -, e3⟩ := f2 v ⟨hv, Or.inl hk⟩ nf
    rcases hf with f | ⟨g1, g2⟩ | ⟨g1, g2, g3⟩
    · exact hR _ (c1 v hv (by rw [e1]; exact hk) ((e3 0 (lv_p ⟨hv, Or.inl hk⟩)).1 f))
    · refine hR _ (c2 v hv (by rw [e1]; exact g1) ((e3 1 ?_).1 g2))
      rcases g1 with e | e | e <;> rw [e] <;> decide
    · rcases c3 v hv (by rw [e1]; exact g1) ((e3 1 (by rw [g1]; decide)).1 g2) ((e3 2 (by rw [g1]; decide)).1 g3) with q | q
      · exact hR _ q
      · exact hR _ q
  have FE : ∀ v, F v ↔ ES n G0 v := fun v => ⟨f1 v, fun h => h.2.2 F cl⟩
  have eF : F = ES n G0 := funext fun v => propext (FE v)
  subst eF
  refine ⟨⟨fun v hv => f2 v ⟨hv.1, hv.2.1⟩ hv.2.2, fun v hv hk => ?_, fun v hv h5 h5' => ?_⟩, f4, fun v hv h5 h5' => ?_, fun v a b c => hR _ (c1 v a b c), fun v a b c => hR _ (c2 v a b c), fun v a b c d => (c3 v a b c d).imp (hR _) (hR _), fun v a b c => (c4 v a b c).imp (hR _) (hR _)⟩
  · obtain ⟨a, b⟩ := f3 v ⟨hv, hk⟩
    exact ⟨a.1, a.2, b⟩
  · rcases c4 v hv h5 h5' with q | q
    · exact hR _ q
    · exact hR _ q
  · rcases c4 v hv h5 h5' with q | q
    · exact hR _ q
    · exact hR _ q
/-- in G there is an eraser at port k of v only if so in F's sense -/
theorem EI_ern {n : Nat} {G0 G : Gr} {F : Nat → Prop} (hG0 : GVr n G0) (f2 : ∀ v, lv n G0 v → ¬ F v → G.1 v = G0.1 v ∧ G.2.1 v = G0.2.1 v ∧ ∀ k, k < nP (G0.1 v) → (ern G0 F v k → G.1 (G.2.2.1 v k) = 5) ∧ (¬ ern G0 F v k → G.2.2.1 v k = G0.2.2.1 v k ∧ G.2.2.2 v k = G0.2.2.2 v k)) {v k : Nat} (hv : lv n G0 v) (nf : ¬ F v) (hk : k < nP (G0.1 v)) : G.1 (G.2.2.1 v k) = 5 ↔ ern G0 F v k := by
  refine ⟨fun h => Classical.byContradiction fun ne => ?_, ((f2 v hv nf).2.2 k hk).1⟩
  have e := (((f2 v hv nf).2.2 k hk).2 ne).1
  have h5 : G0.1 (G0.2.2.1 v k) ≠ 5 := fun q => ne (Or.inl q)
  have := (f2 _ (hG0.lv hv.1 hk h5) (fun q => ne (Or.inr q))).1
  rw [e, this] at h
  exact h5 h
/-- v has fired; Z: the erasers that went with it -/
def FD (n : Nat) (G : Gr) (v : Nat) (Z : Nat → Prop) (G' : Gr) (R' : Nat → Prop) : Prop :=
  (∀ z, Z z → G.1 z = 5 ∧ G.2.2.1 z 0 = v) ∧
  (∀ u, u < n → u ≠ v → ¬ Z u → G.1 u < 7 → G'.1 u = G.1 u ∧ G'.2.1 u = G.2.1 u ∧ ∀ k, k < nP (G.1 u) → (G.2.2.1 u k ≠ v → G'.2.2.1 u k = G.2.2.1 u k ∧ G'.2.2.2 u k = G.2.2.2 u k) ∧ (G.2.2.1 u k = v → G'.2.2.1 u k < n ∧ G'.1 (G'.2.2.1 u k) = 5 ∧ G'.2.2.2 u k = 0 ∧ G'.2.2.1 (G'.2.2.1 u k) 0 = u ∧ G'.2.2.2 (G'.2.2.1 u k) 0 = k ∧ G'.2.2.1 u k ≠ u ∧ R' (G'.2.2.1 u k) ∧ (G.1 u = 5 → R' u))) ∧
  (∀ u, u < n → G'.1 u < 7 → (G.1 u < 7 ∧ u ≠ v ∧ ¬ Z u) ∨ (G'.1 u = 5 ∧ G'.2.2.1 u 0 < n ∧ G'.2.2.1 u 0 ≠ v ∧ ¬ Z (G'.2.2.1 u 0) ∧ G.1 (G'.2.2.1 u 0) < 7 ∧ G'.2.2.2 u 0 < nP (G.1 (G'.2.2.1 u 0)) ∧ G.2.2.1 (G'.2.2.1 u 0) (G'.2.2.2 u 0) = v ∧ G'.2.2.1 (G'.2.2.1 u 0) (G'.2.2.2 u 0) = u))
theorem nP_5 : nP 5 = 1 := rfl
theorem FD.gv {n : Nat} {G G' : Gr} {v : Nat} {Z R' : Nat → Prop} (hG : GVr n G) (h6 : G.1 v ≠ 6) (h : FD n G v Z G' R') : GVr n G' := by
  obtain ⟨hz, ha, hb⟩ := h
  have z0 : (0 : Nat) ≠ v := fun e => h6 (by rw [← e]; exact hG.2.1)
  have zz : ¬ Z 0 := fun q => by have := (hz 0 q).1; rw [hG.2.1] at this; omega
  have old : ∀ u, u < n → u ≠ v → ¬ Z u → G.1 u < 7 → ∀ k, k < nP (G.1 u) → G'.2.2.1 u k < n ∧ G'.2.2.2 u k < nP (G'.1 (G'.2.2.1 u k)) ∧ G'.2.2.1 (G'.2.2.1 u k) (G'.2.2.2 u k) = u ∧ G'.2.2.2 (G'.2.2.1 u k) (G'.2.2.2 u k) = k ∧ ¬ (G'.2.2.1 u k = u ∧ G'.2.2.2 u k = k) := by
    intro u hu uv uz u7 k hk
    obtain ⟨-, -, a3⟩ := ha u hu uv uz u7
    obtain ⟨a4, a5⟩ := a3 k hk
    by_cases c : G.2.2.1 u k = v
    · obtain ⟨b1, b2, b3, b4, b5, b6, -⟩ := a5 c
      rw [b3]
      exact ⟨b1, by rw [b2]; decide, b4, b5, fun q => b6 q.1⟩
    · obtain ⟨e1, e2⟩ := a4 c
      obtain ⟨g1, g2, g3, g4, g5⟩ := hG.1 u k hu hk
      have w7 := nP_7 (Nat.lt_of_le_of_lt (Nat.zero_le _) g2)
      have wz : ¬ Z (G.2.2.1 u k) := fun q => by
        obtain ⟨q1, q2⟩ := hz _ q
        rw [q1] at g2
        have q0 : G.2.2.2 u k = 0 := by have : G.2.2.2 u k < 1 := g2; omega
        rw [q0] at g3
        exact uv (g3.symm.trans q2)
      obtain ⟨f1, -, f3⟩ := ha _ g1 c wz w7
      obtain ⟨f4, f5⟩ := (f3 _ g2).1 (by rw [g3]; exact uv)
      rw [e1, e2, f1, f4, f5]
      exact ⟨g1, g2, g3, g4, g5⟩
  refine ⟨fun u k hu hk => ?_, ?_, hG.2.2⟩
  · have u7 := nP_7 (Nat.lt_of_le_of_lt (Nat.zero_le _) hk)
    rcases hb u hu u7 with ⟨b1, b2, b3⟩ | ⟨b1, b2, b3, b4, b5, b6, b7, b8⟩
    · rw [(ha u hu b2 b3 b1).1] at hk
      exact old u hu b2 b3 b1 k hk
    · rw [b1] at hk
      have k0 : k = 0 := by have : k < 1 := hk; omega
      subst k0
      obtain ⟨a1, -, a3⟩ := ha _ b2 b3 b4 b5
      obtain ⟨c1, c2, c3, c4, c5, c6, -⟩ := (a3 _ b6).2 b7
      rw [b8] at c6
      exact ⟨b2, by rw [a1]; exact b6, b8, c3, fun q => c6 q.1.symm⟩
  · rw [(ha 0 hG.2.2 z0 zz (by rw [hG.2.1]; decide)).1]
    exact hG.2.1
theorem EI_fire {n : Nat} {G0 G G' : Gr} {R R' Z : Nat → Prop} {v e : Nat} (hG0 : GVr n G0) (h : EI n G0 G R) (hv : v < n) (hk : G.1 v < 5) (hf : frb G (fun _ => False) v) (he : G.2.2.1 e 0 = v) (hD : FD n G v Z G' R') (hR : ∀ x, R x → x ≠ e → R' x) : EI n G0 G' R' := by
  obtain ⟨F, f1, f2, f3, f4, c1, c2, c3, c4⟩ := h
  have hV := hD.gv f4 (by omega)
  obtain ⟨hz, ha, hb⟩ := hD
  have lvv : lv n G v := ⟨hv, Or.inl hk⟩
  obtain ⟨v0, vF⟩ := f3 v lvv
  -- of those that are no erasers
  have s0 : ∀ u, lv n G u → ¬ Z u := fun u hu q => lv_5 hu (hz u q).1
  have u7 : ∀ u, lv n G u → G.1 u < 7 := fun u hu => by rcases hu.2 with q | q <;> omega
  have zw : ∀ u k, u < n → k < nP (G.1 u) → u ≠ v → ¬ Z (G.2.2.1 u k) := fun u k hu hk uv q => by
    obtain ⟨q1, q2⟩ := hz _ q
    obtain ⟨-, g2, g3, -, -⟩ := f4.1 u k hu hk
    rw [q1] at g2
    have q0 : G.2.2.2 u k = 0 := by have : G.2.2.2 u k < 1 := g2; omega
    rw [q0] at g3
    exact uv (g3.symm.trans q2)
  have s1 : ∀ u, lv n G u → u ≠ v → G'.1 u = G.1 u ∧ G'.2.1 u = G.2.1 u ∧ ∀ k, k < nP (G.1 u) → (G.1 (G.2.2.1 u k) = 5 ∨ G.2.2.1 u k = v → G'.1 (G'.2.2.1 u k) = 5) ∧ (G.1 (G.2.2.1 u k) ≠ 5 → G.2.2.1 u k ≠ v → G'.2.2.1 u k = G.2.2.1 u k ∧ G'.2.2.2 u k = G.2.2.2 u k) := by
    intro u hu uv
    obtain ⟨a1, a2, a3⟩ := ha u hu.1 uv (s0 u hu) (u7 u hu)
    refine ⟨a1, a2, fun k hk => ⟨fun q => ?_, fun _ q => (a3 k hk).1 q⟩⟩
    by_cases c : G.2.2.1 u k = v
    · exact ((a3 k hk).2 c).2.1
    · have q5 : G.1 (G.2.2.1 u k) = 5 := q.resolve_right c
      rw [((a3 k hk).1 c).1, (ha _ (f4.1 u k hu.1 hk).1 c (zw u k hu.1 hk uv) (by omega)).1]
      exact q5
  have s2 : ∀ u, lv n G' u → lv n G u ∧ u ≠ v := by
    intro u hu
    rcases hb u hu.1 (by rcases hu.2 with q | q <;> omega) with ⟨b1, b2, b3⟩ | ⟨b1, -⟩
    · have := (ha u hu.1 b2 b3 b1).1
      exact ⟨⟨hu.1, by rw [← this]; exact hu.2⟩, b2⟩
    · exact absurd b1 (lv_5 hu)
  -- an eraser at a port of an old one
  have cov : ∀ u k, u < n → G'.1 u < 5 → k < nP (G'.1 u) → G'.1 (G'.2.2.1 u k) = 5 → R' (G'.2.2.1 u k) ∨ (G.1 u = G'.1 u ∧ u ≠ v ∧ G'.2.2.1 u k = G.2.2.1 u k ∧ G.1 (G.2.2.1 u k) = 5 ∧ G.2.2.1 u k ≠ e) := by
    intro u k hu hk5 hk h5
    obtain ⟨lu, uv⟩ := s2 u ⟨hu, Or.inl hk5⟩
    obtain ⟨a1, a2, a3⟩ := ha u hu uv (s0 u lu) (u7 u lu)
    rw [a1] at hk
    by_cases c : G.2.2.1 u k = v
    · exact Or.inl ((a3 k hk).2 c).2.2.2.2.2.2.1
    · have e1 := ((a3 k hk).1 c).1
      obtain ⟨g1, g2, g3, -, -⟩ := f4.1 u k hu hk
      have w7 := nP_7 (Nat.lt_of_le_of_lt (Nat.zero_le _) g2)
      have ke := (ha _ g1 c (zw u k hu hk uv) w7).1
      rw [e1, ke] at h5
      refine Or.inr ⟨a1.symm, uv, e1, h5, fun q => ?_⟩
      rw [h5] at g2
      have q0 : G.2.2.2 u k = 0 := by have : G.2.2.2 u k < 1 := g2; omega
      rw [q0, q, he] at g3
      exact uv g3.symm
  refine ⟨fun u => F u ∨ u = v, fun u hu => ?_, fun u hu nu => ?_, fun u hu => ?_, hV, fun u hu h5 q => ?_, fun u hu h5 q => ?_, fun u hu h5 q1 q2 => ?_, fun u hu h5 q => ?_⟩
  · rcases hu with q | q
    · exact f1 u q
    · subst q
      obtain ⟨k1, -, -⟩ := f2 u v0 vF
      refine ES_cl u hv (by rw [← k1]; exact hk) ?_
      have tr : ∀ k, k < nP (G0.1 u) → ern G (fun _ => False) u k → ern G0 (ES n G0) u k := fun k hk q => ((EI_ern hG0 f2 v0 vF hk).mp (q.elim id False.elim)).mono f1
      unfold frb at hf ⊢
      rw [k1] at hf
      rcases hf with f | ⟨g1, g2⟩ | ⟨g1, g2, g3⟩
      · exact Or.inl (tr 0 (lv_p v0) f)
      · refine Or.inr (Or.inl ⟨g1, tr 1 ?_ g2⟩)
        rcases g1 with e | e | e <;> rw [e] <;> decide
      · exact Or.inr (Or.inr ⟨g1, tr 1 (by rw [g1]; decide) g2, tr 2 (by rw [g1]; decide) g3⟩)
  · have nF : ¬ F u := fun q => nu (Or.inl q)
    have uv : u ≠ v := fun q => nu (Or.inr q)
    obtain ⟨k1, k2, k3⟩ := f2 u hu nF
    have lu : lv n G u := ⟨hu.1, by rw [k1]; exact hu.2⟩
    obtain ⟨a1, a2, a3⟩ := s1 u lu uv
    refine ⟨a1.trans k1, a2.trans k2, fun k hk => ⟨fun q => ?_, fun q => ?_⟩⟩
    · refine (a3 k (by rw [k1]; exact hk)).1 ?_
      by_cases c : ern G0 F u k
      · exact Or.inl ((k3 k hk).1 c)
      · right
        rw [((k3 k hk).2 c).1]
        rcases q with q | q | q
        · exact absurd (Or.inl q) c
        · exact absurd (Or.inr q) c
        · exact q
    · have c : ¬ ern G0 F u k := fun c => q (c.mono (fun _ => Or.inl))
      obtain ⟨e1, e2⟩ := (k3 k hk).2 c
      have n5 : G.1 (G.2.2.1 u k) ≠ 5 := fun q5 => c ((EI_ern hG0 f2 hu nF hk).mp q5)
      obtain ⟨w1, w2⟩ := (a3 k (by rw [k1]; exact hk)).2 n5 (fun q2 => q (Or.inr (Or.inr (e1.symm.trans q2))))
      exact ⟨w1.trans e1, w2.trans e2⟩
  · obtain ⟨lu, uv⟩ := s2 u hu
    obtain ⟨b1, b2⟩ := f3 u lu
    exact ⟨b1, fun q => q.elim b2 uv⟩
  · rcases cov u 0 hu h5 (lv_p (G := G') ⟨hu, Or.inl h5⟩) q with r | ⟨r1, r2, r3, r4, r5⟩
    · exact r
    · rw [r3]
      exact hR _ (c1 u hu (by omega) r4) r5
  · rcases cov u 1 hu (by omega) (by rcases h5 with e | e | e <;> rw [e] <;> decide) q with r | ⟨r1, r2, r3, r4, r5⟩
    · exact r
    · rw [r3]
      exact hR _ (c2 u hu (by omega) r4) r5
  · rcases cov u 1 hu (by omega) (by rw [h5]; decide) q1 with r | ⟨r1, r2, r3, r4, r5⟩
    · exact Or.inl r
    · rcases cov u 2 hu (by omega) (by rw [h5]; decide) q2 with t | ⟨t1, t2, t3, t4, t5⟩
      · exact Or.inr t
      · rw [r3, t3]
        rcases c3 u hu (by omega) r4 t4 with w | w
        · exact Or.inl (hR _ w r5)
        · exact Or.inr (hR _ w t5)
  · rcases hb u hu (by omega) with ⟨b1, b2, b3⟩ | ⟨b1, b2, b3, b4, b5, b6, b7, b8⟩
    · obtain ⟨a1, -, a3⟩ := ha u hu b2 b3 b1
      have k5 : G.1 u = 5 := a1.symm.trans h5
      have hp : 0 < nP (G.1 u) := by rw [k5]; decide
      by_cases c : G.2.2.1 u 0 = v
      · exact Or.inl (((a3 0 hp).2 c).2.2.2.2.2.2.2 k5)
      · have e1 := ((a3 0 hp).1 c).1
        obtain ⟨g1, g2, g3, -, -⟩ := f4.1 u 0 hu hp
        have w7 := nP_7 (Nat.lt_of_le_of_lt (Nat.zero_le _) g2)
        have ke := (ha _ g1 c (zw u 0 hu hp b2) w7).1
        rw [e1, ke] at q
        rw [e1]
        have ue : u ≠ e := fun x => c (by rw [x]; exact he)
        have we : G.2.2.1 u 0 ≠ e := fun x => by
          rw [q] at g2
          have q0 : G.2.2.2 u 0 = 0 := by have : G.2.2.2 u 0 < 1 := g2; omega
          rw [q0, x, he] at g3
          exact b2 g3.symm
        rcases c4 u hu k5 q with r | r
        · exact Or.inl (hR _ r ue)
        · exact Or.inr (hR _ r we)
    · obtain ⟨-, -, a3⟩ := ha _ b2 b3 b4 b5
      have := ((a3 _ b6).2 b7).2.2.2.2.2.2.1
      rw [b8] at this
      exact Or.inl this
/-- two erasers go -/
theorem EI_pair {n : Nat} {G0 G G' : Gr} {R R' : Nat → Prop} {e v : Nat} (h : EI n G0 G R) (he : e < n) (h5 : G.1 e = 5) (hw : G.2.2.1 e 0 = v) (hv : G.1 v = 5) (hK : ∀ u, u < n → G'.1 u = if u = e ∨ u = v then 7 else G.1 u) (hX : ∀ u, u < n → G'.2.1 u = G.2.1 u) (hW : ∀ u k, u < n → k < 3 → G'.2.2.1 u k = G.2.2.1 u k ∧ G'.2.2.2 u k = G.2.2.2 u k) (hR : ∀ x, R x → x ≠ e → R' x) : EI n G0 G' R' := by
  obtain ⟨F, f1, f2, f3, f4, c1, c2, c3, c4⟩ := h
  obtain ⟨g1, g2, g3, g4, g5⟩ := f4.1 e 0 he (by rw [h5]; decide)
  rw [hw] at g1 g2 g3 g4 g5
  rw [hv] at g2
  have q0 : G.2.2.2 e 0 = 0 := by have : G.2.2.2 e 0 < 1 := g2; omega
  rw [q0] at g3 g4 g5
  have keep : ∀ u, u < n → u ≠ e → u ≠ v → G'.1 u = G.1 u := fun u hu n1 n2 => by rw [hK u hu, if_neg (fun q => q.elim n1 n2)]
  have lne : ∀ u, u < n → G.1 u ≠ 5 → u ≠ e ∧ u ≠ v := fun u _ h => ⟨fun q => h (by rw [q]; exact h5), fun q => h (by rw [q]; exact hv)⟩
  have W : ∀ u k, u < n → k < nP (G.1 u) → G'.2.2.1 u k = G.2.2.1 u k ∧ G'.2.2.2 u k = G.2.2.2 u k := fun u k hu hk => hW u k hu (Nat.lt_of_lt_of_le hk (nP_le _))
  have pn : ∀ u k, u < n → k < nP (G.1 u) → u ≠ e → u ≠ v → G.2.2.1 u k ≠ e ∧ G.2.2.1 u k ≠ v := by
    intro u k hu hk n1 n2
    obtain ⟨-, a2, a3, a4, -⟩ := f4.1 u k hu hk
    refine ⟨fun q => ?_, fun q => ?_⟩
    · rw [q, h5] at a2
      have z : G.2.2.2 u k = 0 := by have : G.2.2.2 u k < 1 := a2; omega
      rw [q, z, hw] at a3
      exact n2 a3.symm
    · rw [q, hv] at a2
      have z : G.2.2.2 u k = 0 := by have : G.2.2.2 u k < 1 := a2; omega
      rw [q, z, g3] at a3
      exact n1 a3.symm
  have back : ∀ u, u < n → G'.1 u < 7 → u ≠ e ∧ u ≠ v ∧ G.1 u = G'.1 u := by
    intro u hu h7
    rw [hK u hu] at h7
    by_cases c : u = e ∨ u = v
    · rw [if_pos c] at h7; omega
    · exact ⟨fun q => c (Or.inl q), fun q => c (Or.inr q), (keep u hu (fun q => c (Or.inl q)) (fun q => c (Or.inr q))).symm⟩
  have kw : ∀ u k, u < n → k < nP (G'.1 u) → G'.2.2.1 u k = G.2.2.1 u k ∧ G'.1 (G'.2.2.1 u k) = G.1 (G.2.2.1 u k) ∧ G.1 u = G'.1 u ∧ G.2.2.1 u k ≠ e ∧ u ≠ e := by
    intro u k hu hk
    obtain ⟨n1, n2, k1⟩ := back u hu (nP_7 (Nat.lt_of_le_of_lt (Nat.zero_le _) hk))
    rw [← k1] at hk
    obtain ⟨p1, p2⟩ := pn u k hu hk n1 n2
    have e1 := (W u k hu hk).1
    exact ⟨e1, by rw [e1]; exact keep _ (f4.1 u k hu hk).1 p1 p2, k1, p1, n1⟩
  refine ⟨F, f1, fun u hu nu => ?_, fun u hu => ?_, ⟨fun u k hu hk => ?_, ?_, f4.2.2⟩, fun u hu h5 q => ?_, fun u hu h5 q => ?_, fun u hu h5 q1 q2 => ?_, fun u hu h5 q => ?_⟩
  · obtain ⟨k1, k2, k3⟩ := f2 u hu nu
    have u5 : G.1 u ≠ 5 := by rw [k1]; exact lv_5 hu
    obtain ⟨n1, n2⟩ := lne u hu.1 u5
    refine ⟨(keep u hu.1 n1 n2).trans k1, (hX u hu.1).trans k2, fun k hk => ?_⟩
    have hk' := hk
    rw [← k1] at hk'
    obtain ⟨p1, p2⟩ := pn u k hu.1 hk' n1 n2
    obtain ⟨e1, e2⟩ := W u k hu.1 hk'
    rw [e1, e2, keep _ (f4.1 u k hu.1 hk').1 p1 p2]
    exact k3 k hk
  · obtain ⟨n1, n2, k1⟩ := back u hu.1 (by rcases hu.2 with q | q <;> omega)
    exact f3 u ⟨hu.1, by rw [k1]; exact hu.2⟩
  · obtain ⟨n1, n2, k1⟩ := back u hu (nP_7 (Nat.lt_of_le_of_lt (Nat.zero_le _) hk))
    rw [← k1] at hk
    obtain ⟨p1, p2⟩ := pn u k hu hk n1 n2
    obtain ⟨e1, e2⟩ := W u k hu hk
    obtain ⟨a1, a2, a3, a4, a5⟩ := f4.1 u k hu hk
    obtain ⟨b1, b2⟩ := W _ _ a1 a2
    rw [e1, e2, b1, b2, keep _ a1 p1 p2]
    exact ⟨a1, a2, a3, a4, a5⟩
  · rw [hK 0 f4.2.2, if_neg (fun q => by
      have z6 := f4.2.1
      rcases q with q | q
      · rw [q] at z6; omega
      · rw [q] at z6; omega)]
    exact f4.2.1
  · obtain ⟨w1, w2, w3, w4, -⟩ := kw u 0 hu (lv_p (G := G') ⟨hu, Or.inl h5⟩)
    rw [w2] at q
    rw [w1]
    exact hR _ (c1 u hu (by omega) q) w4
  · obtain ⟨w1, w2, w3, w4, -⟩ := kw u 1 hu (by rcases h5 with e | e | e <;> rw [e] <;> decide)
    rw [w2] at q
    rw [w1]
    exact hR _ (c2 u hu (by omega) q) w4
  · obtain ⟨w1, w2, w3, w4, -⟩ := kw u 1 hu (by rw [h5]; decide)
    obtain ⟨y1, y2, y3, y4, -⟩ := kw u 2 hu (by rw [h5]; decide)
    rw [w2] at q1
    rw [y2] at q2
    rw [w1, y1]
    rcases c3 u hu (by omega) q1 q2 with r | r
    · exact Or.inl (hR _ r w4)
    · exact Or.inr (hR _ r y4)
  · obtain ⟨w1, w2, w3, w4, w5⟩ := kw u 0 hu (by rw [h5]; decide)
    rw [w2] at q
    rw [w1]
    rcases c4 u hu (by omega) q with r | r
    · exact Or.inl (hR _ r w5)
    · exact Or.inr (hR _ r w4)
/-- one that waits can do nothing -/
theorem EI_idle {n : Nat} {G0 G : Gr} {R R' : Nat → Prop} {e : Nat} (h : EI n G0 G R) (hR : ∀ x, R x → x ≠ e → R' x) (hI : G.1 e = 5 → e < n ∧ G.1 (G.2.2.1 e 0) ≠ 5 ∧ ¬ (G.2.2.2 e 0 = 0 ∧ G.1 (G.2.2.1 e 0) < 5) ∧ ¬ (G.2.2.2 e 0 = 1 ∧ (G.1 (G.2.2.1 e 0) = 1 ∨ G.1 (G.2.2.1 e 0) = 3 ∨ G.1 (G.2.2.1 e 0) = 4)) ∧ ¬ (G.1 (G.2.2.1 e 0) = 2 ∧ G.1 (G.2.2.1 (G.2.2.1 e 0) 1) = 5 ∧ G.1 (G.2.2.1 (G.2.2.1 e 0) 2) = 5)) : EI n G0 G R' := by
  obtain ⟨F, f1, f2, f3, f4, c1, c2, c3, c4⟩ := h
  have pt : ∀ u k, u < n → k < nP (G.1 u) → G.2.2.1 u k = e → G.1 e = 5 → G.2.2.1 e 0 = u ∧ G.2.2.2 e 0 = k := by
    intro u k hu hk q h5
    obtain ⟨-, a2, a3, a4, -⟩ := f4.1 u k hu hk
    rw [q, h5] at a2
    have z : G.2.2.2 u k = 0 := by have : G.2.2.2 u k < 1 := a2; omega
    rw [q, z] at a3 a4
    exact ⟨a3, a4⟩
  refine ⟨F, f1, f2, f3, f4, fun u hu h5 q => ?_, fun u hu h5 q => ?_, fun u hu h5 q1 q2 => ?_, fun u hu h5 q => ?_⟩
  · refine hR _ (c1 u hu h5 q) (fun x => ?_)
    rw [x] at q
    obtain ⟨-, -, i3, -, -⟩ := hI q
    obtain ⟨p1, p2⟩ := pt u 0 hu (lv_p (G := G) ⟨hu, Or.inl h5⟩) x q
    rw [p1, p2] at i3
    exact i3 ⟨rfl, h5⟩
  · refine hR _ (c2 u hu h5 q) (fun x => ?_)
    rw [x] at q
    obtain ⟨-, -, -, i4, -⟩ := hI q
    obtain ⟨p1, p2⟩ := pt u 1 hu (by rcases h5 with e | e | e <;> rw [e] <;> decide) x q
    rw [p1, p2] at i4
    exact i4 ⟨rfl, h5⟩
  · have n1 : G.2.2.1 u 1 ≠ e := fun x => by
      rw [x] at q1
      obtain ⟨-, -, -, -, i5⟩ := hI q1
      obtain ⟨p1, p2⟩ := pt u 1 hu (by rw [h5]; decide) x q1
      rw [p1, x] at i5
      exact i5 ⟨h5, q1, q2⟩
    have n2 : G.2.2.1 u 2 ≠ e := fun x => by
      rw [x] at q2
      obtain ⟨-, -, -, -, i5⟩ := hI q2
      obtain ⟨p1, p2⟩ := pt u 2 hu (by rw [h5]; decide) x q2
      rw [p1, x] at i5
      exact i5 ⟨h5, q1, q2⟩
    rcases c3 u hu h5 q1 q2 with r | r
    · exact Or.inl (hR _ r n1)
    · exact Or.inr (hR _ r n2)
  · have n1 : u ≠ e := fun x => by
      rw [x] at h5 q
      exact (hI h5).2.1 q
    have n2 : G.2.2.1 u 0 ≠ e := fun x => by
      rw [x] at q
      obtain ⟨-, i2, -⟩ := hI q
      obtain ⟨p1, p2⟩ := pt u 0 hu (by rw [h5]; decide) x q
      rw [p1] at i2
      exact i2 h5
    rcases c4 u hu h5 q with r | r
    · exact Or.inl (hR _ r n1)
    · exact Or.inr (hR _ r n2)
