/-! the reference: two are joined -/
theorem bnc_sym {G : Gr} {l r : Nat} (h : l ≠ r) : ∀ (f : Nat) (p : Nat × Nat), bnc G l r f p = bnc G r l f p
  | 0, _ => rfl
  | f + 1, p => by
    have e1 : bnc G l r (f + 1) p = if p.1 = l then bnc G l r f (G.2.2.1 r p.2, G.2.2.2 r p.2) else if p.1 = r then bnc G l r f (G.2.2.1 l p.2, G.2.2.2 l p.2) else p := rfl
    have e2 : bnc G r l (f + 1) p = if p.1 = r then bnc G r l f (G.2.2.1 l p.2, G.2.2.2 l p.2) else if p.1 = l then bnc G r l f (G.2.2.1 r p.2, G.2.2.2 r p.2) else p := rfl
    rw [e1, e2]
    by_cases c1 : p.1 = l
    · rw [if_pos c1, if_neg (fun q => h (c1.symm.trans q)), if_pos c1]
      exact bnc_sym h f _
    · rw [if_neg c1, if_neg c1]
      by_cases c2 : p.1 = r
      · rw [if_pos c2, if_pos c2]
        exact bnc_sym h f _
      · rw [if_neg c2, if_neg c2]
theorem JH.symm {n : Nat} {G : Gr} {l r : Nat} (h : JH n G l r) : JH n G r l := by
  obtain ⟨h1, h2, h3, h4, h5, h6, h7⟩ := h
  exact ⟨h1, h3, h2, fun e => h4 e.symm, ⟨h5.2.2.1, h5.2.2.2, h5.1, h5.2.1⟩, h6.symm, by rw [← h6]; exact h7⟩
theorem pw3 (S : St) (w j : Nat) : 3 * gV S w j + gP S w j = gW S (3 * w + j) := by
  unfold gV gP
  omega
theorem X8_beyLp {N v u : Nat} {S : St} (hg : GOk S) (hv : v < 3010) (hu : u < 3010) : ∀ (f x j y i : Nat), j < 3 → 3 * x + j < 9030 → bnc (Gm S) v u f (x, j) = (y, i) → y ≠ v → y ≠ u → ∀ m, f < m → loopN (fun k x => fX8_beyond_8s N k x.1 x.2.1 x.2.2.1 x.2.2.2) m (S, nI v, nI u, nI (3 * x + j)) = some (nI (3 * y + i), S) := by
  intro f
  induction f with
  | zero =>
    intro x j y i hj hx e n1 n2 m hm
    obtain ⟨m, rfl⟩ : ∃ m', m = m' + 1 := ⟨m - 1, by omega⟩
    have e : (x, j) = (y, i) := e
    have e1 : x = y := congrArg Prod.fst e
    have e2 : j = i := congrArg Prod.snd e
    subst e1 e2
    show fX8_beyond_8s N _ S (nI v) (nI u) (nI (3 * x + j)) = _
    unfold fX8_beyond_8s
    rw [show (3 : Int32) = nI 3 from rfl, pk_div (by omega) (by omega) (by omega), show (3 * x + j) / 3 = x by omega, if_neg (fun q => n1 ((nI_eq (by omega) (by omega)).mp q)), if_neg (fun q => n2 ((nI_eq (by omega) (by omega)).mp q))]
  | succ f ih =>
    intro x j y i hj hx e n1 n2 m hm
    obtain ⟨m, rfl⟩ : ∃ m', m = m' + 1 := ⟨m - 1, by omega⟩
    have e0 : bnc (Gm S) v u (f + 1) (x, j) = if x = v then bnc (Gm S) v u f (gV S u j, gP S u j) else if x = u then bnc (Gm S) v u f (gV S v j, gP S v j) else (x, j) := rfl
    rw [e0] at e
    show fX8_beyond_8s N _ S (nI v) (nI u) (nI (3 * x + j)) = _
    unfold fX8_beyond_8s
    have d3 : nI (3 * x + j) / nI 3 = nI x := by rw [pk_div (by omega) (by omega) (by omega), show (3 * x + j) / 3 = x by omega]
    have m3 : nI (3 * x + j) - nI x * nI 3 = nI j := by rw [pk_mul, pk_sub (by omega), show 3 * x + j - x * 3 = j by omega]
    have go : ∀ w, w < 3010 → bnc (Gm S) v u f (gV S w j, gP S w j) = (y, i) → fX8_beyond_42 N (loopN (fun k x => fX8_beyond_8s N k x.1 x.2.1 x.2.2.1 x.2.2.2) m) S (nI v) (nI u) (nI (3 * x + j)) (nI 3) (nI w) = some (nI (3 * y + i), S) := by
      intro w hw hb
      obtain ⟨p1, p2⟩ := hg.2 (3 * w + j) (by omega)
      unfold fX8_beyond_42
      rw [show (3 : Int32) = nI 3 from rfl, d3, m3, pk_mul, nI_add, ckx_ok (vp_in_nI (by omega) (by omega)), bnd_eq, nI_clamp (by omega), p1, ← pw3]
      have g3 : gP S w j < 3 := Nat.mod_lt _ (by decide)
      exact ih _ _ y i g3 (by rw [pw3]; exact p2) hb n1 n2 m (by omega)
    rw [show (3 : Int32) = nI 3 from rfl, d3]
    unfold fX8_beyond_24
    rw [show (3 : Int32) = nI 3 from rfl, d3]
    by_cases c1 : x = v
    · rw [if_pos c1] at e
      rw [if_pos (by rw [c1]), if_pos (by rw [c1])]
      exact go u hu e
    · rw [if_neg c1] at e
      rw [if_neg (fun q => c1 ((nI_eq (by omega) (by omega)).mp q)), if_neg (fun q => c1 ((nI_eq (by omega) (by omega)).mp q))]
      by_cases c2 : x = u
      · rw [if_pos c2] at e
        rw [if_pos (by rw [c2])]
        exact go v hv e
      · rw [if_neg c2] at e
        rw [if_neg (fun q => c2 ((nI_eq (by omega) (by omega)).mp q))]
        have e1 : x = y := congrArg Prod.fst e
        have e2 : j = i := congrArg Prod.snd e
        rw [e1, e2]
theorem bnc_same {G G' : Gr} {l r : Nat} (hp : ∀ j, G.2.2.2 l j < 3 ∧ G.2.2.2 r j < 3) (h : ∀ k, k < 3 → (G'.2.2.1 l k = G.2.2.1 l k ∧ G'.2.2.2 l k = G.2.2.2 l k) ∧ (G'.2.2.1 r k = G.2.2.1 r k ∧ G'.2.2.2 r k = G.2.2.2 r k)) : ∀ (f : Nat) (p : Nat × Nat), p.2 < 3 → bnc G' l r f p = bnc G l r f p
  | 0, _, _ => rfl
  | f + 1, p, h3 => by
    have e1 : bnc G l r (f + 1) p = if p.1 = l then bnc G l r f (G.2.2.1 r p.2, G.2.2.2 r p.2) else if p.1 = r then bnc G l r f (G.2.2.1 l p.2, G.2.2.2 l p.2) else p := rfl
    have e2 : bnc G' l r (f + 1) p = if p.1 = l then bnc G' l r f (G'.2.2.1 r p.2, G'.2.2.2 r p.2) else if p.1 = r then bnc G' l r f (G'.2.2.1 l p.2, G'.2.2.2 l p.2) else p := rfl
    obtain ⟨⟨a1, a2⟩, b1, b2⟩ := h p.2 h3
    rw [e1, e2, a1, a2, b1, b2]
    by_cases c1 : p.1 = l
    · rw [if_pos c1, if_pos c1]
      exact bnc_same hp h f _ (hp p.2).2
    · rw [if_neg c1, if_neg c1]
      by_cases c2 : p.1 = r
      · rw [if_pos c2, if_pos c2]
        exact bnc_same hp h f _ (hp p.2).1
      · rw [if_neg c2, if_neg c2]
/-- in the middle of a join; D: the ports of the two that are done -/
def JI (S0 S : St) (l r : Nat) (D : Nat → Nat → Prop) : Prop := GM S ∧ gK S = gK S0 ∧ gX S = gX S0 ∧
  (∀ k, k < 3 → (gV S l k = gV S0 l k ∧ gP S l k = gP S0 l k) ∧ (gV S r k = gV S0 r k ∧ gP S r k = gP S0 r k)) ∧
  (∀ w j, w < 3010 → w ≠ l → w ≠ r → j < nP (gK S0 w) → ((gV S w j, gP S w j) = (gV S0 w j, gP S0 w j) ∨ (gV S w j, gP S w j) = bnc (Gm S0) l r 5 (gV S0 w j, gP S0 w j)) ∧ (D (gV S0 w j) (gP S0 w j) → (gV S w j, gP S w j) = bnc (Gm S0) l r 5 (gV S0 w j, gP S0 w j) ∧ (gK S0 w = 5 → Rm S w)))
theorem X8_joinAt {S0 S : St} {N l r k s : Nat} {D : Nat → Nat → Prop} (hN : Big N) (hJ : JH 3010 (Gm S0) l r) (h : JI S0 S l r D) (hR : RsR S s) (hs : s + 2 ≤ 12000) (hk : k < nP (gK S0 l)) (k0 : k ≠ 0) : ∃ S' s', fX8_joinAt N S (nI l) (nI r) (nI k) = some S' ∧ Fr S S' [28] [19, 27] ∧ JI S0 S' l r (fun x i => D x i ∨ (x = l ∧ i = k)) ∧ RsR S' s' ∧ s' ≤ s + 2 ∧ (∀ y, Rm S y → Rm S' y) := by
  obtain ⟨hG, hl, hr, hlr, hw, hn, hp⟩ := id hJ
  have hl : l < 3010 := hl
  have hr : r < 3010 := hr
  obtain ⟨i1, i2, i3, i4, i5⟩ := id h
  have k3 : k < 3 := Nat.lt_of_lt_of_le hk (nP_le _)
  obtain ⟨p1, p2⟩ := i1.1.2 (3 * l + k) (by omega)
  have q1 : gW S (3 * l + k) / 3 = gV S0 l k := (i4 k k3).1.1
  have q2 : gW S (3 * l + k) % 3 = gP S0 l k := (i4 k k3).1.2
  obtain ⟨g1, g2, g3, g4, g5⟩ := hG.1 l k hl hk
  obtain ⟨x, ex⟩ : ∃ x, x = gV S0 l k := ⟨_, rfl⟩
  obtain ⟨j, ej⟩ : ∃ j, j = gP S0 l k := ⟨_, rfl⟩
  have g1 : x < 3010 := by rw [ex]; exact g1
  have g2 : j < nP (gK S0 x) := by rw [ex, ej]; exact g2
  have g3 : gV S0 x j = l := by rw [ex, ej]; exact g3
  have g4 : gP S0 x j = k := by rw [ex, ej]; exact g4
  rw [← ex] at q1
  rw [← ej] at q2
  unfold fX8_joinAt
  rw [nI_m3, nI_add, ckx_ok (vp_in_nI (by omega) (by omega)), bnd_eq, nI_clamp (by omega), p1, show (3 : Int32) = nI 3 from rfl, pk_div (by omega) (by omega) (by omega), q1]
  have stay : x = l ∨ x = r → JI S0 S l r (fun x i => D x i ∨ (x = l ∧ i = k)) := by
    intro hx
    refine ⟨i1, i2, i3, i4, fun w i hw wl wr hi => ⟨(i5 w i hw wl wr hi).1, fun q => ?_⟩⟩
    rcases q with q | q
    · exact (i5 w i hw wl wr hi).2 q
    · obtain ⟨-, -, b3, b4, -⟩ := hG.1 w i hw hi
      have b3 : gV S0 (gV S0 w i) (gP S0 w i) = w := b3
      rw [q.1, q.2, ← ex] at b3
      rcases hx with z | z
      · exact absurd (b3.symm.trans z) wl
      · exact absurd (b3.symm.trans z) wr
  by_cases c1 : x = l
  · rw [if_pos (by rw [c1])]
    exact ⟨S, s, rfl, Fr.rf, stay (Or.inl c1), hR, by omega, fun _ h => h⟩
  · rw [if_neg (fun q => c1 ((nI_eq (by omega) (by omega)).mp q))]
    by_cases c2 : x = r
    · rw [if_pos (by rw [c2])]
      exact ⟨S, s, rfl, Fr.rf, stay (Or.inr c2), hR, by omega, fun _ h => h⟩
    · rw [if_neg (fun q => c2 ((nI_eq (by omega) (by omega)).mp q))]
      have hin : gV S0 x j = l ∨ gV S0 x j = r := Or.inl g3
      obtain ⟨y, i, b1, b2, b3, b4, b5, b6, b7, b8⟩ := bnc_end hJ g1 c1 c2 g2 hin
      have b2 : y < 3010 := b2
      have b5 : i < nP (gK S0 y) := b5
      have i33 : i < 3 := Nat.lt_of_lt_of_le b5 (nP_le _)
      have j33 : j < 3 := Nat.lt_of_lt_of_le g2 (nP_le _)
      have bx : bnc (Gm S0) l r 5 (gV S0 x j, gP S0 x j) = (y, i) := b1 2
      have by_ : bnc (Gm S0) l r 5 (gV S0 y i, gP S0 y i) = (x, j) := b7 2
      -- beyond
      have ch : bnc (Gm S) l r 4 (gV S r k, gP S r k) = (y, i) := by
        have e1 : bnc (Gm S0) l r 5 (l, k) = (y, i) := by rw [g3, g4] at bx; exact bx
        rw [bnc_l] at e1
        have e1 : bnc (Gm S0) l r 4 (gV S0 r k, gP S0 r k) = (y, i) := e1
        rw [(i4 k k3).2.1, (i4 k k3).2.2, bnc_same (G := Gm S0) (G' := Gm S) (fun _ => ⟨Nat.mod_lt _ (by decide), Nat.mod_lt _ (by decide)⟩) i4 4 _ (show gP S0 r k < 3 from Nat.mod_lt _ (by decide))]
        exact e1
      obtain ⟨u1, u2⟩ := i1.1.2 (3 * r + k) (by omega)
      have eB : fX8_beyond N S (nI (3 * r + k)) (nI l) (nI r) = some (nI (3 * y + i), S) := by
        unfold fX8_beyond
        rw [ckx_ok (vp_in_nI (by omega) (by omega)), bnd_eq, nI_clamp (by omega), u1, ← pw3]
        unfold fX8_beyond_8
        have hb := hN
        unfold Big at hb
        exact X8_beyLp i1.1 hl hr 4 _ _ y i (show gP S r k < 3 from Nat.mod_lt _ (by decide)) (by rw [pw3]; exact u2) ch b3 b4 N (by omega)
      rw [pk_mul, nI_add, bd2_ok eB]
      obtain ⟨S', s', t1, t2, t3, t4, t5, t6, -, t7, t8, t9⟩ := X8_wire (N := N) (a := x) (i := j) (b := y) (j := i) i1 hR g1 j33 b2 i33 hs
      have ew : gW S (3 * l + k) = 3 * x + j := by omega
      rw [ew, bdo_ok t1]
      have kk : gK S' = gK S := by funext w; unfold gK; rw [t2.2.1 17 (by decide)]
      have xx : gX S' = gX S := by funext w; unfold gX; rw [t2.2.1 18 (by decide)]
      have t4' : ∀ w k, k < 3 → gV S' w k = (if w = y ∧ k = i then x else if w = x ∧ k = j then y else gV S w k) ∧ gP S' w k = (if w = y ∧ k = i then j else if w = x ∧ k = j then i else gP S w k) := t4
      refine ⟨S', s', rfl, t2, ⟨t3, kk.trans i2, xx.trans i3, fun m hm => ?_, fun w m hw wl wr hm => ?_⟩, t5, t6, t7⟩
      · obtain ⟨a1, a2⟩ := t4' l m hm
        obtain ⟨a3, a4⟩ := t4' r m hm
        rw [if_neg (fun q => b3 q.1.symm), if_neg (fun q => c1 q.1.symm)] at a1 a2
        rw [if_neg (fun q => b4 q.1.symm), if_neg (fun q => c2 q.1.symm)] at a3 a4
        rw [a1, a2, a3, a4]
        exact i4 m hm
      · have m3 : m < 3 := Nat.lt_of_lt_of_le hm (nP_le _)
        obtain ⟨a1, a2⟩ := t4' w m m3
        by_cases z1 : w = y ∧ m = i
        · rw [if_pos z1] at a1 a2
          obtain ⟨rfl, rfl⟩ := z1
          have : (gV S' w m, gP S' w m) = bnc (Gm S0) l r 5 (gV S0 w m, gP S0 w m) := by rw [a1, a2, by_]
          refine ⟨Or.inr this, fun _ => ⟨this, fun q => t9 (by rw [i2]; exact q)⟩⟩
        · rw [if_neg z1] at a1 a2
          by_cases z2 : w = x ∧ m = j
          · rw [if_pos z2] at a1 a2
            obtain ⟨rfl, rfl⟩ := z2
            have : (gV S' w m, gP S' w m) = bnc (Gm S0) l r 5 (gV S0 w m, gP S0 w m) := by rw [a1, a2, bx]
            exact ⟨Or.inr this, fun _ => ⟨this, fun q => t8 (by rw [i2]; exact q)⟩⟩
          · rw [if_neg z2] at a1 a2
            rw [a1, a2]
            refine ⟨(i5 w m hw wl wr hm).1, fun q => ?_⟩
            rcases q with q | q
            · obtain ⟨d1, d2⟩ := (i5 w m hw wl wr hm).2 q
              exact ⟨d1, fun q => t7 _ (d2 q)⟩
            · exfalso
              obtain ⟨-, -, d3, d4, -⟩ := hG.1 w m hw hm
              have d3 : gV S0 (gV S0 w m) (gP S0 w m) = w := d3
              have d4 : gP S0 (gV S0 w m) (gP S0 w m) = m := d4
              rw [q.1, q.2, ← ex] at d3
              rw [q.1, q.2, ← ej] at d4
              exact z2 ⟨d3.symm, d4.symm⟩
theorem JI.swap {S0 S : St} {l r : Nat} {D : Nat → Nat → Prop} (hlr : l ≠ r) (h : JI S0 S l r D) : JI S0 S r l D := by
  obtain ⟨i1, i2, i3, i4, i5⟩ := h
  refine ⟨i1, i2, i3, fun k hk => ⟨(i4 k hk).2, (i4 k hk).1⟩, fun w j hw wl wr hj => ?_⟩
  rw [← bnc_sym hlr]
  exact i5 w j hw wr wl hj
theorem X8_joinLp {S0 : St} {N l r : Nat} (hN : Big N) (hJ : JH 3010 (Gm S0) l r) : ∀ (d k f s : Nat) (S : St), k + d = nP (gK S0 l) → d < f → 0 < k → JI S0 S l r (fun x i => (x = l ∨ x = r) ∧ 0 < i ∧ i < k) → RsR S s → s + 4 * d ≤ 12000 → ∃ S1 s1, loopN (fun k x => fX8_join_13s N k x.1 x.2.1 x.2.2.1 x.2.2.2.1 x.2.2.2.2) f (S, nI l, nI r, nI (nP (gK S0 l)), nI k) = (bdo (fX8_free N S1 (nI l)) fun S4 => bdo (fX8_free N S4 (nI r)) fun S7 => some S7) ∧ Fr S S1 [28] [19, 27] ∧ JI S0 S1 l r (fun x i => (x = l ∨ x = r) ∧ 0 < i ∧ i < nP (gK S0 l)) ∧ RsR S1 s1 ∧ s1 ≤ s + 4 * d ∧ (∀ y, Rm S y → Rm S1 y) := by
  intro d
  have n3 := nP_le (gK S0 l)
  have hnr : nP (gK S0 l) = nP (gK S0 r) := hJ.2.2.2.2.2.1
  have hlr := hJ.2.2.2.1
  induction d with
  | zero =>
    intro k f s S hk hf k0 h hR hs
    obtain ⟨f, rfl⟩ : ∃ f', f = f' + 1 := ⟨f - 1, by omega⟩
    have hk : k = nP (gK S0 l) := by omega
    refine ⟨S, s, ?_, Fr.rf, by rw [← hk]; exact h, hR, by omega, fun _ h => h⟩
    show fX8_join_13s N _ S (nI l) (nI r) _ (nI k) = _
    unfold fX8_join_13s
    rw [if_pos (nI_le (by omega) (by omega))]
  | succ d ih =>
    intro k f s S hk hf k0 h hR hs
    obtain ⟨f, rfl⟩ : ∃ f', f = f' + 1 := ⟨f - 1, by omega⟩
    obtain ⟨S2, s2, a1, a2, a3, a4, a5, a6⟩ := X8_joinAt (N := N) (k := k) hN hJ h hR (by omega) (by omega) (by omega)
    obtain ⟨S3, s3, b1, b2, b3, b4, b5, b6⟩ := X8_joinAt (N := N) (k := k) hN hJ.symm (a3.swap hlr) a4 (by omega) (by omega) (by omega)
    have i3 : JI S0 S3 l r (fun x i => (x = l ∨ x = r) ∧ 0 < i ∧ i < k + 1) := by
      have := b3.swap (fun e => hlr e.symm)
      obtain ⟨j1, j2, j3, j4, j5⟩ := this
      refine ⟨j1, j2, j3, j4, fun w j hw wl wr hj => ⟨(j5 w j hw wl wr hj).1, fun q => ?_⟩⟩
      have e0 := (j5 w j hw wl wr hj).2
      by_cases c : gP S0 w j < k
      · exact e0 (Or.inl (Or.inl ⟨q.1, q.2.1, c⟩))
      · have c : gP S0 w j = k := by omega
        rcases q.1 with z | z
        · exact e0 (Or.inl (Or.inr ⟨z, c⟩))
        · exact e0 (Or.inr ⟨z, c⟩)
    obtain ⟨S1, s1, c1, c2, c3, c4, c5, c6⟩ := ih (k + 1) f s3 S3 (by omega) (by omega) (by omega) i3 b4 (by omega)
    refine ⟨S1, s1, ?_, (a2.trans b2).trans c2, c3, c4, by omega, fun y hy => c6 y (b6 y (a6 y hy))⟩
    rw [← c1]
    show fX8_join_13s N _ S (nI l) (nI r) (nI (nP (gK S0 l))) (nI k) = _
    unfold fX8_join_13s
    rw [if_neg (fun q => absurd ((nI_leI (by omega) (by omega)).mp q) (by omega)), bdo_ok a1, bdo_ok b1, bnd_eq, nI_1]
theorem X8_join {S : St} {N l r s : Nat} (hN : Big N) (hG : GM S) (hJ : JH 3010 (Gm S) l r) (hl5 : gK S l < 5) (hr5 : gK S r < 5) (hR : RsR S s) (hs : s + 8 ≤ 12000) : ∃ S' s', fX8_join N S (nI l) (nI r) = some S' ∧ Fr S S' [21, 22, 28] [17, 19, 20, 27] ∧ GM S' ∧ RsR S' s' ∧ s' ≤ s + 8 ∧ JX 3010 (Gm S) l r (Gm S') ∧ (∀ e, e < 3010 → gK S e = 5 → (gV S e 0 = l ∨ gV S e 0 = r) → Rm S' e) ∧ cntA 3010 (gK S') + 2 = cntA 3010 (gK S) ∧ cntL 3010 (gK S') + 2 = cntL 3010 (gK S) := by
  obtain ⟨hV, hl, hr, hlr, hw, hn, hp⟩ := id hJ
  have hl : l < 3010 := hl
  have hr : r < 3010 := hr
  have hb := hN
  unfold Big at hb
  have n3 := nP_le (gK S l)
  have n0 : 0 < nP (gK S l) := hp
  obtain ⟨S1, s1, c1, c2, c3, c4, c5, c6⟩ := X8_joinLp (S0 := S) (N := N) hN hJ (nP (gK S l) - 1) 1 N s S (by omega) (by omega) (by omega) ⟨hG, rfl, rfl, fun _ _ => ⟨⟨rfl, rfl⟩, ⟨rfl, rfl⟩⟩, fun w j _ _ _ _ => ⟨Or.inl rfl, fun q => by
    have := q.2
    omega⟩⟩ hR (by omega)
  obtain ⟨i1, i2, i3, i4, i5⟩ := c3
  obtain ⟨S4, d1, d2, d3, d4, d5⟩ := X8_free (N := N) i1 hl (by rw [i2]; omega)
  obtain ⟨S7, e1, e2, e3, e4, e5⟩ := X8_free (N := N) d3 hr (by rw [d4, updN_at, if_neg (fun q => hlr q.symm), i2]; omega)
  have kS : gK S7 = updN (updN (gK S) l 7) r 7 := by rw [e4, d4, i2]
  have xS : gX S7 = gX S := by
    rw [← i3]
    funext w; unfold gX; rw [e2.2.1 18 (by decide), d2.2.1 18 (by decide)]
  have fr := d2.trans e2
  have wS : ∀ w k, gV S7 w k = gV S1 w k ∧ gP S7 w k = gP S1 w k := fun w k => by
    unfold gV gP gW
    rw [fr.2.1 19 (by decide)]
    exact ⟨rfl, rfl⟩
  -- what is at a port of an outside node
  have pin : ∀ w j, w < 3010 → w ≠ l → w ≠ r → j < nP (gK S w) → (gV S w j = l ∨ gV S w j = r) → 0 < gP S w j ∧ gP S w j < nP (gK S l) := by
    intro w j hw wl wr hj hin
    obtain ⟨-, a2, a3, -, -⟩ := hV.1 w j hw hj
    have a2 : gP S w j < nP (gK S (gV S w j)) := a2
    have a3 : gV S (gV S w j) (gP S w j) = w := a3
    have hn : nP (gK S l) = nP (gK S r) := hn
    refine ⟨Nat.pos_of_ne_zero (fun z => ?_), ?_⟩
    · rw [z] at a3
      rcases hin with q | q
      · rw [q] at a3
        exact wr (a3.symm.trans hJ.2.2.2.2.1.1)
      · rw [q] at a3
        exact wl (a3.symm.trans hJ.2.2.2.2.1.2.2.1)
    · rcases hin with q | q
      · rw [q] at a2; exact a2
      · rw [q] at a2; rw [hn]; exact a2
  have hJW : JW 3010 (Gm S) l r (Gm S7) := by
    intro w hw wl wr
    refine ⟨?_, ?_, fun k hk => ?_⟩
    · show gK S7 w = gK S w
      rw [kS, updN_at, if_neg wr, updN_at, if_neg wl]
    · show gX S7 w = gX S w
      rw [xS]
    · show (gV S7 w k, gP S7 w k) = _
      rw [(wS w k).1, (wS w k).2]
      obtain ⟨a1, a2⟩ := i5 w k hw wl wr hk
      by_cases c : gV S w k = l ∨ gV S w k = r
      · exact (a2 ⟨c, pin w k hw wl wr hk c⟩).1
      · have : bnc (Gm S) l r 5 (gV S w k, gP S w k) = (gV S w k, gP S w k) := bnc_out (fun q => c (Or.inl q)) (fun q => c (Or.inr q))
        show (gV S1 w k, gP S1 w k) = bnc (Gm S) l r 5 (gV S w k, gP S w k)
        rw [this] at a1 ⊢
        exact a1.elim id id
  have RmE : Rm S7 = Rm S1 := by rw [Rm.of (fr.1 28 (by decide)) (fr.2.1 27 (by decide))]
  refine ⟨S7, s1, ?_, (c2.mono (by decide) (by decide)).trans (fr.mono (by decide) (by decide)), e3, c4.of (fr.1 28 (by decide)) (fr.2.1 27 (by decide)), by omega, hJW.jx hJ ?_ ?_, fun e he h5 hin => ?_, ?_, ?_⟩
  · unfold fX8_join
    rw [ckx_ok (vp_in_nI (by omega) (by omega)), nI_clamp (by omega), bdo_ok (X8_ports hG.1 hl (by omega)), bnd_eq]
    have c1' : fX8_join_13 N (S, nI l, nI r, nI (nP (gK S l)), 1) = (bdo (fX8_free N S1 (nI l)) fun S4 => bdo (fX8_free N S4 (nI r)) fun S7 => some S7) := c1
    rw [c1', bdo_ok d1, bdo_ok e1]
  · show gK S7 l = 7
    rw [kS, updN_at, if_neg hlr, updN_at, if_pos rfl]
  · show gK S7 r = 7
    rw [kS, updN_at, if_pos rfl]
  · rw [RmE]
    have el : e ≠ l := fun q => by rw [q] at h5; omega
    have er : e ≠ r := fun q => by rw [q] at h5; omega
    have h0 : 0 < nP (gK S e) := by rw [h5]; decide
    exact ((i5 e 0 he el er h0).2 ⟨hin, pin e 0 he el er h0 hin⟩).2 h5
  · rw [i2] at d5
    omega
  · have a1 := cntL_free hl (K := gK S) hl5
    have a2 := cntL_free hr (K := updN (gK S) l 7) (by rw [updN_at, if_neg (fun q => hlr q.symm)]; exact hr5)
    rw [kS]
    omega
