/-! the reference: erasing -/
theorem mem_ol {y : Nat × Nat} {a b : Option (Nat × Nat)} (h : y ∈ ol a b) : a = some y ∨ b = some y := by
  unfold ol at h
  rcases List.mem_append.mp h with h | h
  · cases a with
    | none => cases h
    | some z =>
      have : y = z := by simpa using h
      rw [this]; exact Or.inl rfl
  · cases b with
    | none => cases h
    | some z =>
      have : y = z := by simpa using h
      rw [this]; exact Or.inr rfl
theorem X8_goes {S0 S : St} {N r v m : Nat} {Z : Nat → Prop} (hN : Big N) (hV : GVr 3010 (Gm S0)) (hG : GM S) (hR : RsR S r) (hr : r + 4 ≤ 12000) (hv : v < 3010) (h5 : gK S0 v < 5) (hm : m < 8)
    (hZ1 : ∀ z, Z z → gK S0 z = 5 ∧ gV S0 z 0 = v) (hZ2 : ∀ k, k < nP (gK S0 v) → awy m k → Z (gV S0 v k)) (hZ3 : ∃ k, k < nP (gK S0 v) ∧ awy m k) (hZ4 : ∀ z, Z z → ∃ k, k < nP (gK S0 v) ∧ awy m k ∧ gV S0 v k = z)
    (hK : ∀ w, w < 3010 → (Z w → gK S w = 7) ∧ (¬ Z w → gK S w = gK S0 w)) (hX : gX S = gX S0) (hW : S.2.1 19 = S0.2.1 19) (hc : cntA 3010 (gK S) ≤ 3009) :
    ∃ S' r', fX8_goes N S (nI v) (nI m) = some S' ∧ Fr S S' [21, 22, 26, 28] [17, 18, 19, 20, 27] ∧ GM S' ∧ RsR S' r' ∧ r' ≤ r + 4 ∧ AP 3010 (Gm S0) v Z (Gm S') (Rm S') ∧ (∀ y, Rm S y → Rm S' y) ∧ S'.1 26 = S.1 26 + 1 ∧ cntL 3010 (gK S') + 1 = cntL 3010 (gK S) ∧ cntA 3010 (gK S') ≤ cntA 3010 (gK S) + 1 := by
  have vz : ¬ Z v := fun q => by have := (hZ1 v q).1; omega
  have kv : gK S v = gK S0 v := (hK v hv).2 vz
  have hb := hN
  unfold Big at hb
  have eV : ∀ w k, gV S w k = gV S0 w k := fun w k => by unfold gV gW; rw [hW]
  have eP : ∀ w k, gP S w k = gP S0 w k := fun w k => by unfold gP gW; rw [hW]
  -- the ports
  have elt : ∀ y, y ∈ ol (pq (pX S v m) (nP (gK S0 v))).1 (pq (pX S v m) (nP (gK S0 v))).2 → ∃ j, j < nP (gK S0 v) ∧ pX S v m j = some y := by
    intro y hy
    obtain ⟨h1, h2, h3⟩ := pq_1 (X := pX S v m) (nP (gK S0 v))
    rcases mem_ol hy with e | e
    · exact h2 y e
    · cases e1 : (pq (pX S v m) (nP (gK S0 v))).1 with
      | none => rw [h1 e1] at e; cases e
      | some z =>
        obtain ⟨i, j, -, b, -, -, d⟩ := h3 z y e1 e
        exact ⟨j, b, d⟩
  have prt : ∀ j y, j < nP (gK S0 v) → pX S v m j = some y → ¬ awy m j ∧ y.1 ≠ v ∧ y.1 = gV S0 v j ∧ y.2 = gP S0 v j ∧ y.1 < 3010 ∧ y.2 < nP (gK S0 y.1) ∧ gV S0 y.1 y.2 = v ∧ gP S0 y.1 y.2 = j ∧ ¬ Z y.1 := by
    intro j y hj e
    unfold pX at e
    by_cases c : awy m j ∨ gV S v j = v
    · rw [if_pos c] at e; cases e
    · rw [if_neg c] at e
      have e : (gV S v j, gP S v j) = y := Option.some.inj e
      have c2 : gV S0 v j ≠ v := fun q => c (Or.inr (by rw [eV]; exact q))
      rw [eV, eP] at e
      rw [← e]
      obtain ⟨g1, g2, g3, g4, -⟩ := hV.1 v j hv hj
      refine ⟨fun q => c (Or.inl q), c2, rfl, rfl, g1, g2, g3, g4, fun q => ?_⟩
      have q : Z (gV S0 v j) := q
      obtain ⟨k, k1, k2, k3⟩ := hZ4 _ q
      obtain ⟨a1, a2, a3, a4, -⟩ := hV.1 v k hv k1
      have a2 : gP S0 v k < nP (gK S0 (gV S0 v k)) := a2
      have g2 : gP S0 v j < nP (gK S0 (gV S0 v j)) := g2
      have q5 := (hZ1 _ q).1
      rw [k3, q5] at a2
      rw [q5] at g2
      have z1 : gP S0 v k = 0 := by have : gP S0 v k < 1 := a2; omega
      have z2 : gP S0 v j = 0 := by have : gP S0 v j < 1 := g2; omega
      have a4 : gP S0 (gV S0 v k) (gP S0 v k) = k := a4
      have g4 : gP S0 (gV S0 v j) (gP S0 v j) = j := g4
      rw [k3, z1] at a4
      rw [z2] at g4
      have : k = j := a4.symm.trans g4
      rw [this] at k2
      exact c (Or.inl k2)
  have inL : ∀ u k, u < 3010 → u ≠ v → ¬ Z u → k < nP (gK S0 u) → gV S0 u k = v → (u, k) ∈ ol (pq (pX S v m) (nP (gK S0 v))).1 (pq (pX S v m) (nP (gK S0 v))).2 := by
    intro u k hu uv uz hk e
    obtain ⟨g1, g2, g3, g4, -⟩ := hV.1 u k hu hk
    have g2 : gP S0 u k < nP (gK S0 (gV S0 u k)) := g2
    have g3 : gV S0 (gV S0 u k) (gP S0 u k) = u := g3
    have g4 : gP S0 (gV S0 u k) (gP S0 u k) = k := g4
    rw [e] at g2 g3 g4
    have na : ¬ awy m (gP S0 u k) := fun q => uz (by rw [← g3]; exact hZ2 _ g2 q)
    have eX : pX S v m (gP S0 u k) = some (u, k) := by
      unfold pX
      rw [eV, eP, g3, g4, if_neg (fun q => q.elim na uv)]
    obtain ⟨j0, j1, j2⟩ := hZ3
    exact pq_2 (nP_le _) ⟨j0, j1, by unfold pX; rw [if_pos (Or.inl j2)]⟩ g2 eX
  -- the run
  obtain ⟨S4, e4, f4, g4, k4, c4⟩ := X8_free (N := N) hG hv (by rw [kv]; omega)
  obtain ⟨S5, e5⟩ : ∃ z, z = sI S4 26 (S4.1 26 + 1) := ⟨_, rfl⟩
  have f5 : Fr S4 S5 [26] [] := by rw [e5]; exact Fr.I (by decide)
  obtain ⟨g5, m5⟩ := g4.of f5 (by decide) (by decide)
  have k5 : gK S5 = updN (gK S) v 7 := by rw [← k4]; exact congrArg Prod.fst m5
  have x5 : gX S5 = gX S := by
    have : gX S5 = gX S4 := congrArg (fun G : Gr => G.2.1) m5
    rw [this]; funext w; unfold gX; rw [f4.2.1 18 (by decide)]
  have w19 : S5.2.1 19 = S0.2.1 19 := by rw [f5.2.1 19 (by decide), f4.2.1 19 (by decide), hW]
  have r5 : RsR S5 r := (hR.of (f4.1 28 (by decide)) (f4.2.1 27 (by decide))).of (f5.1 28 (by decide)) (f5.2.1 27 (by decide))
  have c5 : cntA 3010 (gK S5) + 1 = cntA 3010 (gK S) := by rw [k5, ← k4]; exact c4
  obtain ⟨ts, ets⟩ : ∃ ts, ts = ol (pq (pX S v m) (nP (gK S0 v))).1 (pq (pX S v m) (nP (gK S0 v))).2 := ⟨_, rfl⟩
  have hlen : ts.length ≤ 2 ∧ ts.Nodup := by
    obtain ⟨h1, h2, h3⟩ := pq_1 (X := pX S v m) (nP (gK S0 v))
    rw [ets]
    cases e1 : (pq (pX S v m) (nP (gK S0 v))).1 with
    | none =>
      rw [h1 e1]
      exact ⟨by decide, List.nodup_nil⟩
    | some y =>
      cases e2 : (pq (pX S v m) (nP (gK S0 v))).2 with
      | none => exact ⟨by show 1 ≤ 2; decide, by show [y].Nodup; simp⟩
      | some z =>
        refine ⟨by show 2 ≤ 2; decide, ?_⟩
        obtain ⟨i, j, a, b, c, d, e⟩ := h3 y z e1 e2
        have p1 := prt i y a d
        have p2 := prt j z b e
        have : y ≠ z := fun q => by
          rw [q] at p1
          exact c (p1.2.2.2.2.2.2.2.1.symm.trans p2.2.2.2.2.2.2.2.1)
        show [y, z].Nodup
        simp [this]
  have tsP : ∀ t ∈ ts, t.1 < 3010 ∧ t.1 ≠ v ∧ ¬ Z t.1 ∧ t.2 < nP (gK S0 t.1) ∧ gV S0 t.1 t.2 = v := by
    intro t ht
    rw [ets] at ht
    obtain ⟨j, hj, ej⟩ := elt t ht
    obtain ⟨p1, p2, p3, p4, p5, p6, p7, p8, p9⟩ := prt j t hj ej
    exact ⟨p5, p2, p9, p6, p7⟩
  have k5' : ∀ u, u < 3010 → u ≠ v → ¬ Z u → gK S5 u = gK S0 u := fun u hu uv uz => by rw [k5, updN_at, if_neg uv, (hK u hu).2 uz]
  obtain ⟨S', r', x, e', f', g', q', l', c', cl', m', a', b', d'⟩ := X8_attL (N := N) ts S5 r g5 r5 (by omega) (by omega) hlen.2 (fun t ht => by
    obtain ⟨p1, p2, p3, p4, p5⟩ := tsP t ht
    refine ⟨p1, Nat.lt_of_lt_of_le p4 (nP_le _), ?_⟩
    rw [k5' _ p1 p2 p3]
    exact nP_7 (Nat.lt_of_le_of_lt (Nat.zero_le _) p4))
  have xne : ∀ u, u < 3010 → u ≠ v → ¬ Z u → gK S0 u < 7 → ∀ t ∈ ts, u ≠ x t := fun u hu uv uz u7 t ht q => by
    have := (a' t ht).2.1
    rw [← q, k5' u hu uv uz] at this
    omega
  refine ⟨S', r', ?_, ?_, g', q', by omega, ⟨fun u k => x (u, k), fun u k hu uv uz hk e => ?_, fun w hw hx => ?_, fun u hu uv uz u7 => ?_, hZ1⟩, fun y hy => m' y (by rw [Rm.of (f5.1 28 (by decide)) (f5.2.1 27 (by decide)), Rm.of (f4.1 28 (by decide)) (f4.2.1 27 (by decide))]; exact hy), ?_, ?_, by omega⟩
  · unfold fX8_goes
    rw [ckx_ok (vp_in_nI (by omega) (by omega)), nI_clamp (by omega), bdo_ok (X8_ports hG.1 hv (by rw [kv]; omega)), bnd_eq, bnd_eq, bnd_eq, kv]
    have := X8_goLp (N := N) (m := m) hG.1 hv hm (n := nP (gK S0 v)) (nP_le _) (nP (gK S0 v)) 0 N (by omega) (by have := nP_le (gK S0 v); omega)
    show loopN (fun k x => fX8_goes_19s N k x.1 x.2.1 x.2.2.1 x.2.2.2.1 x.2.2.2.2.1 x.2.2.2.2.2.1 x.2.2.2.2.2.2) N (S, nI v, nI m, nI (nP (gK S0 v)), iN none, iN none, nI 0) = some S'
    have this' : loopN (fun k x => fX8_goes_19s N k x.1 x.2.1 x.2.2.1 x.2.2.2.1 x.2.2.2.2.1 x.2.2.2.2.2.1 x.2.2.2.2.2.2) N (S, nI v, nI m, nI (nP (gK S0 v)), iN none, iN none, nI 0) = goFin N S v (pq (pX S v m) (nP (gK S0 v))).1 (pq (pX S v m) (nP (gK S0 v))).2 := this
    rw [this']
    unfold goFin
    rw [bdo_ok e4, bnd_eq, ← e5, ← ets]
    exact e'
  · exact ((f4.mono (by decide) (by decide)).trans (f5.mono (by decide) (fun _ h => (List.not_mem_nil h).elim))).trans (f'.mono (by decide) (by decide))
  · have ht : (u, k) ∈ ts := by rw [ets]; exact inL u k hu uv uz hk e
    obtain ⟨y1, y2, y3, y4, y5, y6, y7, y8, y9⟩ := a' (u, k) ht
    refine ⟨y1, y3, y4, y5, y6, y7, ?_, y8, fun q => y9 (by show gK S5 u = 5; rw [k5' u hu uv uz]; exact q)⟩
    rw [k5, updN_at] at y2
    by_cases c : x (u, k) = v
    · exact Or.inr (Or.inl c)
    · rw [if_neg c] at y2
      by_cases d : Z (x (u, k))
      · exact Or.inr (Or.inr d)
      · left
        show gK S0 (x (u, k)) = 7
        rw [← (hK _ y1).2 d]
        exact y2
  · have hx' : ∀ t ∈ ts, w ≠ x t := fun t ht => by
      obtain ⟨p1, p2, p3, p4, p5⟩ := tsP t ht
      exact hx t.1 t.2 p1 p2 p3 p4 p5
    have kw : gK S' w = gK S5 w := (b' w hx').1
    refine ⟨fun q => ?_, fun wv wz => ?_⟩
    · show gK S' w = 7
      rw [kw, k5, updN_at]
      by_cases c : w = v
      · rw [if_pos c]
      · rw [if_neg c]
        exact (hK w hw).1 (q.resolve_left c)
    · show gK S' w = gK S0 w
      rw [kw]
      exact k5' w hw wv wz
  · have hx' := xne u hu uv uz u7
    refine ⟨?_, fun k hk ne => ?_⟩
    · show gX S' u = gX S0 u
      rw [(b' u hx').2, x5, hX]
    · have k3 := Nat.lt_of_lt_of_le hk (nP_le _)
      have := d' u k k3 (fun q => ne (tsP _ q).2.2.2.2) hx'
      have e1 : gV S5 u k = gV S0 u k := by unfold gV gW; rw [w19]
      have e2 : gP S5 u k = gP S0 u k := by unfold gP gW; rw [w19]
      exact ⟨this.1.trans e1, this.2.trans e2⟩
  · rw [f'.1 26 (by decide), e5]
    show S4.1 26 + 1 = _
    rw [f4.1 26 (by decide)]
  · rw [cl', k5]
    exact cntL_free hv (by rw [kv]; exact h5)
theorem pw8 : ∀ k, k < 3 → 2 ^ k < 8 := by decide
theorem pwA : ∀ k, k < 3 → ∀ j, j < 3 → 2 ^ k / 2 ^ j % 2 = 1 → j = k := by decide
theorem pwB : ∀ k, k < 3 → 2 ^ k / 2 ^ k % 2 = 1 := by decide
/-- one step of the erasing, as it is told -/
def ESt (S0 S S' : St) (a r r' : Nat) : Prop := EI 3010 (Gm S0) (Gm S') (Rm S') ∧ GM S' ∧ RsR S' r' ∧ Fr S S' [21, 22, 26, 28] [17, 18, 19, 20, 27] ∧ cntA 3010 (gK S') ≤ 3009 ∧ cntA 3010 (gK S') ≤ cntA 3010 (gK S) ∧ (∃ b, S'.1 26 = nI b ∧ b + cntL 3010 (gK S') = a + cntL 3010 (gK S)) ∧ 4 * cntL 3010 (gK S') + r' ≤ 4 * cntL 3010 (gK S) + r ∧ cntL 3010 (gK S) ≤ cntL 3010 (gK S') + 1
theorem X8_eraseBy {S0 S : St} {N r e a : Nat} {R : Nat → Prop} (hN : Big N) (hV0 : GVr 3010 (Gm S0)) (hI : EI 3010 (Gm S0) (Gm S) R) (hG : GM S) (hR : RsR S r) (hRR : ∀ x, R x → x ≠ e → Rm S x) (hr : 3 * cntL 3010 (gK S) + r + 1 ≤ 12000) (he : e < 3010) (h5 : gK S e = 5) (hc : cntA 3010 (gK S) ≤ 3009) (h26 : S.1 26 = nI a) :
    ∃ S' r', fX8_eraseBy N S (nI e) = some S' ∧ ESt S0 S S' a r r' := by
  obtain ⟨F, f1, f2, f3, hV, hCov⟩ := id hI
  obtain ⟨g1, g2, g3, g4, g5⟩ := hV.1 e 0 he (by show 0 < nP (gK S e); rw [h5]; decide)
  obtain ⟨p1, p2⟩ := hG.1.2 (3 * e) (by omega)
  obtain ⟨v, ev⟩ : ∃ v, v = gV S e 0 := ⟨_, rfl⟩
  obtain ⟨k, ek⟩ : ∃ k, k = gP S e 0 := ⟨_, rfl⟩
  have ev' : gW S (3 * e) / 3 = v := ev.symm
  have ek' : gW S (3 * e) % 3 = k := ek.symm
  have g1 : v < 3010 := by rw [ev]; exact g1
  have g2 : k < nP (gK S v) := by rw [ev, ek]; exact g2
  have g3 : gV S v k = e := by rw [ev, ek]; exact g3
  have g4 : gP S v k = 0 := by rw [ev, ek]; exact g4
  have k3 : k < 3 := Nat.lt_of_lt_of_le g2 (nP_le _)
  have v7 : gK S v < 7 := nP_7 (Nat.lt_of_le_of_lt (Nat.zero_le _) g2)
  have kv := (hG.1.1 v g1).1
  unfold fX8_eraseBy
  rw [nI_m3, ckx_ok (vp_in_nI (by omega) (by omega)), bnd_eq, nI_clamp (by omega), p1, bnd_eq, bnd_eq, show (3 : Int32) = nI 3 from rfl, pk_div (by omega) (by omega) (by omega), pk_mul, pk_sub (by omega), show gW S (3 * e) - gW S (3 * e) / 3 * 3 = gW S (3 * e) % 3 by omega, ev', ek', ckx_ok (vp_in_nI (by omega) (by omega)), bnd_eq, nI_clamp (by omega), kv]
  -- nothing
  have idle : ¬ (gK S v = 5) → ¬ (k = 0 ∧ gK S v < 5) → ¬ (k = 1 ∧ (gK S v = 1 ∨ gK S v = 3 ∨ gK S v = 4)) → ¬ (gK S v = 2 ∧ gK S (gV S v 1) = 5 ∧ gK S (gV S v 2) = 5) → ESt S0 S S a r r := by
    intro n1 n2 n3 n4
    refine ⟨EI_idle (e := e) hI hRR (fun _ => ⟨he, ?_⟩), hG, hR, Fr.rf, hc, Nat.le_refl _, ⟨a, h26, rfl⟩, Nat.le_refl _, Nat.le_succ _⟩
    show gK S (gV S e 0) ≠ 5 ∧ ¬ (gP S e 0 = 0 ∧ gK S (gV S e 0) < 5) ∧ ¬ (gP S e 0 = 1 ∧ (gK S (gV S e 0) = 1 ∨ gK S (gV S e 0) = 3 ∨ gK S (gV S e 0) = 4)) ∧ ¬ (gK S (gV S e 0) = 2 ∧ gK S (gV S (gV S e 0) 1) = 5 ∧ gK S (gV S (gV S e 0) 2) = 5)
    rw [← ev, ← ek]
    exact ⟨n1, n2, n3, n4⟩
  -- the node at the eraser goes
  have fire : ∀ {S3 : St} {m : Nat} {Z : Nat → Prop}, gK S v < 5 → frb (Gm S) (fun _ => False) v → m < 8 → (∀ z, Z z → gK S z = 5 ∧ gV S z 0 = v) → (∀ k, k < nP (gK S v) → awy m k → Z (gV S v k)) → (∃ k, k < nP (gK S v) ∧ awy m k) → (∀ z, Z z → ∃ k, k < nP (gK S v) ∧ awy m k ∧ gV S v k = z) → Fr S S3 [21, 22] [17, 20] → GM S3 → (∀ w, w < 3010 → (Z w → gK S3 w = 7) ∧ (¬ Z w → gK S3 w = gK S w)) → cntA 3010 (gK S3) + 1 ≤ cntA 3010 (gK S) → cntL 3010 (gK S3) = cntL 3010 (gK S) → ∃ S' r', fX8_goes N S3 (nI v) (nI m) = some S' ∧ ESt S0 S S' a r r' := by
    intro S3 m Z v5 hf hm z1 z2 z3 z4 fr gm hk hca hcl
    have cl1 := cntL_free g1 v5
    obtain ⟨S', r', e1, e2, e3, e4, e5, e6, e7, e8, e9, e10⟩ := X8_goes (S0 := S) (S := S3) (N := N) (r := r) (m := m) (Z := Z) hN hV gm (hR.of (fr.1 28 (by decide)) (fr.2.1 27 (by decide))) (by omega) g1 v5 hm z1 z2 z3 z4 hk (by funext w; unfold gX; rw [fr.2.1 18 (by decide)]) (fr.2.1 19 (by decide)) (by omega)
    refine ⟨S', r', e1, EI_fire (e := e) hV0 hI g1 v5 hf ev.symm e6.fd (fun x hx hne => e7 x (by rw [Rm.of (fr.1 28 (by decide)) (fr.2.1 27 (by decide))]; exact hRR x hx hne)), e3, e4, (fr.mono (by decide) (by decide)).trans e2, by omega, by omega, ⟨a + 1, by rw [e8, fr.1 26 (by decide), h26, nI_1], by omega⟩, by omega, by omega⟩
  have f81 : gK S v < 5 → frb (Gm S) (fun _ => False) v → ∃ S' r', fX8_eraseBy_81 N S (nI e) (nI v) (nI k) = some S' ∧ ESt S0 S S' a r r' := by
    intro v5 hf
    obtain ⟨S3, e1, e2, e3, e4, e5⟩ := X8_free (N := N) hG he (by omega)
    obtain ⟨S', r', e6, e7⟩ := fire (S3 := S3) (m := 2 ^ k) (Z := fun z => z = e) v5 hf (pw8 k k3) (fun z hz => by rw [hz]; exact ⟨h5, ev.symm⟩) (fun j hj hw => by
        rw [pwA k k3 j (Nat.lt_of_lt_of_le hj (nP_le _)) hw]
        exact g3) ⟨k, g2, pwB k k3⟩ (fun z hz => ⟨k, g2, pwB k k3, by rw [hz]; exact g3⟩) e2 e3 (fun w hw => by
        rw [e4, updN_at]
        exact ⟨fun q => if_pos q, fun q => if_neg q⟩) (by omega) (by rw [e4]; exact cntL_other he (by omega) (by omega))
    refine ⟨S', r', ?_, e7⟩
    unfold fX8_eraseBy_81
    rw [bdo_ok e1, shl_i k k3, bdo_ok e6]
  have f98 : k ≠ 0 → gK S v ≠ 5 → ¬ (k = 1 ∧ (gK S v = 1 ∨ gK S v = 3 ∨ gK S v = 4)) → ∃ S' r', fX8_eraseBy_98 N S (nI e) (nI v) (nI k) (nI (gK S v)) = some S' ∧ ESt S0 S S' a r r' := by
    intro k0 n5 n1
    unfold fX8_eraseBy_98
    by_cases c2 : gK S v = 2
    · have n3 : nP (gK S v) = 3 := by rw [c2]; rfl
      have k12 : k = 1 ∨ k = 2 := by omega
      obtain ⟨h1, h2, h3, h4, -⟩ := hV.1 v (3 - k) g1 (by show 3 - k < nP (gK S v); omega)
      obtain ⟨o, eo⟩ : ∃ o, o = gV S v (3 - k) := ⟨_, rfl⟩
      have h1 : o < 3010 := by rw [eo]; exact h1
      have hW : gW S (3 * v + 3 - k) / 3 = o := by
        rw [eo]; unfold gV
        rw [show 3 * v + (3 - k) = 3 * v + 3 - k by omega]
      obtain ⟨q1, q2⟩ := hG.1.2 (3 * v + 3 - k) (by omega)
      rw [if_pos (by rw [c2]; rfl), show (3 : Int32) = nI 3 from rfl, pk_mul, nI_add, pk_sub (by omega), ckx_ok (vp_in_nI (by omega) (by omega)), nI_clamp (by omega), q1, pk_div (by omega) (by omega) (by omega), hW, ckx_ok (vp_in_nI (by omega) (by omega)), nI_clamp (by omega), (hG.1.1 o h1).1]
      have ko := (hG.1.1 o h1).2.1
      by_cases c5 : gK S o = 5
      · rw [if_pos (by rw [c5]; rfl)]
        have h3 : gV S o (gP S v (3 - k)) = v := by rw [eo]; exact h3
        have h4 : gP S o (gP S v (3 - k)) = 3 - k := by rw [eo]; exact h4
        have h2 : gP S v (3 - k) < nP (gK S o) := by rw [eo]; exact h2
        rw [c5] at h2
        have po : gP S v (3 - k) = 0 := by have : gP S v (3 - k) < 1 := h2; omega
        rw [po] at h3 h4
        have oe : o ≠ e := fun q => by
          rw [q, ← ek] at h4
          omega
        obtain ⟨S3, e1, e2, e3, e4, e5⟩ := X8_free (N := N) hG he (by omega)
        obtain ⟨S4, y1, y2, y3, y4, y5⟩ := X8_free (N := N) e3 h1 (by rw [e4, updN_at, if_neg oe]; omega)
        have q1' : S3.2.1 19 (3 * v + 3 - k) = nI (gW S (3 * v + 3 - k)) := by rw [e2.2.1 19 (by decide)]; exact q1
        rw [bdo_ok e1, ckx_ok (vp_in_nI (by omega) (by omega)), q1', pk_div (by omega) (by omega) (by omega), hW, bdo_ok y1]
        have aw6 : ∀ j, j < 3 → (awy 6 j ↔ j = 1 ∨ j = 2) := by unfold awy; decide
        obtain ⟨S', r', e6, e7⟩ := fire (S3 := S4) (m := 6) (Z := fun z => z = e ∨ z = o) (by omega) (Or.inr (Or.inr ⟨c2, by
            rcases k12 with q | q
            · left; show gK S (gV S v 1) = 5; rw [← q, g3]; exact h5
            · left; show gK S (gV S v 1) = 5; rw [show (1 : Nat) = 3 - k by omega, ← eo]; exact c5, by
            rcases k12 with q | q
            · left; show gK S (gV S v 2) = 5; rw [show (2 : Nat) = 3 - k by omega, ← eo]; exact c5
            · left; show gK S (gV S v 2) = 5; rw [← q, g3]; exact h5⟩)) (by decide) (fun z hz => by
            rcases hz with q | q
            · rw [q]; exact ⟨h5, ev.symm⟩
            · rw [q]; exact ⟨c5, h3⟩) (fun j hj hw => by
            have := (aw6 j (by omega)).mp hw
            by_cases q : j = k
            · left; rw [q]; exact g3
            · right; rw [show j = 3 - k by omega]; exact eo.symm) ⟨k, g2, (aw6 k k3).mpr k12⟩ (fun z hz => by
            rcases hz with q | q
            · exact ⟨k, g2, (aw6 k k3).mpr k12, by rw [q]; exact g3⟩
            · exact ⟨3 - k, by omega, (aw6 (3 - k) (by omega)).mpr (by omega), by rw [q]; exact eo.symm⟩) (e2.trans y2) y3 (fun w hw => by
            rw [y4, updN_at, e4, updN_at]
            refine ⟨fun q => ?_, fun q => ?_⟩
            · by_cases z : w = o
              · rw [if_pos z]
              · rw [if_neg z, if_pos (q.resolve_right z)]
            · rw [if_neg (fun z => q (Or.inr z)), if_neg (fun z => q (Or.inl z))]) (by omega) (by
            rw [y4, cntL_other h1 (by rw [e4, updN_at, if_neg oe]; omega) (by omega), e4]
            exact cntL_other he (by omega) (by omega))
        refine ⟨S', r', ?_, e7⟩
        rw [show (6 : Int32) = nI 6 from rfl, bdo_ok e6]
      · rw [if_neg (fun q => c5 ((nI_eq (by omega) (by omega)).mp (q.trans (show (5 : Int32) = nI 5 from rfl))))]
        refine ⟨S, r, rfl, idle n5 (fun q => k0 q.1) n1 (fun q => ?_)⟩
        rcases k12 with z | z
        · exact c5 (by rw [eo, show 3 - k = 2 by omega]; exact q.2.2)
        · exact c5 (by rw [eo, show 3 - k = 1 by omega]; exact q.2.1)
    · rw [if_neg (fun q => c2 ((nI_eq (by omega) (by omega)).mp (q.trans (show (2 : Int32) = nI 2 from rfl))))]
      exact ⟨S, r, rfl, idle n5 (fun q => k0 q.1) n1 (fun q => c2 q.1)⟩
  by_cases c5 : gK S v = 5
  · rw [if_pos (by rw [c5]; rfl)]
    rw [c5] at g2
    have k0 : k = 0 := by have : k < 1 := g2; omega
    have ve : v ≠ e := fun q => by
      have : ¬ (gV S e 0 = e ∧ gP S e 0 = 0) := g5
      rw [← ev, ← ek] at this
      exact this ⟨q, k0⟩
    obtain ⟨S3, e1, e2, e3, e4, e5⟩ := X8_free (N := N) hG he (by omega)
    obtain ⟨S4, y1, y2, y3, y4, y5⟩ := X8_free (N := N) e3 g1 (by rw [e4, updN_at, if_neg ve]; omega)
    rw [bdo_ok e1, bdo_ok y1]
    have fr := e2.trans y2
    have w19 : S4.2.1 19 = S.2.1 19 := fr.2.1 19 (by decide)
    have cl : cntL 3010 (gK S4) = cntL 3010 (gK S) := by
      rw [y4, cntL_other g1 (by rw [e4, updN_at, if_neg ve]; omega) (by omega), e4]
      exact cntL_other he (by omega) (by omega)
    refine ⟨S4, r, rfl, EI_pair (e := e) (v := v) hI he h5 ev.symm c5 (fun u hu => ?_) (fun u hu => ?_) (fun u j hu hj => ?_) (fun x hx hne => by rw [Rm.of (fr.1 28 (by decide)) (fr.2.1 27 (by decide))]; exact hRR x hx hne), y3, hR.of (fr.1 28 (by decide)) (fr.2.1 27 (by decide)), fr.mono (by decide) (by decide), by omega, by omega, ⟨a, by rw [fr.1 26 (by decide)]; exact h26, by omega⟩, by omega, by omega⟩
    · show gK S4 u = if u = e ∨ u = v then 7 else gK S u
      rw [y4, updN_at, e4, updN_at]
      by_cases q : u = v
      · rw [if_pos q, if_pos (Or.inr q)]
      · rw [if_neg q]
        by_cases z : u = e
        · rw [if_pos z, if_pos (Or.inl z)]
        · rw [if_neg z, if_neg (fun w => w.elim z q)]
    · show gX S4 u = gX S u
      unfold gX
      rw [fr.2.1 18 (by decide)]
    · show gV S4 u j = gV S u j ∧ gP S4 u j = gP S u j
      unfold gV gP gW
      rw [w19]
      exact ⟨rfl, rfl⟩
  · rw [if_neg (fun q => c5 ((nI_eq (by omega) (by omega)).mp (q.trans (show (5 : Int32) = nI 5 from rfl))))]
    have er : ∀ j, j = k → ern (Gm S) (fun _ => False) v j := fun j q => Or.inl (by show gK S (gV S v j) = 5; rw [q, g3]; exact h5)
    have f57 : (k = 0 → gK S v = 6) → ∃ S' r', fX8_eraseBy_57 N S (nI e) (nI v) (nI k) (nI (gK S v)) = some S' ∧ ESt S0 S S' a r r' := by
      intro h06
      unfold fX8_eraseBy_57
      by_cases k1 : k = 1
      · rw [if_pos (by rw [k1]; rfl)]
        by_cases d3 : gK S v = 3
        · rw [if_pos (by rw [d3]; rfl)]
          exact f81 (by omega) (Or.inr (Or.inl ⟨Or.inr (Or.inl d3), er 1 k1.symm⟩))
        · rw [if_neg (fun q => d3 ((nI_eq (by omega) (by omega)).mp (q.trans (show (3 : Int32) = nI 3 from rfl))))]
          by_cases d4 : gK S v = 4
          · rw [if_pos (by rw [d4]; rfl)]
            exact f81 (by omega) (Or.inr (Or.inl ⟨Or.inr (Or.inr d4), er 1 k1.symm⟩))
          · rw [if_neg (fun q => d4 ((nI_eq (by omega) (by omega)).mp (q.trans (show (4 : Int32) = nI 4 from rfl))))]
            by_cases d1 : gK S v = 1
            · rw [if_pos (by rw [d1]; rfl)]
              exact f81 (by omega) (Or.inr (Or.inl ⟨Or.inl d1, er 1 k1.symm⟩))
            · rw [if_neg (fun q => d1 ((nI_eq (by omega) (by omega)).mp (q.trans (show (1 : Int32) = nI 1 from rfl))))]
              exact f98 (by omega) c5 (by omega)
      · rw [if_neg (fun q => k1 ((nI_eq (by omega) (by omega)).mp (q.trans (show (1 : Int32) = nI 1 from rfl))))]
        by_cases k0 : k = 0
        · have k6 := h06 k0
          unfold fX8_eraseBy_98
          rw [if_neg (fun q => by
            have := (nI_eq (by omega) (by omega)).mp (q.trans (show (2 : Int32) = nI 2 from rfl))
            omega)]
          exact ⟨S, r, rfl, idle c5 (by omega) (by omega) (by omega)⟩
        · exact f98 k0 c5 (fun q => k1 q.1)
    by_cases k0 : k = 0
    · rw [if_pos (by rw [k0]; rfl)]
      by_cases d6 : gK S v = 6
      · rw [if_pos (by rw [d6]; rfl)]
        exact f57 (fun _ => d6)
      · rw [if_neg (fun q => d6 ((nI_eq (by omega) (by omega)).mp (q.trans (show (6 : Int32) = nI 6 from rfl))))]
        exact f81 (by omega) (Or.inl (er 0 k0.symm))
    · rw [if_neg (fun q => k0 ((nI_eq (by omega) (by omega)).mp (q.trans (show (0 : Int32) = nI 0 from rfl))))]
      exact f57 (fun q => absurd q k0)
theorem cntL_A {n : Nat} {K : Nat → Nat} : cntL n K ≤ cntA n K := by
  unfold cntL cntA
  omega
theorem X8_erase {S : St} {N r a : Nat} (hN : Big N) (hG : GM S) (hV : GVr 3010 (Gm S)) (hC : Cov 3010 (Gm S) (Rm S)) (hR : RsR S r) (hr : 3 * cntL 3010 (gK S) + r ≤ 12000) (hc : cntA 3010 (gK S) ≤ 3009) (h26 : S.1 26 = nI a) :
    ∃ S', fX8_erase N S = some S' ∧ ESp 3010 (Gm S) (Gm S') ∧ GVr 3010 (Gm S') ∧ NE 3010 (Gm S') ∧ Cov 3010 (Gm S') (fun _ => False) ∧ GM S' ∧ RsR S' 0 ∧ Fr S S' [21, 22, 26, 28] [17, 18, 19, 20, 27] ∧ cntA 3010 (gK S') ≤ cntA 3010 (gK S) ∧ (∃ b, S'.1 26 = nI b ∧ b + cntL 3010 (gK S') = a + cntL 3010 (gK S)) := by
  have hb := hN
  unfold Big at hb
  have hla := cntL_A (n := 3010) (K := gK S)
  obtain ⟨R, e1, e2⟩ := loop_par (step := fun k x => fX8_erase_0s N k x) (fun t : St × Nat × Nat => t.1) (fun t => 4 * cntL 3010 (gK t.1) + t.2.1)
    (fun t => EI 3010 (Gm S) (Gm t.1) (Rm t.1) ∧ GM t.1 ∧ RsR t.1 t.2.1 ∧ 3 * cntL 3010 (gK t.1) + t.2.1 ≤ 12000 ∧ cntA 3010 (gK t.1) ≤ 3009 ∧ cntA 3010 (gK t.1) ≤ cntA 3010 (gK S) ∧ t.1.1 26 = nI t.2.2 ∧ t.2.2 + cntL 3010 (gK t.1) = a + cntL 3010 (gK S) ∧ Fr S t.1 [21, 22, 26, 28] [17, 18, 19, 20, 27])
    (fun _ S' => ESp 3010 (Gm S) (Gm S') ∧ GVr 3010 (Gm S') ∧ NE 3010 (Gm S') ∧ Cov 3010 (Gm S') (fun _ => False) ∧ GM S' ∧ RsR S' 0 ∧ Fr S S' [21, 22, 26, 28] [17, 18, 19, 20, 27] ∧ cntA 3010 (gK S') ≤ cntA 3010 (gK S) ∧ (∃ b, S'.1 26 = nI b ∧ b + cntL 3010 (gK S') = a + cntL 3010 (gK S))) (by
      rintro f ⟨S1, r1, a1⟩ ⟨i1, i2, i3, i4, i5, i6, i7, i8, i9⟩ ih
      dsimp only at i1 i2 i3 i4 i5 i6 i7 i8 i9 ih ⊢
      unfold fX8_erase_0s
      rw [i3.1]
      by_cases c0 : r1 = 0
      · subst c0
        rw [if_pos (by decide)]
        obtain ⟨d1, d2, d3, d4⟩ := EI_end hV i1 (fun v q => by
          obtain ⟨-, i, hi, -⟩ := (Rm_iff i3).mp q
          omega)
        exact ⟨S1, rfl, d1, d2, d3, d4, i2, i3, i9, i6, a1, i7, i8⟩
      · rw [if_neg (nI_nle (by omega) (by omega)), bnd_eq, nI_sub1 (by omega)]
        obtain ⟨S2, e2⟩ : ∃ z, z = sI S1 28 (nI (r1 - 1)) := ⟨_, rfl⟩
        rw [← e2]
        have f2 : Fr S1 S2 [28] [] := by rw [e2]; exact Fr.I (by decide)
        have z28 : S2.1 28 = nI (r1 - 1) := by rw [e2]; rfl
        obtain ⟨x, x1, x2⟩ := i3.2.2 (r1 - 1) (by omega)
        have x1' : S2.2.1 27 (r1 - 1) = nI x := by rw [f2.2.1 27 (by decide)]; exact x1
        obtain ⟨g2, m2⟩ := i2.of f2 (by decide) (by decide)
        have k2 : gK S2 = gK S1 := congrArg Prod.fst m2
        have r2 : RsR S2 (r1 - 1) := ⟨z28, by omega, fun i hi => by rw [f2.2.1 27 (by decide)]; exact i3.2.2 i (by omega)⟩
        have hRR : ∀ y, Rm S1 y → y ≠ x → Rm S2 y := by
          intro y hy hne
          obtain ⟨y3, i, hi, ei⟩ := (Rm_iff i3).mp hy
          refine (Rm_iff r2).mpr ⟨y3, i, ?_, by rw [f2.2.1 27 (by decide)]; exact ei⟩
          by_cases q : i = r1 - 1
          · rw [q, x1] at ei
            exact absurd ((nI_eq (by omega) (by omega)).mp ei).symm hne
          · omega
        rw [z28, ckx_ok (vp_in_nI (by omega) (by omega)), bnd_eq, nI_clamp (by omega), x1', ckx_ok (vp_in_nI (by omega) (by omega)), nI_clamp (by omega), (g2.1.1 x x2).1]
        have kx := (g2.1.1 x x2).2.1
        have i1' : EI 3010 (Gm S) (Gm S2) (Rm S1) := by rw [m2]; exact i1
        have la := cntL_A (n := 3010) (K := gK S1)
        by_cases c5 : gK S2 x = 5
        · rw [if_pos (by rw [c5]; rfl)]
          obtain ⟨S9, r9, t1, t2, t3, t4, t5, t6, t7, ⟨b2, u2, u3⟩, t8, t9⟩ := X8_eraseBy (S0 := S) (S := S2) (N := N) (a := a1) hN hV i1' g2 r2 hRR (by rw [k2]; omega) x2 c5 (by rw [k2]; exact i5) (by rw [f2.1 26 (by decide)]; exact i7)
          rw [bdo_ok t1]
          rw [k2] at u3 t7 t8 t9
          unfold fX8_erase_42
          refine ih (S9, r9, b2) ⟨t2, t3, t4, by show 3 * cntL 3010 (gK S9) + r9 ≤ 12000; omega, t6, by show cntA 3010 (gK S9) ≤ _; omega, u2, by show b2 + cntL 3010 (gK S9) = _; omega, (i9.trans (f2.mono (by decide) (fun _ h => (List.not_mem_nil h).elim))).trans t5⟩ ?_
          show 4 * cntL 3010 (gK S9) + r9 < 4 * cntL 3010 (gK S1) + r1
          omega
        · rw [if_neg (fun q => c5 ((nI_eq (by omega) (by omega)).mp (q.trans (show (5 : Int32) = nI 5 from rfl))))]
          unfold fX8_erase_42
          refine ih (S2, r1 - 1, a1) ⟨EI_idle (e := x) i1' hRR (fun q => absurd q c5), g2, r2, by show 3 * cntL 3010 (gK S2) + (r1 - 1) ≤ 12000; rw [k2]; omega, by show cntA 3010 (gK S2) ≤ _; rw [k2]; exact i5, by show cntA 3010 (gK S2) ≤ _; rw [k2]; exact i6, by show S2.1 26 = _; rw [f2.1 26 (by decide)]; exact i7, by show a1 + cntL 3010 (gK S2) = _; rw [k2]; exact i8, i9.trans (f2.mono (by decide) (fun _ h => (List.not_mem_nil h).elim))⟩ ?_
          show 4 * cntL 3010 (gK S2) + (r1 - 1) < 4 * cntL 3010 (gK S1) + r1
          rw [k2]
          omega) N (S, r, a) ⟨EI_start hV hC, hG, hR, hr, hc, Nat.le_refl _, h26, rfl, Fr.rf⟩ (by show 4 * cntL 3010 (gK S) + r < N; omega)
  exact ⟨R, e1, e2⟩
