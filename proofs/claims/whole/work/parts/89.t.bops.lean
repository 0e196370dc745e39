/-! both programs build: nodes and wires, side by side -/
def WRb (S M : St) (n : Nat) (D : Nat → Nat → Prop) (lab : Nat → Nat → Nat) (E : Nat → Nat → Nat → Prop) (v k : Nat) : Prop := cV S v k < n ∧ cP S v k < nP (cK S (cV S v k)) ∧ ¬ D (cV S v k) (cP S v k) ∧ cV S (cV S v k) (cP S v k) = v ∧ cP S (cV S v k) (cP S v k) = k ∧ ¬ (cV S v k = v ∧ cP S v k = k) ∧ gV M v k = cV S v k ∧ gP M v k = cP S v k ∧ lab (cV S v k) (cP S v k) = lab v k ∧ (∀ j, E (cV S v k) (cP S v k) j ↔ E v k j) ∧ (outP (cK S v) k ↔ ¬ outP (cK S (cV S v k)) (cP S v k))
/-- n nodes so far; D: ports without a wire; lab, E: labels of the ports; c: those that wait at the reference -/
def BG (S M : St) (n c : Nat) (D : Nat → Nat → Prop) (lab : Nat → Nat → Nat) (E : Nat → Nat → Nat → Prop) (xh be : Nat → Nat) (U : Nat → Prop) : Prop :=
  GC S ∧ GM M ∧ (∃ r, RcR S r) ∧ (∃ r, r ≤ c ∧ RsR M r) ∧
  (n ≤ 3002 ∧ S.1 44 = nI (3002 - n) ∧ (∀ i, i < 3002 → S.2.1 43 i = nI (3001 - i)) ∧ M.1 21 = nI (3010 - n) ∧ ∀ i, i < 3010 → M.2.1 20 i = nI (3009 - i)) ∧
  ((∀ v, n ≤ v → v < 3002 → cK S v = 7) ∧ (∀ v, n ≤ v → v < 3010 → gK M v = 7) ∧ ∀ v, v < n → gK M v = cK S v ∧ cK S v < 7 ∧ (cK S v < 5 → gX M v = cX S v)) ∧
  (∀ v k, v < n → k < nP (cK S v) → ¬ D v k → WRb S M n D lab E v k) ∧
  (∀ v k, D v k → v < n ∧ k < nP (cK S v)) ∧
  (∀ v, v < n → cK S v = 5 → D v 0 ∨ (Rc S v ∧ Rm M v)) ∧
  (∀ v, v < n → LbN (Gc S) lab v ∧ EnN (Gc S) E xh be U v)
theorem BG.cnt {S M : St} {n c : Nat} {D : Nat → Nat → Prop} {lab : Nat → Nat → Nat} {E : Nat → Nat → Nat → Prop} {xh be : Nat → Nat} {U : Nat → Prop} (h : BG S M n c D lab E xh be U) : cntA 3002 (cK S) = n ∧ cntA 3010 (gK M) = n := by
  obtain ⟨h1, h2, -, -, ⟨h5, h6, -, h7, -⟩, -⟩ := h
  obtain ⟨s, a1, a2, -⟩ := h1.2.1
  obtain ⟨t, b1, b2, -⟩ := h2.2
  rw [h6] at a1
  rw [h7] at b1
  have := (nI_eq (by omega) (by omega)).mp a1
  have := (nI_eq (by omega) (by omega)).mp b1
  omega
theorem make_at {S : St} {N k s v : Nat} {x : Int32} {R : Int32 × St} (h44 : S.1 44 = nI s) (h1 : 1 ≤ s) (h2 : s ≤ 3002) (hk : k < 7) (h43 : S.2.1 43 (s - 1) = nI v) (hv : v < 3002) (h : fX2_make N S (nI k) x = some R) : R.1 = nI v := by
  unfold fX2_make at h
  rw [h44, show (1 : Int32) = nI 1 from rfl, if_neg (nI_nlt (by omega) (by omega)), show (3002 : Int32) = nI 3002 from rfl, if_neg (nI_nlt (by omega) (by omega)), if_neg (nI_pos (by omega)), show (7 : Int32) = nI 7 from rfl, if_pos (nI_lt hk (by omega)), pk_sub (by omega), ckx_ok (vp_in_nI (by omega) (by omega)), bnd_eq, nI_clamp (by omega), h43, if_neg (nI_pos (by omega)), if_pos (nI_lt hv (by omega)), bnd_eq, ckx_ok (vp_in_nI (by omega) (by omega)), bnd_eq, ckx_ok (vp_in_nI (by omega) (by omega)), bnd_eq, ckx_ok (vp_in_nI (by omega) (by omega)), ckx_ok (vp_in_nI (by omega) (by omega)), bnd_eq] at h
  rw [← Option.some.inj h]
theorem node_at {S : St} {N s v : Nat} {k x : Int32} {R : Int32 × St} (h21 : S.1 21 = nI s) (h1 : 1 ≤ s) (h2 : s ≤ 3010) (h20 : S.2.1 20 (s - 1) = nI v) (hv : v < 3010) (h : fX8_node N S k x = some R) : R.1 = nI v := by
  unfold fX8_node at h
  have e1 : (sI S 21 (S.1 21 - 1)).1 21 = nI (s - 1) := by
    show S.1 21 - 1 = _
    rw [h21, nI_sub1 (by omega)]
  rw [bnd_eq, e1, ckx_ok (vp_in_nI (by omega) (by omega)), nI_clamp (by omega), bnd_eq, sI_2, h20, ckx_ok (vp_in_nI (by omega) (by omega)), bnd_eq, ckx_ok (vp_in_nI (by omega) (by omega)), bnd_eq, bnd_eq] at h
  rw [← Option.some.inj h]
theorem BG_make {S M : St} {N n c : Nat} {D : Nat → Nat → Prop} {lab : Nat → Nat → Nat} {E : Nat → Nat → Nat → Prop} {xh be be' : Nat → Nat} {U U' : Nat → Prop} (h : BG S M n c D lab E xh be U) (hn : n < 3000) {k y : Nat} {x : Int32} (hk : k < 7) (hx : k < 5 → x = nI y) (hy : y ≤ 63) (lb : Nat → Nat) (e : Nat → Nat → Prop) (hU : ∀ i, U i → U' i ∧ be' i = be i)
    (hnew : ∀ G : Gr, G.1 n = k → (k < 5 → G.2.1 n = y) → LbN G (fun v p => if v = n then lb p else lab v p) n ∧ EnN G (fun v p => if v = n then e p else E v p) xh be' U' n) :
    ∃ S' M', fX2_make N S (nI k) x = some (nI n, S') ∧ fX8_node N M (nI k) (nI y) = some (nI n, M') ∧ Fr S S' [44] [40, 41, 45] ∧ Fr M M' [21, 22] [17, 18] ∧ cK S' = updN (cK S) n k ∧ BG S' M' (n + 1) c (fun v p => D v p ∨ (v = n ∧ p < nP k)) (fun v p => if v = n then lb p else lab v p) (fun v p => if v = n then e p else E v p) xh be' U' := by
  obtain ⟨cn, cm⟩ := h.cnt
  obtain ⟨h1, h2, ⟨r, h3⟩, ⟨r', hr', h4⟩, ⟨h5, s44, s43, s21, s20⟩, ⟨k1, k2, k3⟩, hw, hd, he, hN⟩ := h
  obtain ⟨v, S', a1, a2, a3, a4, a5, a6, a7, a8, a9⟩ := X2_make (N := N) (k := k) (x := x) h1 (by omega) hk (fun q => ⟨y, hx q, hy⟩)
  have ev : v = n := by
    have := make_at (N := N) (s := 3002 - n) (v := n) s44 (by omega) (by omega) hk (by rw [s43 _ (by omega)]; congr 1; omega) (by omega) a1
    exact (nI_eq (by omega) (by omega)).mp this
  subst ev
  obtain ⟨w, M', b1, b2, b3, b4, b5, b6, b7, b8⟩ := X8_node (N := N) (k := k) (x := y) h2 (by omega) hk hy
  have ew : w = v := by
    have := node_at (N := N) (s := 3010 - v) (v := v) s21 (by omega) (by omega) (by rw [s20 _ (by omega)]; congr 1; omega) (by omega) b1
    exact (nI_eq (by omega) (by omega)).mp this
  subst ew
  have xk : k < 5 → cX S' w = y := fun q => by
    have z := a8 q
    rw [hx q] at z
    have o := (a5.1.1 w a2).2.2 (by rw [a6, updN_at, if_pos rfl]; exact q)
    exact ((nI_eq (by omega) (by omega)).mp z).symm
  have ck : ∀ u, u ≠ w → cK S' u = cK S u := fun u hu => by rw [a6, updN_at, if_neg hu]
  have ckw : cK S' w = k := by rw [a6, updN_at, if_pos rfl]
  have cv : cV S' = cV S ∧ cP S' = cP S := by
    have ew : cW S' = cW S := by funext p; unfold cW; rw [a4.2.1 42 (by decide)]
    exact ⟨by funext v k; unfold cV; rw [ew], by funext v k; unfold cP; rw [ew]⟩
  have gv : gV M' = gV M ∧ gP M' = gP M := by
    have ew : gW M' = gW M := by funext p; unfold gW; rw [b4.2.1 19 (by decide)]
    exact ⟨by funext v k; unfold gV; rw [ew], by funext v k; unfold gP; rw [ew]⟩
  have rc : ∀ z, Rc S z → Rc S' z := fun z q => by unfold Rc at q ⊢; rw [a4.2.1 47 (by decide)]; exact q
  have rm : ∀ z, Rm M z → Rm M' z := fun z q => by rw [Rm.of (b4.1 28 (by decide)) (b4.2.1 27 (by decide))]; exact q
  refine ⟨S', M', a1, b1, a4, b4, a6, a5, b5, ⟨r, ?_⟩, ⟨r', hr', h4.of (b4.1 28 (by decide)) (b4.2.1 27 (by decide))⟩, ⟨by omega, ?_, ?_, ?_, ?_⟩, ⟨fun u q1 q2 => ?_, fun u q1 q2 => ?_, fun u q1 => ?_⟩, fun u p q1 q2 q3 => ?_, fun u p q => ?_, fun u q1 q2 => ?_, fun u q1 => ?_⟩
  · unfold RcR Rc
    rw [a4.1 48 (by decide), a4.2.1 46 (by decide), a4.2.1 47 (by decide)]
    exact h3
  · obtain ⟨s, z1, z2, -⟩ := a5.2.1
    rw [z1]; congr 1; omega
  · rw [a4.2.1 43 (by decide)]; exact s43
  · obtain ⟨s, z1, z2, -⟩ := b5.2
    rw [z1]; congr 1; omega
  · rw [b4.2.1 20 (by decide)]; exact s20
  · rw [ck u (by omega)]; exact k1 u (by omega) q2
  · rw [b6, updN_at, if_neg (by omega)]; exact k2 u (by omega) q2
  · by_cases z : u = w
    · rw [z, ckw, b6, updN_at, if_pos rfl, b7, updN_at, if_pos rfl]
      exact ⟨rfl, hk, fun q => (xk q).symm⟩
    · rw [ck u z, b6, updN_at, if_neg z, b7, updN_at, if_neg z, a7 u z]
      exact k3 u (by omega)
  · by_cases z : u = w
    · exact absurd (Or.inr ⟨z, by rw [z, ckw] at q2; exact q2⟩) q3
    · rw [ck u z] at q2
      obtain ⟨y1, y2, y3, y4, y5, y6, y7, y8, y9, y10, y11⟩ := hw u p (by omega) q2 (fun q => q3 (Or.inl q))
      have nw : cV S u p ≠ w := by omega
      unfold WRb
      rw [cv.1, cv.2, gv.1, gv.2, ck _ nw, ck u z]
      dsimp only
      rw [if_neg nw, if_neg nw, if_neg z, if_neg z]
      exact ⟨by omega, y2, fun q => q.elim y3 (fun q => nw q.1), y4, y5, y6, y7, y8, y9, y10, y11⟩
  · rcases q with q | ⟨q1, q2⟩
    · obtain ⟨z1, z2⟩ := hd u p q
      rw [ck u (by omega)]
      exact ⟨by omega, z2⟩
    · rw [q1, ckw]
      exact ⟨by omega, q2⟩
  · by_cases z : u = w
    · rw [z, ckw] at q2
      exact Or.inl (Or.inr ⟨z, by rw [q2]; decide⟩)
    · rw [ck u z] at q2
      rcases he u (by omega) q2 with q | q
      · exact Or.inl (Or.inl q)
      · exact Or.inr ⟨rc u q.1, rm u q.2⟩
  · by_cases z : u = w
    · rw [z]
      exact hnew (Gc S') ckw xk
    · obtain ⟨z1, z2⟩ := hN u (by omega)
      have ek : (Gc S').1 u = (Gc S).1 u := ck u z
      have ex : (Gc S').2.1 u = (Gc S).2.1 u := a7 u z
      refine ⟨?_, ?_⟩
      · unfold LbN at z1 ⊢
        rw [ek, ex]
        simp only [if_neg z]
        exact z1
      · unfold EnN at z2 ⊢
        rw [ek, ex]
        simp only [if_neg z]
        refine ⟨fun q => ?_, z2.2⟩
        obtain ⟨i, i1, i2, i3⟩ := z2.1 q
        obtain ⟨u1, u2⟩ := hU i i1
        exact ⟨i, u1, by rw [u2]; exact i2, i3⟩
theorem BG_link {S M : St} {N n c : Nat} {D : Nat → Nat → Prop} {lab : Nat → Nat → Nat} {E : Nat → Nat → Nat → Prop} {xh be : Nat → Nat} {U : Nat → Prop} (h : BG S M n c D lab E xh be U) (hc : c + 2 ≤ 12000) {a i b j : Nat} (d1 : D a i) (d2 : D b j) (ne : ¬ (a = b ∧ i = j)) (hl : lab a i = lab b j) (hE : ∀ t, E a i t ↔ E b j t) (ho : outP (cK S a) i ↔ ¬ outP (cK S b) j) :
    ∃ S' M' c', fX2_link N S (nI (4 * a + i)) (nI (4 * b + j)) = some S' ∧ fX8_wire N M (nI (3 * a + i)) (nI (3 * b + j)) = some M' ∧ Fr S S' [48] [42, 46, 47] ∧ Fr M M' [28] [19, 27] ∧ cK S' = cK S ∧ c' ≤ c + 2 ∧ (cK S a ≠ 5 → cK S b ≠ 5 → c' = c) ∧ BG S' M' n c' (fun v p => D v p ∧ ¬ (v = a ∧ p = i) ∧ ¬ (v = b ∧ p = j)) lab E xh be U := by
  obtain ⟨h1, h2, ⟨r, h3⟩, ⟨r', hr', h4⟩, ⟨h5, s44, s43, s21, s20⟩, ⟨k1, k2, k3⟩, hw, hd, he, hN⟩ := h
  obtain ⟨an, ai⟩ := hd a i d1
  obtain ⟨bn, bj⟩ := hd b j d2
  have np3 : ∀ k, nP k ≤ 3 := nP_le
  have ai3 := np3 (cK S a)
  have bj3 := np3 (cK S b)
  obtain ⟨S', q, a1, a2, a3, a4, a5, a6, a7, a8, a9, a10⟩ := X2_link (N := N) h1 h3 (show a < 3002 by omega) (show i < 4 by omega) (show b < 3002 by omega) (show j < 4 by omega)
  obtain ⟨M', q', b1, b2, b3, b4, b5, b6, b7, b8, b9, b10⟩ := X8_wire (N := N) h2 h4 (show a < 3010 by omega) (show i < 3 by omega) (show b < 3010 by omega) (show j < 3 by omega) (by omega)
  have ck : cK S' = cK S := by funext v; unfold cK; rw [a2.2.1 40 (by decide)]
  have cx : cX S' = cX S := by funext v; unfold cX; rw [a2.2.1 41 (by decide)]
  have gk : gK M' = gK M := by funext v; unfold gK; rw [b2.2.1 17 (by decide)]
  have gx : gX M' = gX M := by funext v; unfold gX; rw [b2.2.1 18 (by decide)]
  have ga := (k3 a an).1
  have gb := (k3 b bn).1
  refine ⟨S', M', if cK S a ≠ 5 ∧ cK S b ≠ 5 then c else c + 2, a1, b1, a2, b2, ck, ?_, fun z1 z2 => if_pos ⟨z1, z2⟩, a3, b3, ⟨q, a5⟩, ⟨q', ?_, b5⟩, ⟨h5, by rw [a2.1 44 (by decide)]; exact s44, by rw [a2.2.1 43 (by decide)]; exact s43, by rw [b2.1 21 (by decide)]; exact s21, by rw [b2.2.1 20 (by decide)]; exact s20⟩, ⟨by rw [ck]; exact k1, by rw [gk]; exact k2, by rw [ck, gk, cx, gx]; exact k3⟩, fun u p q1 q2 q3 => ?_, fun u p z => by rw [ck]; exact hd u p z.1, fun u q1 q2 => ?_, fun u q1 => ?_⟩
  · split <;> omega
  · by_cases z : cK S a ≠ 5 ∧ cK S b ≠ 5
    · rw [if_pos z, b7 (by rw [ga]; exact z.1) (by rw [gb]; exact z.2)]
      exact hr'
    · rw [if_neg z]; omega
  · rw [ck] at q2
    have p3 := np3 (cK S u)
    have cvu := a4 u p (by omega)
    have gvu := b4 u p (by omega)
    by_cases zb : u = b ∧ p = j
    · obtain ⟨z1, z2⟩ := zb
      subst z1 z2
      rw [if_pos ⟨rfl, rfl⟩, if_pos ⟨rfl, rfl⟩] at cvu gvu
      have cva := a4 a i (by omega)
      rw [if_neg ne, if_pos ⟨rfl, rfl⟩, if_neg ne, if_pos ⟨rfl, rfl⟩] at cva
      have gvu1 : gV M' u p = a := gvu.1
      have gvu2 : gP M' u p = i := gvu.2
      unfold WRb
      rw [cvu.1, cvu.2, cva.1, cva.2, gvu1, gvu2, ck]
      refine ⟨an, ai, fun z => z.2.1 ⟨rfl, rfl⟩, rfl, rfl, ne, rfl, rfl, hl, hE, ?_⟩
      have := ho
      constructor
      · intro z1 z2; exact (this.mp z2) z1
      · intro z1
        refine Classical.byContradiction fun z2 => z1 (this.mpr z2)
    · by_cases za : u = a ∧ p = i
      · obtain ⟨z1, z2⟩ := za
        subst z1 z2
        rw [if_neg zb, if_pos ⟨rfl, rfl⟩, if_neg zb, if_pos ⟨rfl, rfl⟩] at cvu gvu
        have cvb := a4 b j (by omega)
        rw [if_pos ⟨rfl, rfl⟩, if_pos ⟨rfl, rfl⟩] at cvb
        have gvu1 : gV M' u p = b := gvu.1
        have gvu2 : gP M' u p = j := gvu.2
        unfold WRb
        rw [cvu.1, cvu.2, cvb.1, cvb.2, gvu1, gvu2, ck]
        exact ⟨bn, bj, fun z => z.2.2 ⟨rfl, rfl⟩, rfl, rfl, fun z => ne ⟨z.1.symm, z.2.symm⟩, rfl, rfl, hl.symm, fun t => (hE t).symm, ho⟩
      · rw [if_neg zb, if_neg za, if_neg zb, if_neg za] at cvu gvu
        have gvu1 : gV M' u p = gV M u p := gvu.1
        have gvu2 : gP M' u p = gP M u p := gvu.2
        obtain ⟨y1, y2, y3, y4, y5, y6, y7, y8, y9, y10, y11⟩ := hw u p q1 q2 (fun z => q3 ⟨z, za, zb⟩)
        have w3 := np3 (cK S (cV S u p))
        have nb : ¬ (cV S u p = b ∧ cP S u p = j) := fun z => y3 (by rw [z.1, z.2]; exact d2)
        have na : ¬ (cV S u p = a ∧ cP S u p = i) := fun z => y3 (by rw [z.1, z.2]; exact d1)
        have cvw := a4 (cV S u p) (cP S u p) (by omega)
        rw [if_neg nb, if_neg na, if_neg nb, if_neg na] at cvw
        unfold WRb
        rw [cvu.1, cvu.2, cvw.1, cvw.2, gvu1, gvu2, ck]
        exact ⟨y1, y2, fun z => y3 z.1, y4, y5, y6, y7, y8, y9, y10, y11⟩
  · rw [ck] at q2
    rcases he u q1 q2 with z | ⟨z1, z2⟩
    · by_cases za : u = a
      · right
        rw [za] at q2 ⊢
        exact ⟨a9 q2, b9 (by rw [ga]; exact q2)⟩
      · by_cases zb : u = b
        · right
          rw [zb] at q2 ⊢
          exact ⟨a10 q2, b10 (by rw [gb]; exact q2)⟩
        · exact Or.inl ⟨z, fun y => za y.1, fun y => zb y.1⟩
    · exact Or.inr ⟨a8 u z1, b8 u z2⟩
  · obtain ⟨z1, z2⟩ := hN u q1
    have ek : (Gc S').1 = (Gc S).1 := ck
    have ex : (Gc S').2.1 = (Gc S).2.1 := cx
    unfold LbN EnN at *
    rw [ek, ex]
    exact ⟨z1, z2⟩
