/-! both programs have built: the first graph -/
theorem BG_end {S M : St} {n c : Nat} {lab : Nat → Nat → Nat} {E : Nat → Nat → Nat → Prop} {xh be : Nat → Nat} {U : Nat → Prop} (h : BG S M n c (fun _ _ => False) lab E xh be U) (h1 : 1 ≤ n) (k0 : cK S 0 = 6) :
    GVr 3002 (Gc S) ∧ GVr 3010 (Gm M) ∧ Cov 3002 (Gc S) (Rc S) ∧ Cov 3010 (Gm M) (Rm M) ∧ WG (Gc S) ∧ LbG 3002 (Gc S) lab ∧ Iso 3002 3010 id id (Gc S) (Gm M) ∧ cntL 3010 (gK M) = cntL 3002 (cK S) := by
  obtain ⟨g1, g2, g3, g4, ⟨h5, -⟩, ⟨k1, k2, k3⟩, hw, -, he, hN⟩ := h
  have nP7 : nP 7 = 0 := rfl
  have lt : ∀ v k, v < 3002 → k < nP (cK S v) → v < n := fun v k hv hk => Classical.byContradiction fun z => by
    rw [k1 v (by omega) hv] at hk; exact absurd hk (Nat.not_lt_zero _)
  have gt : ∀ v k, v < 3010 → k < nP (gK M v) → v < n := fun v k hv hk => Classical.byContradiction fun z => by
    rw [k2 v (by omega) hv] at hk; exact absurd hk (Nat.not_lt_zero _)
  have W : ∀ v k, v < n → k < nP (cK S v) → WRb S M n (fun _ _ => False) lab E v k := fun v k hv hk => hw v k hv hk id
  have V : GVr 3002 (Gc S) := by
    refine ⟨fun v k hv hk => ?_, k0, by omega⟩
    obtain ⟨y1, y2, y3, y4, y5, y6, y7, y8, y9, y10, y11⟩ := W v k (lt v k hv hk) hk
    exact ⟨by show cV S v k < 3002; omega, y2, y4, y5, y6⟩
  have Vm : GVr 3010 (Gm M) := by
    refine ⟨fun v k hv hk => ?_, by show gK M 0 = 6; rw [(k3 0 (by omega)).1]; exact k0, by omega⟩
    have vn := gt v k hv hk
    have hk' : k < nP (cK S v) := by rw [← (k3 v vn).1]; exact hk
    obtain ⟨y1, y2, y3, y4, y5, y6, y7, y8, y9, y10, y11⟩ := W v k vn hk'
    obtain ⟨z1, z2, z3, z4, z5, z6, z7, z8, z9, z10, z11⟩ := W _ _ y1 y2
    show gV M v k < 3010 ∧ gP M v k < nP (gK M (gV M v k)) ∧ gV M (gV M v k) (gP M v k) = v ∧ gP M (gV M v k) (gP M v k) = k ∧ ¬ (gV M v k = v ∧ gP M v k = k)
    rw [y7, y8, z7, z8, (k3 _ y1).1]
    exact ⟨by omega, y2, y4, y5, y6⟩
  have rc : ∀ v, v < 3002 → cK S v = 5 → Rc S v ∧ Rm M v := fun v hv h5 => by
    have vn := lt v 0 hv (by rw [h5]; decide)
    rcases he v vn h5 with q | q
    · exact q.elim
    · exact q
  have rm : ∀ v, v < 3010 → gK M v = 5 → Rm M v := fun v hv h5 => by
    have vn := gt v 0 hv (by rw [h5]; decide)
    exact (rc v (by omega) (by rw [← (k3 v vn).1]; exact h5)).2
  have vc : ∀ v k, v < 3002 → k < nP (cK S v) → cV S v k < 3002 := fun v k hv hk => (V.1 v k hv hk).1
  have vm : ∀ v k, v < 3010 → k < nP (gK M v) → gV M v k < 3010 := fun v k hv hk => (Vm.1 v k hv hk).1
  have np5 : ∀ k, k < 5 → 0 < nP k ∧ 1 < nP k := by decide
  have Cc : Cov 3002 (Gc S) (Rc S) := by
    refine ⟨fun v hv h1 h2 => (rc _ (vc v 0 hv (np5 _ h1).1) h2).1, fun v hv h1 h2 => (rc _ (vc v 1 hv ?_) h2).1, fun v hv h1 h2 _ => Or.inl (rc _ (vc v 1 hv ?_) h2).1, fun v hv h1 _ => Or.inl (rc v hv h1).1⟩
    · rcases h1 with q | q | q
      · have q : cK S v = 1 := q
        rw [q]; decide
      · have q : cK S v = 3 := q
        rw [q]; decide
      · have q : cK S v = 4 := q
        rw [q]; decide
    · have h1 : cK S v = 2 := h1
      rw [h1]; decide
  have Cm : Cov 3010 (Gm M) (Rm M) := by
    refine ⟨fun v hv h1 h2 => rm _ (vm v 0 hv (np5 _ h1).1) h2, fun v hv h1 h2 => rm _ (vm v 1 hv ?_) h2, fun v hv h1 h2 _ => Or.inl (rm _ (vm v 1 hv ?_) h2), fun v hv h1 _ => Or.inl (rm v hv h1)⟩
    · rcases h1 with q | q | q
      · have q : gK M v = 1 := q
        rw [q]; decide
      · have q : gK M v = 3 := q
        rw [q]; decide
      · have q : gK M v = 4 := q
        rw [q]; decide
    · have h1 : gK M v = 2 := h1
      rw [h1]; decide
  have LN : ∀ v, v < 3002 → LbN (Gc S) lab v ∧ EnN (Gc S) E xh be U v := fun v hv => by
    by_cases z : v < n
    · exact hN v z
    · have k7 : (Gc S).1 v = 7 := k1 v (by omega) hv
      unfold LbN EnN isC
      rw [k7]
      refine ⟨⟨fun q => ?_, fun q => ?_, fun q => ?_, fun q => ?_, fun q => ?_⟩, ⟨fun q => ?_, fun q => ?_, fun q => ?_, fun q => ?_⟩⟩ <;> omega
  have F : FL 3002 (Gc S) E xh be U := ⟨V, fun v hv => (LN v hv).2, fun v k hv hk => by
    obtain ⟨y1, y2, y3, y4, y5, y6, y7, y8, y9, y10, y11⟩ := W v k (lt v k hv hk) hk
    exact ⟨y10, y11⟩⟩
  refine ⟨V, Vm, Cc, Cm, FL_WG F, ⟨fun v hv => (LN v hv).1, fun v k hv hk => (W v k (lt v k hv hk) hk).2.2.2.2.2.2.2.2.1⟩, ⟨fun v hv => ?_, fun v hv => ?_, rfl, rfl⟩, ?_⟩
  · obtain ⟨hv, hk⟩ := hv
    have hk : cK S v < 5 ∨ cK S v = 6 := hk
    have vn : v < n := Classical.byContradiction fun z => by
      have := k1 v (by omega) hv
      omega
    obtain ⟨z1, z2, z3⟩ := k3 v vn
    refine ⟨⟨by show v < 3010; omega, by show gK M v < 5 ∨ gK M v = 6; rw [z1]; exact hk⟩, rfl, z1, z3, fun k hk' => ?_⟩
    obtain ⟨y1, y2, y3, y4, y5, y6, y7, y8, y9, y10, y11⟩ := W v k vn hk'
    show (cK S (cV S v k) = 5 → gK M (gV M v k) = 5) ∧ (cK S (cV S v k) ≠ 5 → gV M v k = cV S v k ∧ gP M v k = cP S v k)
    rw [y7, y8, (k3 _ y1).1]
    exact ⟨id, fun _ => ⟨rfl, rfl⟩⟩
  · obtain ⟨hv, hk⟩ := hv
    have hk : gK M v < 5 ∨ gK M v = 6 := hk
    have vn : v < n := Classical.byContradiction fun z => by
      have := k2 v (by omega) hv
      omega
    obtain ⟨z1, z2, z3⟩ := k3 v vn
    refine ⟨⟨by show v < 3002; omega, by show cK S v < 5 ∨ cK S v = 6; rw [← z1]; exact hk⟩, rfl, z1.symm, fun q => (z3 (by rw [← z1]; exact q)).symm, fun k hk' => ?_⟩
    have hk' : k < nP (cK S v) := by rw [← z1]; exact hk'
    obtain ⟨y1, y2, y3, y4, y5, y6, y7, y8, y9, y10, y11⟩ := W v k vn hk'
    show (gK M (gV M v k) = 5 → cK S (cV S v k) = 5) ∧ (gK M (gV M v k) ≠ 5 → cV S v k = gV M v k ∧ cP S v k = gP M v k)
    rw [y7, y8, (k3 _ y1).1]
    exact ⟨id, fun _ => ⟨rfl, rfl⟩⟩
  · have e : ∀ j, j < 7 → cnt 3010 (gK M) j = cnt 3002 (cK S) j := fun j hj => by
      have := cnt_more (K := gK M) (j := j) (n := 3002) 8 (fun v q1 q2 => by rw [k2 v (by omega) (by omega)]; omega)
      rw [show 3010 = 3002 + 8 from rfl, this]
      exact cnt_congr 3002 (fun v hv => by
        by_cases z : v < n
        · exact (k3 v z).1
        · rw [k1 v (by omega) hv, k2 v (by omega) (by omega)])
    unfold cntL
    rw [e 0 (by decide), e 1 (by decide), e 2 (by decide), e 3 (by decide), e 4 (by decide)]
/-- what taking a term changes -/
def FrT (S S' : St) : Prop := (∀ k, k ∉ [3, 44, 48, 49, 61, 62, 63, 143] → S'.1 k = S.1 k) ∧ (∀ k, k ∉ [1, 40, 41, 42, 43, 45, 46, 47] → S'.2.1 k = S.2.1 k) ∧ S'.2.2.2 = S.2.2.2
theorem FrT.trans {S S1 S2 : St} (h : FrT S S1) (g : FrT S1 S2) : FrT S S2 := ⟨fun k hk => (g.1 k hk).trans (h.1 k hk), fun k hk => (g.2.1 k hk).trans (h.2.1 k hk), g.2.2.trans h.2.2⟩
theorem Fr.t {S S' : St} {is as : List Nat} (h : Fr S S' is as) (h1 : ∀ k ∈ is, k ∈ [3, 44, 48, 49, 61, 62, 63, 143]) (h2 : ∀ k ∈ as, k ∈ [1, 40, 41, 42, 43, 45, 46, 47]) : FrT S S' := ⟨fun k hk => h.1 k (fun q => hk (h1 k q)), fun k hk => h.2.1 k (fun q => hk (h2 k q)), by rw [h.2.2]⟩
theorem FrB.t {S S' : St} (h : FrB S S') : FrT S S' := ⟨fun k hk => h.1 k (fun q => hk (by
  have : ∀ k ∈ [3, 44, 48], k ∈ [3, 44, 48, 49, 61, 62, 63, 143] := by decide
  exact this k q)), h.2.1, h.2.2⟩
/-- a term, as both have read it -/
def TR (S M : St) (w bn : Nat) : Prop := ∃ (wd : Nat → Wd) (xh : Nat → Nat) (us : List Nat) (v : Nat), S.1 83 = nI w ∧ 1 ≤ w ∧ w ≤ 162 ∧ M.1 14 = nI bn ∧ (∀ k, k < w → WdR S M k (wd k)) ∧ Run wd xh bn w [(0, [], w - 1)] us v ∧ v + bn ≤ 80 ∧ us.length ≤ bn
