/-! both programs clear their graphs -/
theorem CL_two {N : Nat} : ∀ (d k : Nat) (S : St) (f : Nat), k + d = 7 → d < f → ∃ S', loopN (fun k x => fX2_clear_42s N k x.1 x.2) f (S, nI k) = some S' ∧ Fr S S' [44, 48, 49] [45] ∧ S'.1 44 = nI 3002 ∧ S'.1 48 = 0 ∧ S'.1 49 = 0 ∧ (∀ j, k ≤ j → j < 7 → S'.2.1 45 j = 0) ∧ ∀ j, j < k → S'.2.1 45 j = S.2.1 45 j
  | 0, k, S, f, hk, hf => by
    obtain ⟨f, rfl⟩ : ∃ f', f = f' + 1 := ⟨f - 1, by omega⟩
    refine ⟨sI (sI (sI S 44 3002) 48 0) 49 0, ?_, ((Fr.I (by decide)).trans (Fr.I (by decide))).trans (Fr.I (by decide)), ?_, ?_, ?_, fun j q1 q2 => by omega, fun j _ => rfl⟩
    · show fX2_clear_42s N _ S (nI k) = _
      unfold fX2_clear_42s
      rw [show (7 : Int32) = nI 7 from rfl, if_pos (nI_le (by omega) (by omega)), bnd_eq, bnd_eq, bnd_eq]
    · rw [sI_ne (by decide), sI_ne (by decide), sI_at]; rfl
    · rw [sI_ne (by decide), sI_at]
    · rw [sI_at]
  | d + 1, k, S, f, hk, hf => by
    obtain ⟨f, rfl⟩ : ∃ f', f = f' + 1 := ⟨f - 1, by omega⟩
    obtain ⟨S1, e1⟩ : ∃ z, z = sA S 45 (upd (S.2.1 45) k 0) := ⟨_, rfl⟩
    have f1 : Fr S S1 [44, 48, 49] [45] := by rw [e1]; exact Fr.A (by decide)
    have w1 : S1.2.1 45 = upd (S.2.1 45) k 0 := by rw [e1]; exact sA_at
    obtain ⟨S', a1, a2, a3, a4, a5, a6, a7⟩ := CL_two (N := N) d (k + 1) S1 f (by omega) (by omega)
    refine ⟨S', ?_, f1.trans a2, a3, a4, a5, fun j q1 q2 => ?_, fun j q => ?_⟩
    · show fX2_clear_42s N (loopN (fun k x => fX2_clear_42s N k x.1 x.2) f) S (nI k) = _
      obtain ⟨L, eL⟩ : ∃ L, L = loopN (fun k x => fX2_clear_42s N k x.1 x.2) f := ⟨_, rfl⟩
      rw [← eL] at a1 ⊢
      unfold fX2_clear_42s
      rw [show (7 : Int32) = nI 7 from rfl, if_neg (fun q => absurd ((nI_leI (by omega) (by omega)).mp q) (by omega)), ckx_ok (vp_in_nI (by omega) (by omega)), bnd_eq, bnd_eq, nI_clamp (by omega), show nI k + (1 : Int32) = nI (k + 1) from nI_1 _, ← e1]
      exact a1
    · by_cases z : j = k
      · rw [z, a7 k (by omega), w1, upd_at, if_pos rfl]
      · exact a6 j (by omega) q2
    · rw [a7 j (by omega), w1, upd_at, if_neg (by omega)]
theorem CL_one {N : Nat} : ∀ (d k : Nat) (S : St) (f : Nat), k + d = 3002 → d < f → ∃ S', loopN (fun k x => fX2_clear_2s N k x.1 x.2) f (S, nI k) = fX2_clear_42 N (S', 0) ∧ Fr S S' [] [40, 43, 47] ∧ (∀ j, k ≤ j → j < 3002 → S'.2.1 40 j = -1 ∧ S'.2.1 47 j = 0 ∧ S'.2.1 43 j = nI (3001 - j)) ∧ ∀ j, j < k → S'.2.1 40 j = S.2.1 40 j ∧ S'.2.1 47 j = S.2.1 47 j ∧ S'.2.1 43 j = S.2.1 43 j
  | 0, k, S, f, hk, hf => by
    obtain ⟨f, rfl⟩ : ∃ f', f = f' + 1 := ⟨f - 1, by omega⟩
    refine ⟨S, ?_, Fr.rf, fun j q1 q2 => by omega, fun j _ => ⟨rfl, rfl, rfl⟩⟩
    show fX2_clear_2s N _ S (nI k) = _
    unfold fX2_clear_2s
    rw [show (3002 : Int32) = nI 3002 from rfl, if_pos (nI_le (by omega) (by omega)), bnd_eq]
  | d + 1, k, S, f, hk, hf => by
    obtain ⟨f, rfl⟩ : ∃ f', f = f' + 1 := ⟨f - 1, by omega⟩
    obtain ⟨S1, e1⟩ : ∃ z, z = sA S 40 (upd (S.2.1 40) k (-1)) := ⟨_, rfl⟩
    obtain ⟨S2, e2⟩ : ∃ z, z = sA S1 47 (upd (S1.2.1 47) k 0) := ⟨_, rfl⟩
    obtain ⟨S3, e3⟩ : ∃ z, z = sA S2 43 (upd (S2.2.1 43) k (nI (3001 - k))) := ⟨_, rfl⟩
    have f3 : Fr S S3 [] [40, 43, 47] := by
      rw [e3, e2, e1]
      exact ((Fr.A (by decide)).trans (Fr.A (by decide))).trans (Fr.A (by decide))
    have w40 : S3.2.1 40 = upd (S.2.1 40) k (-1) := by rw [e3, sA_ne (by decide), e2, sA_ne (by decide), e1, sA_at]
    have w47 : S3.2.1 47 = upd (S.2.1 47) k 0 := by rw [e3, sA_ne (by decide), e2, sA_at, e1, sA_ne (by decide)]
    have w43 : S3.2.1 43 = upd (S.2.1 43) k (nI (3001 - k)) := by rw [e3, sA_at, e2, sA_ne (by decide), e1, sA_ne (by decide)]
    obtain ⟨S', a1, a2, a3, a4⟩ := CL_one (N := N) d (k + 1) S3 f (by omega) (by omega)
    refine ⟨S', ?_, f3.trans a2, fun j q1 q2 => ?_, fun j q => ?_⟩
    · show fX2_clear_2s N (loopN (fun k x => fX2_clear_2s N k x.1 x.2) f) S (nI k) = _
      obtain ⟨L, eL⟩ : ∃ L, L = loopN (fun k x => fX2_clear_2s N k x.1 x.2) f := ⟨_, rfl⟩
      rw [← eL] at a1 ⊢
      unfold fX2_clear_2s
      rw [show (3002 : Int32) = nI 3002 from rfl, if_neg (fun q => absurd ((nI_leI (by omega) (by omega)).mp q) (by omega)), ckx_ok (vp_in_nI (by omega) (by omega)), bnd_eq, nI_clamp (by omega), ← e1, ckx_ok (vp_in_nI (by omega) (by omega)), bnd_eq, show vp_nar .boolean (0 : Int32) = 0 from rfl, ← e2, ckx_ok (vp_in_nI (by omega) (by omega)), bnd_eq, show (3001 : Int32) = nI 3001 from rfl, pk_sub (by omega), ← e3, bnd_eq, show nI k + (1 : Int32) = nI (k + 1) from nI_1 _]
      exact a1
    · by_cases z : j = k
      · obtain ⟨b1, b2, b3⟩ := a4 k (by omega)
        rw [z, b1, b2, b3, w40, w47, w43, upd_at, upd_at, upd_at, if_pos rfl, if_pos rfl, if_pos rfl]
        exact ⟨rfl, rfl, rfl⟩
      · exact a3 j (by omega) q2
    · obtain ⟨b1, b2, b3⟩ := a4 j (by omega)
      rw [b1, b2, b3, w40, w47, w43, upd_at, upd_at, upd_at, if_neg (by omega), if_neg (by omega), if_neg (by omega)]
      exact ⟨rfl, rfl, rfl⟩
theorem X2_clear {S : St} {N : Nat} (hN : Big N) : ∃ S', fX2_clear N S = some S' ∧ Fr S S' [44, 48, 49] [40, 43, 45, 47] ∧ S'.1 44 = nI 3002 ∧ S'.1 48 = 0 ∧ S'.1 49 = 0 ∧ (∀ j, j < 7 → S'.2.1 45 j = 0) ∧ ∀ j, j < 3002 → S'.2.1 40 j = -1 ∧ S'.2.1 47 j = 0 ∧ S'.2.1 43 j = nI (3001 - j) := by
  have hb := hN
  unfold Big at hb
  obtain ⟨S1, a1, a2, a3, -⟩ := CL_one (N := N) 3002 0 S N (by omega) (by omega)
  obtain ⟨S2, b1, b2, b3, b4, b5, b6, -⟩ := CL_two (N := N) 7 0 S1 N (by omega) (by omega)
  refine ⟨S2, ?_, (a2.mono (by decide) (by decide)).trans (b2.mono (by decide) (by decide)), b3, b4, b5, fun j hj => b6 j (Nat.zero_le _) hj, fun j hj => ?_⟩
  · unfold fX2_clear fX2_clear_2
    rw [bnd_eq]
    exact a1.trans b1
  · rw [b2.2.1 40 (by decide), b2.2.1 47 (by decide), b2.2.1 43 (by decide)]
    exact a3 j (Nat.zero_le _) hj
theorem BM_loop {N top : Nat} : ∀ (d : Nat) (M : St) (f : Nat), d ≤ 3010 → d < f → M.1 21 = nI (3010 - d) → (∀ i, i < 3010 - d → M.2.1 20 i = nI (3009 - i) ∧ M.2.1 17 (3009 - i) = 7) → ∃ M', loopN (fun k x => fX8_begin_9s N k x.1 x.2.1 x.2.2) f (M, nI top, nI d - 1) = fX8_begin_9s N (fun _ => none) M' (nI top) (nI 0 - 1) ∧ Fr M M' [21] [17, 20] ∧ M'.1 21 = nI 3010 ∧ ∀ i, i < 3010 → M'.2.1 20 i = nI (3009 - i) ∧ M'.2.1 17 i = 7
  | 0, M, f, hd, hf, h21, h => by
    obtain ⟨f, rfl⟩ : ∃ f', f = f' + 1 := ⟨f - 1, by omega⟩
    refine ⟨M, ?_, Fr.rf, h21, fun i hi => ⟨(h i (by omega)).1, ?_⟩⟩
    · show fX8_begin_9s N _ M (nI top) (nI 0 - 1) = _
      unfold fX8_begin_9s
      rw [if_pos (show nI 0 - 1 < 0 by decide), if_pos (show nI 0 - 1 < 0 by decide)]
    · have := (h (3009 - i) (by omega)).2
      rw [show 3009 - (3009 - i) = i by omega] at this
      exact this
  | d + 1, M, f, hd, hf, h21, h => by
    obtain ⟨f, rfl⟩ : ∃ f', f = f' + 1 := ⟨f - 1, by omega⟩
    obtain ⟨M1, e1⟩ : ∃ z, z = sA M 17 (upd (M.2.1 17) d 7) := ⟨_, rfl⟩
    obtain ⟨M2, e2⟩ : ∃ z, z = sA M1 20 (upd (M1.2.1 20) (3010 - (d + 1)) (nI d)) := ⟨_, rfl⟩
    obtain ⟨M3, e3⟩ : ∃ z, z = sI M2 21 (nI (3010 - d)) := ⟨_, rfl⟩
    have f3 : Fr M M3 [21] [17, 20] := by
      rw [e3, e2, e1]
      exact ((Fr.A (by decide)).trans (Fr.A (by decide))).trans (Fr.I (by decide))
    have w17 : M3.2.1 17 = upd (M.2.1 17) d 7 := by
      rw [e3, sI_2, e2, sA_ne (by decide), e1, sA_at]
    have w20 : M3.2.1 20 = upd (M.2.1 20) (3010 - (d + 1)) (nI d) := by
      rw [e3, sI_2, e2, sA_at, e1, sA_ne (by decide)]
    have m1 : M1.1 21 = nI (3010 - (d + 1)) := by rw [e1]; exact h21
    have m2 : M2.1 21 = nI (3010 - (d + 1)) := by rw [e2]; exact m1
    obtain ⟨M', a1, a2, a3, a4⟩ := BM_loop (N := N) (top := top) d M3 f (by omega) (by omega) (by rw [e3, sI_at]) (fun i hi => by
      rw [w17, w20, upd_at, upd_at]
      by_cases z : i = 3010 - (d + 1)
      · rw [if_pos z, if_pos (by omega)]
        exact ⟨by rw [show d = 3009 - i by omega], rfl⟩
      · rw [if_neg z, if_neg (by omega)]
        exact h i (by omega))
    refine ⟨M', ?_, f3.trans a2, a3, a4⟩
    show fX8_begin_9s N (loopN (fun k x => fX8_begin_9s N k x.1 x.2.1 x.2.2) f) M (nI top) (nI (d + 1) - 1) = _
    obtain ⟨L, eL⟩ : ∃ L, L = loopN (fun k x => fX8_begin_9s N k x.1 x.2.1 x.2.2) f := ⟨_, rfl⟩
    rw [← eL] at a1 ⊢
    rw [show nI (d + 1) - 1 = nI d by rw [nI_sub1 (by omega)]; rfl, ← a1]
    conv => lhs; unfold fX8_begin_9s
    rw [if_neg (nI_pos (by omega)), ckx_ok (vp_in_nI (by omega) (by omega)), bnd_eq, nI_clamp (by omega), show (7 : Int32) = 7 from rfl, ← e1, m1, ckx_ok (vp_in_nI (by omega) (by omega)), bnd_eq, nI_clamp (by omega), ← e2, bnd_eq, m2, show nI (3010 - (d + 1)) + (1 : Int32) = nI (3010 - d) by rw [nI_1]; congr 1; omega, ← e3, bnd_eq, nI_m1]
/-- nothing built -/
theorem cnt_0 {K : Nat → Nat} {j : Nat} : ∀ n, (∀ v, v < n → K v ≠ j) → cnt n K j = 0
  | 0, _ => rfl
  | n + 1, h => by
    show cnt n K j + (if K n = j then 1 else 0) = 0
    rw [if_neg (h n (Nat.lt_succ_self _)), cnt_0 n (fun v hv => h v (by omega))]
theorem cnt_more {K : Nat → Nat} {j n : Nat} : ∀ d, (∀ v, n ≤ v → v < n + d → K v ≠ j) → cnt (n + d) K j = cnt n K j
  | 0, _ => rfl
  | d + 1, h => by
    show cnt (n + d) K j + (if K (n + d) = j then 1 else 0) = _
    rw [if_neg (h (n + d) (by omega) (by omega)), cnt_more d (fun v h1 h2 => h v h1 (by omega))]
    rfl
def WiC (S : St) : Prop := ∀ p, p < 12008 → S.2.1 42 p = nI (cW S p) ∧ cW S p < 12008
def WiM (M : St) : Prop := (∀ v, v < 3010 → M.2.1 18 v = nI (gX M v) ∧ gX M v ≤ 63) ∧ ∀ p, p < 9030 → M.2.1 19 p = nI (gW M p) ∧ gW M p < 9030
theorem BG_0 {S M : St} {xh be : Nat → Nat} {U : Nat → Prop} (hS : WiC S) (hM : WiM M) (s44 : S.1 44 = nI 3002) (s48 : S.1 48 = 0) (s45 : ∀ j, j < 7 → S.2.1 45 j = 0) (sA : ∀ j, j < 3002 → S.2.1 40 j = -1 ∧ S.2.1 47 j = 0 ∧ S.2.1 43 j = nI (3001 - j)) (m21 : M.1 21 = nI 3010) (m22 : M.1 22 = 0) (m28 : M.1 28 = 0) (mA : ∀ i, i < 3010 → M.2.1 20 i = nI (3009 - i) ∧ M.2.1 17 i = 7) :
    BG S M 0 0 (fun _ _ => False) (fun _ _ => 0) (fun _ _ _ => False) xh be U := by
  have ck : ∀ v, v < 3002 → cK S v = 7 := fun v hv => by
    unfold cK
    rw [(sA v hv).1, if_pos (by decide)]
  have gk : ∀ v, v < 3010 → gK M v = 7 := fun v hv => by
    unfold gK
    rw [(mA v hv).2]; rfl
  have c0 : ∀ j, j < 7 → cnt 3002 (cK S) j = 0 := fun j hj => cnt_0 3002 (fun v hv => by rw [ck v hv]; omega)
  have g0 : ∀ j, j < 7 → cnt 3010 (gK M) j = 0 := fun j hj => cnt_0 3010 (fun v hv => by rw [gk v hv]; omega)
  have cA : cntA 3002 (cK S) = 0 := by
    unfold cntA
    rw [c0 0 (by decide), c0 1 (by decide), c0 2 (by decide), c0 3 (by decide), c0 4 (by decide), c0 5 (by decide), c0 6 (by decide)]
  have gA : cntA 3010 (gK M) = 0 := by
    unfold cntA
    rw [g0 0 (by decide), g0 1 (by decide), g0 2 (by decide), g0 3 (by decide), g0 4 (by decide), g0 5 (by decide), g0 6 (by decide)]
  refine ⟨⟨⟨fun v hv => ⟨?_, ?_, fun q => ?_⟩, hS⟩, ⟨3002, s44, by rw [cA], fun i hi => ⟨3001 - i, (sA i hi).2.2, by omega, ck _ (by omega)⟩, fun i j hi hj e => ?_⟩, fun j hj => by rw [s45 j hj, c0 j hj]; rfl⟩, ⟨⟨fun v hv => ⟨?_, ?_, (hM.1 v hv).1, (hM.1 v hv).2⟩, hM.2⟩, ⟨3010, m21, by rw [gA], by rw [gA, m22]; rfl, fun i hi => ⟨3009 - i, (mA i hi).1, by omega, gk _ (by omega)⟩, fun i j hi hj e => ?_⟩⟩, ⟨0, s48, by omega, fun v hv => Or.inl (sA v hv).2.1, fun i hi => by omega, fun v hv => absurd (sA v hv.1).2.1 hv.2, fun i j hi => by omega⟩, ⟨0, Nat.le_refl _, m28, by omega, fun i hi => by omega⟩, ⟨by omega, s44, fun i hi => (sA i hi).2.2, m21, fun i hi => (mA i hi).1⟩, ⟨fun v _ hv => ck v hv, fun v _ hv => gk v hv, fun v hv => by omega⟩, fun v k hv => by omega, fun v k h => h.elim, fun v hv => by omega, fun v hv => by omega⟩
  · rw [ck v hv, (sA v hv).1]; rfl
  · rw [ck v hv]; omega
  · rw [ck v hv] at q; omega
  · rw [(sA i hi).2.2, (sA j hj).2.2] at e
    have := (nI_eq (by omega) (by omega)).mp e
    omega
  · rw [gk v hv, (mA v hv).2]; rfl
  · rw [gk v hv]; omega
  · rw [(mA i hi).1, (mA j hj).1] at e
    have := (nI_eq (by omega) (by omega)).mp e
    omega
