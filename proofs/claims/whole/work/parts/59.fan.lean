/-- the last part of a change of the context: the first x levels, then those of l2 -/
theorem X8_fin {S S1 : St} {N nl nv nl1 nv1 l l2 x v k : Nat} {c : Cf} {cx : Nat → Nat} (hN : Big N) (h : WR S nl nv c) (hf : Fr S S1 [40, 43] [35, 36, 37, 38, 39, 41, 42]) (hC : CR S1 nl1 nv1) (hv : v < 3010) (hk : k < 3) (hl : l < nl1) (h2 : l2 < nl1) (hx : x ≤ 63) (g1 : nl ≤ nl1) (g2 : nl1 ≤ nl + 2) (g3 : nv1 ≤ nv + 1) (hn : nl + 70 ≤ 270000) (hold : ∀ q, q < nl → cxt S1 q = cxt S q) (hcx : ∀ i, (if i < x then cxt S1 l i else cxt S1 l2 (i - x)) = cx i) :
    ∃ l' S2, fX8_with N S1 (nI l) (nI x) (nI l2) = some (nI l', S2) ∧ ∀ w : Int32, w = nI (3 * v + k) → StepR S (sI (sI S2 48 (nI l')) 49 w) nl nv (6, (v, k, cx, c.2.2.2)) := by
  obtain ⟨l', S2, n2, e1, e2, e3, e4, e5, e6, e7, e8⟩ := X8_withC hN hC hl h2 (show x ≤ 64 by omega) (by omega)
  refine ⟨l', S2, e1, fun w hw => ?_⟩
  obtain ⟨S3, eS3⟩ : ∃ z, z = sI (sI S2 48 (nI l')) 49 w := ⟨_, rfl⟩
  rw [← eS3]
  have f3 : Fr S2 S3 [48, 49] [] := by rw [eS3]; exact (Fr.I (by decide)).trans (Fr.I (by decide))
  have c3 : cxt S3 = cxt S2 := cxt_same f3 (by decide)
  refine StepR.ctx (nl' := n2) (nv' := nv1) (l := l') h (((hf.mono (by decide) (by decide)).trans (e3.mono (by decide) (by decide))).trans (f3.mono (by decide) (fun _ h => by cases h))) (e2.of f3 (by decide) (by decide)) hv hk ?_ ?_ e6 ?_ (by omega) (by omega) g3 ?_
  · rw [eS3]; exact hw
  · rw [eS3]; rfl
  · rw [c3]; funext i; rw [e8 i]; exact hcx i
  · intro q hq; rw [c3, e7 q (by omega)]; exact hold q hq
theorem X8_atFan {S : St} {N nl nv v q : Nat} {c : Cf} (hN : Big N) (hG : GOk S) (h : WR S nl nv c) (hv : v < 3010) (hq : q < 3) (hn : nl + 70 ≤ 270000) (hm : nv < 4010) : ∃ S', fX8_atFan N S (nI v) (nI q) = some (nI (aFan v q (gX S v) c).1, S') ∧ StepR S S' nl nv (aFan v q (gX S v) c) := by
  obtain ⟨hC, g1, g2, g3, ⟨l, g4, g5, g6⟩, hS, g7, g8⟩ := id h
  obtain ⟨hL, hV, hI⟩ := id hC
  obtain ⟨-, -, hx, hx6⟩ := hG.1 v hv
  have hl' := tlk_lt hL (gX S v) l g5
  have ht : nT S (tlk S (gX S v) l) < nl := Nat.lt_of_le_of_lt (nT_le hL hl') hl'
  have hy : nH S (tlk S (gX S v) l) < nv := lvl_in hL hV.2.1 hI g5
  have ey : c.2.2.1 (gX S v) = val S (nH S (tlk S (gX S v) l)) := by rw [← g6]; rfl
  have tcx : ∀ i, cxt S (nT S (tlk S (gX S v) l)) i = c.2.2.1 (gX S v + (i + 1)) := fun i => by rw [cxt_T, cxt_k, g6]
  unfold fX8_atFan aFan
  rw [ckx_ok (vp_in_nI (by omega) (by omega)), bnd_eq, nI_clamp (by omega), hx, g4, bd2_ok (X8_behind hN hL g5 (by omega)), bd2_ok (X8_head hL hl')]
  obtain ⟨x, ex⟩ : ∃ x, x = gX S v := ⟨_, rfl⟩
  rw [← ex] at hx6 hl' ht hy ey tcx ⊢
  obtain ⟨y, eyy⟩ : ∃ y, y = nH S (tlk S x l) := ⟨_, rfl⟩
  rw [← eyy] at hy ey ⊢
  by_cases c1 : q = 0
  · subst c1
    rw [if_pos (show nI 0 ≤ 0 by decide), if_neg (Nat.lt_irrefl 0)]
    by_cases c2 : y = 0
    · rw [c2, if_pos nI_zero, ey, c2, val_0, dc_0, if_neg (by decide)]
      unfold fX8_atFan_96
      rw [if_neg (show ¬ (0 : Int32) = 1 by decide), if_neg (show ¬ (0 : Int32) = 2 by decide)]
      exact ⟨S, rfl, StepR.stay h (by decide)⟩
    · rw [if_neg (nI_ne (by omega) (by omega)), ckx_ok (vp_in_nI (by omega) (by omega)), nI_clamp (by omega)]
      obtain ⟨e1, e2, e3, e4, e5, e6, e7, e8, e9⟩ := hV.2.2.2.1 y (by omega) hy
      have ed : dc (c.2.2.1 x) = (eK S y, val S (eA S y), val S (eB S y)) := by rw [ey, val_s hV (by omega) hy]; exact dc_code e5 e6
      rw [e1, ed]
      dsimp only
      by_cases c3 : eK S y = 1 ∨ eK S y = 2
      · rw [if_pos c3]
        have e96 : fX8_atFan_96 N S (nI v) (nI x) (nI (tlk S x l)) (nI y) (nI (eK S y)) = fX8_atFan_112 N S (nI v) (nI x) (nI (tlk S x l)) (nI y) (nI (eK S y)) := by
          unfold fX8_atFan_96
          rcases c3 with c3 | c3
          · rw [c3, if_pos (show nI 1 = (1 : Int32) from rfl)]
          · rw [c3, if_neg (show ¬ nI 2 = (1 : Int32) by decide), if_pos (show nI 2 = (2 : Int32) from rfl)]
        rw [e96]
        unfold fX8_atFan_112
        rw [ckx_ok (vp_in_nI (by omega) (by omega)), bd2_ok (X8_tail hL hl'), nI_clamp (by omega), e2]
        obtain ⟨l2, S7, n7, a1, a2, a3, a4, a5, a6, a7, a8, a9⟩ := X8_listC (N := N) hC (by omega) (show eA S y < nv by omega) ht
        rw [bd2_ok a1, g4]
        obtain ⟨l3, S10, b1, b2⟩ := X8_fin (cx := cSet c.2.2.1 x (val S (eA S y))) hN h (a3.mono (by decide) (by decide)) a2 hv (show eK S y < 3 by omega) (show l < n7 by omega) a6 hx6 a4 (by omega) (by omega) hn a7 (fun i => by
          unfold cSet
          by_cases d1 : i < x
          · rw [if_pos d1, if_neg (by omega), a7 l g5, g6]
          · rw [if_neg d1]
            by_cases d2 : i = x
            · rw [if_pos d2, d2, Nat.sub_self, a8]
            · rw [if_neg d2]
              obtain ⟨j, rfl⟩ : ∃ j, i = x + (j + 1) := ⟨i - x - 1, by omega⟩
              rw [Nat.add_sub_cancel_left, a9, tcx])
        rw [bd2_ok b1, bnd_eq, bnd_eq]
        exact ⟨_, rfl, b2 _ (by rw [show (3 : Int32) = nI 3 from rfl, pk_mul, nI_add])⟩
      · rw [if_neg c3]
        unfold fX8_atFan_96
        rw [if_neg (fun e => c3 (Or.inl ((nI_eq (by omega) (by omega)).mp (e.trans (show (1 : Int32) = nI 1 from rfl))))), if_neg (fun e => c3 (Or.inr ((nI_eq (by omega) (by omega)).mp (e.trans (show (2 : Int32) = nI 2 from rfl)))))]
        exact ⟨S, rfl, StepR.stay h (by decide)⟩
  · rw [if_neg (nI_nle (by omega) (by omega)), if_pos (show 0 < q by omega), g4]
    have key : ∀ d, 1 ≤ d ∧ d ≤ 3 → ∃ S', fX8_atFan_49 N S (nI v) (nI (tlk S x l)) (nI y) (nI l) (nI x) (nI d) = some (nI 6, S') ∧ StepR S S' nl nv (6, (v, 0, cSet c.2.2.1 x (code_ d (c.2.2.1 x) 0), c.2.2.2)) := by
      intro d hd
      unfold fX8_atFan_49
      obtain ⟨k, S3, nv3, k1, k2, k3, k4, k5, k6, k7, k8⟩ := X8_levelC hN hC hm hd hy (show 0 < nv by have := hV.2.1; omega)
      rw [bd2_ok (show fX8_level N S (nI d) (nI y) (0 : Int32) = some (nI k, S3) from k1), bd2_ok (X8_tail k2.1 hl')]
      have eT : nT S3 (tlk S x l) = nT S (tlk S x l) := by unfold nT; rw [k3.2.1 42 (by decide)]
      rw [eT]
      obtain ⟨l2, S7, n7, a1, a2, a3, a4, a5, a6, a7, a8, a9⟩ := X8_listC (N := N) k2 (by omega) k6 ht
      rw [bd2_ok a1]
      obtain ⟨l3, S10, b1, b2⟩ := X8_fin (cx := cSet c.2.2.1 x (code_ d (c.2.2.1 x) 0)) hN h ((k3.mono (by decide) (by decide)).trans (a3.mono (by decide) (by decide))) a2 hv (show 0 < 3 by omega) (show l < n7 by omega) a6 hx6 a4 (by omega) k5 hn (fun q hq => (a7 q hq).trans (k8 q hq)) (fun i => by
        unfold cSet
        by_cases d1 : i < x
        · rw [if_pos d1, if_neg (by omega), a7 l g5, k8 l g5, g6]
        · rw [if_neg d1]
          by_cases d2 : i = x
          · rw [if_pos d2, d2, Nat.sub_self, a8, k7, ey, val_0]
          · rw [if_neg d2]
            obtain ⟨j, rfl⟩ : ∃ j, i = x + (j + 1) := ⟨i - x - 1, by omega⟩
            rw [Nat.add_sub_cancel_left, a9, k8 _ ht, tcx])
      rw [bd2_ok b1, bnd_eq, bnd_eq]
      exact ⟨_, rfl, b2 _ (by rw [show (3 : Int32) = nI 3 from rfl, pk_mul]; rfl)⟩
    by_cases c2 : q = 1
    · rw [if_pos (show nI q = (1 : Int32) by rw [c2]; rfl), if_pos c2]
      exact key 1 (by decide)
    · rw [if_neg (fun e => c2 ((nI_eq (by omega) (by omega)).mp (e.trans (show (1 : Int32) = nI 1 from rfl)))), if_neg c2]
      exact key 2 (by decide)
theorem X8_atCro {S : St} {N nl nv v q : Nat} {c : Cf} (hN : Big N) (hG : GOk S) (h : WR S nl nv c) (hv : v < 3010) (hq : q < 2) (hK : gK S v = 3) (hn : nl + 70 ≤ 270000) : ∃ S', fX8_atOther N S (nI v) (nI q) = some (nI (aCro v q (gX S v) c).1, S') ∧ StepR S S' nl nv (aCro v q (gX S v) c) := by
  obtain ⟨hC, g1, g2, g3, ⟨l, g4, g5, g6⟩, hS, g7, g8⟩ := id h
  obtain ⟨hL, hV, hI⟩ := id hC
  obtain ⟨hk, -, hx, hx6⟩ := hG.1 v hv
  have hl' := tlk_lt hL (gX S v) l g5
  have ht : nT S (tlk S (gX S v) l) < nl := Nat.lt_of_le_of_lt (nT_le hL hl') hl'
  have tcx : ∀ i, cxt S (nT S (tlk S (gX S v) l)) i = c.2.2.1 (gX S v + (i + 1)) := fun i => by rw [cxt_T, cxt_k, g6]
  unfold fX8_atOther aCro
  rw [ckx_ok (vp_in_nI (by omega) (by omega)), bnd_eq, nI_clamp (by omega), hx, g4, bd2_ok (X8_behind hN hL g5 (by omega)), bd2_ok (X8_head hL hl'), bd2_ok (X8_tail hL hl'), ckx_ok (vp_in_nI (by omega) (by omega)), hk, hK, if_pos (show nI 3 = (3 : Int32) from rfl), g4]
  obtain ⟨x, ex⟩ : ∃ x, x = gX S v := ⟨_, rfl⟩
  rw [← ex] at hx6 hl' ht tcx ⊢
  by_cases c1 : q = 1
  · subst c1
    rw [if_pos (show nI 1 = (1 : Int32) from rfl), if_pos rfl]
    obtain ⟨l2, S7, n7, a1, a2, a3, a4, a5, a6, a7, a8, a9⟩ := X8_listC (N := N) hC (by omega) (show 0 < nv from hV.2.1) hl'
    rw [bd2_ok (show fX8_list N S (0 : Int32) (nI (tlk S x l)) = some (nI l2, S7) from a1)]
    obtain ⟨l3, S10, b1, b2⟩ := X8_fin (cx := cIns c.2.2.1 x 0) hN h (a3.mono (by decide) (by decide)) a2 hv (show 0 < 3 by omega) (show l < n7 by omega) a6 hx6 a4 (by omega) (by omega) hn a7 (fun i => by
      unfold cIns
      by_cases d1 : i < x
      · rw [if_pos d1, if_pos d1, a7 l g5, g6]
      · rw [if_neg d1, if_neg d1]
        by_cases d2 : i = x
        · rw [if_pos d2, d2, Nat.sub_self, a8, val_0]
        · rw [if_neg d2]
          obtain ⟨j, rfl⟩ : ∃ j, i = x + (j + 1) := ⟨i - x - 1, by omega⟩
          rw [Nat.add_sub_cancel_left, a9, cxt_k, g6, show x + (j + 1) - 1 = x + j by omega])
    unfold fX8_atOther_68
    rw [bd2_ok b1, bnd_eq]
    unfold fX8_atOther_176
    rw [bnd_eq]
    exact ⟨_, rfl, b2 _ (by rw [show (3 : Int32) = nI 3 from rfl, show (1 : Int32) = nI 1 from rfl, pk_mul, nI_add, pk_sub (by omega)]; rfl)⟩
  · have c0 : q = 0 := by omega
    subst c0
    rw [if_neg (show ¬ nI 0 = (1 : Int32) by decide), if_neg (show ¬ (0 : Nat) = 1 by decide)]
    obtain ⟨l3, S10, b1, b2⟩ := X8_fin (cx := cDel c.2.2.1 x) hN h Fr.rf hC hv (show 1 < 3 by omega) g5 ht hx6 (Nat.le_refl _) (by omega) (by omega) hn (fun _ _ => rfl) (fun i => by
      unfold cDel
      by_cases d1 : i < x
      · rw [if_pos d1, if_pos d1, g6]
      · rw [if_neg d1, if_neg d1, tcx, show x + (i - x + 1) = i + 1 by omega])
    unfold fX8_atOther_68
    rw [bd2_ok b1, bnd_eq]
    unfold fX8_atOther_176
    rw [bnd_eq]
    exact ⟨_, rfl, b2 _ (by rw [show (3 : Int32) = nI 3 from rfl, show (1 : Int32) = nI 1 from rfl, pk_mul, nI_add, pk_sub (by omega)]; rfl)⟩
theorem X8_atBra {S : St} {N nl nv v q : Nat} {c : Cf} (hN : Big N) (hG : GOk S) (h : WR S nl nv c) (hv : v < 3010) (hq : q < 2) (hK : ¬ gK S v = 3) (hn : nl + 70 ≤ 270000) (hm : nv < 4010) : ∃ S', fX8_atOther N S (nI v) (nI q) = some (nI (aBra v q (gX S v) c).1, S') ∧ StepR S S' nl nv (aBra v q (gX S v) c) := by
  obtain ⟨hC, g1, g2, g3, ⟨l, g4, g5, g6⟩, hS, g7, g8⟩ := id h
  obtain ⟨hL, hV, hI⟩ := id hC
  obtain ⟨hk, hk7, hx, hx6⟩ := hG.1 v hv
  have hl' := tlk_lt hL (gX S v) l g5
  have ht : nT S (tlk S (gX S v) l) < nl := Nat.lt_of_le_of_lt (nT_le hL hl') hl'
  have hy : nH S (tlk S (gX S v) l) < nv := lvl_in hL hV.2.1 hI g5
  have ey : c.2.2.1 (gX S v) = val S (nH S (tlk S (gX S v) l)) := by rw [← g6]; rfl
  have tcx : ∀ i, cxt S (nT S (tlk S (gX S v) l)) i = c.2.2.1 (gX S v + (i + 1)) := fun i => by rw [cxt_T, cxt_k, g6]
  unfold fX8_atOther aBra
  rw [ckx_ok (vp_in_nI (by omega) (by omega)), bnd_eq, nI_clamp (by omega), hx, g4, bd2_ok (X8_behind hN hL g5 (by omega)), bd2_ok (X8_head hL hl'), bd2_ok (X8_tail hL hl'), ckx_ok (vp_in_nI (by omega) (by omega)), hk, if_neg (fun e => hK ((nI_eq (by omega) (by omega)).mp (e.trans (show (3 : Int32) = nI 3 from rfl)))), g4]
  obtain ⟨x, ex⟩ : ∃ x, x = gX S v := ⟨_, rfl⟩
  rw [← ex] at hx6 hl' ht hy ey tcx ⊢
  obtain ⟨y, eyy⟩ : ∃ y, y = nH S (tlk S x l) := ⟨_, rfl⟩
  rw [← eyy] at hy ey ⊢
  obtain ⟨t, ett⟩ : ∃ t, t = nT S (tlk S x l) := ⟨_, rfl⟩
  rw [← ett] at ht tcx ⊢
  by_cases c1 : q = 1
  · subst c1
    rw [if_pos (show nI 1 = (1 : Int32) from rfl), if_pos rfl, bd2_ok (X8_head hL ht)]
    have hy2 : nH S t < nv := lvl_in (i := 0) hL hV.2.1 hI ht
    have ey2 : c.2.2.1 (x + 1) = val S (nH S t) := (tcx 0).symm
    obtain ⟨k, S3, nv3, k1, k2, k3, k4, k5, k6, k7, k8⟩ := X8_levelC (N := N) (d := 3) hN hC hm (by decide) hy hy2
    rw [bd2_ok (show fX8_level N S (3 : Int32) (nI y) (nI (nH S t)) = some (nI k, S3) from k1), bd2_ok (X8_tail k2.1 ht)]
    have eT : nT S3 t = nT S t := by unfold nT; rw [k3.2.1 42 (by decide)]
    have ht2 : nT S t < nl := Nat.lt_of_le_of_lt (nT_le hL ht) ht
    rw [eT]
    obtain ⟨l2, S7, n7, a1, a2, a3, a4, a5, a6, a7, a8, a9⟩ := X8_listC (N := N) k2 (by omega) k6 ht2
    rw [bd2_ok a1]
    obtain ⟨l3, S10, b1, b2⟩ := X8_fin (cx := cSet (cDel c.2.2.1 x) x (code_ 3 (c.2.2.1 x) (c.2.2.1 (x + 1)))) hN h ((k3.mono (by decide) (by decide)).trans (a3.mono (by decide) (by decide))) a2 hv (show 0 < 3 by omega) (show l < n7 by omega) a6 hx6 a4 (by omega) k5 hn (fun q hq => (a7 q hq).trans (k8 q hq)) (fun i => by
      unfold cSet cDel
      by_cases d1 : i < x
      · rw [if_pos d1, if_neg (by omega), if_pos d1, a7 l g5, k8 l g5, g6]
      · rw [if_neg d1]
        by_cases d2 : i = x
        · rw [if_pos d2, d2, Nat.sub_self, a8, k7, ey, ey2]
        · rw [if_neg d2, if_neg d1]
          obtain ⟨j, rfl⟩ : ∃ j, i = x + (j + 1) := ⟨i - x - 1, by omega⟩
          rw [Nat.add_sub_cancel_left, a9, k8 _ ht2, cxt_T, tcx, show x + (j + 1 + 1) = x + (j + 1) + 1 by omega])
    rw [bd2_ok b1, bnd_eq]
    unfold fX8_atOther_176
    rw [bnd_eq]
    exact ⟨_, rfl, b2 _ (by rw [show (3 : Int32) = nI 3 from rfl, show (1 : Int32) = nI 1 from rfl, pk_mul, nI_add, pk_sub (by omega)]; rfl)⟩
  · have c0 : q = 0 := by omega
    subst c0
    rw [if_neg (show ¬ nI 0 = (1 : Int32) by decide), if_neg (show ¬ (0 : Nat) = 1 by decide)]
    by_cases c2 : y = 0
    · rw [c2, if_pos nI_zero, ey, c2, val_0, dc_0, if_neg (by decide)]
      exact ⟨S, rfl, StepR.stay h (by decide)⟩
    · rw [if_neg (nI_ne (by omega) (by omega)), ckx_ok (vp_in_nI (by omega) (by omega)), nI_clamp (by omega)]
      obtain ⟨e1, e2, e3, e4, e5, e6, e7, e8, e9⟩ := hV.2.2.2.1 y (by omega) hy
      have ed : dc (c.2.2.1 x) = (eK S y, val S (eA S y), val S (eB S y)) := by rw [ey, val_s hV (by omega) hy]; exact dc_code e5 e6
      rw [e1, ed]
      dsimp only
      by_cases c3 : eK S y = 3
      · rw [if_pos (show nI (eK S y) = (3 : Int32) by rw [c3]; rfl), if_pos c3, ckx_ok (vp_in_nI (by omega) (by omega)), ckx_ok (vp_in_nI (by omega) (by omega)), e3, e2]
        obtain ⟨l2, S7, n7, a1, a2, a3, a4, a5, a6, a7, a8, a9⟩ := X8_listC (N := N) hC (by omega) (show eB S y < nv by omega) ht
        rw [bd2_ok a1]
        obtain ⟨l4, S8, n8, m1, m2, m3, m4, m5, m6, m7, m8, m9⟩ := X8_listC (N := N) a2 (by omega) (show eA S y < nv by omega) a6
        rw [bd2_ok m1]
        have vS : val S7 = val S := val_same (a3.2.1 35 (by decide)) (a3.2.1 36 (by decide)) (a3.2.1 37 (by decide))
        obtain ⟨l3, S10, b1, b2⟩ := X8_fin (cx := cIns (cSet c.2.2.1 x (val S (eB S y))) x (val S (eA S y))) hN h ((a3.mono (by decide) (by decide)).trans (m3.mono (by decide) (by decide))) m2 hv (show 1 < 3 by omega) (show l < n8 by omega) m6 hx6 (show nl ≤ n8 by omega) (by omega) (by omega) hn (fun q hq => (m7 q (by omega)).trans (a7 q hq)) (fun i => by
          unfold cIns cSet
          by_cases d1 : i < x
          · rw [if_pos d1, if_pos d1, if_neg (by omega), m7 l (by omega), a7 l g5, g6]
          · rw [if_neg d1, if_neg d1]
            by_cases d2 : i = x
            · rw [if_pos d2, d2, Nat.sub_self, m8, vS]
            · rw [if_neg d2]
              obtain ⟨j, rfl⟩ : ∃ j, i = x + (j + 1) := ⟨i - x - 1, by omega⟩
              rw [Nat.add_sub_cancel_left, m9]
              by_cases d3 : j = 0
              · subst d3
                rw [a8, if_pos (by omega)]
              · obtain ⟨k, rfl⟩ : ∃ k, j = k + 1 := ⟨j - 1, by omega⟩
                rw [a9, tcx, if_neg (by omega), show x + (k + 1 + 1) - 1 = x + (k + 1) by omega])
        rw [bd2_ok b1, bnd_eq]
        unfold fX8_atOther_176
        rw [bnd_eq]
        exact ⟨_, rfl, b2 _ (by rw [show (3 : Int32) = nI 3 from rfl, show (1 : Int32) = nI 1 from rfl, pk_mul, nI_add, pk_sub (by omega)]; rfl)⟩
      · rw [if_neg (fun e => c3 ((nI_eq (by omega) (by omega)).mp (e.trans (show (3 : Int32) = nI 3 from rfl)))), if_neg c3]
        exact ⟨S, rfl, StepR.stay h (by decide)⟩
