/-! the class's context: changes, and taking them back -/
theorem DB_le {vs : Nat} : ∀ {tr : List Te}, DB vs tr → dT tr ≤ aT tr + vs
  | [], _ => Nat.zero_le _
  | _ :: _, h => h.1
theorem dT_c (f : Nat) (L : Nat → Nat) (n : Nat) (r : List Te) : dT ((f, L, n) :: r) = dT r + if f = 1 ∨ f = 2 then 1 else 0 := rfl
theorem aT_c (f : Nat) (L : Nat → Nat) (n : Nat) (r : List Te) : aT ((f, L, n) :: r) = aT r + if f = 0 ∨ f = 3 then 1 else 0 := rfl
theorem X1_note {S : St} {N D n vs f x : Nat} {L : Nat → Nat} {tr : List Te} (h : CX S D L n tr vs) (hx : x ≤ 63) (hl : vs + tr.length < 4000) : ∃ S', fX1_note N S (nI f) (nI x) = some S' ∧ Fr S S' [27] [23, 24, 25, 26] ∧ S'.1 27 = nI (tr.length + 1) ∧ S'.2.1 23 tr.length = nI f ∧ S'.2.1 24 tr.length = nI x ∧ S'.2.1 25 tr.length = nI (L x) ∧ S'.2.1 26 tr.length = nI n ∧ (∀ j, j < tr.length → S'.2.1 23 j = S.2.1 23 j ∧ S'.2.1 24 j = S.2.1 24 j ∧ S'.2.1 25 j = S.2.1 25 j ∧ S'.2.1 26 j = S.2.1 26 j) := by
  obtain ⟨h1, h2, h3, h4, h5, h6, h7, h8⟩ := h
  obtain ⟨t, et⟩ : ∃ t, t = tr.length := ⟨_, rfl⟩
  rw [← et] at h3 hl ⊢
  unfold fX1_note
  rw [h3, show (4000 : Int32) = nI 4000 from rfl, if_neg (fun q => absurd ((nI_leI (by omega) (by omega)).mp q) (by omega)), ckx_ok (vp_in_nI (by omega) (by omega)), bnd_eq, nI_clamp (show t < 2 ^ 31 by omega)]
  obtain ⟨S3, e3⟩ : ∃ z, z = sA S 23 (upd (S.2.1 23) t (nI f)) := ⟨_, rfl⟩
  rw [← e3]
  have z3 : S3.1 27 = nI t := by rw [e3]; exact h3
  rw [z3, ckx_ok (vp_in_nI (by omega) (by omega)), bnd_eq, nI_clamp (show t < 2 ^ 31 by omega)]
  obtain ⟨S5, e5⟩ : ∃ z, z = sA S3 24 (upd (S3.2.1 24) t (nI x)) := ⟨_, rfl⟩
  rw [← e5]
  have z5 : S5.1 27 = nI t := by rw [e5]; exact z3
  have c5 : CtR S5 D L n := h2.of (by rw [e5, e3]; rfl) (by rw [e5, e3]; rfl)
  rw [bd2_ok (X1_level c5 (by omega)), z5, ckx_ok (vp_in_nI (by omega) (by omega)), bnd_eq, nI_clamp (show t < 2 ^ 31 by omega)]
  obtain ⟨S10, e10⟩ : ∃ z, z = sA S5 25 (upd (S5.2.1 25) t (nI (L x))) := ⟨_, rfl⟩
  rw [← e10]
  have z10 : S10.1 27 = nI t := by rw [e10]; exact z5
  have sz : fX5_size N S10 = some (nI n, S10) := by
    unfold fX5_size
    have : S10.1 105 = nI n := by rw [e10, e5, e3]; exact h1.1
    rw [this]
  rw [bd2_ok sz, z10, ckx_ok (vp_in_nI (by omega) (by omega)), bnd_eq, bnd_eq, nI_clamp (show t < 2 ^ 31 by omega)]
  obtain ⟨S15, e15⟩ : ∃ z, z = sA S10 26 (upd (S10.2.1 26) t (nI n)) := ⟨_, rfl⟩
  rw [← e15]
  obtain ⟨S16, e16⟩ : ∃ z, z = sI S15 27 (S15.1 27 + 1) := ⟨_, rfl⟩
  rw [← e16]
  have fr : Fr S S16 [27] [23, 24, 25, 26] := by
    rw [e16, e15, e10, e5, e3]
    exact ((((Fr.A (by decide)).trans (Fr.A (by decide))).trans (Fr.A (by decide))).trans (Fr.A (by decide))).trans (Fr.I (by decide))
  have w23 : S16.2.1 23 = upd (S.2.1 23) t (nI f) := by rw [e16, e15, e10, e5, e3]; rfl
  have w24 : S16.2.1 24 = upd (S.2.1 24) t (nI x) := by rw [e16, e15, e10, e5, e3]; rfl
  have w25 : S16.2.1 25 = upd (S.2.1 25) t (nI (L x)) := by rw [e16, e15, e10, e5, e3]; rfl
  have w26 : S16.2.1 26 = upd (S.2.1 26) t (nI n) := by rw [e16, e15, e10, e5, e3]; rfl
  refine ⟨S16, rfl, fr, ?_, by rw [w23, upd_at, if_pos rfl], by rw [w24, upd_at, if_pos rfl], by rw [w25, upd_at, if_pos rfl], by rw [w26, upd_at, if_pos rfl], fun j hj => ?_⟩
  · rw [e16]
    show S15.1 27 + 1 = _
    rw [e15]
    show S10.1 27 + 1 = _
    rw [z10, nI_1]
  · rw [w23, w24, w25, w26, upd_at, upd_at, upd_at, upd_at, if_neg (by omega), if_neg (by omega), if_neg (by omega), if_neg (by omega)]
    exact ⟨rfl, rfl, rfl, rfl⟩
/-- behind a note, and the change itself -/
theorem CX_op {S S1 S2 : St} {D D' n n' vs f x : Nat} {L L' : Nat → Nat} {tr : List Te} (h : CX S D L n tr vs) (hx : x ≤ 63) (hl : vs + tr.length < 4000) (hf : f ≤ 4)
    (b1 : S1.1 27 = nI (tr.length + 1)) (b2 : S1.2.1 23 tr.length = nI f) (b3 : S1.2.1 24 tr.length = nI x) (b4 : S1.2.1 25 tr.length = nI (L x)) (b5 : S1.2.1 26 tr.length = nI n) (b6 : ∀ j, j < tr.length → S1.2.1 23 j = S.2.1 23 j ∧ S1.2.1 24 j = S.2.1 24 j ∧ S1.2.1 25 j = S.2.1 25 j ∧ S1.2.1 26 j = S.2.1 26 j)
    (fr : Fr S1 S2 [22, 105] [21, 100, 101, 102, 103, 104]) (t2 : TrC S2 n') (c2 : CtR S2 D' L' n') (nn : n ≤ n' ∧ n' ≤ n + 1) (ext : TExt S S2 n) (hu : undL f x (L x) (L (x + 1)) L' = L) (h2 : f = 2 → tB S2 (L' x) = L (x + 1) ∧ 0 < L' x) (hD : D' + dT ((f, L, n) :: tr) ≤ 64 + vs + aT ((f, L, n) :: tr)) (hdb : dT ((f, L, n) :: tr) ≤ aT ((f, L, n) :: tr) + vs) : CX S2 D' L' n' ((f, L, n) :: tr) vs := by
  obtain ⟨h1, h2', h3, h4, h5, h6, h7, h8⟩ := h
  have a23 : S2.2.1 23 = S1.2.1 23 := fr.2.1 23 (by decide)
  have a24 : S2.2.1 24 = S1.2.1 24 := fr.2.1 24 (by decide)
  have a25 : S2.2.1 25 = S1.2.1 25 := fr.2.1 25 (by decide)
  have a26 : S2.2.1 26 = S1.2.1 26 := fr.2.1 26 (by decide)
  refine ⟨t2, c2, by rw [fr.1 27 (by decide)]; exact b1, by show vs + (tr.length + 1) ≤ 4000; omega, ⟨⟨x, L x, by rw [a23]; exact b2, hf, by rw [a24]; exact b3, hx, by rw [a25]; exact b4, rfl, by rw [a26]; exact b5, h1.2.1, nn.1, h8, h2'.2.2.2.2.1, h2, hu⟩, TrR.of tr L n (fun j hj => ?_) (fun k hk => (ext k hk).2.2) h2'.2.2.2.2.1 h5⟩, hD, ⟨hdb, h7⟩, by show n' ≤ 1 + (tr.length + 1); omega⟩
  rw [a23, a24, a25, a26]
  exact b6 j hj
theorem TrC.fr {S S' : St} {n : Nat} {is as : List Nat} (h : TrC S n) (hf : Fr S S' is as) (h1 : 105 ∉ is) (h2 : 100 ∉ as ∧ 101 ∉ as ∧ 102 ∉ as ∧ 103 ∉ as ∧ 104 ∉ as) : TrC S' n := h.of (hf.1 105 h1) (hf.2.1 100 h2.1) (hf.2.1 101 h2.2.1) (hf.2.1 102 h2.2.2.1) (hf.2.1 103 h2.2.2.2.1) (hf.2.1 104 h2.2.2.2.2)
theorem TExt.fr {S S' : St} {n : Nat} {is as : List Nat} (hf : Fr S S' is as) (h2 : 100 ∉ as ∧ 101 ∉ as ∧ 102 ∉ as) : TExt S S' n := fun k _ => by
  unfold tF tA tB
  rw [hf.2.1 100 h2.1, hf.2.1 101 h2.2.1, hf.2.1 102 h2.2.2]
  exact ⟨rfl, rfl, rfl⟩
theorem TExt.trans {S S1 S2 : St} {n : Nat} (h : TExt S S1 n) (g : TExt S1 S2 n) : TExt S S2 n := fun k hk => by
  obtain ⟨a1, a2, a3⟩ := h k hk
  obtain ⟨b1, b2, b3⟩ := g k hk
  exact ⟨b1.trans a1, b2.trans a2, b3.trans a3⟩
abbrev XI : List Nat := [22, 27, 105]
abbrev XA : List Nat := [21, 23, 24, 25, 26, 100, 101, 102, 103, 104]
theorem X1_addBox {S : St} {N D n vs x : Nat} {L : Nat → Nat} {tr : List Te} (hN : Big N) (h : CX S D L n tr vs) (hx : x ≤ 63) (hl : vs + tr.length < 4000) : ∃ S' D', fX1_addBox N S (nI x) = some S' ∧ Fr S S' XI XA ∧ CX S' D' (cIns L x 0) n ((0, L, n) :: tr) vs ∧ TExt S S' n := by
  have hr := h.room
  have hdb := DB_le h.2.2.2.2.2.2.1
  have h6 := h.2.2.2.2.2.1
  have n1 := h.1.2.1
  obtain ⟨S1, e1, f1, b1, b2, b3, b4, b5, b6⟩ := X1_note (N := N) (f := 0) h hx hl
  obtain ⟨S2, D', q1, q2, q3, q4, -⟩ := X1_insert (N := N) (x := x) (t := 0) hN (h.2.1.of (f1.1 22 (by decide)) (f1.2.1 21 (by decide))) (by omega) (by omega) n1
  have ext : TExt S S2 n := (TExt.fr f1 (by decide)).trans (TExt.fr q2 (by decide))
  refine ⟨S2, D', ?_, (f1.mono (by decide) (by decide)).trans (q2.mono (by decide) (by decide)), CX_op h hx hl (by decide) b1 b2 b3 b4 b5 b6 (q2.mono (by decide) (by decide)) ((h.1.fr f1 (by decide) (by decide)).fr q2 (by decide) (by decide)) q3 (by omega) ext ?_ (fun q => absurd q (by decide)) ?_ ?_, ext⟩
  · unfold fX1_addBox
    have e1' : fX1_note N S 0 (nI x) = some S1 := e1
    have q1' : fX1_insert N S1 (nI x) 0 = some S2 := q1
    rw [bdo_ok e1', bdo_ok q1']
  · funext i
    show cDel (cIns L x 0) x i = L i
    rw [cDel_at, cIns_at, cIns_at]
    by_cases c : i < x
    · rw [if_pos c, if_pos c]
    · rw [if_neg c, if_neg (by omega), if_neg (by omega), Nat.add_sub_cancel]
  · rw [dT_c, aT_c, if_neg (by decide), if_pos (by decide)]
    omega
  · rw [dT_c, aT_c, if_neg (by decide), if_pos (by decide)]
    omega
theorem X1_drop {S : St} {N D n vs x : Nat} {L : Nat → Nat} {tr : List Te} (h : CX S D L n tr vs) (hx : x ≤ 63) (hl : vs + tr.length < 4000) (hd : dT tr + 1 ≤ aT tr + vs) : ∃ S' D', fX1_drop N S (nI x) = some S' ∧ Fr S S' XI XA ∧ CX S' D' (cDel L x) n ((1, L, n) :: tr) vs ∧ TExt S S' n := by
  have hr := h.room
  have h6 := h.2.2.2.2.2.1
  obtain ⟨S1, e1, f1, b1, b2, b3, b4, b5, b6⟩ := X1_note (N := N) (f := 1) h hx hl
  obtain ⟨S2, D', q1, q2, q3, q4, q5⟩ := X1_delete (N := N) (x := x) (h.2.1.of (f1.1 22 (by decide)) (f1.2.1 21 (by decide))) (by omega)
  have ext : TExt S S2 n := (TExt.fr f1 (by decide)).trans (TExt.fr q2 (by decide))
  refine ⟨S2, D', ?_, (f1.mono (by decide) (by decide)).trans (q2.mono (by decide) (by decide)), CX_op h hx hl (by decide) b1 b2 b3 b4 b5 b6 (q2.mono (by decide) (by decide)) ((h.1.fr f1 (by decide) (by decide)).fr q2 (by decide) (by decide)) q3 (by omega) ext ?_ (fun q => absurd q (by decide)) ?_ ?_, ext⟩
  · unfold fX1_drop
    have e1' : fX1_note N S 1 (nI x) = some S1 := e1
    rw [bdo_ok e1', bdo_ok q1]
  · funext i
    show cIns (cDel L x) x (L x) i = L i
    rw [cIns_at, cDel_at, cDel_at]
    by_cases c : i < x
    · rw [if_pos c, if_pos c]
    · rw [if_neg c]
      by_cases z : i = x
      · rw [if_pos z, z]
      · rw [if_neg z, if_neg (by omega), show i - 1 + 1 = i by omega]
  · rw [dT_c, aT_c, if_pos (by decide), if_neg (by decide)]
    by_cases c : x < D
    · have := q4 c; omega
    · have := q5 (by omega); omega
  · rw [dT_c, aT_c, if_pos (by decide), if_neg (by decide)]
    omega
theorem X1_pairUp {S : St} {N D n vs x : Nat} {L : Nat → Nat} {tr : List Te} (hN : Big N) (h : CX S D L n tr vs) (hx : x ≤ 63) (hl : vs + tr.length < 4000) (hd : dT tr + 1 ≤ aT tr + vs) : ∃ S' D' n' t, fX1_pairUp N S (nI x) = some S' ∧ Fr S S' XI XA ∧ CX S' D' (cSet (cDel L x) x t) n' ((2, L, n) :: tr) vs ∧ TExt S S' n ∧ n ≤ n' ∧ tv S' t = code_ 3 (tv S (L x)) (tv S (L (x + 1))) := by
  have hr := h.room
  have h6 := h.2.2.2.2.2.1
  have h8 := h.2.2.2.2.2.2.2
  have hL := h.2.1.2.2.2.2.1
  obtain ⟨S1, e1, f1, b1, b2, b3, b4, b5, b6⟩ := X1_note (N := N) (f := 2) h hx hl
  have c1 := h.2.1.of (f1.1 22 (by decide)) (f1.2.1 21 (by decide))
  have t1 := h.1.fr f1 (by decide) (by decide)
  obtain ⟨t, S3, n', k1, k2, k3, k4, k5, k6, k7, k8, k9, k10, k11⟩ := X5_tree (N := N) (f := 3) (a := L x) (b := L (x + 1)) hN t1 (by omega) (by decide) (hL x) (hL (x + 1))
  have c3 : CtR S3 D L n' := (c1.of (k2.1 22 (by decide)) (k2.2.1 21 (by decide))).mono k4 k3.2.2.1
  obtain ⟨S4, D4, q1, q2, q3, q4, q5, q6⟩ := X1_set (N := N) (x := x) (t := t) hN c3 (by omega) k7
  obtain ⟨S5, D', w1, w2, w3, w4, w5⟩ := X1_delete (N := N) (x := x + 1) q3 (by omega)
  have eL : cDel (cSet L x t) (x + 1) = cSet (cDel L x) x t := by
    funext i
    rw [cDel_at, cSet_at, cSet_at, cSet_at, cDel_at]
    by_cases c : i < x
    · rw [if_pos (by omega), if_neg (by omega), if_neg (by omega), if_pos c]
    · by_cases z : i = x
      · rw [if_pos (by omega), if_pos z, if_pos z]
      · rw [if_neg (by omega), if_neg (by omega), if_neg z, if_neg c]
  have xt := q6 (by omega)
  have ext : TExt S S5 n := (((TExt.fr f1 (by decide)).trans k11).trans (TExt.fr q2 (by decide))).trans (TExt.fr w2 (by decide))
  have ext3 : TExt S3 S5 n' := (TExt.fr q2 (by decide)).trans (TExt.fr w2 (by decide))
  have t5 : TrC S5 n' := (k3.fr q2 (by decide) (by decide)).fr w2 (by decide) (by decide)
  have vB : tB S5 t = L (x + 1) := by rw [(ext3 t k7).2.2]; exact k10
  refine ⟨S5, D', n', t, ?_, ((f1.mono (by decide) (by decide)).trans (k2.mono (by decide) (by decide))).trans ((q2.mono (by decide) (by decide)).trans (w2.mono (by decide) (by decide))), ?_, ext, k4, ?_⟩
  · unfold fX1_pairUp
    have e1' : fX1_note N S 2 (nI x) = some S1 := e1
    have k1' : fX5_tree N S1 3 (nI (L x)) (nI (L (x + 1))) = some (nI t, S3) := k1
    rw [bdo_ok e1', bd2_ok (X1_level c1 (by omega)), nI_1, bd2_ok (X1_level c1 (by omega)), bd2_ok k1', bdo_ok q1, bdo_ok w1]
  · rw [← eL]
    refine CX_op h hx hl (by decide) b1 b2 b3 b4 b5 b6 ((k2.mono (by decide) (by decide)).trans ((q2.mono (by decide) (by decide)).trans (w2.mono (by decide) (by decide)))) t5 w3 ⟨k4, k5⟩ ext ?_ (fun _ => ?_) ?_ ?_
    · rw [eL]
      funext i
      show cSet (cIns (cSet (cDel L x) x t) (x + 1) (L (x + 1))) x (L x) i = L i
      rw [cSet_at, cIns_at, cSet_at, cSet_at, cDel_at, cDel_at]
      by_cases z : i = x
      · rw [if_pos z, z]
      · rw [if_neg z]
        by_cases c : i < x + 1
        · rw [if_pos c, if_neg z, if_pos (by omega)]
        · rw [if_neg c]
          by_cases y : i = x + 1
          · rw [if_pos y, y]
          · rw [if_neg y, if_neg (by omega), if_neg (by omega), show i - 1 + 1 = i by omega]
    · rw [eL, cSet_at, if_pos rfl]
      exact ⟨vB, k6⟩
    · rw [dT_c, aT_c, if_pos (by decide), if_neg (by decide)]
      by_cases c : x + 1 < D4
      · have := w4 c; omega
      · have := w5 (by omega); omega
    · rw [dT_c, aT_c, if_pos (by decide), if_neg (by decide)]
      omega
  · rw [tv_s t5 k6 k7, (ext3 t k7).1, (ext3 t k7).2.1, vB, k8, k9, tv_ext h.1 t5 k4 ext _ (hL x), tv_ext h.1 t5 k4 ext _ (hL (x + 1))]
theorem X1_split {S : St} {N D n vs x : Nat} {L : Nat → Nat} {tr : List Te} (hN : Big N) (h : CX S D L n tr vs) (hx : x ≤ 63) (hl : vs + tr.length < 4000) : (¬ (0 < L x ∧ tF S (L x) = 3) → fX1_split N S (nI x) = some (0, S)) ∧ (0 < L x ∧ tF S (L x) = 3 → ∃ S' D', fX1_split N S (nI x) = some (1, S') ∧ Fr S S' XI XA ∧ CX S' D' (cIns (cSet L x (tA S (L x))) (x + 1) (tB S (L x))) n ((3, L, n) :: tr) vs ∧ TExt S S' n) := by
  have hr := h.room
  have hdb := DB_le h.2.2.2.2.2.2.1
  have h6 := h.2.2.2.2.2.1
  have hL := h.2.1.2.2.2.2.1
  obtain ⟨fm, lf, rg⟩ := X5_form (N := N) h.1 (hL x)
  have e0 : fX1_level N S (nI x) = some (nI (L x), S) := X1_level h.2.1 (by omega)
  refine ⟨fun hn => ?_, fun hp => ?_⟩
  · unfold fX1_split
    rw [bd2_ok e0, bd2_ok fm, if_neg (fun q => hn ?_)]
    by_cases z : L x = 0
    · rw [if_pos z] at q
      exact absurd q (by decide)
    · rw [if_neg z] at q
      have := h.1.2.2.2.1 (L x) (by omega) (hL x)
      exact ⟨by omega, (nI_eq (by omega) (by omega)).mp (q.trans (show (3 : Int32) = nI 3 from rfl))⟩
  · obtain ⟨p0, p3⟩ := hp
    have nz : ¬ L x = 0 := by omega
    rw [if_neg nz] at fm
    obtain ⟨-, -, -, -, -, a6, a7, -⟩ := h.1.2.2.2.1 (L x) p0 (hL x)
    have hLx := hL x
    obtain ⟨S1, e1, f1, b1, b2, b3, b4, b5, b6⟩ := X1_note (N := N) (f := 3) h hx hl
    have c1 := h.2.1.of (f1.1 22 (by decide)) (f1.2.1 21 (by decide))
    have t1 := h.1.fr f1 (by decide) (by decide)
    obtain ⟨-, lf1, -⟩ := X5_form (N := N) t1 (hL x)
    have x1 : TExt S S1 n := TExt.fr f1 (by decide)
    rw [if_neg nz, (x1 _ (hL x)).2.1] at lf1
    obtain ⟨S2, D2, q1, q2, q3, q4, q5, q6⟩ := X1_set (N := N) (x := x) (t := tA S (L x)) hN c1 (by omega) (by omega)
    have t2 := t1.fr q2 (by decide) (by decide)
    obtain ⟨-, -, rg2⟩ := X5_form (N := N) t2 (hL x)
    have x2 : TExt S S2 n := x1.trans (TExt.fr q2 (by decide))
    rw [if_neg nz, (x2 _ (hL x)).2.2] at rg2
    have xD : x < D := by
      have h4 := h.2.1.2.2.2.1
      by_cases z : x < D
      · exact z
      · exact absurd (h4 x (by omega)) nz
    have d2 := q5 xD
    obtain ⟨S3, D', w1, w2, w3, w4, -⟩ := X1_insert (N := N) (x := x + 1) (t := tB S (L x)) hN q3 (by omega) (by omega) (by omega)
    have ext : TExt S S3 n := x2.trans (TExt.fr w2 (by decide))
    refine ⟨S3, D', ?_, (f1.mono (by decide) (by decide)).trans ((q2.mono (by decide) (by decide)).trans (w2.mono (by decide) (by decide))), CX_op h hx hl (by decide) b1 b2 b3 b4 b5 b6 ((q2.mono (by decide) (by decide)).trans (w2.mono (by decide) (by decide))) (t2.fr w2 (by decide) (by decide)) w3 (by omega) ext ?_ (fun q => absurd q (by decide)) ?_ ?_, ext⟩
    · unfold fX1_split
      have e1' : fX1_note N S 3 (nI x) = some S1 := e1
      rw [bd2_ok e0, bd2_ok fm, if_pos (by rw [p3]; rfl), bdo_ok e1', bd2_ok lf1, bdo_ok q1, bd2_ok rg2, nI_1, bdo_ok w1]
    · funext i
      show cDel (cSet (cIns (cSet L x (tA S (L x))) (x + 1) (tB S (L x))) x (L x)) (x + 1) i = L i
      rw [cDel_at, cSet_at, cSet_at, cIns_at, cIns_at, cSet_at, cSet_at, cSet_at]
      by_cases c : i < x + 1
      · rw [if_pos c]
        by_cases z : i = x
        · rw [if_pos z, z]
        · rw [if_neg z, if_pos c, if_neg z]
      · rw [if_neg c, if_neg (by omega), if_neg (by omega), if_neg (by omega), Nat.add_sub_cancel, cSet_at, if_neg (by omega)]
    · rw [dT_c, aT_c, if_neg (by decide), if_pos (by decide)]
      omega
    · rw [dT_c, aT_c, if_neg (by decide), if_pos (by decide)]
      omega
theorem undL4 {x t : Nat} {L : Nat → Nat} : undL 4 x (L x) (L (x + 1)) (cSet L x t) = L := by
  funext i
  show cSet (cSet L x t) x (L x) i = L i
  rw [cSet_at, cSet_at]
  by_cases z : i = x
  · rw [if_pos z, z]
  · rw [if_neg z, if_neg z]
theorem X1_enterFan {S : St} {N D n vs x q : Nat} {L : Nat → Nat} {tr : List Te} (hN : Big N) (h : CX S D L n tr vs) (hx : x ≤ 63) (hl : vs + tr.length < 4000) (hq : q = 1 ∨ q = 2) : ∃ S' D' n' t, fX1_enterFan N S (nI x) (nI q) = some S' ∧ Fr S S' XI XA ∧ CX S' D' (cSet L x t) n' ((4, L, n) :: tr) vs ∧ TExt S S' n ∧ n ≤ n' ∧ tv S' t = code_ q (tv S (L x)) 0 := by
  have hr := h.room
  have hdb := DB_le h.2.2.2.2.2.2.1
  have h6 := h.2.2.2.2.2.1
  have h8 := h.2.2.2.2.2.2.2
  have hL := h.2.1.2.2.2.2.1
  have n1 := h.1.2.1
  obtain ⟨S1, e1, f1, b1, b2, b3, b4, b5, b6⟩ := X1_note (N := N) (f := 4) h hx hl
  have c1 := h.2.1.of (f1.1 22 (by decide)) (f1.2.1 21 (by decide))
  have t1 := h.1.fr f1 (by decide) (by decide)
  obtain ⟨t, S3, n', k1, k2, k3, k4, k5, k6, k7, k8, k9, k10, k11⟩ := X5_tree (N := N) (f := q) (a := L x) (b := 0) hN t1 (by omega) (by omega) (hL x) n1
  have c3 : CtR S3 D L n' := (c1.of (k2.1 22 (by decide)) (k2.2.1 21 (by decide))).mono k4 k3.2.2.1
  obtain ⟨S4, D', q1, q2, q3, q4, q5, q6⟩ := X1_set (N := N) (x := x) (t := t) hN c3 (by omega) k7
  have ext : TExt S S4 n := ((TExt.fr f1 (by decide)).trans k11).trans (TExt.fr q2 (by decide))
  have ext3 : TExt S3 S4 n' := TExt.fr q2 (by decide)
  have t5 : TrC S4 n' := k3.fr q2 (by decide) (by decide)
  refine ⟨S4, D', n', t, ?_, (f1.mono (by decide) (by decide)).trans ((k2.mono (by decide) (by decide)).trans (q2.mono (by decide) (by decide))), CX_op h hx hl (by decide) b1 b2 b3 b4 b5 b6 ((k2.mono (by decide) (by decide)).trans (q2.mono (by decide) (by decide))) t5 q3 ⟨k4, k5⟩ ext undL4 (fun q => absurd q (by decide)) ?_ ?_, ext, k4, ?_⟩
  · unfold fX1_enterFan
    have e1' : fX1_note N S 4 (nI x) = some S1 := e1
    have k1' : ∀ z : Int32, z = nI q → fX1_enterFan_22 N S1 (nI x) (nI x) z = some S4 := fun z hz => by
      have k1 : fX5_tree N S1 (nI q) (nI (L x)) 0 = some (nI t, S3) := k1
      unfold fX1_enterFan_22
      rw [bd2_ok (X1_level c1 (by omega)), hz, bd2_ok k1, bdo_ok q1]
    rw [bdo_ok e1']
    rcases hq with z | z
    · rw [if_pos (by rw [z]; rfl)]
      exact k1' 1 (by rw [z]; rfl)
    · rw [if_neg (by rw [z]; decide)]
      exact k1' 2 (by rw [z]; rfl)
  · rw [dT_c, aT_c, if_neg (by decide), if_neg (by decide)]
    omega
  · rw [dT_c, aT_c, if_neg (by decide), if_neg (by decide)]
    omega
  · rw [tv_s t5 k6 k7, (ext3 t k7).1, (ext3 t k7).2.1, (ext3 t k7).2.2, k8, k9, k10, tv_ext h.1 t5 k4 ext _ (hL x), tv_0]
theorem X1_leaveFan {S : St} {N D n vs x : Nat} {L : Nat → Nat} {tr : List Te} (hN : Big N) (h : CX S D L n tr vs) (hx : x ≤ 63) (hl : vs + tr.length < 4000) : (¬ (0 < L x ∧ (tF S (L x) = 1 ∨ tF S (L x) = 2)) → fX1_leaveFan N S (nI x) = some (-1, S)) ∧ (0 < L x ∧ (tF S (L x) = 1 ∨ tF S (L x) = 2) → ∃ S' D', fX1_leaveFan N S (nI x) = some (nI (tF S (L x)), S') ∧ Fr S S' XI XA ∧ CX S' D' (cSet L x (tA S (L x))) n ((4, L, n) :: tr) vs ∧ TExt S S' n) := by
  have hr := h.room
  have hdb := DB_le h.2.2.2.2.2.2.1
  have h6 := h.2.2.2.2.2.1
  have hL := h.2.1.2.2.2.2.1
  obtain ⟨fm, lf, rg⟩ := X5_form (N := N) h.1 (hL x)
  have e0 : fX1_level N S (nI x) = some (nI (L x), S) := X1_level h.2.1 (by omega)
  refine ⟨fun hn => ?_, fun hp => ?_⟩
  · unfold fX1_leaveFan
    rw [bd2_ok e0, bd2_ok fm]
    by_cases z : L x = 0
    · rw [if_pos z, if_neg (by decide), if_neg (by decide)]
    · have := h.1.2.2.2.1 (L x) (by omega) (hL x)
      rw [if_neg z, if_neg (fun q => hn ⟨by omega, Or.inl ((nI_eq (by omega) (by omega)).mp (q.trans (show (1 : Int32) = nI 1 from rfl)))⟩), if_neg (fun q => hn ⟨by omega, Or.inr ((nI_eq (by omega) (by omega)).mp (q.trans (show (2 : Int32) = nI 2 from rfl)))⟩)]
  · obtain ⟨p0, p3⟩ := hp
    have nz : ¬ L x = 0 := by omega
    rw [if_neg nz] at fm
    obtain ⟨-, -, -, -, -, a6, a7, -⟩ := h.1.2.2.2.1 (L x) p0 (hL x)
    have hLx := hL x
    obtain ⟨S1, e1, f1, b1, b2, b3, b4, b5, b6⟩ := X1_note (N := N) (f := 4) h hx hl
    have c1 := h.2.1.of (f1.1 22 (by decide)) (f1.2.1 21 (by decide))
    have t1 := h.1.fr f1 (by decide) (by decide)
    obtain ⟨-, lf1, -⟩ := X5_form (N := N) t1 (hL x)
    have x1 : TExt S S1 n := TExt.fr f1 (by decide)
    rw [if_neg nz, (x1 _ (hL x)).2.1] at lf1
    obtain ⟨S2, D', q1, q2, q3, q4, q5, q6⟩ := X1_set (N := N) (x := x) (t := tA S (L x)) hN c1 (by omega) (by omega)
    have ext : TExt S S2 n := x1.trans (TExt.fr q2 (by decide))
    have f27 : ∀ z : Int32, z = nI (tF S (L x)) → fX1_leaveFan_27 N S (nI x) (nI (L x)) z = some (nI (tF S (L x)), S2) := by
      intro z hz
      unfold fX1_leaveFan_27
      have e1' : fX1_note N S 4 (nI x) = some S1 := e1
      rw [bdo_ok e1', bd2_ok lf1, bdo_ok q1, hz]
      rcases p3 with e | e
      · rw [e, if_pos (by decide)]
        rfl
      · rw [e, if_neg (by decide)]
        rfl
    refine ⟨S2, D', ?_, (f1.mono (by decide) (by decide)).trans (q2.mono (by decide) (by decide)), CX_op h hx hl (by decide) b1 b2 b3 b4 b5 b6 (q2.mono (by decide) (by decide)) (t1.fr q2 (by decide) (by decide)) q3 (by omega) ext undL4 (fun q => absurd q (by decide)) ?_ ?_, ext⟩
    · unfold fX1_leaveFan
      rw [bd2_ok e0, bd2_ok fm]
      rcases p3 with e | e
      · rw [if_pos (by rw [e]; rfl)]
        exact f27 _ rfl
      · rw [if_neg (by rw [e]; decide), if_pos (by rw [e]; rfl)]
        exact f27 _ rfl
    · rw [dT_c, aT_c, if_neg (by decide), if_neg (by decide)]
      omega
    · rw [dT_c, aT_c, if_neg (by decide), if_neg (by decide)]
      omega
