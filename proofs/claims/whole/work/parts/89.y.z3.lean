/-! an application: a name that its argument has -/
theorem AL.tg {S M : St} {n c bn : Nat} {r : List Itm} {x t t1 t2 ap : Nat} {sc : Sc} {f1 f2 g h : Nat → Option Pt} {k0 : Nat} {lab : Nat → Nat → Nat} {E : Nat → Nat → Nat → Prop} {tag : Nat → Nat → Nat × Nat} {xh be : Nat → Nat} {U : Nat → Prop} (hA : AF bn r x t t1 t2 sc xh) (hL : AL S M n c bn r x t t1 t2 ap sc f1 f2 g h k0 lab E tag xh be U) : TGs n r ap g h tag := by
  obtain ⟨l1, l2, l3, ⟨l4, l5, l6⟩, ⟨l7, l8, l9, l10, l11⟩, ⟨l12, l13⟩, l14, l15, ⟨l16, l17, l18, l19, l20⟩, ⟨l21, l22, l23, l24⟩⟩ := hL
  obtain ⟨⟨o1, o2⟩, o3, o4, o5, o6, o7, o8, o9, o10, o11⟩ := hA
  refine ⟨fun v k q => ?_, ⟨l16, l19⟩, fun j p q => ⟨(l2 j p q).1, (l2 j p q).2.2.1⟩, fun j p q => ⟨(l3 j p q).1, (l3 j p q).2.2.1⟩⟩
  rcases q with ⟨y1, y2⟩ | ⟨it, y1, y2⟩
  · rw [y1, y2, l24]
    exact ⟨by omega, by show ¬ 1000 = r.length; omega, by show ¬ 1000 = r.length + 1; omega⟩
  · have := StR.tag r l15 it y1 v k y2
    exact ⟨(l1.2.2.2.2.2.2.2.1 v k (Or.inl (Or.inr ⟨it, y1, y2⟩))).1, by omega, by omega⟩
theorem AP_step {S M : St} {N n c bn : Nat} {r : List Itm} {x t t1 t2 ap : Nat} {sc : Sc} {f1 f2 g h : Nat → Option Pt} {s i : Nat} {lab : Nat → Nat → Nat} {E : Nat → Nat → Nat → Prop} {tag : Nat → Nat → Nat × Nat} {xh be : Nat → Nat} {U : Nat → Prop} (hA : AF bn r x t t1 t2 sc xh) (hm : (s, i) ∈ sc) (hL : AL S M n c bn r x t t1 t2 ap sc f1 f2 g h i lab E tag xh be U) (hn : n + 1 < 3000) (hc : c + 2 ≤ 12000) {y : Pt} (hy : f2 i = some y) :
    ∃ S' M' n' g' h' lab' E' tag', (∀ kk, fX0_buildApplication_87s N kk S (nI x) (nI (r.length + 1)) (nI r.length) (nI s) = kk (S', nI x, nI (r.length + 1), nI r.length, nI (s + 1))) ∧ (∀ kk, fX8_ofApplied_55s N kk M (nI t) (nI x) (nI ap) (nI i) = kk (M', nI t, nI x, nI ap, nI (i + 1))) ∧ AL S' M' n' c bn r x t t1 t2 ap sc f1 f2 g' h' (i + 1) lab' E' tag' xh be U ∧ FrB S S' ∧ Fr M M' [21, 22, 28] [17, 18, 19, 27, 29] ∧ n' + cfn g' sc + cfn h' sc ≤ n + cfn g sc + cfn h sc + 1 := by
  have T := hL.tg hA
  obtain ⟨l1, l2, l3, ⟨l4, l5, l6⟩, ⟨l7, l8, l9, l10, l11⟩, ⟨l12, l13⟩, l14, l15, ⟨l16, l17, l18, l19, l20⟩, ⟨l21, l22, l23, l24⟩⟩ := id hL
  obtain ⟨⟨o1, o2⟩, o3, o4, o5, o6, o7, o8, o9, o10, o11⟩ := id hA
  obtain ⟨y1, y2, y3⟩ := o2 _ hm
  have y1 : s < 40 := y1
  have y2 : i < bn := y2
  have y3 : xh i ≤ x := y3
  obtain ⟨gi, hi⟩ := l12 i (Nat.le_refl _)
  rw [hy] at hi
  obtain ⟨w1, w2, w3, w4, w5, w6, w7, w8⟩ := l3 i y hi
  have np3 := nP_le (cK S y.1)
  have yne : ¬ y.1 = n := by omega
  have hyx : 4 * y.1 + y.2 < 2 ^ 31 := by omega
  -- the bracket
  obtain ⟨S1, M1, b1, b2, b3, b4, b5, b6⟩ := BG_make (N := N) (be' := be) (U' := U) (k := 4) (y := x) (x := nI x) l1 (by omega) (by decide) (fun _ => rfl) (by omega) (fun p => if p = 1 then x + 2 else x + 1) (fun _ j => j = i) (fun j q => ⟨q, rfl⟩) (fun G g1 g2 => by
    have g2 := g2 (by decide)
    refine ⟨?_, ?_⟩
    · unfold LbN
      rw [g1, g2]
      simp
    · unfold EnN
      rw [g1, g2]
      refine ⟨fun q => absurd q (by decide), fun q => absurd q (by decide), fun _ => ⟨i, fun k j => by simp, y3⟩, fun q => absurd q (by decide)⟩)
  have c1 : ∀ v, v < n → cK S1 v = cK S v := fun v hv => by rw [b5, updN_at, if_neg (by omega)]
  have c1n : cK S1 n = 4 := by rw [b5, updN_at, if_pos rfl]
  have dy : DL r ap g h y.1 y.2 := Or.inr (Or.inr (Or.inr ⟨i, hi⟩))
  have cy5 : cK S y.1 ≠ 5 := by rcases w5.1 with q | q | q <;> omega
  obtain ⟨S2, M2, c2, d1, d2, d3, d4, d5, d6, d7, d8⟩ := BG_link (N := N) (a := n) (i := 1) (b := y.1) (j := y.2) b6 (by omega) (Or.inr ⟨rfl, by decide⟩) (Or.inl dy) (fun z => yne z.1.symm) (by
      show (if n = n then (if (1 : Nat) = 1 then x + 2 else x + 1) else lab n 1) = (if y.1 = n then _ else lab y.1 y.2)
      rw [if_pos rfl, if_pos rfl, if_neg yne, w4]) (fun j => by
      show (if n = n then (fun j => j = i) else E n 1) j ↔ (if y.1 = n then _ else E y.1 y.2) j
      rw [if_pos rfl, if_neg yne]
      exact (w6 j).symm) (by
      rw [c1n, c1 _ w1]
      exact ⟨fun z => absurd z (by unfold outP; omega), fun z => absurd w5.2 z⟩)
  have c2c : c2 = c := d7 (by rw [c1n]; decide) (by rw [c1 _ w1]; exact cy5)
  rw [c2c] at d8
  have Fs2 : Fr S S2 [44, 48] [40, 41, 42, 45, 46, 47] := (b3.mono (by decide) (by decide)).trans (d3.mono (by decide) (by decide))
  have Fm2 : Fr M M2 [21, 22, 28] [17, 18, 19, 27] := (b4.mono (by decide) (by decide)).trans (d4.mono (by decide) (by decide))
  have pk1 : fX7_portOf (nI n) 1 = some (nI (4 * n + 1)) := pO n 1
  have pk0 : fX7_portOf (nI n) 0 = some (nI (4 * n + 0)) := pO n 0
  have b1' : fX2_make N S 4 (nI x) = some (nI n, S1) := b1
  have b2' : fX8_node N M 4 (nI x) = some (nI n, M1) := b2
  have brC : fX0_bracket N S (nI x) (nI (4 * y.1 + y.2)) = some (nI (4 * n + 0), S2) := by
    unfold fX0_bracket
    rw [bd2_ok b1', bdo_ok pk1, bdo_ok d1, bdo_ok pk0]
  have r5 : S.2.2.1 (r.length + 1) s = nI (4 * y.1 + y.2) := by
    rw [l6 s y1, scI_in o1 hm]
    show pI4 (f2 i) = _
    rw [hy]; rfl
  have r4 : S.2.2.1 r.length s = pI4 (g i) := by
    rw [l5 s y1, scI_in o1 hm]; rfl
  have np : ∀ q, q < 2 ^ 31 → ¬ nI q = (-1 : Int32) := fun q hq e => nI_pos hq (by rw [e]; decide)
  -- the class at a name
  have opC : ∀ kk, fX0_buildApplication_87s N kk S (nI x) (nI (r.length + 1)) (nI r.length) (nI s) = bd2 (fX0_share N S2 (nI x) (pI4 (g i)) (nI (4 * n + 0))) fun v13 S15 => kk (sF S15 r.length (upd (S15.2.2.1 r.length) s v13), nI x, nI (r.length + 1), nI r.length, nI (s + 1)) := fun kk => by
    unfold fX0_buildApplication_87s
    rw [show (40 : Int32) = nI 40 from rfl, if_neg (fun q => absurd ((nI_leI (by omega) (by omega)).mp q) (by omega)), ckx_ok (vp_in_nI (by omega) (by omega)), ckx_ok (vp_in_nI (by omega) (by omega)), bnd_eq, nI_clamp (show r.length + 1 < 2 ^ 31 by omega), nI_clamp (show s < 2 ^ 31 by omega), r5, if_neg (np _ hyx), ckx_ok (vp_in_nI (by omega) (by omega)), ckx_ok (vp_in_nI (by omega) (by omega)), ckx_ok (vp_in_nI (by omega) (by omega)), bd2_ok brC, nI_clamp (show r.length < 2 ^ 31 by omega), r4]
    congr 1
    funext v13 S15
    rw [ckx_ok (vp_in_nI (by omega) (by omega)), bnd_eq]
    unfold fX0_buildApplication_141
    rw [bnd_eq, show nI s + (1 : Int32) = nI (s + 1) from nI_1 _]
  -- the reference at a name
  have opM : ∀ kk, fX8_ofApplied_55s N kk M (nI t) (nI x) (nI ap) (nI i) = fX8_ofApplied_133 N kk M2 (nI t) (nI x) (nI ap) (nI i) (pI3 (g i)) (nI (3 * n)) := fun kk => by
    have d2' : fX8_wire N M1 (nI (3 * n + 1)) (pI3 (f2 i)) = some M2 := by rw [hy]; exact d2
    rw [M_read o4 o5 o6 l7 l8 l9 y2 o10 (l10 i y2).1 (l10 i y2).2 kk, if_neg (pI3_pos hy (by omega)), bd2_ok b2', show (3 : Int32) = nI 3 from rfl, pk_mul, show nI (3 * n) + (1 : Int32) = nI (3 * n + 1) from nI_1 _, bdo_ok d2', bnd_eq, gi]
  have n0 : ¬ nI (3 * n) < 0 := nI_pos (by omega)
  have hne : h i ≠ none := by rw [hi]; intro z; cases z
  have cu2 := cfn_upd (g := h) (i := i) (s := s) (v := none) sc o1 hm
  have hs : (h i).isSome = true := by rw [hi]; rfl
  rw [if_pos hs, if_neg (show ¬ (none : Option Pt).isSome = true from by decide)] at cu2
  have l2' := l2
  cases eg : g i with
  | none =>
    have set1 := AP_set1 T eg hi
    rw [set1] at d8
    have cu1 := cfn_upd (g := g) (i := i) (s := s) (v := some (n, 0)) sc o1 hm
    rw [if_neg (show ¬ (g i).isSome = true by rw [eg]; decide), if_pos (show (some ((n, 0) : Pt)).isSome = true from rfl)] at cu1
    have done := AP_done (s := s) (m := n) hA hm hL hne (n' := n + 1) ⟨Nat.le_refl _, by omega⟩ (by omega) d8 Fs2 Fm2 (fun v hv => ⟨by rw [d5]; exact c1 v hv, by
      funext p
      show (if v = n then _ else lab v p) = _
      rw [if_neg (by omega)], by
      funext p
      show (if v = n then _ else E v p) = _
      rw [if_neg (by omega)]⟩) (by rw [d5, c1n]; exact Or.inr (Or.inr rfl)) (by
      show (if n = n then (if (0 : Nat) = 1 then x + 2 else x + 1) else _) = _
      rw [if_pos rfl, if_neg (by decide)]) (fun j => by
      show (if n = n then (fun j => j = i) else E n 0) j ↔ _
      rw [if_pos rfl])
    refine ⟨_, _, n + 1, _, _, _, _, _, fun kk => ?_, fun kk => ?_, done, ?_, ?_, by omega⟩
    · rw [opC kk, eg]
      have : fX0_share N S2 (nI x) (pI4 none) (nI (4 * n + 0)) = some (nI (4 * n + 0), S2) := by
        unfold fX0_share
        rw [if_pos (show pI4 none = -1 from rfl)]
      rw [bd2_ok this]
    · rw [opM kk, eg]
      unfold fX8_ofApplied_133
      rw [if_pos (pI3_neg rfl)]
      unfold fX8_ofApplied_181
      rw [if_pos (pI3_neg rfl), M_204 o4 (by omega)]
      rfl
    · exact (Fs2.b (by decide) (by decide)).trans FrB.F
    · exact (Fm2.mono (by decide) (by decide)).trans (Fr.A (by decide))
  | some z0 =>
    obtain ⟨v1, v2, v3, v4, v5, v6, v7, v8⟩ := l2 i z0 eg
    have np3' := nP_le (cK S z0.1)
    have zne : ¬ z0.1 = n := by omega
    have zne1 : ¬ z0.1 = n + 1 := by omega
    have cz5 : cK S z0.1 ≠ 5 := by rcases v5.1 with q | q | q <;> omega
    have zy : ¬ (z0.1 = y.1 ∧ z0.2 = y.2) := fun q => by
      rw [q.1, q.2, w3] at v3
      exact absurd (congrArg Prod.fst v3) (by show ¬ r.length + 1 = r.length; omega)
    -- the fan
    obtain ⟨S3, M3, e1, e2, e3, e4, e5, e6⟩ := BG_make (N := N) (be' := be) (U' := U) (k := 2) (y := x) (x := nI x) d8 (by omega) (by decide) (fun _ => rfl) (by omega) (fun p => x + 1) (fun _ j => j = i) (fun j q => ⟨q, rfl⟩) (fun G g1 g2 => by
      have g2 := g2 (by decide)
      refine ⟨?_, ?_⟩
      · unfold LbN
        rw [g1, g2]
        simp
      · unfold EnN
        rw [g1, g2]
        refine ⟨fun q => absurd q (by decide), fun q => absurd q (by decide), fun _ => ⟨i, fun k j => by simp, y3⟩, fun q => absurd q (by decide)⟩)
    have k3 : ∀ v, v < n → cK S3 v = cK S v := fun v hv => by rw [e5, updN_at, if_neg (by omega), d5]; exact c1 v hv
    have k3n : cK S3 n = 4 := by rw [e5, updN_at, if_neg (by omega), d5]; exact c1n
    have k3m : cK S3 (n + 1) = 2 := by rw [e5, updN_at, if_pos rfl]
    have dz : DL r ap g h z0.1 z0.2 := Or.inr (Or.inr (Or.inl ⟨i, eg⟩))
    obtain ⟨S4, M4, c4, p1, p2, p3, p4, p5, p6, p7, p8⟩ := BG_link (N := N) (a := n + 1) (i := 1) (b := z0.1) (j := z0.2) e6 (by omega) (Or.inr ⟨rfl, by decide⟩) (Or.inl ⟨Or.inl dz, fun q => zne q.1, zy⟩) (fun z => zne1 z.1.symm) (by
      show (if n + 1 = n + 1 then x + 1 else _) = (if z0.1 = n + 1 then _ else if z0.1 = n then _ else lab z0.1 z0.2)
      rw [if_pos rfl, if_neg zne1, if_neg zne, v4]) (fun j => by
      show (if n + 1 = n + 1 then (fun j => j = i) else _) j ↔ (if z0.1 = n + 1 then _ else if z0.1 = n then _ else E z0.1 z0.2) j
      rw [if_pos rfl, if_neg zne1, if_neg zne]
      exact (v6 j).symm) (by
      rw [k3m, k3 _ v1]
      exact ⟨fun z => absurd z (by unfold outP; omega), fun z => absurd v5.2 z⟩)
    have c4c : c4 = c := p7 (by rw [k3m]; decide) (by rw [k3 _ v1]; exact cz5)
    rw [c4c] at p8
    obtain ⟨S5, M5, c5, q1, q2, q3, q4, q5, q6, q7, q8⟩ := BG_link (N := N) (a := n + 1) (i := 2) (b := n) (j := 0) p8 (by omega) ⟨Or.inr ⟨rfl, by decide⟩, fun q => absurd q.2 (by decide), fun q => zne1 q.1.symm⟩ ⟨Or.inl ⟨Or.inr ⟨rfl, by decide⟩, fun q => absurd q.2 (by decide), fun q => yne q.1.symm⟩, fun q => absurd q.1 (by omega), fun q => zne q.1.symm⟩ (fun z => absurd z.1 (by omega)) (by
      show (if n + 1 = n + 1 then x + 1 else _) = (if n = n + 1 then _ else if n = n then (if (0 : Nat) = 1 then x + 2 else x + 1) else _)
      rw [if_pos rfl, if_neg (by omega), if_pos rfl, if_neg (by decide)]) (fun j => by
      show (if n + 1 = n + 1 then (fun j => j = i) else _) j ↔ (if n = n + 1 then _ else if n = n then (fun j => j = i) else _) j
      rw [if_pos rfl, if_neg (by omega), if_pos rfl]) (by
      rw [p5, k3m, k3n]
      exact ⟨fun z => absurd z (by unfold outP; omega), fun z => absurd (show outP 4 0 from Or.inr (Or.inr ⟨by decide, rfl⟩)) z⟩)
    have c5c : c5 = c := q7 (by rw [p5, k3m]; decide) (by rw [p5, k3n]; decide)
    rw [c5c] at q8
    have set2 := AP_set2 T eg hi
    rw [set2] at q8
    have Fs5 : Fr S S5 [44, 48] [40, 41, 42, 45, 46, 47] := (Fs2.trans (e3.mono (by decide) (by decide))).trans ((p3.mono (by decide) (by decide)).trans (q3.mono (by decide) (by decide)))
    have Fm5 : Fr M M5 [21, 22, 28] [17, 18, 19, 27] := (Fm2.trans (e4.mono (by decide) (by decide))).trans ((p4.mono (by decide) (by decide)).trans (q4.mono (by decide) (by decide)))
    have cu1 := cfn_upd (g := g) (i := i) (s := s) (v := some (n + 1, 0)) sc o1 hm
    rw [if_pos (show (g i).isSome = true by rw [eg]; rfl), if_pos (show (some ((n + 1, 0) : Pt)).isSome = true from rfl)] at cu1
    have k5 : cK S5 = cK S3 := by rw [q5, p5]
    have done := AP_done (s := s) (m := n + 1) hA hm hL hne (n' := n + 1 + 1) ⟨by omega, by omega⟩ (by omega) q8 Fs5 Fm5 (fun v hv => ⟨by rw [k5]; exact k3 v hv, by
      funext p
      show (if v = n + 1 then _ else if v = n then _ else lab v p) = _
      rw [if_neg (by omega), if_neg (by omega)], by
      funext p
      show (if v = n + 1 then _ else if v = n then _ else E v p) = _
      rw [if_neg (by omega), if_neg (by omega)]⟩) (by rw [k5, k3m]; exact Or.inl rfl) (by
      show (if n + 1 = n + 1 then x + 1 else _) = _
      rw [if_pos rfl]) (fun j => by
      show (if n + 1 = n + 1 then (fun j => j = i) else _) j ↔ _
      rw [if_pos rfl])
    refine ⟨_, _, n + 1 + 1, _, _, _, _, _, fun kk => ?_, fun kk => ?_, done, ?_, ?_, by omega⟩
    · rw [opC kk, eg]
      have e1' : fX2_make N S2 2 (nI x) = some (nI (n + 1), S3) := e1
      have pm1 : fX7_portOf (nI (n + 1)) 1 = some (nI (4 * (n + 1) + 1)) := pO (n + 1) 1
      have pm2 : fX7_portOf (nI (n + 1)) 2 = some (nI (4 * (n + 1) + 2)) := pO (n + 1) 2
      have pm0 : fX7_portOf (nI (n + 1)) 0 = some (nI (4 * (n + 1) + 0)) := pO (n + 1) 0
      have : fX0_share N S2 (nI x) (pI4 (some z0)) (nI (4 * n + 0)) = some (nI (4 * (n + 1) + 0), S5) := by
        unfold fX0_share
        rw [show pI4 (some z0) = nI (4 * z0.1 + z0.2) from rfl, if_neg (np _ (by omega)), bd2_ok e1', bdo_ok pm1, bdo_ok p1, bdo_ok pm2, bdo_ok q1, bdo_ok pm0]
      rw [bd2_ok this]
    · rw [opM kk, eg]
      have e2' : fX8_node N M2 2 (nI x) = some (nI (n + 1), M3) := e2
      have q2' : fX8_wire N M4 (nI (3 * (n + 1) + 2)) (nI (3 * n)) = some M5 := q2
      have p2' : fX8_wire N M3 (nI (3 * (n + 1) + 1)) (pI3 (some z0)) = some M4 := p2
      unfold fX8_ofApplied_133
      rw [if_neg (pI3_pos rfl (by omega)), if_neg n0, bd2_ok e2', show (3 : Int32) = nI 3 from rfl, pk_mul, show nI (3 * (n + 1)) + (1 : Int32) = nI (3 * (n + 1) + 1) from nI_1 _, bdo_ok p2', show nI (3 * (n + 1)) + (2 : Int32) = nI (3 * (n + 1) + 2) from nI_add _ _, bdo_ok q2', bnd_eq]
      unfold fX8_ofApplied_181
      rw [if_neg (nI_pos (by omega)), M_204 o4 (by omega)]
      rfl
    · exact (Fs5.b (by decide) (by decide)).trans FrB.F
    · exact (Fm5.mono (by decide) (by decide)).trans (Fr.A (by decide))
