/-! an application: names that its argument has not -/
theorem pI3_neg {o : Option Pt} (h : o = none) : pI3 o < 0 := by rw [h]; decide
theorem AL_skip {S M : St} {n c bn : Nat} {r : List Itm} {x t t1 t2 ap : Nat} {sc : Sc} {f1 f2 g h : Nat → Option Pt} {k0 : Nat} {lab : Nat → Nat → Nat} {E : Nat → Nat → Nat → Prop} {tag : Nat → Nat → Nat × Nat} {xh be : Nat → Nat} {U : Nat → Prop} (hA : AF bn r x t t1 t2 sc xh) (hL : AL S M n c bn r x t t1 t2 ap sc f1 f2 g h k0 lab E tag xh be U) (hk : k0 < bn) (hh : f2 k0 = none) :
    AL S (sA M 29 (upd (M.2.1 29) (80 * t + k0) (pI3 (g k0)))) n c bn r x t t1 t2 ap sc f1 f2 g h (k0 + 1) lab E tag xh be U := by
  obtain ⟨l1, l2, l3, l4, ⟨l7, l8, l9, l10, l11⟩, ⟨l12, l13⟩, l14, l15, l16, l21⟩ := hL
  obtain ⟨⟨o1, o2⟩, o3, o4, o5, o6, o7, o8, o9, o10, o11⟩ := hA
  obtain ⟨b1, b2⟩ := l1.of (S' := S) (M' := sA M 29 (upd (M.2.1 29) (80 * t + k0) (pI3 (g k0)))) (fun k hk => rfl) (fun k hk => rfl) (fun k hk => rfl) (fun k hk => by
    have : k ≠ 29 := fun z => by rw [z] at hk; exact absurd hk (by decide)
    show (if k = 29 then _ else M.2.1 k) = _
    rw [if_neg this])
  refine ⟨b1, l2, l3, l4, ⟨?_, ?_, l9, fun j hj => ⟨?_, ?_⟩, fun j hj => ?_⟩, ⟨fun j hj => l12 j (by omega), fun j hj => ?_⟩, l14, StR.of (fun v hv => ⟨rfl, rfl, rfl, rfl⟩) (Nat.le_refl _) r (fun j hj => ⟨rfl, rfl⟩) (fun it hit => ⟨?_, fun j hj => ?_⟩) l15, l16, l21⟩
  · rw [sA_ne (by decide)]; exact l7
  · rw [sA_ne (by decide)]; exact l8
  · show upd (M.2.1 29) (80 * t + k0) (pI3 (g k0)) (80 * t1 + j) = _
    rw [upd_at, if_neg (by omega)]; exact (l10 j hj).1
  · show upd (M.2.1 29) (80 * t + k0) (pI3 (g k0)) (80 * t2 + j) = _
    rw [upd_at, if_neg (by omega)]; exact (l10 j hj).2
  · show upd (M.2.1 29) (80 * t + k0) (pI3 (g k0)) (80 * t + j) = _
    rw [upd_at]
    by_cases z : j = k0
    · rw [if_pos (by rw [z]), z]
    · rw [if_neg (by omega)]; exact l11 j (by omega)
  · by_cases z : j = k0
    · rw [z, (l12 k0 (Nat.le_refl _)).2]; exact hh
    · exact l13 j (by omega)
  · rw [sA_ne (by decide)]
  · have := o9 it hit
    show upd (M.2.1 29) (80 * t + k0) (pI3 (g k0)) (80 * it.2.2.1 + j) = _
    rw [upd_at, if_neg (by omega)]
/-- what both read for a name -/
theorem M_read {M : St} {N t t1 t2 x ap i bn : Nat} {y1 y2 : Int32} (ht : t < 300) (ht1 : t1 < 300) (ht2 : t2 < 300) (h4 : M.2.1 4 t = nI t1) (h5 : M.2.1 5 t = nI t2) (h14 : M.1 14 = nI bn) (hi : i < bn) (hb : bn ≤ 80) (r1 : M.2.1 29 (80 * t1 + i) = y1) (r2 : M.2.1 29 (80 * t2 + i) = y2) (kk : St × Int32 × Int32 × Int32 × Int32 → Option (Int32 × St)) :
    fX8_ofApplied_55s N kk M (nI t) (nI x) (nI ap) (nI i) = if y2 < 0 then fX8_ofApplied_133 N kk M (nI t) (nI x) (nI ap) (nI i) y1 y2 else bd2 (fX8_node N M (4 : Int32) (nI x)) fun v9 S11 => bdo (fX8_wire N S11 ((((3 : Int32) * v9) + (1 : Int32))) y2) fun S14 => bnd (((3 : Int32) * v9)) fun z15 => fX8_ofApplied_133 N kk S14 (nI t) (nI x) (nI ap) (nI i) y1 z15 := by
  unfold fX8_ofApplied_55s
  rw [h14, if_neg (fun q => absurd ((nI_leI (by omega) (by omega)).mp q) (by omega)), ckx_ok (vp_in_nI (by omega) (by omega)), nI_clamp (show t < 2 ^ 31 by omega), h4, h5, show (80 : Int32) = nI 80 from rfl, pk_mul, pk_mul, nI_add, nI_add, ckx_ok (vp_in_nI (by omega) (by omega)), bnd_eq, nI_clamp (show 80 * t1 + i < 2 ^ 31 by omega), r1, ckx_ok (vp_in_nI (by omega) (by omega)), ckx_ok (vp_in_nI (by omega) (by omega)), bnd_eq, nI_clamp (show 80 * t2 + i < 2 ^ 31 by omega), r2]
theorem M_204 {M : St} {N t x ap i : Nat} {y : Int32} (ht : t < 300) (hi : i < 80) (kk : St × Int32 × Int32 × Int32 × Int32 → Option (Int32 × St)) : fX8_ofApplied_204 N kk M (nI t) (nI x) (nI ap) (nI i) ((((80 : Int32) * nI t) + nI i)) y = kk (sA M 29 (upd (M.2.1 29) (80 * t + i) y), nI t, nI x, nI ap, nI (i + 1)) := by
  unfold fX8_ofApplied_204
  rw [show (80 : Int32) = nI 80 from rfl, pk_mul, nI_add, ckx_ok (vp_in_nI (by omega) (by omega)), bnd_eq, bnd_eq, nI_clamp (by omega), show nI i + (1 : Int32) = nI (i + 1) from nI_1 _]
theorem pI3_pos {o : Option Pt} {p : Pt} (h : o = some p) (hp : 3 * p.1 + p.2 < 2 ^ 31) : ¬ pI3 o < 0 := by
  rw [h]; exact nI_pos hp
theorem M_skip {S M : St} {N n c bn : Nat} {r : List Itm} {x t t1 t2 ap : Nat} {sc : Sc} {f1 f2 g h : Nat → Option Pt} {i : Nat} {lab : Nat → Nat → Nat} {E : Nat → Nat → Nat → Prop} {tag : Nat → Nat → Nat × Nat} {xh be : Nat → Nat} {U : Nat → Prop} (hA : AF bn r x t t1 t2 sc xh) (hL : AL S M n c bn r x t t1 t2 ap sc f1 f2 g h i lab E tag xh be U) (hk : i < bn) (hh : f2 i = none) (kk : St × Int32 × Int32 × Int32 × Int32 → Option (Int32 × St)) :
    fX8_ofApplied_55s N kk M (nI t) (nI x) (nI ap) (nI i) = kk (sA M 29 (upd (M.2.1 29) (80 * t + i) (pI3 (g i))), nI t, nI x, nI ap, nI (i + 1)) := by
  obtain ⟨l1, l2, l3, l4, ⟨l7, l8, l9, l10, l11⟩, ⟨l12, l13⟩, l14, l15, l16, l21⟩ := hL
  obtain ⟨⟨o1, o2⟩, o3, o4, o5, o6, o7, o8, o9, o10, o11⟩ := hA
  have gi := (l12 i (Nat.le_refl _)).1
  rw [M_read o4 o5 o6 l7 l8 l9 hk o10 (l10 i hk).1 (l10 i hk).2 kk, if_pos (pI3_neg hh)]
  unfold fX8_ofApplied_133
  by_cases c1 : pI3 (f1 i) < 0
  · rw [if_pos c1]
    unfold fX8_ofApplied_181
    rw [if_pos c1, M_204 o4 (by omega)]
    have : pI3 (f2 i) = pI3 (g i) := by
      rw [gi, hh]
      cases e : f1 i with
      | none => rfl
      | some p =>
        exfalso
        have z := l2 i p (by rw [gi]; exact e)
        have z1 := z.1
        have z2 := z.2.1
        have z3 := nP_le (cK S p.1)
        have z4 := l1.2.2.2.2.1.1
        exact pI3_pos e (by omega) c1
    rw [this]
  · rw [if_neg c1, if_pos (pI3_neg hh)]
    unfold fX8_ofApplied_181
    rw [if_neg c1, M_204 o4 (by omega), gi]
theorem C_skip {S M : St} {N n c bn : Nat} {r : List Itm} {x t t1 t2 ap : Nat} {sc : Sc} {f1 f2 g h : Nat → Option Pt} {i s : Nat} {lab : Nat → Nat → Nat} {E : Nat → Nat → Nat → Prop} {tag : Nat → Nat → Nat × Nat} {xh be : Nat → Nat} {U : Nat → Prop} (hA : AF bn r x t t1 t2 sc xh) (hL : AL S M n c bn r x t t1 t2 ap sc f1 f2 g h i lab E tag xh be U) (hs : s < 40) (hh : (scI sc s).bind f2 = none) (kk : St × Int32 × Int32 × Int32 × Int32 → Option St) :
    fX0_buildApplication_87s N kk S (nI x) (nI (r.length + 1)) (nI r.length) (nI s) = kk (S, nI x, nI (r.length + 1), nI r.length, nI (s + 1)) := by
  obtain ⟨l1, l2, l3, ⟨l4, l5, l6⟩, -⟩ := hL
  obtain ⟨⟨o1, o2⟩, o3, o4, o5, o6, o7, o8, o9, o10, o11⟩ := hA
  unfold fX0_buildApplication_87s
  rw [show (40 : Int32) = nI 40 from rfl, if_neg (fun q => absurd ((nI_leI (by omega) (by omega)).mp q) (by omega)), ckx_ok (vp_in_nI (by omega) (by omega)), ckx_ok (vp_in_nI (by omega) (by omega)), bnd_eq, nI_clamp (show r.length + 1 < 2 ^ 31 by omega), nI_clamp (show s < 2 ^ 31 by omega), l6 s hs, hh, if_pos (show pI4 none = -1 from rfl)]
  unfold fX0_buildApplication_141
  rw [bnd_eq, show nI s + (1 : Int32) = nI (s + 1) from nI_1 _]
