/-! the class and the reference, state by state -/
def TPE (S M : St) (bs : Nat → Nat) (L : Nat) : Prop := L ≤ 600 ∧ S.1 141 = nI L ∧ M.1 2 = nI L ∧ ∀ p, p < L → bs p < 256 ∧ S.2.1 140 p = nI (bs p) ∧ M.2.1 1 p = sb (bs p)
def LTR (S M : St) : Prop := ∃ td : List Nat, td.length ≤ 4000 ∧ S.1 143 = nI td.length ∧ M.1 47 = nI td.length ∧ (td ≠ [] → S.1 123 = nI td.length ∧ TdC S td ∧ TdR M td)
def SIM (S M : St) : Prop := (∃ bs L, TPE S M bs L) ∧ (S.1 142 = M.1 8 ∧ ∃ f, f < 5 ∧ M.1 8 = nI f) ∧ LTR S M ∧ (∃ φ ψ, LK S M φ ψ) ∧ (∃ L, LbG 3002 (Gc S) L) ∧ RmC S ∧ ∃ n, TrC S n
theorem LK.mi {S M M' : St} {φ ψ : Nat → Nat} {is as : List Nat} (h : LK S M φ ψ) (hf : Fr M M' is as) (h1 : 21 ∉ is ∧ 22 ∉ is ∧ 28 ∉ is) (h2 : 17 ∉ as ∧ 18 ∉ as ∧ 19 ∉ as ∧ 20 ∉ as ∧ 27 ∉ as) (h3 : 23 ∉ is ∧ 24 ∉ is ∧ 25 ∉ is ∧ 26 ∉ is) : LK S M' φ ψ := by
  obtain ⟨g1, g2, g3, g4, g5, g6, g7, a, g8, g9⟩ := h
  obtain ⟨b, c⟩ := g2.of hf h1 h2
  exact ⟨g1, b, g3, by rw [c]; exact g4, by rw [hf.1 23 h3.1]; exact g5, by rw [hf.1 24 h3.2.1]; exact g6, by rw [hf.1 25 h3.2.2.1]; exact g7, a, g8, by rw [hf.1 26 h3.2.2.2]; exact g9⟩
theorem RmC.tl {S S' : St} (h : RmC S) (e : S'.2.2.2 = S.2.2.2) : RmC S' := by
  unfold RmC gc gs at *
  rw [e]
  exact h
/-- tape and numbers around it change, no more -/
theorem SIM.of {S S' M M' : St} (h : SIM S M) (f : Fr S S' [141] [140]) (g : Fr M M' [0, 2] [1]) (hT : ∃ bs L, TPE S' M' bs L) : SIM S' M' := by
  obtain ⟨-, ⟨h2, f2, h2', h2''⟩, ⟨td, t1, t2, t3, t4⟩, ⟨φ, ψ, h4⟩, ⟨L, h5⟩, h6, n, h7⟩ := h
  have eG := (h4.1.w f.w (by decide) (by decide)).2
  refine ⟨hT, ⟨by rw [f.1 142 (by decide), g.1 8 (by decide)]; exact h2, f2, h2', by rw [g.1 8 (by decide)]; exact h2''⟩, ⟨td, t1, by rw [f.1 143 (by decide)]; exact t2, by rw [g.1 47 (by decide)]; exact t3, fun q => ?_⟩, ⟨φ, ψ, (h4.wi f.w (by decide) (by decide) (by decide)).mi g (by decide) (by decide) (by decide)⟩, ⟨L, by rw [eG]; exact h5⟩, h6.tl (by rw [f.2.2]), n, h7.of (f.1 105 (by decide)) (f.2.1 100 (by decide)) (f.2.1 101 (by decide)) (f.2.1 102 (by decide)) (f.2.1 103 (by decide)) (f.2.1 104 (by decide))⟩
  obtain ⟨q1, q2, q3⟩ := t4 q
  exact ⟨by rw [f.1 123 (by decide)]; exact q1, TdC.of td (fun j _ => by rw [f.2.1 122 (by decide)]) q2, TdR_of td (fun j _ => by rw [g.2.1 45 (by decide)]) q3⟩
where
  TdR_of {S S' : St} : ∀ (td : List Nat), (∀ j, j < td.length → S'.2.1 45 j = S.2.1 45 j) → TdR S td → TdR S' td
    | [], _, _ => trivial
    | c :: r, h, ⟨⟨h1, h2⟩, h3⟩ => ⟨⟨h1, fun q => by rw [h r.length (by show r.length < r.length + 1; omega)]; exact h2 q⟩, TdR_of r (fun j hj => h j (by show j < r.length + 1; omega)) h3⟩
theorem SIM.thr {S M : St} (h : SIM S M) (v : Int32) : SIM S (sI M 0 v) := by
  obtain ⟨bs, L, a1, a2, a3, a4⟩ := h.1
  exact h.of Fr.rf (Fr.I (by decide)) ⟨bs, L, a1, a2, by rw [sI_ne (by decide)]; exact a3, a4⟩
theorem i32_le {x : Int32} {k : Nat} (h0 : ¬ x < 0) (h : x ≤ nI k) (hk : k < 2 ^ 30) : ∃ j, j ≤ k ∧ x = nI j := by
  obtain ⟨j, j1, j2, -⟩ := pk_mu (x := x) (L := k + 1) h0 (fun z => by
    have := Int32.le_trans z h
    exact absurd ((nI_leI (by omega) (by omega)).mp this) (by omega)) (by omega)
  exact ⟨j, by omega, j2⟩
theorem i32_lt {x : Int32} {k : Nat} (h0 : ¬ x < 0) (h : x < nI k) (hk : k < 2 ^ 30) : ∃ j, j < k ∧ x = nI j := by
  obtain ⟨j, j1, j2⟩ := i32_le h0 (Int32.le_of_lt h) hk
  refine ⟨j, ?_, j2⟩
  rw [j2] at h
  exact (nI_ltI (by omega) (by omega)).mp h
/-- what both answer: a number or a throw -/
def Ans (S : St) (R : Option ((Int32 × St) ⊕ (Nat × St))) (Q : Option (Int32 × St)) (k0 : Nat → Nat) : Prop := (∃ v S' M', R = some (.inl (v, S')) ∧ Q = some (v, M') ∧ M'.1 0 = 0 ∧ SIM S' M' ∧ Ge S' S) ∨ ∃ e S' b M', R = some (.inr (e, S')) ∧ Q = some (b, M') ∧ M'.1 0 = nI (k0 e) ∧ 1 ≤ e ∧ e ≤ 3 ∧ SIM S' M' ∧ Ge S' S
theorem Ge.fr {S S' : St} {is as : List Nat} (f : Fr S S' is as) : Ge S' S := by
  show S.2.2.2.2.2.1 ≤ S'.2.2.2.2.2.1 ∧ S.2.2.2.2.2.2 ≤ S'.2.2.2.2.2.2
  rw [f.2.2]
  exact ⟨Nat.le_refl _, Nat.le_refl _⟩
theorem S_keep {S M : St} {N : Nat} (h : SIM S M) (x : Int32) : (∃ S' M', fX7_keep N S x = some (.inl S') ∧ fX8_keep N M x = some M' ∧ M'.1 0 = 0 ∧ SIM S' M' ∧ Ge S' S) ∨ ∃ M', fX7_keep N S x = some (.inr (1, S)) ∧ fX8_keep N M x = some M' ∧ M'.1 0 = 1 ∧ SIM S M' := by
  obtain ⟨bs, L, a1, a2, a3, a4⟩ := h.1
  have bad : fX8_keep_13 N M x = some (sI M 0 1) := by
    unfold fX8_keep_13 fX8_keep_18
    rw [bnd_eq, sI_at, if_neg (by decide), bnd_eq, sI_self (by rfl)]
  have ok : fX8_keep_18 N M x 0 = some (sI (sI M 0 0) 2 x) := by
    unfold fX8_keep_18
    rw [bnd_eq, sI_at, if_pos (by decide), bnd_eq]
  unfold fX7_keep fX8_keep
  by_cases c0 : x < 0
  · right
    rw [if_pos c0, if_pos c0]
    exact ⟨_, rfl, bad, sI_at, h.thr 1⟩
  · rw [if_neg c0, if_neg c0, a2, a3]
    by_cases cl : x ≤ nI L
    · left
      rw [if_pos cl, if_pos cl, bnd_eq, ok]
      obtain ⟨j, j1, rfl⟩ := i32_le c0 cl (by omega)
      refine ⟨_, _, rfl, rfl, by rw [sI_ne (by decide), sI_at], h.of (Fr.I (by decide)) ((Fr.I (by decide)).trans (Fr.I (by decide))) ⟨bs, j, by omega, sI_at, sI_at, fun p hp => a4 p (by omega)⟩, Ge.rf⟩
    · right
      rw [if_neg cl, if_neg cl]
      exact ⟨_, rfl, bad, sI_at, h.thr 1⟩
/-- the byte that both keep -/
theorem byte_of (z : Int32) : ∃ b, b < 256 ∧ z &&& 255 = nI b ∧ vp_nar .byte (z.toInt8.toInt32) = sb b := by
  have lt : (z &&& 255).toBitVec.toNat < 256 := by
    rw [Int32.toBitVec_and, BitVec.toNat_and]
    exact Nat.lt_of_le_of_lt Nat.and_le_right (by decide)
  have e : z &&& 255 = nI (z &&& 255).toBitVec.toNat := by
    apply Int32.toBitVec_inj.mp
    apply BitVec.eq_of_toNat_eq
    rw [pk_tn (by omega)]
  refine ⟨_, lt, e, ?_⟩
  have i8 : ∀ y : Int8, y.toInt32.toInt8 = y := fun y => by simp
  have n1 : vp_nar .byte (z.toInt8.toInt32) = z.toInt8.toInt32.toInt8.toInt32 := rfl
  rw [n1, i8]
  show z.toInt8.toInt32 = (nI _).toInt8.toInt32
  rw [← e]
  refine congrArg Int8.toInt32 (Int8.toBitVec_inj.mp ?_)
  rw [Int32.toBitVec_toInt8, Int32.toBitVec_toInt8, BitVec.signExtend_eq_setWidth_of_le _ (by decide), BitVec.signExtend_eq_setWidth_of_le _ (by decide)]
  apply BitVec.eq_of_toNat_eq
  rw [BitVec.toNat_setWidth, BitVec.toNat_setWidth, Int32.toBitVec_and, BitVec.toNat_and]
  show _ = (z.toBitVec.toNat &&& (2 ^ 8 - 1)) % 2 ^ 8
  rw [Nat.and_two_pow_sub_one_eq_mod, Nat.mod_mod]
theorem TY_loop {N : Nat} {x : Int64} : ∀ (d : Nat) (S M : St) (bs : Nat → Nat) (L f f' : Nat), d < f → d < f' → d ≤ 8 → L + d ≤ 600 → TPE S M bs L → ∃ S' M' bs', loopN (fun k x => fX7_type_48s N k x.1 x.2.1 x.2.2) f (S, x, nI d - 1) = some (.inl (nI (L + d), S')) ∧ loopN (fun k x => fX8_type_50s N k x.1 x.2.1 x.2.2) f' (M, x, nI d - 1) = some (nI (L + d), M') ∧ Fr S S' [141] [140] ∧ Fr M M' [2] [1] ∧ TPE S' M' bs' (L + d)
  | 0, S, M, bs, L, f, f', hf, hf', hd, hL, h => by
    obtain ⟨f, rfl⟩ : ∃ g, f = g + 1 := ⟨f - 1, by omega⟩
    obtain ⟨f', rfl⟩ : ∃ g, f' = g + 1 := ⟨f' - 1, by omega⟩
    refine ⟨S, M, bs, ?_, ?_, Fr.rf, Fr.rf, h⟩
    · show fX7_type_48s N _ S x (nI 0 - 1) = _
      unfold fX7_type_48s
      rw [if_pos (show nI 0 - 1 < 0 by decide), h.2.1]
      rfl
    · show fX8_type_50s N _ M x (nI 0 - 1) = _
      unfold fX8_type_50s
      rw [if_pos (show nI 0 - 1 < 0 by decide), h.2.2.1]
      rfl
  | d + 1, S, M, bs, L, f, f', hf, hf', hd, hL, ⟨h1, h2, h3, h4⟩ => by
    obtain ⟨f, rfl⟩ : ∃ g, f = g + 1 := ⟨f - 1, by omega⟩
    obtain ⟨f', rfl⟩ : ∃ g, f' = g + 1 := ⟨f' - 1, by omega⟩
    obtain ⟨z, ez⟩ : ∃ z, z = ((x >>> ((((8 : Int32) * nI d)).toInt64 &&& 63)) : Int64).toInt32 := ⟨_, rfl⟩
    obtain ⟨b, b1, b2, b3⟩ := byte_of z
    obtain ⟨S1, s1⟩ : ∃ y, y = sA S 140 (upd (S.2.1 140) L (nI b)) := ⟨_, rfl⟩
    obtain ⟨S2, s2⟩ : ∃ y, y = sI S1 141 (nI (L + 1)) := ⟨_, rfl⟩
    obtain ⟨M1, m1⟩ : ∃ y, y = sA M 1 (upd (M.2.1 1) L (sb b)) := ⟨_, rfl⟩
    obtain ⟨M2, m2⟩ : ∃ y, y = sI M1 2 (nI (L + 1)) := ⟨_, rfl⟩
    have s141 : S1.1 141 = nI L := by rw [s1]; exact h2
    have m12 : M1.1 2 = nI L := by rw [m1]; exact h3
    have T2 : TPE S2 M2 (fun p => if p = L then b else bs p) (L + 1) := by
      refine ⟨by omega, by rw [s2, sI_at], by rw [m2, sI_at], fun p hp => ?_⟩
      rw [s2, sI_2, s1, sA_at, m2, sI_2, m1, sA_at, upd_at, upd_at]
      dsimp only
      by_cases c : p = L
      · simp only [if_pos c]
        exact ⟨b1, trivial, trivial⟩
      · simp only [if_neg c]
        exact h4 p (by omega)
    have fS : Fr S S2 [141] [140] := by rw [s2, s1]; exact (Fr.A (by decide)).trans (Fr.I (by decide))
    have fM : Fr M M2 [2] [1] := by rw [m2, m1]; exact (Fr.A (by decide)).trans (Fr.I (by decide))
    obtain ⟨S', M', bs', c1, c2, c3, c4, c5⟩ := TY_loop (N := N) (x := x) d S2 M2 _ (L + 1) f f' (by omega) (by omega) (by omega) (by omega) T2
    rw [show L + 1 + d = L + (d + 1) by omega] at c1 c2 c5
    have ed : nI (d + 1) - 1 = nI d := by rw [nI_sub1 (by omega)]; rfl
    refine ⟨S', M', bs', ?_, ?_, fS.trans c3, fM.trans c4, c5⟩
    · show fX7_type_48s N (loopN (fun k x => fX7_type_48s N k x.1 x.2.1 x.2.2) f) S x (nI (d + 1) - 1) = _
      obtain ⟨Lp, eL⟩ : ∃ Lp, Lp = loopN (fun k x => fX7_type_48s N k x.1 x.2.1 x.2.2) f := ⟨_, rfl⟩
      rw [← eL] at c1 ⊢
      rw [ed]
      unfold fX7_type_48s
      rw [if_neg (nI_pos (by omega)), h2, ckx_ok (vp_in_nI (by omega) (by omega)), bnd_eq, nI_clamp (by omega), ← ez, b2, ← s1, s141, bnd_eq, show nI L + (1 : Int32) = nI (L + 1) from nI_1 _, ← s2, bnd_eq, nI_m1]
      exact c1
    · show fX8_type_50s N (loopN (fun k x => fX8_type_50s N k x.1 x.2.1 x.2.2) f') M x (nI (d + 1) - 1) = _
      obtain ⟨Lp, eL⟩ : ∃ Lp, Lp = loopN (fun k x => fX8_type_50s N k x.1 x.2.1 x.2.2) f' := ⟨_, rfl⟩
      rw [← eL] at c2 ⊢
      rw [ed]
      unfold fX8_type_50s
      rw [if_neg (nI_pos (by omega)), h3, ckx_ok (vp_in_nI (by omega) (by omega)), bnd_eq, nI_clamp (by omega), ← ez, b3, ← m1, m12, bnd_eq, show nI L + (1 : Int32) = nI (L + 1) from nI_1 _, ← m2, bnd_eq, nI_m1]
      exact c2
theorem S_type {S M : St} {N : Nat} (hN : Big N) (h : SIM S M) (x : Int64) (n : Int32) : Ans S (fX7_type N S x n) (fX8_type N M x n) (fun e => e) := by
  have hb := hN
  unfold Big at hb
  obtain ⟨bs, L, a1, a2, a3, a4⟩ := id h.1
  have bad : ∀ k : Nat, 1 ≤ k → k ≤ 2 → fX8_type_33 N M x n (nI k) = some (0, sI M 0 (nI k)) := fun k k1 k2 => by
    unfold fX8_type_33
    rw [bnd_eq, sI_at, if_neg (show ¬ nI k ≤ (0 : Int32) from fun z => absurd ((nI_leI (b := 0) (by omega) (by omega)).mp z) (by omega))]
  have no : Ans S (some (.inr (1, S))) (fX8_type_12 N M x n) (fun e => e) := Or.inr ⟨1, S, 0, sI M 0 (nI 1), rfl, bad 1 (by omega) (by omega), sI_at, by omega, by omega, h.thr _, Ge.rf⟩
  unfold fX7_type fX8_type
  by_cases c1 : n < (1 : Int32)
  · rw [if_pos c1, if_pos c1]; exact no
  · rw [if_neg c1, if_neg c1]
    by_cases c8 : n ≤ (8 : Int32)
    · rw [if_pos c8, if_pos c8]
      have n0 : ¬ n < 0 := fun z => c1 (Int32.lt_trans z (by decide))
      obtain ⟨j, j1, rfl⟩ := i32_le (k := 8) n0 c8 (by omega)
      have j0 : 1 ≤ j := Classical.byContradiction fun z => c1 (by rw [show j = 0 by omega]; decide)
      rw [a2, a3, nI_add]
      by_cases cl : L + j ≤ 600
      · have le : nI (L + j) ≤ (600 : Int32) := nI_le (b := 600) cl (by omega)
        rw [if_pos le, if_pos le, bnd_eq]
        have m0 : TPE S (sI M 0 0) bs L := ⟨a1, a2, by rw [sI_ne (by decide)]; exact a3, a4⟩
        obtain ⟨S', M', bs', c1, c2, c3, c4, c5⟩ := TY_loop (N := N) (x := x) j S (sI M 0 0) bs L N N (by omega) (by omega) j1 cl m0
        left
        refine ⟨_, S', M', c1, ?_, by rw [c4.1 0 (by decide), sI_at], h.of c3 ((Fr.I (by decide)).trans (c4.mono (by decide) (by decide))) ⟨bs', _, c5⟩, Ge.fr c3⟩
        unfold fX8_type_33
        rw [bnd_eq, sI_at, if_pos (by decide), bnd_eq]
        exact c2
      · have le : ¬ nI (L + j) ≤ (600 : Int32) := fun z => cl ((nI_leI (b := 600) (by omega) (by omega)).mp z)
        rw [if_neg le, if_neg le]
        exact Or.inr ⟨2, S, 0, sI M 0 (nI 2), rfl, bad 2 (by omega) (by omega), sI_at, by omega, by omega, h.thr _, Ge.rf⟩
    · rw [if_neg c8, if_neg c8]; exact no
