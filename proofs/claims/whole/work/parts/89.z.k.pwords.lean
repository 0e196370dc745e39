/-! both programs read: words, what is open -/
theorem J_add {S M : St} {N w K x a b s : Nat} {sl : Int32} {wd : Nat → Wd} (hw : w < 162) (h83 : S.1 83 = nI w) (h6 : M.1 6 = nI w) (hwd : ∀ k, k < w → WdR S M k (wd k)) (hs : K < 2 → sl = nI s) :
    ∃ S' M', fX4_addWord N S (nI K) (nI x) sl = some S' ∧ fX8_tree N M (nI K) (nI a) (nI b) = some (nI w, M') ∧ Fr S S' [83] [80, 81, 82] ∧ Fr M M' [6] [3, 4, 5] ∧ S'.1 83 = nI (w + 1) ∧ M'.1 6 = nI (w + 1) ∧ ∀ k, k < w + 1 → WdR S' M' k (updW wd w (K, x, s, a, b) k) := by
  obtain ⟨S1, e1⟩ : ∃ z, z = sA S 80 (upd (S.2.1 80) w (nI K)) := ⟨_, rfl⟩
  obtain ⟨S2, e2⟩ : ∃ z, z = sA S1 81 (upd (S1.2.1 81) w (nI x)) := ⟨_, rfl⟩
  obtain ⟨S3, e3⟩ : ∃ z, z = sA S2 82 (upd (S2.2.1 82) w sl) := ⟨_, rfl⟩
  obtain ⟨S4, e4⟩ : ∃ z, z = sI S3 83 (nI (w + 1)) := ⟨_, rfl⟩
  have a1 : S1.1 83 = nI w := by rw [e1]; exact h83
  have a2 : S2.1 83 = nI w := by rw [e2]; exact a1
  have a3 : S3.1 83 = nI w := by rw [e3]; exact a2
  have fS : Fr S S4 [83] [80, 81, 82] := by
    rw [e4, e3, e2, e1]
    exact (((Fr.A (by decide)).trans (Fr.A (by decide))).trans (Fr.A (by decide))).trans (Fr.I (by decide))
  have v80 : S4.2.1 80 = upd (S.2.1 80) w (nI K) := by rw [e4, sI_2, e3, sA_ne (by decide), e2, sA_ne (by decide), e1, sA_at]
  have v81 : S4.2.1 81 = upd (S.2.1 81) w (nI x) := by rw [e4, sI_2, e3, sA_ne (by decide), e2, sA_at, e1, sA_ne (by decide)]
  have v82 : S4.2.1 82 = upd (S.2.1 82) w sl := by rw [e4, sI_2, e3, sA_at, e2, sA_ne (by decide), e1, sA_ne (by decide)]
  obtain ⟨M1, f1⟩ : ∃ z, z = sA M 3 (upd (M.2.1 3) w (nI K)) := ⟨_, rfl⟩
  obtain ⟨M2, f2⟩ : ∃ z, z = sA M1 4 (upd (M1.2.1 4) w (nI a)) := ⟨_, rfl⟩
  obtain ⟨M3, f3⟩ : ∃ z, z = sA M2 5 (upd (M2.2.1 5) w (nI b)) := ⟨_, rfl⟩
  obtain ⟨M4, f4⟩ : ∃ z, z = sI M3 6 (nI (w + 1)) := ⟨_, rfl⟩
  have b1 : M1.1 6 = nI w := by rw [f1]; exact h6
  have b2 : M2.1 6 = nI w := by rw [f2]; exact b1
  have b3 : M3.1 6 = nI w := by rw [f3]; exact b2
  have fM : Fr M M4 [6] [3, 4, 5] := by
    rw [f4, f3, f2, f1]
    exact (((Fr.A (by decide)).trans (Fr.A (by decide))).trans (Fr.A (by decide))).trans (Fr.I (by decide))
  have w3 : M4.2.1 3 = upd (M.2.1 3) w (nI K) := by rw [f4, sI_2, f3, sA_ne (by decide), f2, sA_ne (by decide), f1, sA_at]
  have w4 : M4.2.1 4 = upd (M.2.1 4) w (nI a) := by rw [f4, sI_2, f3, sA_ne (by decide), f2, sA_at, f1, sA_ne (by decide)]
  have w5 : M4.2.1 5 = upd (M.2.1 5) w (nI b) := by rw [f4, sI_2, f3, sA_at, f2, sA_ne (by decide), f1, sA_ne (by decide)]
  refine ⟨S4, M4, ?_, ?_, fS, fM, by rw [e4, sI_at], by rw [f4, sI_at], fun k hk => ?_⟩
  · unfold fX4_addWord
    rw [h83, show (162 : Int32) = nI 162 from rfl, if_neg (fun q => absurd ((nI_leI (by omega) (by omega)).mp q) (by omega)), ckx_ok (vp_in_nI (by omega) (by omega)), bnd_eq, nI_clamp (by omega), ← e1, a1, ckx_ok (vp_in_nI (by omega) (by omega)), bnd_eq, nI_clamp (by omega), ← e2, a2, ckx_ok (vp_in_nI (by omega) (by omega)), bnd_eq, nI_clamp (by omega), ← e3, a3, bnd_eq, show nI w + (1 : Int32) = nI (w + 1) from nI_1 _, ← e4]
  · unfold fX8_tree
    rw [h6, ckx_ok (vp_in_nI (by omega) (by omega)), bnd_eq, nI_clamp (by omega), ← f1, b1, ckx_ok (vp_in_nI (by omega) (by omega)), bnd_eq, nI_clamp (by omega), ← f2, b2, ckx_ok (vp_in_nI (by omega) (by omega)), bnd_eq, nI_clamp (by omega), ← f3, b3, bnd_eq, show nI w + (1 : Int32) = nI (w + 1) from nI_1 _, ← f4, show M4.1 6 = nI (w + 1) by rw [f4, sI_at], nI_sub1 (by omega)]
    rfl
  · unfold WdR
    rw [v80, v81, v82, w3, w4, w5, upd_at, upd_at, upd_at, upd_at, upd_at, upd_at]
    by_cases c : k = w
    · rw [if_pos c, if_pos c, if_pos c, if_pos c, if_pos c, if_pos c, c, updW_at]
      exact ⟨rfl, rfl, hs, rfl, rfl, rfl⟩
    · rw [if_neg c, if_neg c, if_neg c, if_neg c, if_neg c, if_neg c, updW_ne c]
      exact hwd k (by omega)
/-- numbers and rows of both, while they read -/
def PN (S M : St) (o : List Ent) (x p w nm bn q : Nat) (wd : Nat → Wd) : Prop := (S.1 83 = nI w ∧ M.1 6 = nI w) ∧ (S.1 87 = nI o.length ∧ M.1 9 = nI o.length) ∧ (S.1 90 = nI q ∧ M.1 7 = nI q) ∧ (S.1 91 = nI nm ∧ M.1 10 = nI nm) ∧ S.1 92 = nI x ∧ S.1 93 = nI p ∧ (S.1 94 = 0 ∧ M.1 8 = 0) ∧ M.1 13 = nI (lams o) ∧ M.1 14 = nI bn ∧ OR S M o ∧ ∀ k, k < w → WdR S M k (wd k)
theorem WdR.of {S S' M M' : St} {k : Nat} {a : Wd} {is as is' as' : List Nat} (h : WdR S M k a) (f : Fr S S' is as) (g : Fr M M' is' as') (h1 : 80 ∉ as ∧ 81 ∉ as ∧ 82 ∉ as) (h2 : 3 ∉ as' ∧ 4 ∉ as' ∧ 5 ∉ as') : WdR S' M' k a := by
  unfold WdR at *
  rw [f.2.1 80 h1.1, f.2.1 81 h1.2.1, f.2.1 82 h1.2.2, g.2.1 3 h2.1, g.2.1 4 h2.2.1, g.2.1 5 h2.2.2]
  exact h
theorem OR.fr {S S' M M' : St} {o : List Ent} {is as is' as' : List Nat} (h : OR S M o) (f : Fr S S' is as) (g : Fr M M' is' as') (h1 : 84 ∉ as ∧ 85 ∉ as ∧ 86 ∉ as) (h2 : 15 ∉ as' ∧ 16 ∉ as' ∧ 11 ∉ as' ∧ 12 ∉ as') : OR S' M' o := OR.of (fun j _ => by rw [f.2.1 84 h1.1, f.2.1 85 h1.2.1, f.2.1 86 h1.2.2, g.2.1 15 h2.1, g.2.1 16 h2.2.1]; exact ⟨rfl, rfl, rfl, rfl, rfl⟩) (fun j _ => by rw [g.2.1 11 h2.2.2.1, g.2.1 12 h2.2.2.2]; exact ⟨rfl, rfl⟩) h
theorem J_close {N x p nm bn q v : Nat} {xh : Nat → Nat} (hp : p ≠ 0) : ∀ (o : List Ent) (S M : St) (t w : Nat) (wd : Nat → Wd) (us : List Nat) (f f' : Nat), o.length < f → o.length < f' → PN S M o x p w nm bn q wd → PV o x p t w nm bn wd xh us v q → ∃ S' M' o' t' w' wd' us', loopN (fun k x => fX4_closeLambdas_0s N k x) f S = some S' ∧ loopN (fun k x => fX8_closed_2s N k x.1 x.2) f' (M, nI t) = some (nI t', M') ∧ Fr S S' CI4 CA4 ∧ Fr M M' MI4 MA4 ∧ PN S' M' o' x p w' nm bn q wd' ∧ PV o' x p t' w' nm bn wd' xh us' v q ∧ (o' = [] ∨ ∃ a r, o' = .inr a :: r)
  | [], S, M, t, w, wd, us, f, f', hf, hf', hn, hv => by
    obtain ⟨f, rfl⟩ : ∃ g, f = g + 1 := ⟨f - 1, by omega⟩
    obtain ⟨f', rfl⟩ : ∃ g, f' = g + 1 := ⟨f' - 1, by omega⟩
    obtain ⟨n1, ⟨n2, n2'⟩, n3⟩ := id hn
    have n2 : S.1 87 = nI 0 := n2
    have n2' : M.1 9 = nI 0 := n2'
    refine ⟨S, M, [], t, w, wd, us, ?_, ?_, Fr.rf, Fr.rf, hn, hv, Or.inl rfl⟩
    · show fX4_closeLambdas_0s N _ S = _
      unfold fX4_closeLambdas_0s
      rw [n2, if_pos (show nI 0 ≤ 0 by decide)]
    · show fX8_closed_2s N _ M (nI t) = _
      unfold fX8_closed_2s
      rw [n2', if_pos (show nI 0 ≤ 0 by decide)]
  | .inr a :: o, S, M, t, w, wd, us, f, f', hf, hf', hn, hv => by
    obtain ⟨f, rfl⟩ : ∃ g, f = g + 1 := ⟨f - 1, by omega⟩
    obtain ⟨f', rfl⟩ : ∃ g, f' = g + 1 := ⟨f' - 1, by omega⟩
    obtain ⟨n1, ⟨n2, n2'⟩, n3, n4, n5, n6, n7, n8, n9, ⟨⟨r1, r2, r3, r4, r5⟩, -⟩, n11⟩ := id hn
    have n2 : S.1 87 = nI (o.length + 1) := n2
    have n2' : M.1 9 = nI (o.length + 1) := n2'
    have hl : o.length + 1 ≤ 40 := hv.1
    have e1 : nI (o.length + 1) - 1 = nI o.length := by rw [nI_sub1 (by omega)]; rfl
    have np : ¬ nI (o.length + 1) ≤ 0 := fun q => absurd ((nI_leI (b := 0) (by omega) (by omega)).mp q) (by omega)
    refine ⟨S, M, _, t, w, wd, us, ?_, ?_, Fr.rf, Fr.rf, hn, hv, Or.inr ⟨a, o, rfl⟩⟩
    · show fX4_closeLambdas_0s N _ S = _
      unfold fX4_closeLambdas_0s
      rw [n2, if_neg np, e1, ckx_ok (vp_in_nI (by omega) (by omega)), nI_clamp (by omega), r1, if_pos rfl]
    · show fX8_closed_2s N _ M (nI t) = _
      unfold fX8_closed_2s
      rw [n2', if_neg np, e1, ckx_ok (vp_in_nI (by omega) (by omega)), nI_clamp (by omega), r4, if_neg (by decide)]
  | .inl a :: o, S, M, t, w, wd, us, f, f', hf, hf', hn, hv => by
    obtain ⟨f, rfl⟩ : ∃ g, f = g + 1 := ⟨f - 1, by omega⟩
    obtain ⟨f', rfl⟩ : ∃ g, f' = g + 1 := ⟨f' - 1, by omega⟩
    have hf : o.length + 1 < f + 1 := hf
    have hf' : o.length + 1 < f' + 1 := hf'
    obtain ⟨⟨n1, n1'⟩, ⟨n2, n2'⟩, ⟨n3, n3'⟩, ⟨n4, n4'⟩, n5, n6, ⟨n7, n7'⟩, n8, n9, ⟨⟨r1, r2, r3, r4, r5, r6⟩, ro⟩, n11⟩ := id hn
    have n2 : S.1 87 = nI (o.length + 1) := n2
    have n2' : M.1 9 = nI (o.length + 1) := n2'
    have n8 : M.1 13 = nI (lams o + 1) := n8
    have hl : o.length + 1 ≤ 40 := hv.1
    have hw : w ≤ 158 := by
      rcases hv.w with q | q
      · exact q
      · exact absurd q.1 hp
    have e1 : nI (o.length + 1) - 1 = nI o.length := by rw [nI_sub1 (by omega)]; rfl
    have e2 : nI (lams o + 1) - 1 = nI (lams o) := by rw [nI_sub1 (by omega)]; rfl
    have np : ¬ nI (o.length + 1) ≤ 0 := fun q => absurd ((nI_leI (b := 0) (by omega) (by omega)).mp q) (by omega)
    obtain ⟨S1, s1⟩ : ∃ z, z = sI S 87 (nI o.length) := ⟨_, rfl⟩
    obtain ⟨M1, m1⟩ : ∃ z, z = sI M 9 (nI o.length) := ⟨_, rfl⟩
    obtain ⟨M2, m2⟩ : ∃ z, z = sI M1 13 (nI (lams o)) := ⟨_, rfl⟩
    have fs1 : Fr S S1 [87] [] := by rw [s1]; exact Fr.I (by decide)
    have fm2 : Fr M M2 [9, 13] [] := by rw [m2, m1]; exact (Fr.I (by decide)).trans (Fr.I (by decide))
    obtain ⟨S3, M3, c1, c2, c3, c4, c5, c6, c7⟩ := J_add (N := N) (S := S1) (M := M2) (K := 1) (x := x) (a := a.2) (b := t) (s := o.length) (sl := nI o.length) (wd := wd) (show w < 162 by omega) (by rw [fs1.1 83 (by decide)]; exact n1) (by rw [fm2.1 6 (by decide)]; exact n1') (fun k hk => (n11 k hk).of fs1 fm2 (by decide) (by decide)) (fun _ => rfl)
    have F3 : Fr S S3 CI4 CA4 := (fs1.mono (by decide) (by decide)).trans (c3.mono (by decide) (by decide))
    have G3 : Fr M M3 MI4 MA4 := (fm2.mono (by decide) (by decide)).trans (c4.mono (by decide) (by decide))
    have hn3 : PN S3 M3 o x p (w + 1) nm bn q (updW wd w (1, x, o.length, a.2, t)) := by
      refine ⟨⟨c5, c6⟩, ⟨?_, ?_⟩, ⟨?_, ?_⟩, ⟨?_, ?_⟩, ?_, ?_, ⟨?_, ?_⟩, ?_, ?_, (ro.fr fs1 fm2 (by decide) (by decide)).fr c3 c4 (by decide) (by decide), c7⟩
      · rw [c3.1 87 (by decide), s1, sI_at]
      · rw [c4.1 9 (by decide), m2, sI_ne (by decide), m1, sI_at]
      · rw [c3.1 90 (by decide), fs1.1 90 (by decide)]; exact n3
      · rw [c4.1 7 (by decide), fm2.1 7 (by decide)]; exact n3'
      · rw [c3.1 91 (by decide), fs1.1 91 (by decide)]; exact n4
      · rw [c4.1 10 (by decide), fm2.1 10 (by decide)]; exact n4'
      · rw [c3.1 92 (by decide), fs1.1 92 (by decide)]; exact n5
      · rw [c3.1 93 (by decide), fs1.1 93 (by decide)]; exact n6
      · rw [c3.1 94 (by decide), fs1.1 94 (by decide)]; exact n7
      · rw [c4.1 8 (by decide), fm2.1 8 (by decide)]; exact n7'
      · rw [c4.1 13 (by decide), m2, sI_at]
      · rw [c4.1 14 (by decide), fm2.1 14 (by decide)]; exact n9
    obtain ⟨S', M', o', t', w', wd', us', d1, d2, d3, d4, d5, d6, d7⟩ := J_close (N := N) hp o S3 M3 w (w + 1) _ (a.2 :: us) f f' (by omega) (by omega) hn3 (PV_clam hv hp)
    refine ⟨S', M', o', t', w', wd', us', ?_, ?_, F3.trans d3, G3.trans d4, d5, d6, d7⟩
    · show fX4_closeLambdas_0s N (loopN (fun k x => fX4_closeLambdas_0s N k x) f) S = _
      obtain ⟨Lp, eL⟩ : ∃ Lp, Lp = loopN (fun k x => fX4_closeLambdas_0s N k x) f := ⟨_, rfl⟩
      rw [← eL] at d1 ⊢
      have c1' : fX4_addWord N S1 1 (S1.1 92) (S1.1 87) = some S3 := by
        rw [fs1.1 92 (by decide), n5, s1, sI_at, ← s1]; exact c1
      unfold fX4_closeLambdas_0s
      rw [n2, if_neg np, e1, ckx_ok (vp_in_nI (by omega) (by omega)), nI_clamp (by omega), r1, if_neg r2, bnd_eq, ← s1, bdo_ok c1', d1]
    · show fX8_closed_2s N (loopN (fun k x => fX8_closed_2s N k x.1 x.2) f') M (nI t) = _
      obtain ⟨Lp, eL⟩ : ∃ Lp, Lp = loopN (fun k x => fX8_closed_2s N k x.1 x.2) f' := ⟨_, rfl⟩
      rw [← eL] at d2 ⊢
      have c2' : fX8_tree N M2 1 (nI a.2) (nI t) = some (nI w, M3) := c2
      have q13 : M1.1 13 = nI (lams o + 1) := by rw [m1, sI_ne (by decide)]; exact n8
      have q9 : M2.1 9 = nI o.length := by rw [m2, sI_ne (by decide), m1, sI_at]
      have q16 : M2.2.1 16 o.length = nI a.2 := by rw [fm2.2.1 16 (by decide)]; exact r4
      unfold fX8_closed_2s
      rw [n2', if_neg np, e1, ckx_ok (vp_in_nI (by omega) (by omega)), nI_clamp (by omega), r3, if_pos rfl, bnd_eq, ← m1, bnd_eq, q13, e2, ← m2, q9, ckx_ok (vp_in_nI (by omega) (by omega)), nI_clamp (by omega), q16, bd2_ok c2', d2]
