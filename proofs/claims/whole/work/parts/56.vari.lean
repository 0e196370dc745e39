theorem sameC_iff {n : Nat} {f g : Nat → Nat} : sameC n f g = true ↔ ∀ i, i < n → f i = g i := by
  unfold sameC
  rw [List.all_eq_true]
  constructor
  · intro h i hi
    exact eq_of_beq (h i (List.mem_range.mpr hi))
  · intro h i hi
    rw [h i (List.mem_range.mp hi)]
    exact beq_self_eq_true _
theorem lvl_in {S : St} {nl nv l i : Nat} (hL : Lst S nl) (hV : 0 < nv) (h : Lin S nl nv) (hl : l < nl) : lvl S l i < nv := by
  unfold lvl
  have h1 := tlk_lt hL i l hl
  by_cases c : tlk S i l = 0
  · rw [c]; exact hV
  · exact h _ (by omega) h1
theorem X8_varLoop {N : Nat} {S : St} {nl nv v x l m : Nat} (hN : Big N) (hL : Lst S nl) (hV : Lvs S nv) (hI : Lin S nl nv) (hv : v < 3010) (hx : S.2.1 18 v = nI x) (hx6 : x ≤ 63) (hl : l < nl) (h48 : S.1 48 = nI l) (hm : m ≤ 4009) :
    ∀ (r : List Ab) (i k : Nat), r.length < k → AbR S nl r → m = i + r.length →
      (fnd v x (cxt S l) r i = none ∧ loopN (fun k x => fX8_variable_7s N k x.1 x.2.1 x.2.2) k (S, nI v, nI r.length - 1) = some (4, S)) ∨
      (∃ q, fnd v x (cxt S l) r i = some q ∧ i ≤ q ∧ q < m ∧ loopN (fun k x => fX8_variable_7s N k x.1 x.2.1 x.2.2) k (S, nI v, nI r.length - 1) = fX8_variable_50 N S (nI (m - 1 - q)))
  | _, _, 0, h, _, _ => absurd h (Nat.not_lt_zero _)
  | [], i, k + 1, _, _, _ => by
    left
    refine ⟨rfl, ?_⟩
    show fX8_variable_7s N _ S (nI v) (nI 0 - 1) = _
    unfold fX8_variable_7s
    rw [if_pos (by decide)]
    unfold fX8_variable_50
    rw [if_neg (by decide)]
  | it :: r, i, k + 1, hk, hA, he => by
    obtain ⟨⟨a1, a2, l', a3, a4, a5⟩, hA2⟩ := hA
    have he' : m = i + (r.length + 1) := he
    have hk' : r.length < k := Nat.lt_of_succ_lt_succ hk
    have hn0 := hV.2.1
    show (_ ∧ fX8_variable_7s N (loopN (fun k x => fX8_variable_7s N k x.1 x.2.1 x.2.2) k) S (nI v) (nI (r.length + 1) - 1) = _) ∨ ∃ q, _ ∧ _ ∧ _ ∧ fX8_variable_7s N (loopN (fun k x => fX8_variable_7s N k x.1 x.2.1 x.2.2) k) S (nI v) (nI (r.length + 1) - 1) = _
    rw [nI_pred]
    have ih := X8_varLoop hN hL hV hI hv hx hx6 hl h48 hm r (i + 1) k hk' hA2 (by omega)
    have fs : fnd v x (cxt S l) (it :: r) i = if it.1 = v ∧ sameC x it.2 (cxt S l) = true then some i else fnd v x (cxt S l) r (i + 1) := rfl
    have next : fX8_variable_44 N (loopN (fun k x => fX8_variable_7s N k x.1 x.2.1 x.2.2) k) S (nI v) (nI r.length) = loopN (fun k x => fX8_variable_7s N k x.1 x.2.1 x.2.2) k (S, nI v, nI r.length - 1) := by
      unfold fX8_variable_44
      rw [bnd_eq, Int32.sub_eq_add_neg]
    have go : ¬ (it.1 = v ∧ sameC x it.2 (cxt S l) = true) → (fnd v x (cxt S l) (it :: r) i = none ∧ fX8_variable_44 N (loopN (fun k x => fX8_variable_7s N k x.1 x.2.1 x.2.2) k) S (nI v) (nI r.length) = some (4, S)) ∨ (∃ q, fnd v x (cxt S l) (it :: r) i = some q ∧ i ≤ q ∧ q < m ∧ fX8_variable_44 N (loopN (fun k x => fX8_variable_7s N k x.1 x.2.1 x.2.2) k) S (nI v) (nI r.length) = fX8_variable_50 N S (nI (m - 1 - q))) := by
      intro hne
      rw [fs, if_neg hne, next]
      rcases ih with ⟨h1, h2⟩ | ⟨q, h1, h2, h3, h4⟩
      · exact Or.inl ⟨h1, h2⟩
      · exact Or.inr ⟨q, h1, by omega, h3, h4⟩
    unfold fX8_variable_7s
    rw [if_neg (nI_pos (by omega)), ckx_ok (vp_in_nI (by omega) (by omega)), nI_clamp (by omega), a2]
    by_cases c1 : it.1 = v
    · rw [if_pos (congrArg nI c1), ckx_ok (vp_in_nI (by omega) (by omega)), ckx_ok (vp_in_nI (by omega) (by omega)), a3, h48, nI_clamp (by omega), hx]
      rcases X8_areSame hN hL a4 hl (show x ≤ 64 by omega) with ⟨e1, e2⟩ | ⟨e1, e2⟩
      · rw [bd2_ok e1, if_neg (by decide)]
        right
        refine ⟨i, ?_, Nat.le_refl _, by omega, by rw [show m - 1 - i = r.length by omega]⟩
        rw [fs, if_pos ⟨c1, sameC_iff.mpr (fun j hj => by rw [← a5]; unfold cxt; rw [e2 j hj])⟩]
      · rw [bd2_ok e1, if_pos rfl]
        refine go (fun h => ?_)
        obtain ⟨j, hj, hne⟩ := e2
        have := sameC_iff.mp h.2 j hj
        rw [← a5] at this
        exact hne (val_inj hV _ _ (lvl_in hL hn0 hI a4) (lvl_in hL hn0 hI hl) this)
    · rw [if_neg (fun e => c1 ((nI_eq (by omega) (by omega)).mp e))]
      exact go (fun h => c1 h.1)
theorem X8_variable {N : Nat} {S : St} {nl nv v x l : Nat} {lat : List Lt} {ab : List Ab} {td : List Nat} (hN : Big N) (hL : Lst S nl) (hV : Lvs S nv) (hI : Lin S nl nv) (hv : v < 3010) (hx : S.2.1 18 v = nI x) (hx6 : x ≤ 63) (hl : l < nl) (h48 : S.1 48 = nI l) (hS : StkR S nl lat ab td) (h1 : ab.length ≤ 4009) (h2 : lat.length ≤ 8000) (h3 : td.length ≤ 9000) :
    (fnd v x (cxt S l) ab 0 = none ∧ fX8_variable N S (nI v) = some (4, S)) ∨
    (∃ k, fnd v x (cxt S l) ab 0 = some k ∧ k < ab.length ∧ ∃ S', fX8_variable N S (nI v) = some (nI (aGo lat ab (dig k ++ td)).1, S') ∧ Fr S S' [57, 54, 46, 48, 49] [45, 55, 56] ∧ StkR S' nl (aGo lat ab (dig k ++ td)).2.2.2.2.1 (aGo lat ab (dig k ++ td)).2.2.2.2.2.1 (aGo lat ab (dig k ++ td)).2.2.2.2.2.2 ∧
      ((aGo lat ab (dig k ++ td)).1 = 0 ∨ ((aGo lat ab (dig k ++ td)).1 = 6 ∧ (aGo lat ab (dig k ++ td)).2.1 < 3010 ∧ (aGo lat ab (dig k ++ td)).2.2.1 = 2 ∧ S'.1 49 = nI (3 * (aGo lat ab (dig k ++ td)).2.1 + 2) ∧ ∃ l, S'.1 48 = nI l ∧ l < nl ∧ cxt S' l = (aGo lat ab (dig k ++ td)).2.2.2.1))) := by
  obtain ⟨s57, sL, s54, sA, s46, sT, sC⟩ := id hS
  have hb := hN
  unfold Big at hb
  have key := X8_varLoop hN hL hV hI hv hx hx6 hl h48 h1 ab 0 N (by omega) sA (Nat.zero_add _).symm
  have e0 : fX8_variable N S (nI v) = loopN (fun k x => fX8_variable_7s N k x.1 x.2.1 x.2.2) N (S, nI v, nI ab.length - 1) := by
    unfold fX8_variable
    rw [bnd_eq, s54]
    rfl
  rw [e0]
  rcases key with ⟨g1, g2⟩ | ⟨k, g1, -, g3, g4⟩
  · exact Or.inl ⟨g1, g2⟩
  · right
    refine ⟨k, g1, g3, ?_⟩
    rw [g4]
    unfold fX8_variable_50
    rw [if_pos (nI_pos' (by omega)), s54, nI_sub1 (by omega), pk_sub (by omega), show ab.length - 1 - (ab.length - 1 - k) = k by omega]
    obtain ⟨S1, e1, e2, e3, e4⟩ := X8_tellNumber hN (show k < 10000 by omega) sT s46 (by omega)
    rw [bdo_ok e1]
    have c1 : cxt S1 = cxt S := cxt_same e2 (by decide)
    have hd := dig_len (show k < 10000 by omega)
    obtain ⟨S', k1, k2, k3, k4, k5⟩ := X8_goLoop (N := N) (n := nl) lat N S1 ab (dig k ++ td) (by omega) h2 ⟨(e2.1 57 (by decide)).trans s57, LatR.of (Nat.le_refl _) (fun l _ => by rw [c1]) lat (fun j _ => by rw [e2.2.1 55 (by decide), e2.2.1 56 (by decide)]; exact ⟨rfl, rfl⟩) sL, (e2.1 54 (by decide)).trans s54, AbR.of (Nat.le_refl _) (fun l _ => by rw [c1]) ab (fun j _ => by rw [e2.2.1 52 (by decide), e2.2.1 53 (by decide)]; exact ⟨rfl, rfl⟩) sA, e3, e4, sC⟩ (by rw [List.length_append]; omega)
    rw [bd2_ok (show fX8_goOn N S1 = some (nI (aGo lat ab (dig k ++ td)).1, S') from k1)]
    exact ⟨S', rfl, (e2.mono (by decide) (by decide)).trans k2, k3, k4⟩
