/-! contexts of the reference, by their numbers -/
theorem Lvs.of {S S' : St} {n : Nat} (h : Lvs S n) (h40 : S'.1 40 = S.1 40) (h35 : S'.2.1 35 = S.2.1 35) (h36 : S'.2.1 36 = S.2.1 36) (h37 : S'.2.1 37 = S.2.1 37) (h38 : S'.2.1 38 = S.2.1 38) (h39 : S'.2.1 39 = S.2.1 39) : Lvs S' n := by
  have e1 : eK S' = eK S := by funext l; unfold eK; rw [h35]
  have e2 : eA S' = eA S := by funext l; unfold eA; rw [h36]
  have e3 : eB S' = eB S := by funext l; unfold eB; rw [h37]
  have e4 : eN S' = eN S := by funext l; unfold eN; rw [h38]
  have e5 : eH S' = eH S := by funext l; unfold eH; rw [h39]
  have e6 : cha S' = cha S := by
    funext j
    induction j with
    | zero => rfl
    | succ j ih => funext k; show cha S' j (eN S' k) = cha S j (eN S k); rw [ih, e4]
  unfold Lvs
  rw [h40, h35, h36, h37, h38, h39, e1, e2, e3, e4, e5, e6]
  exact h
/-- lists and levels that fit -/
def CR (S : St) (nl nv : Nat) : Prop := Lst S nl ∧ Lvs S nv ∧ Lin S nl nv
theorem Lin.of {S S' : St} {nl nv : Nat} (h : Lin S nl nv) (h41 : S'.2.1 41 = S.2.1 41) : Lin S' nl nv := fun l h1 h2 => by
  have := h l h1 h2
  unfold nH at this ⊢
  rw [h41]
  exact this
theorem CR.of {S S' : St} {nl nv : Nat} {is as : List Nat} (h : CR S nl nv) (hf : Fr S S' is as) (h1 : 43 ∉ is ∧ 40 ∉ is) (h2 : 41 ∉ as ∧ 42 ∉ as ∧ 35 ∉ as ∧ 36 ∉ as ∧ 37 ∉ as ∧ 38 ∉ as ∧ 39 ∉ as) : CR S' nl nv :=
  ⟨h.1.of (hf.1 43 h1.1) (hf.2.1 41 h2.1) (hf.2.1 42 h2.2.1), h.2.1.of (hf.1 40 h1.2) (hf.2.1 35 h2.2.2.1) (hf.2.1 36 h2.2.2.2.1) (hf.2.1 37 h2.2.2.2.2.1) (hf.2.1 38 h2.2.2.2.2.2.1) (hf.2.1 39 h2.2.2.2.2.2.2), h.2.2.of (hf.2.1 41 h2.1)⟩
theorem cxt_z (S : St) (i : Nat) : cxt S 0 i = 0 := by
  unfold cxt
  rw [lvl_z]
  rfl
theorem cxt_T (S : St) (l i : Nat) : cxt S (nT S l) i = cxt S l (i + 1) := rfl
theorem cxt_k (S : St) (k l i : Nat) : cxt S (tlk S k l) i = cxt S l (k + i) := by
  unfold cxt lvl
  rw [tlk_add]
theorem cxt_H (S : St) (k l : Nat) : val S (nH S (tlk S k l)) = cxt S l k := rfl
theorem cxt_ext {S S' : St} {nl n' : Nat} (hL : Lst S nl) (h : LExt S S' nl n') (h35 : S'.2.1 35 = S.2.1 35) (h36 : S'.2.1 36 = S.2.1 36) (h37 : S'.2.1 37 = S.2.1 37) {l : Nat} (hl : l < nl) : cxt S' l = cxt S l := by
  funext i
  unfold cxt
  rw [val_same h35 h36 h37, h.lv_ hL i l hl]
theorem X8_listC {S : St} {N nl nv h t : Nat} (hC : CR S nl nv) (hn : nl < 270000) (hh : h < nv) (ht : t < nl) : ∃ l S' nl', fX8_list N S (nI h) (nI t) = some (nI l, S') ∧ CR S' nl' nv ∧ Fr S S' [43] [41, 42] ∧ nl ≤ nl' ∧ nl' ≤ nl + 1 ∧ l < nl' ∧ (∀ q, q < nl → cxt S' q = cxt S q) ∧ cxt S' l 0 = val S h ∧ (∀ i, cxt S' l (i + 1) = cxt S t i) := by
  obtain ⟨hL, hV, hI⟩ := hC
  obtain ⟨l, S', n', e1, e2, e3, e4, e5, e6, e7, e8⟩ := X8_list (N := N) hL hn (show h < 4010 by have := hV.2.2.1; omega) ht
  have v3 := val_same (e3.2.1 35 (by decide)) (e3.2.1 36 (by decide)) (e3.2.1 37 (by decide))
  have co : ∀ q, q < nl → cxt S' q = cxt S q := fun q hq => cxt_ext hL e2 (e3.2.1 35 (by decide)) (e3.2.1 36 (by decide)) (e3.2.1 37 (by decide)) hq
  refine ⟨l, S', n', e1, ⟨e2.1, hV.of (e3.1 40 (by decide)) (e3.2.1 35 (by decide)) (e3.2.1 36 (by decide)) (e3.2.1 37 (by decide)) (e3.2.1 38 (by decide)) (e3.2.1 39 (by decide)), e8 nv hh hI⟩, e3, e2.2.1, e4, e5, co, ?_, fun i => ?_⟩
  · show val S' (nH S' l) = val S h
    rw [e6, v3]
  · show cxt S' (nT S' l) i = _
    rw [e7, co t ht]
theorem X8_withC {S : St} {N nl nv l k c : Nat} (hN : Big N) (hC : CR S nl nv) (hl : l < nl) (hc : c < nl) (hk : k ≤ 64) (hn : nl + k ≤ 270000) : ∃ l' S' nl', fX8_with N S (nI l) (nI k) (nI c) = some (nI l', S') ∧ CR S' nl' nv ∧ Fr S S' [43] [41, 42, 44] ∧ nl ≤ nl' ∧ nl' ≤ nl + k ∧ l' < nl' ∧ (∀ q, q < nl → cxt S' q = cxt S q) ∧ (∀ i, cxt S' l' i = if i < k then cxt S l i else cxt S c (i - k)) := by
  obtain ⟨hL, hV, hI⟩ := hC
  obtain ⟨l', S', n', e1, e2, e3, e4, e5, e6, e7⟩ := X8_with hN hL hl hc hk hn
  have v3 := val_same (e3.2.1 35 (by decide)) (e3.2.1 36 (by decide)) (e3.2.1 37 (by decide))
  refine ⟨l', S', n', e1, ⟨e2.1, hV.of (e3.1 40 (by decide)) (e3.2.1 35 (by decide)) (e3.2.1 36 (by decide)) (e3.2.1 37 (by decide)) (e3.2.1 38 (by decide)) (e3.2.1 39 (by decide)), e7 nv (fun i _ => lvl_in hL hV.2.1 hI hl) hI⟩, e3, e2.2.1, e4, e5, fun q hq => cxt_ext hL e2 (e3.2.1 35 (by decide)) (e3.2.1 36 (by decide)) (e3.2.1 37 (by decide)) hq, fun i => ?_⟩
  unfold cxt
  rw [e6 i, v3]
  by_cases c1 : i < k
  · rw [if_pos c1, if_pos c1]
  · rw [if_neg c1, if_neg c1]
theorem X8_levelC {S : St} {N nl nv d x y : Nat} (hN : Big N) (hC : CR S nl nv) (hn : nv < 4010) (hd : 1 ≤ d ∧ d ≤ 3) (hx : x < nv) (hy : y < nv) :
    ∃ k S' nv', fX8_level N S (nI d) (nI x) (nI y) = some (nI k, S') ∧ CR S' nl nv' ∧ Fr S S' [40] [35, 36, 37, 38, 39] ∧ nv ≤ nv' ∧ nv' ≤ nv + 1 ∧ k < nv' ∧ val S' k = code_ d (val S x) (val S y) ∧ (∀ q, q < nl → cxt S' q = cxt S q) := by
  obtain ⟨hL, hV, hI⟩ := hC
  obtain ⟨k, S', n', e1, e2, e3, e4, e5, e6, e7, e8, e9⟩ := X8_level hN hV hn hd hx hy
  have l41 := e3.2.1 41 (by decide)
  have l42 := e3.2.1 42 (by decide)
  refine ⟨k, S', n', e1, ⟨hL.of (e3.1 43 (by decide)) l41 l42, e2.1, fun l h1 h2 => ?_⟩, e3, e2.2.1, e4, e6, ?_, fun q hq => ?_⟩
  · have := (hI.of l41) l h1 h2
    exact Nat.lt_of_lt_of_le this e2.2.1
  · rw [val_s e2.1 e5 e6, e7, e8, e9, e2.val hV x hx, e2.val hV y hy]
  · funext i
    unfold cxt
    rw [lvl_same l41 l42, e2.val hV _ (lvl_in hL hV.2.1 hI hq)]
