/-! the class: binders, and which one a variable is of -/
def ctxAt (L : Nat → Nat) (n : Nat) (tr : List Te) (m : Nat) : (Nat → Nat) × Nat := stAt L n tr (tr.length - m)
theorem ctxAt_top (L : Nat → Nat) (n : Nat) (tr : List Te) : ctxAt L n tr tr.length = (L, n) := by
  unfold ctxAt
  rw [Nat.sub_self]
  cases tr <;> rfl
theorem ctxAt_cons {L : Nat → Nat} {n m : Nat} {e : Te} {r : List Te} (h : m ≤ r.length) : ctxAt L n (e :: r) m = ctxAt e.2.1 e.2.2 r m := by
  unfold ctxAt
  have : (e :: r).length - m = (r.length - m) + 1 := by show r.length + 1 - m = _; omega
  rw [this]
  rfl
theorem ctxAt_drop {m : Nat} : ∀ (k : Nat) (L : Nat → Nat) (n : Nat) (tr : List Te), k ≤ tr.length → m ≤ tr.length - k → ctxAt (stAt L n tr k).1 (stAt L n tr k).2 (tr.drop k) m = ctxAt L n tr m
  | 0, L, n, tr, _, _ => by cases tr <;> rfl
  | k + 1, L, n, [], hk, _ => absurd hk (by show ¬ k + 1 ≤ 0; omega)
  | k + 1, L, n, e :: r, hk, hm => by
    have hk : k + 1 ≤ r.length + 1 := hk
    have hm : m ≤ r.length + 1 - (k + 1) := hm
    rw [ctxAt_cons (by omega)]
    exact ctxAt_drop k e.2.1 e.2.2 r (by omega) (by omega)
theorem TrR_ids {S : St} : ∀ (tr : List Te) (L : Nat → Nat) (n k : Nat), TrR S L n tr → (∀ i, L i < n) → (∀ i, (stAt L n tr k).1 i < (stAt L n tr k).2) ∧ (stAt L n tr k).2 ≤ n
  | _, _, _, 0, _, hL => ⟨hL, Nat.le_refl _⟩
  | [], _, _, _ + 1, _, hL => ⟨hL, Nat.le_refl _⟩
  | e :: r, L, n, k + 1, h, _ => by
    obtain ⟨⟨_, _, _, _, _, _, _, _, _, _, h9, _, h11, _⟩, hr⟩ := h
    obtain ⟨a, b⟩ := TrR_ids r e.2.1 e.2.2 k hr h11
    exact ⟨a, Nat.le_trans b h9⟩
/-- the abstractions that are open, as the class keeps them -/
def AbC (S : St) (X : Nat → Nat) (n : Nat) : List Ab → Prop
  | [] => True
  | e :: r => (e.1 < 3002 ∧ S.2.1 131 r.length = nI e.1 ∧ ∃ (st : Nat) (Lb : Nat → Nat), S.2.1 132 r.length = nI st ∧ st + X e.1 ≤ S.2.2.2.2.1 ∧ ∀ i, i < X e.1 → S.2.1 134 (st + i) = nI (Lb i) ∧ Lb i < n ∧ tv S (Lb i) = e.2 i) ∧ AbC S X n r
theorem X6_hasLp {S : St} {N n D st k : Nat} {L Lb : Nat → Nat} (hT : TrC S n) (hC : CtR S D L n) (hk : k ≤ 63) (hst : st + k ≤ S.2.2.2.2.1) (hlen : S.2.2.2.2.1 ≤ 252000) (hLb : ∀ i, i < k → S.2.1 134 (st + i) = nI (Lb i) ∧ Lb i < n) : ∀ (d i f : Nat), i + d = k → d < f → (∀ j, j < i → Lb j = L j) → loopN (fun k x => fX6_hasLevels_19s N k x.1 x.2.1 x.2.2.1 x.2.2.2) f (S, nI st, nI k, nI i) = some ((if sameC k (fun j => tv S (Lb j)) (fun j => tv S (L j)) = true then 1 else 0), S) := by
  intro d
  have hL := hC.2.2.2.2.1
  have hn := hT.2.2.1
  induction d with
  | zero =>
    intro i f hi hf hall
    obtain ⟨f, rfl⟩ : ∃ f', f = f' + 1 := ⟨f - 1, by omega⟩
    have hi : i = k := by omega
    subst hi
    show fX6_hasLevels_19s N _ S (nI st) (nI i) (nI i) = _
    unfold fX6_hasLevels_19s
    rw [if_pos (nI_le (Nat.le_refl _) (by omega)), if_pos (sameC_iff.mpr (fun j hj => by rw [hall j hj]))]
  | succ d ih =>
    intro i f hi hf hall
    obtain ⟨f, rfl⟩ : ∃ f', f = f' + 1 := ⟨f - 1, by omega⟩
    obtain ⟨b1, b2⟩ := hLb i (by omega)
    obtain ⟨Lp, eL⟩ : ∃ Lp, Lp = loopN (fun k x => fX6_hasLevels_19s N k x.1 x.2.1 x.2.2.1 x.2.2.2) f := ⟨_, rfl⟩
    show fX6_hasLevels_19s N (loopN (fun k x => fX6_hasLevels_19s N k x.1 x.2.1 x.2.2.1 x.2.2.2) f) S (nI st) (nI k) (nI i) = _
    rw [← eL]
    unfold fX6_hasLevels_19s
    have := hL i
    rw [if_neg (fun q => absurd ((nI_leI (by omega) (by omega)).mp q) (by omega)), nI_add, ckx_ok (vp_in_nI (by omega) (by omega)), bd2_ok (X1_level hC (by omega)), nI_clamp (by omega), b1]
    by_cases c : Lb i = L i
    · rw [if_pos (by rw [c]), bnd_eq, nI_1, eL]
      refine ih (i + 1) f (by omega) (by omega) (fun j hj => ?_)
      by_cases z : j = i
      · rw [z]; exact c
      · exact hall j (by omega)
    · rw [if_neg (fun q => c ((nI_eq (by omega) (by omega)).mp q)), if_neg (fun q => c ?_)]
      exact tv_inj hT _ _ b2 (hL i) (sameC_iff.mp q i (by omega))
theorem X6_hasLevels {S : St} {N n D st k : Nat} {L Lb : Nat → Nat} (hN : Big N) (hT : TrC S n) (hC : CtR S D L n) (hk : k ≤ 63) (hst : st + k ≤ S.2.2.2.2.1) (hlen : S.2.2.2.2.1 ≤ 252000) (hLb : ∀ i, i < k → S.2.1 134 (st + i) = nI (Lb i) ∧ Lb i < n) : fX6_hasLevels N S (nI st) (nI k) = some ((if sameC k (fun j => tv S (Lb j)) (fun j => tv S (L j)) = true then 1 else 0), S) := by
  have hb := hN
  unfold Big at hb
  unfold fX6_hasLevels
  rw [if_neg (nI_pos (by omega)), nI_add, show Int32.ofNat S.2.2.2.2.1 = nI S.2.2.2.2.1 from rfl, if_pos (nI_le hst (by omega)), bnd_eq]
  exact X6_hasLp hT hC hk hst hlen hLb k 0 N (by omega) (by omega) (fun j hj => absurd hj (Nat.not_lt_zero _))
theorem sameC_congr {n : Nat} {f f' g : Nat → Nat} (h : ∀ i, i < n → f i = f' i) : sameC n f g = sameC n f' g := by
  by_cases c : sameC n f g = true
  · rw [c]
    exact (sameC_iff.mpr (fun i hi => by rw [← h i hi]; exact sameC_iff.mp c i hi)).symm
  · by_cases d : sameC n f' g = true
    · exact absurd (sameC_iff.mpr (fun i hi => by rw [h i hi]; exact sameC_iff.mp d i hi)) c
    · simp at c d
      rw [c, d]
/-- the search for a variable's abstraction -/
theorem X6_varLp {S : St} {N n D v tot : Nat} {L : Nat → Nat} {X : Nat → Nat} {td : List Nat} (hN : Big N) (hT : TrC S n) (hC : CtR S D L n) (hv : v < 3002) (hX : X v ≤ 63) (hlen : S.2.2.2.2.1 ≤ 252000) (htot : S.1 133 = nI tot) (ht4 : tot ≤ 4000) (ht : TdC S td) (h123 : S.1 123 = nI td.length) (hl : td.length ≤ 4000) : ∀ (ab : List Ab) (i f : Nat), i + ab.length = tot → ab.length < f → AbC S X n ab →
    match fnd v (X v) (fun j => tv S (L j)) ab i with
    | none => loopN (fun k x => fX6_readVariable_16s N k x.1 x.2.1 x.2.2.1 x.2.2.2) f (S, nI v, nI (X v), nI ab.length - 1) = some (4, S)
    | some k => k < tot ∧ ∃ S', loopN (fun k x => fX6_readVariable_16s N k x.1 x.2.1 x.2.2.1 x.2.2.2) f (S, nI v, nI (X v), nI ab.length - 1) = some ((if td.length + (dig k).length ≤ 4000 then 7 else 3), S') ∧ Fr S S' [123] [122] ∧ (td.length + (dig k).length ≤ 4000 → S'.1 123 = nI (td.length + (dig k).length) ∧ TdC S' (dig k ++ td))
  | [], i, f, _, hf, _ => by
    obtain ⟨f, rfl⟩ : ∃ f', f = f' + 1 := ⟨f - 1, by have : 0 < f := hf; omega⟩
    show fX6_readVariable_16s N _ S (nI v) (nI (X v)) (nI 0 - 1) = _
    unfold fX6_readVariable_16s
    rw [if_pos (by decide)]
  | e :: r, i, f, hi, hf, ⟨⟨a1, a2, st, Lb, a3, a4, a5⟩, ha⟩ => by
    have hi : i + (r.length + 1) = tot := hi
    have hf : r.length + 1 < f := hf
    obtain ⟨f, rfl⟩ : ∃ f', f = f' + 1 := ⟨f - 1, by omega⟩
    have e0 : fnd v (X v) (fun j => tv S (L j)) (e :: r) i = if e.1 = v ∧ sameC (X v) e.2 (fun j => tv S (L j)) = true then some i else fnd v (X v) (fun j => tv S (L j)) r (i + 1) := rfl
    have ex : nI (e :: r).length - 1 = nI r.length := nI_sub1 (n := r.length + 1) (by omega)
    have ih := X6_varLp hN hT hC hv hX hlen htot ht4 ht h123 hl r (i + 1) f (by omega) (by omega) ha
    obtain ⟨Lp, eL⟩ : ∃ Lp, Lp = loopN (fun k x => fX6_readVariable_16s N k x.1 x.2.1 x.2.2.1 x.2.2.2) f := ⟨_, rfl⟩
    have eu : loopN (fun k x => fX6_readVariable_16s N k x.1 x.2.1 x.2.2.1 x.2.2.2) (f + 1) (S, nI v, nI (X v), nI (e :: r).length - 1) = fX6_readVariable_16s N Lp S (nI v) (nI (X v)) (nI r.length) := by
      rw [eL, ← ex]; rfl
    rw [← eL] at ih
    rw [eu, e0]
    -- go on
    have nxt : fX6_readVariable_66 N Lp S (nI v) (nI (X v)) (nI r.length) = Lp (S, nI v, nI (X v), nI r.length - 1) := by
      unfold fX6_readVariable_66
      rw [bnd_eq, show nI r.length + (-1 : Int32) = nI r.length - 1 from (Int32.sub_eq_add_neg _ _).symm]
    have opn : fX6_readVariable_16s N Lp S (nI v) (nI (X v)) (nI r.length) = if nI e.1 = nI v then ckx (nI r.length) 4000 (bd2 (fX6_hasLevels N S (nI st) (nI (X v))) fun v5 S7 => if v5 = 0 then fX6_readVariable_66 N Lp S7 (nI v) (nI (X v)) (nI r.length) else bd2 (fX6_tellNumber N S7 (S7.1 133 - 1 - nI r.length)) fun v9 S11 => if v9 = 0 then some (3, S11) else some (7, S11)) else fX6_readVariable_66 N Lp S (nI v) (nI (X v)) (nI r.length) := by
      unfold fX6_readVariable_16s
      rw [if_neg (nI_pos (by omega)), ckx_ok (vp_in_nI (by omega) (by omega)), nI_clamp (by omega), a2, a3]
    rw [opn]
    by_cases c1 : e.1 = v
    · rw [c1] at a4 a5
      have hs := X6_hasLevels (N := N) (Lb := Lb) hN hT hC hX a4 hlen (fun j hj => ⟨(a5 j hj).1, (a5 j hj).2.1⟩)
      rw [sameC_congr (fun j hj => (a5 j hj).2.2)] at hs
      have op2 : (if nI e.1 = nI v then ckx (nI r.length) 4000 (bd2 (fX6_hasLevels N S (nI st) (nI (X v))) fun v5 S7 => if v5 = 0 then fX6_readVariable_66 N Lp S7 (nI v) (nI (X v)) (nI r.length) else bd2 (fX6_tellNumber N S7 (S7.1 133 - 1 - nI r.length)) fun v9 S11 => if v9 = 0 then some (3, S11) else some (7, S11)) else fX6_readVariable_66 N Lp S (nI v) (nI (X v)) (nI r.length)) = if (if sameC (X v) e.2 (fun j => tv S (L j)) = true then (1 : Int32) else 0) = 0 then fX6_readVariable_66 N Lp S (nI v) (nI (X v)) (nI r.length) else bd2 (fX6_tellNumber N S (S.1 133 - 1 - nI r.length)) fun v9 S11 => if v9 = 0 then some (3, S11) else some (7, S11) := by
        rw [if_pos (show nI e.1 = nI v by rw [c1]), ckx_ok (vp_in_nI (by omega) (by omega)), bd2_ok hs]
      rw [op2]
      by_cases c2 : sameC (X v) e.2 (fun j => tv S (L j)) = true
      · have hfn : (if e.1 = v ∧ sameC (X v) e.2 (fun j => tv S (L j)) = true then some i else fnd v (X v) (fun j => tv S (L j)) r (i + 1)) = some i := if_pos ⟨c1, c2⟩
        have hst : (if (if sameC (X v) e.2 (fun j => tv S (L j)) = true then (1 : Int32) else 0) = 0 then fX6_readVariable_66 N Lp S (nI v) (nI (X v)) (nI r.length) else bd2 (fX6_tellNumber N S (S.1 133 - 1 - nI r.length)) fun v9 S11 => if v9 = 0 then some (3, S11) else some (7, S11)) = bd2 (fX6_tellNumber N S (S.1 133 - 1 - nI r.length)) fun v9 S11 => if v9 = 0 then some (3, S11) else some (7, S11) := by
          rw [if_pos c2, if_neg (by decide)]
        rw [hfn, hst]
        have en : S.1 133 - 1 - nI r.length = nI i := by rw [htot, nI_sub1 (by omega), pk_sub (by omega), show tot - 1 - r.length = i by omega]
        obtain ⟨S', k1, k2, k3⟩ := X6_tellNumber (N := N) (v := i) hN (by omega) ht h123 hl
        refine ⟨by omega, S', ?_, k2, k3⟩
        rw [en, bd2_ok k1]
        by_cases z : td.length + (dig i).length ≤ 4000
        · rw [if_pos z, if_neg (by decide), if_pos z]
        · rw [if_neg z, if_pos rfl, if_neg z]
      · have hfn : (if e.1 = v ∧ sameC (X v) e.2 (fun j => tv S (L j)) = true then some i else fnd v (X v) (fun j => tv S (L j)) r (i + 1)) = fnd v (X v) (fun j => tv S (L j)) r (i + 1) := if_neg (fun q => c2 q.2)
        have hst : (if (if sameC (X v) e.2 (fun j => tv S (L j)) = true then (1 : Int32) else 0) = 0 then fX6_readVariable_66 N Lp S (nI v) (nI (X v)) (nI r.length) else bd2 (fX6_tellNumber N S (S.1 133 - 1 - nI r.length)) fun v9 S11 => if v9 = 0 then some (3, S11) else some (7, S11)) = Lp (S, nI v, nI (X v), nI r.length - 1) := by
          rw [if_neg c2, if_pos rfl, nxt]
        rw [hfn, hst]
        exact ih
    · have hfn : (if e.1 = v ∧ sameC (X v) e.2 (fun j => tv S (L j)) = true then some i else fnd v (X v) (fun j => tv S (L j)) r (i + 1)) = fnd v (X v) (fun j => tv S (L j)) r (i + 1) := if_neg (fun q => c1 q.1)
      have hst : (if nI e.1 = nI v then ckx (nI r.length) 4000 (bd2 (fX6_hasLevels N S (nI st) (nI (X v))) fun v5 S7 => if v5 = 0 then fX6_readVariable_66 N Lp S7 (nI v) (nI (X v)) (nI r.length) else bd2 (fX6_tellNumber N S7 (S7.1 133 - 1 - nI r.length)) fun v9 S11 => if v9 = 0 then some (3, S11) else some (7, S11)) else fX6_readVariable_66 N Lp S (nI v) (nI (X v)) (nI r.length)) = Lp (S, nI v, nI (X v), nI r.length - 1) := by
        rw [if_neg (fun q => c1 ((nI_eq (by omega) (by omega)).mp q)), nxt]
      rw [hfn, hst]
      exact ih
