/-! both programs read: names -/
def dg (bs : Nat → Nat) : Nat → Nat → Nat
  | 0, _ => 0
  | d + 1, p => if isD (bs p) then dg bs d (p + 1) + 1 else 0
theorem dg_le {bs : Nat → Nat} : ∀ d p, dg bs d p ≤ d ∧ ∀ i, p ≤ i → i < p + dg bs d p → isD (bs i)
  | 0, p => ⟨Nat.le_refl _, fun i h1 h2 => by
    have h2 : i < p + 0 := h2
    omega⟩
  | d + 1, p => by
    have e : dg bs (d + 1) p = if isD (bs p) then dg bs d (p + 1) + 1 else 0 := rfl
    rw [e]
    by_cases c : isD (bs p)
    · obtain ⟨h1, h2⟩ := dg_le (bs := bs) d (p + 1)
      rw [if_pos c]
      refine ⟨by omega, fun i i1 i2 => ?_⟩
      by_cases z : i = p
      · rw [z]; exact c
      · exact h2 i (by omega) (by omega)
    · rw [if_neg c]
      exact ⟨by omega, fun i i1 i2 => by omega⟩
def nv (bs : Nat → Nat) (p : Nat) : Nat → Nat
  | 0 => 0
  | k + 1 => nv bs p k * 256 + bs (p + k)
theorem nv_lt {bs : Nat → Nat} {p : Nat} : ∀ k, (∀ i, i < k → bs (p + i) < 256) → nv bs p k < 256 ^ k
  | 0, _ => by
    show 0 < 256 ^ 0
    decide
  | k + 1, h => by
    have i := nv_lt k (fun i hi => h i (by omega))
    have b := h k (by omega)
    show nv bs p k * 256 + bs (p + k) < 256 ^ (k + 1)
    rw [Nat.pow_succ]
    omega
theorem nv_pos {bs : Nat → Nat} {p : Nat} (h : 1 ≤ bs p) : ∀ k, 1 ≤ k → 1 ≤ nv bs p k
  | 0, hk => absurd hk (by omega)
  | 1, _ => by
    show 1 ≤ 0 * 256 + bs (p + 0)
    rw [Nat.add_zero]
    omega
  | k + 2, _ => by
    have := nv_pos h (k + 1) (by omega)
    show 1 ≤ nv bs p (k + 1) * 256 + bs (p + (k + 1))
    omega
theorem nI_or {a b : Nat} (ha : a < 2 ^ 24) (hb : b < 256) : (nI a <<< ((8 : Int32) &&& 31)) ||| nI b = nI (a * 256 + b) := by
  rw [pk_shlN ((8 : Int32) &&& 31) 8 (by decide) (by omega)]
  apply Int32.toBitVec_inj.mp
  apply BitVec.eq_of_toNat_eq
  have e : (nI (a * 2 ^ 8) ||| nI b).toBitVec.toNat = (nI (a * 2 ^ 8)).toBitVec.toNat ||| (nI b).toBitVec.toNat := by
    rw [Int32.toBitVec_or, BitVec.toNat_or]
  rw [e, pk_tn (by omega), pk_tn (by omega), pk_tn (by omega)]
  have := Nat.two_pow_add_eq_or_of_lt (i := 8) (b := b) hb a
  rw [Nat.mul_comm a, ← this, Nat.mul_comm (2 ^ 8)]
theorem CN_loop {S M : St} {bs : Nat → Nat} {L N p : Nat} (h : TP S M bs L) (h90 : S.1 90 = nI p) : ∀ (d e f : Nat), e + d = L → d < f → p ≤ e → loopN (fun k x => fX4_nameSize_23s N k x.1 x.2) f (S, nI e) = some (nI (e + dg bs d e - p), S)
  | 0, e, f, hd, hf, hp => by
    obtain ⟨f, rfl⟩ : ∃ f', f = f' + 1 := ⟨f - 1, by omega⟩
    have hL := h.1
    show fX4_nameSize_23s N _ S (nI e) = some (nI (e + 0 - p), S)
    unfold fX4_nameSize_23s
    rw [h.2.1, h90, if_pos (nI_le (by omega) (by omega)), pk_sub hp, Nat.add_zero]
  | d + 1, e, f, hd, hf, hp => by
    obtain ⟨f, rfl⟩ : ∃ f', f = f' + 1 := ⟨f - 1, by omega⟩
    have hL := h.1
    have hb := (h.2.2.2.2 e (by omega)).1
    have ih := CN_loop (N := N) h h90 d (e + 1) f (by omega) (by omega) (by omega)
    have ed : dg bs (d + 1) e = if isD (bs e) then dg bs d (e + 1) + 1 else 0 := rfl
    show fX4_nameSize_23s N (loopN (fun k x => fX4_nameSize_23s N k x.1 x.2) f) S (nI e) = _
    obtain ⟨Lp, eL⟩ : ∃ Lp, Lp = loopN (fun k x => fX4_nameSize_23s N k x.1 x.2) f := ⟨_, rfl⟩
    rw [← eL] at ih ⊢
    unfold fX4_nameSize_23s
    rw [h.2.1, if_neg (fun z => absurd ((nI_leI (by omega) (by omega)).mp z) (by omega)), bd2_ok (C_byte h (by omega)), if_pos (show e < L by omega), bdo_ok (C_digit hb), ed]
    by_cases c : isD (bs e)
    · rw [if_pos c, if_pos c, if_neg (by decide), bnd_eq, show nI e + (1 : Int32) = nI (e + 1) from nI_1 _, ih, show e + 1 + dg bs d (e + 1) - p = e + (dg bs d (e + 1) + 1) - p by omega]
    · rw [if_neg c, if_neg c, if_pos rfl, h90, pk_sub hp, Nat.add_zero]
def nsz (bs : Nat → Nat) (L p : Nat) : Nat := if p < L ∧ isL (bs p) then 1 + dg bs (L - (p + 1)) (p + 1) else 0
theorem X4_nameSize {S M : St} {bs : Nat → Nat} {L N p : Nat} (hN : Big N) (h : TP S M bs L) (hp : p ≤ L) (h90 : S.1 90 = nI p) : fX4_nameSize N S = some (nI (nsz bs L p), S) := by
  have hb := hN
  unfold Big at hb
  have hL := h.1
  unfold fX4_nameSize nsz
  rw [h90, bd2_ok (C_byte h (by omega))]
  by_cases c : p < L
  · have hb := (h.2.2.2.2 p c).1
    rw [if_pos c, bdo_ok (C_letter hb)]
    by_cases l : isL (bs p)
    · rw [if_pos l, if_neg (by decide), h90, bnd_eq, show nI p + (1 : Int32) = nI (p + 1) from nI_1 _, if_pos ⟨c, l⟩]
      have := CN_loop (N := N) h h90 (L - (p + 1)) (p + 1) N (by omega) (by omega) (by omega)
      rw [show p + 1 + dg bs (L - (p + 1)) (p + 1) - p = 1 + dg bs (L - (p + 1)) (p + 1) by omega] at this
      exact this
    · rw [if_neg l, if_pos rfl, if_neg (fun z => l z.2)]
      rfl
  · rw [if_neg c, bdo_ok C_letter_m, if_pos rfl, if_neg (fun z => c z.1)]
    rfl
theorem CO_loop {S M : St} {bs : Nat → Nat} {L N p sz : Nat} (h : TP S M bs L) (h90 : S.1 90 = nI p) (hs : p + sz ≤ L) : ∀ (d k f : Nat), k + d = sz → d < f → loopN (fun k x => fX4_nameOf_4s N k x.1 x.2.1 x.2.2.1 x.2.2.2) f (S, nI sz, nI (nv bs p k), nI k) = some (nI (nv bs p sz), S)
  | 0, k, f, hd, hf => by
    obtain ⟨f, rfl⟩ : ∃ f', f = f' + 1 := ⟨f - 1, by omega⟩
    have hL := h.1
    show fX4_nameOf_4s N _ S (nI sz) (nI (nv bs p k)) (nI k) = _
    unfold fX4_nameOf_4s
    rw [if_pos (nI_le (by omega) (by omega)), show k = sz by omega]
  | d + 1, k, f, hd, hf => by
    obtain ⟨f, rfl⟩ : ∃ f', f = f' + 1 := ⟨f - 1, by omega⟩
    have hL := h.1
    have ih := CO_loop (N := N) h h90 hs d (k + 1) f (by omega) (by omega)
    show fX4_nameOf_4s N (loopN (fun k x => fX4_nameOf_4s N k x.1 x.2.1 x.2.2.1 x.2.2.2) f) S (nI sz) (nI (nv bs p k)) (nI k) = _
    obtain ⟨Lp, eL⟩ : ∃ Lp, Lp = loopN (fun k x => fX4_nameOf_4s N k x.1 x.2.1 x.2.2.1 x.2.2.2) f := ⟨_, rfl⟩
    rw [← eL] at ih ⊢
    unfold fX4_nameOf_4s
    rw [if_neg (fun z => absurd ((nI_leI (by omega) (by omega)).mp z) (by omega)), h90, nI_add, bd2_ok (C_byte h (by omega)), if_pos (show p + k < L by omega), bnd_eq, bnd_eq, show (256 : Int32) = nI 256 from rfl, pk_mul, nI_add, show nI k + (1 : Int32) = nI (k + 1) from nI_1 _]
    exact ih
theorem X4_nameOf {S M : St} {bs : Nat → Nat} {L N p sz : Nat} (hN : Big N) (h : TP S M bs L) (h90 : S.1 90 = nI p) (hs : p + sz ≤ L) : fX4_nameOf N S (nI sz) = some (nI (nv bs p sz), S) := by
  have hb := hN
  unfold Big at hb
  have hL := h.1
  unfold fX4_nameOf
  rw [bnd_eq, bnd_eq]
  exact CO_loop (N := N) h h90 hs sz 0 N (by omega) (by omega)
/-- what is open: an abstraction (name, number), or a parenthesis (index, parts and tree around it); innermost first -/
abbrev Ent : Type := (Int32 × Nat) ⊕ (Nat × Nat × Nat)
def lams : List Ent → Nat
  | [] => 0
  | .inl _ :: o => lams o + 1
  | .inr _ :: o => lams o
def scope : List Ent → Sc
  | [] => []
  | .inl e :: o => scope o ++ [(o.length, e.2)]
  | .inr _ :: o => scope o
def lkE : List Ent → Int32 → Option (Nat × Nat)
  | [], _ => none
  | .inl e :: o, z => if e.1 = z then some (o.length, e.2) else lkE o z
  | .inr _ :: o, z => lkE o z
def OR (S M : St) : List Ent → Prop
  | [] => True
  | .inl e :: o => (S.2.1 84 o.length = e.1 ∧ e.1 ≠ 0 ∧ M.2.1 15 o.length = 1 ∧ M.2.1 16 o.length = nI e.2 ∧ M.2.1 12 (lams o) = e.1 ∧ M.2.1 11 (lams o) = nI e.2) ∧ OR S M o
  | .inr e :: o => (S.2.1 84 o.length = 0 ∧ S.2.1 85 o.length = nI e.1 ∧ S.2.1 86 o.length = nI e.2.1 ∧ M.2.1 15 o.length = 0 ∧ M.2.1 16 o.length = (if e.2.1 = 0 then -1 else nI e.2.2)) ∧ OR S M o
theorem lams_le : ∀ o : List Ent, lams o ≤ o.length
  | [] => Nat.le_refl _
  | .inl _ :: o => Nat.succ_le_succ (lams_le o)
  | .inr _ :: o => Nat.le_succ_of_le (lams_le o)
theorem OR.of {S S' M M' : St} : ∀ {o : List Ent}, (∀ j, j < o.length → S'.2.1 84 j = S.2.1 84 j ∧ S'.2.1 85 j = S.2.1 85 j ∧ S'.2.1 86 j = S.2.1 86 j ∧ M'.2.1 15 j = M.2.1 15 j ∧ M'.2.1 16 j = M.2.1 16 j) → (∀ j, j < lams o → M'.2.1 11 j = M.2.1 11 j ∧ M'.2.1 12 j = M.2.1 12 j) → OR S M o → OR S' M' o
  | [], _, _, _ => trivial
  | .inl e :: o, h1, h2, ⟨⟨a1, a2, a3, a4, a5, a6⟩, ho⟩ => by
    obtain ⟨b1, b2, b3, b4, b5⟩ := h1 o.length (by show o.length < o.length + 1; omega)
    obtain ⟨c1, c2⟩ := h2 (lams o) (by show lams o < lams o + 1; omega)
    refine ⟨⟨by rw [b1]; exact a1, a2, by rw [b4]; exact a3, by rw [b5]; exact a4, by rw [c2]; exact a5, by rw [c1]; exact a6⟩, OR.of (fun j hj => h1 j (by show j < o.length + 1; omega)) (fun j hj => h2 j (by show j < lams o + 1; omega)) ho⟩
  | .inr e :: o, h1, h2, ⟨⟨a1, a2, a3, a4, a5⟩, ho⟩ => by
    obtain ⟨b1, b2, b3, b4, b5⟩ := h1 o.length (by show o.length < o.length + 1; omega)
    refine ⟨⟨by rw [b1]; exact a1, by rw [b2]; exact a2, by rw [b3]; exact a3, by rw [b4]; exact a4, by rw [b5]; exact a5⟩, OR.of (fun j hj => h1 j (by show j < o.length + 1; omega)) h2 ho⟩
def bd (M : St) (V : Int32) : Nat → Int32
  | 0 => -1
  | k + 1 => if M.2.1 12 k = V then M.2.1 11 k else bd M V k
theorem bd_lk {S M : St} {V : Int32} : ∀ {o : List Ent}, OR S M o → bd M V (lams o) = match lkE o V with | none => -1 | some e => nI e.2
  | [], _ => rfl
  | .inl e :: o, ⟨⟨a1, a2, a3, a4, a5, a6⟩, ho⟩ => by
    have ih := bd_lk (V := V) ho
    show (if M.2.1 12 (lams o) = V then M.2.1 11 (lams o) else bd M V (lams o)) = match (if e.1 = V then some (o.length, e.2) else lkE o V) with | none => -1 | some e => nI e.2
    rw [a5, a6]
    by_cases c : e.1 = V
    · rw [if_pos c, if_pos c]
    · rw [if_neg c, if_neg c, ih]
  | .inr e :: o, ⟨_, ho⟩ => bd_lk (o := o) ho
theorem CS_loop {S M : St} {N : Nat} {V : Int32} (hV : V ≠ 0) : ∀ (o : List Ent) (f : Nat), OR S M o → o.length ≤ 40 → o.length < f → loopN (fun k x => fX4_slotOf_7s N k x.1 x.2.1 x.2.2) f (S, V, nI o.length - 1) = some ((match lkE o V with | none => -1 | some e => nI e.1), S)
  | [], f, _, _, hf => by
    obtain ⟨f, rfl⟩ : ∃ f', f = f' + 1 := ⟨f - 1, by omega⟩
    show fX4_slotOf_7s N _ S V (nI 0 - 1) = _
    unfold fX4_slotOf_7s
    rw [if_pos (show nI 0 - 1 < 0 by decide)]
    rfl
  | .inl e :: o, f, ⟨⟨a1, a2, a3, a4, a5, a6⟩, ho⟩, hl, hf => by
    obtain ⟨f, rfl⟩ : ∃ f', f = f' + 1 := ⟨f - 1, by omega⟩
    have hl : o.length + 1 ≤ 40 := hl
    have hf : o.length + 1 < f + 1 := hf
    have ih := CS_loop (N := N) hV o f ho (by omega) (by omega)
    show fX4_slotOf_7s N (loopN (fun k x => fX4_slotOf_7s N k x.1 x.2.1 x.2.2) f) S V (nI (o.length + 1) - 1) = some ((match (if e.1 = V then some (o.length, e.2) else lkE o V) with | none => -1 | some e => nI e.1), S)
    obtain ⟨Lp, eL⟩ : ∃ Lp, Lp = loopN (fun k x => fX4_slotOf_7s N k x.1 x.2.1 x.2.2) f := ⟨_, rfl⟩
    rw [← eL] at ih ⊢
    rw [show nI (o.length + 1) - 1 = nI o.length by rw [nI_sub1 (by omega)]; rfl]
    unfold fX4_slotOf_7s
    rw [if_neg (nI_pos (by omega)), ckx_ok (vp_in_nI (by omega) (by omega)), nI_clamp (by omega), a1]
    by_cases c : e.1 = V
    · rw [if_pos c, if_pos c]
    · rw [if_neg c, if_neg c, bnd_eq, nI_m1, ih]
  | .inr e :: o, f, ⟨⟨a1, a2, a3, a4, a5⟩, ho⟩, hl, hf => by
    obtain ⟨f, rfl⟩ : ∃ f', f = f' + 1 := ⟨f - 1, by omega⟩
    have hl : o.length + 1 ≤ 40 := hl
    have hf : o.length + 1 < f + 1 := hf
    have ih := CS_loop (N := N) hV o f ho (by omega) (by omega)
    show fX4_slotOf_7s N (loopN (fun k x => fX4_slotOf_7s N k x.1 x.2.1 x.2.2) f) S V (nI (o.length + 1) - 1) = some ((match lkE o V with | none => -1 | some e => nI e.1), S)
    obtain ⟨Lp, eL⟩ : ∃ Lp, Lp = loopN (fun k x => fX4_slotOf_7s N k x.1 x.2.1 x.2.2) f := ⟨_, rfl⟩
    rw [← eL] at ih ⊢
    rw [show nI (o.length + 1) - 1 = nI o.length by rw [nI_sub1 (by omega)]; rfl]
    unfold fX4_slotOf_7s
    rw [if_neg (nI_pos (by omega)), ckx_ok (vp_in_nI (by omega) (by omega)), nI_clamp (by omega), a1, if_neg (fun z => hV z.symm), bnd_eq, nI_m1, ih]
theorem X4_slotOf {S M : St} {N : Nat} {V : Int32} {o : List Ent} (hN : Big N) (hV : V ≠ 0) (h : OR S M o) (hl : o.length ≤ 40) (h87 : S.1 87 = nI o.length) : fX4_slotOf N S V = some ((match lkE o V with | none => -1 | some e => nI e.1), S) := by
  have hb := hN
  unfold Big at hb
  unfold fX4_slotOf
  rw [h87, bnd_eq]
  exact CS_loop (N := N) hV o N h hl (by omega)
