/-! the class's context: its levels -/
def CtR (S : St) (D : Nat) (L : Nat → Nat) (n : Nat) : Prop := S.1 22 = nI D ∧ D ≤ 4067 ∧ (∀ i, i < D → S.2.1 21 i = nI (L i)) ∧ (∀ i, D ≤ i → L i = 0) ∧ (∀ i, L i < n) ∧ n ≤ 4002
theorem CtR.of {S S' : St} {D n : Nat} {L : Nat → Nat} (h : CtR S D L n) (h22 : S'.1 22 = S.1 22) (h21 : S'.2.1 21 = S.2.1 21) : CtR S' D L n := by
  unfold CtR
  rw [h22, h21]
  exact h
theorem CtR.mono {S : St} {D n n' : Nat} {L : Nat → Nat} (h : CtR S D L n) (hn : n ≤ n') (h4 : n' ≤ 4002) : CtR S D L n' := ⟨h.1, h.2.1, h.2.2.1, h.2.2.2.1, fun i => by have := h.2.2.2.2.1 i; omega, h4⟩
theorem X1_level {S : St} {N D n i : Nat} {L : Nat → Nat} (h : CtR S D L n) (hi : i < 2 ^ 30) : fX1_level N S (nI i) = some (nI (L i), S) := by
  obtain ⟨h1, h2, h3, h4, h5, h6⟩ := h
  unfold fX1_level
  rw [if_neg (nI_pos (by omega)), h1]
  by_cases c : D ≤ i
  · rw [if_pos (nI_le c (by omega)), h4 i c]
    rfl
  · rw [if_neg (fun q => c ((nI_leI (by omega) (by omega)).mp q)), show (4067 : Int32) = nI 4067 from rfl, if_neg (fun q => absurd ((nI_leI (by omega) (by omega)).mp q) (by omega)), ckx_ok (vp_in_nI (by omega) (by omega)), nI_clamp (by omega), h3 i (by omega)]
theorem cSet_at (L : Nat → Nat) (n x i : Nat) : cSet L n x i = if i = n then x else L i := rfl
theorem cIns_at (L : Nat → Nat) (n x i : Nat) : cIns L n x i = if i < n then L i else if i = n then x else L (i - 1) := rfl
theorem cDel_at (L : Nat → Nat) (n i : Nat) : cDel L n i = if i < n then L i else L (i + 1) := rfl
theorem X1_setLp {N n x t : Nat} {L : Nat → Nat} (hx : x < 4067) (ht : t < n) : ∀ (d : Nat) (S : St) (D f : Nat), D + d = max (x + 1) D → d < f → CtR S D L n → ∃ S' D', loopN (fun k x => fX1_set_24s N k x.1 x.2.1 x.2.2) f (S, nI x, nI t) = some S' ∧ Fr S S' [22] [21] ∧ CtR S' D' (cSet L x t) n ∧ D' = max (x + 1) D := by
  intro d
  induction d with
  | zero =>
    intro S D f hd hf h
    obtain ⟨f, rfl⟩ : ∃ f', f = f' + 1 := ⟨f - 1, by omega⟩
    obtain ⟨h1, h2, h3, h4, h5, h6⟩ := id h
    have hD : x < D := by omega
    show ∃ S' D', fX1_set_24s N _ S (nI x) (nI t) = some S' ∧ _
    unfold fX1_set_24s
    rw [h1, if_pos (nI_lt hD (by omega)), ckx_ok (vp_in_nI (by omega) (by omega)), bnd_eq, nI_clamp (by omega)]
    refine ⟨_, D, rfl, Fr.A (by decide), ⟨h1, h2, fun i hi => ?_, fun i hi => ?_, fun i => ?_, h6⟩, by omega⟩
    · show upd (S.2.1 21) x (nI t) i = _
      rw [upd_at, cSet_at]
      by_cases c : i = x
      · rw [if_pos c, if_pos c]
      · rw [if_neg c, if_neg c]; exact h3 i hi
    · rw [cSet_at, if_neg (by omega)]; exact h4 i hi
    · rw [cSet_at]
      by_cases c : i = x
      · rw [if_pos c]; exact ht
      · rw [if_neg c]; exact h5 i
  | succ d ih =>
    intro S D f hd hf h
    obtain ⟨f, rfl⟩ : ∃ f', f = f' + 1 := ⟨f - 1, by omega⟩
    obtain ⟨h1, h2, h3, h4, h5, h6⟩ := id h
    have hD : D ≤ x := by omega
    obtain ⟨Lp, eL⟩ : ∃ Lp, Lp = loopN (fun k x => fX1_set_24s N k x.1 x.2.1 x.2.2) f := ⟨_, rfl⟩
    show ∃ S' D', fX1_set_24s N (loopN (fun k x => fX1_set_24s N k x.1 x.2.1 x.2.2) f) S (nI x) (nI t) = some S' ∧ _
    rw [← eL]
    unfold fX1_set_24s
    rw [h1, if_neg (nI_nlt hD (by omega)), ckx_ok (vp_in_nI (by omega) (by omega)), bnd_eq, bnd_eq, nI_clamp (by omega), eL]
    obtain ⟨S6, e6⟩ : ∃ z, z = sI (sA S 21 (upd (S.2.1 21) D 0)) 22 ((sA S 21 (upd (S.2.1 21) D 0)).1 22 + 1) := ⟨_, rfl⟩
    rw [← e6]
    have f6 : Fr S S6 [22] [21] := by rw [e6]; exact (Fr.A (by decide)).trans (Fr.I (by decide))
    have c6 : CtR S6 (D + 1) L n := by
      refine ⟨?_, by omega, fun i hi => ?_, fun i hi => h4 i (by omega), h5, h6⟩
      · rw [e6]
        show S.1 22 + 1 = _
        rw [h1, nI_1]
      · rw [e6]
        show upd (S.2.1 21) D 0 i = _
        rw [upd_at]
        by_cases c : i = D
        · rw [if_pos c, h4 i (by omega)]; rfl
        · rw [if_neg c]; exact h3 i (by omega)
    obtain ⟨S', D', q1, q2, q3, q4⟩ := ih S6 (D + 1) f (by omega) (by omega) c6
    exact ⟨S', D', q1, f6.trans q2, q3, by omega⟩
theorem X1_set {S : St} {N D n x t : Nat} {L : Nat → Nat} (hN : Big N) (h : CtR S D L n) (hx : x < 4067) (ht : t < n) : ∃ S' D', fX1_set N S (nI x) (nI t) = some S' ∧ Fr S S' [22] [21] ∧ CtR S' D' (cSet L x t) n ∧ (D' = D ∨ D' = x + 1) ∧ (x < D → D' = D) ∧ (t ≠ 0 → x < D') := by
  obtain ⟨h1, h2, h3, h4, h5, h6⟩ := id h
  have hb := hN
  unfold Big at hb
  unfold fX1_set
  rw [if_neg (nI_pos (by omega)), show (4067 : Int32) = nI 4067 from rfl, if_neg (fun q => absurd ((nI_leI (by omega) (by omega)).mp q) (by omega)), h1]
  have go : ∃ S' D', fX1_set_24 N (S, nI x, nI t) = some S' ∧ Fr S S' [22] [21] ∧ CtR S' D' (cSet L x t) n ∧ (D' = D ∨ D' = x + 1) ∧ (x < D → D' = D) ∧ (t ≠ 0 → x < D') := by
    obtain ⟨S', D', q1, q2, q3, q4⟩ := X1_setLp (N := N) hx ht (max (x + 1) D - D) S D N (by omega) (by omega) h
    exact ⟨S', D', q1, q2, q3, by omega, by omega, by omega⟩
  by_cases c : x < D
  · rw [if_pos (nI_lt c (by omega))]
    exact go
  · rw [if_neg (nI_nlt (by omega) (by omega))]
    by_cases t0 : t = 0
    · rw [if_pos (by rw [t0]; rfl)]
      have e : cSet L x t = L := by
        funext i
        rw [cSet_at]
        by_cases z : i = x
        · rw [if_pos z, t0, z, h4 x (by omega)]
        · rw [if_neg z]
      exact ⟨S, D, rfl, Fr.rf, by rw [e]; exact h, Or.inl rfl, fun _ => rfl, fun q => absurd t0 q⟩
    · rw [if_neg (fun q => t0 ((nI_eq (by omega) (by omega)).mp (q.trans (show (0 : Int32) = nI 0 from rfl))))]
      exact go
theorem ckc_ok {β : Type} {a b c L0 L1 : Nat} {K : Option β} (h1 : a + c ≤ L0) (h2 : b + c ≤ L1) (h3 : L0 < 2 ^ 31) (h4 : L1 < 2 ^ 31) : ckc (nI a) (nI b) (nI c) L0 L1 K = K := by
  unfold ckc
  rw [nI_clamp (by omega), nI_clamp (by omega), nI_clamp (by omega)]
  refine if_neg (fun q => ?_)
  rcases q with q | q | q | q | q
  · exact nI_pos (by omega) q
  · exact nI_pos (by omega) q
  · exact nI_pos (by omega) q
  · omega
  · omega
theorem X1_insert {S : St} {N D n x t : Nat} {L : Nat → Nat} (hN : Big N) (h : CtR S D L n) (hD : D < 4067) (hx : x < 4067) (ht : t < n) : ∃ S' D', fX1_insert N S (nI x) (nI t) = some S' ∧ Fr S S' [22] [21] ∧ CtR S' D' (cIns L x t) n ∧ D' ≤ max (D + 1) (x + 1) ∧ (x < D → D' = D + 1) := by
  obtain ⟨h1, h2, h3, h4, h5, h6⟩ := id h
  unfold fX1_insert
  rw [h1]
  by_cases c : x < D
  · rw [if_pos (nI_lt c (by omega)), if_neg (nI_pos (by omega)), show (4067 : Int32) = nI 4067 from rfl, if_neg (fun q => absurd ((nI_leI (by omega) (by omega)).mp q) (by omega)), nI_1, pk_sub (by omega), ckc_ok (by omega) (by omega) (by omega) (by omega), bnd_eq, ckx_ok (vp_in_nI (by omega) (by omega)), bnd_eq, bnd_eq, nI_clamp (show x < 2 ^ 31 by omega), nI_clamp (show x + 1 < 2 ^ 31 by omega), nI_clamp (show D - x < 2 ^ 31 by omega)]
    obtain ⟨S8, e8⟩ : ∃ z : St, z = (fun S5 : St => (fun S7 : St => sI S7 22 (S7.1 22 + 1)) (sA S5 21 (upd (S5.2.1 21) x (nI t)))) (sA S 21 (va_cpy (S.2.1 21) (S.2.1 21) x (x + 1) (D - x))) := ⟨_, rfl⟩
    have f8 : Fr S S8 [22] [21] := by rw [e8]; exact ((Fr.A (by decide)).trans (Fr.A (by decide))).trans (Fr.I (by decide))
    have z21 : S8.2.1 21 = upd (va_cpy (S.2.1 21) (S.2.1 21) x (x + 1) (D - x)) x (nI t) := by rw [e8]; rfl
    have z22 : S8.1 22 = nI (D + 1) := by
      rw [e8]
      show S.1 22 + 1 = _
      rw [h1, nI_1]
    refine ⟨S8, D + 1, by rw [e8], f8, ⟨z22, by omega, fun i hi => ?_, fun i hi => ?_, fun i => ?_, h6⟩, by omega, fun _ => rfl⟩
    · rw [z21, upd_at, cIns_at]
      by_cases c1 : i = x
      · rw [if_pos c1, if_neg (by omega), if_pos c1]
      · rw [if_neg c1]
        by_cases c2 : i < x
        · rw [if_pos c2, pk_cpy_out (Or.inl (by omega))]
          exact h3 i (by omega)
        · rw [if_neg c2, if_neg c1, pk_cpy_in (by omega) (by omega), show x + (i - (x + 1)) = i - 1 by omega]
          exact h3 (i - 1) (by omega)
    · rw [cIns_at, if_neg (by omega), if_neg (by omega)]
      exact h4 _ (by omega)
    · rw [cIns_at]
      by_cases c1 : i < x
      · rw [if_pos c1]; exact h5 i
      · rw [if_neg c1]
        by_cases c2 : i = x
        · rw [if_pos c2]; exact ht
        · rw [if_neg c2]; exact h5 _
  · rw [if_neg (nI_nlt (by omega) (by omega))]
    obtain ⟨S', D', q1, q2, q3, q4, q5, q6⟩ := X1_set (N := N) hN h hx ht
    rw [bdo_ok q1]
    have e : cIns L x t = cSet L x t := by
      funext i
      rw [cIns_at, cSet_at]
      by_cases c1 : i < x
      · rw [if_pos c1, if_neg (by omega)]
      · rw [if_neg c1]
        by_cases c2 : i = x
        · rw [if_pos c2, if_pos c2]
        · rw [if_neg c2, if_neg c2, h4 _ (by omega), h4 _ (by omega)]
    exact ⟨S', D', rfl, q2, by rw [e]; exact q3, by omega, fun q => absurd q c⟩
theorem X1_delete {S : St} {N D n x : Nat} {L : Nat → Nat} (h : CtR S D L n) (hx : x < 4067) : ∃ S' D', fX1_delete N S (nI x) = some S' ∧ Fr S S' [22] [21] ∧ CtR S' D' (cDel L x) n ∧ (x < D → D' + 1 = D) ∧ (D ≤ x → D' = D) := by
  obtain ⟨h1, h2, h3, h4, h5, h6⟩ := id h
  unfold fX1_delete
  rw [if_neg (nI_pos (by omega)), h1]
  by_cases c : D ≤ x
  · rw [if_pos (nI_le c (by omega))]
    have e : cDel L x = L := by
      funext i
      rw [cDel_at]
      by_cases z : i < x
      · rw [if_pos z]
      · rw [if_neg z, h4 _ (by omega), h4 _ (by omega)]
    exact ⟨S, D, rfl, Fr.rf, by rw [e]; exact h, fun q => by omega, fun _ => rfl⟩
  · rw [if_neg (fun q => c ((nI_leI (by omega) (by omega)).mp q)), show (4067 : Int32) = nI 4067 from rfl, if_neg (nI_nlt (by omega) (by omega)), nI_1, pk_sub (by omega), nI_sub1 (by omega), ckc_ok (by omega) (by omega) (by omega) (by omega), bnd_eq, bnd_eq, nI_clamp (show x < 2 ^ 31 by omega), nI_clamp (show x + 1 < 2 ^ 31 by omega), nI_clamp (show D - x - 1 < 2 ^ 31 by omega)]
    obtain ⟨S8, e8⟩ : ∃ z : St, z = (fun S5 : St => sI S5 22 (S5.1 22 - 1)) (sA S 21 (va_cpy (S.2.1 21) (S.2.1 21) (x + 1) x (D - x - 1))) := ⟨_, rfl⟩
    have f8 : Fr S S8 [22] [21] := by rw [e8]; exact (Fr.A (by decide)).trans (Fr.I (by decide))
    have z21 : S8.2.1 21 = va_cpy (S.2.1 21) (S.2.1 21) (x + 1) x (D - x - 1) := by rw [e8]; rfl
    have z22 : S8.1 22 = nI (D - 1) := by
      rw [e8]
      show S.1 22 - 1 = _
      rw [h1, nI_sub1 (by omega)]
    refine ⟨S8, D - 1, by rw [e8], f8, ⟨z22, by omega, fun i hi => ?_, fun i hi => ?_, fun i => ?_, h6⟩, fun _ => by omega, fun q => absurd q c⟩
    · rw [z21, cDel_at]
      by_cases c2 : i < x
      · rw [if_pos c2, pk_cpy_out (Or.inl (by omega))]
        exact h3 i (by omega)
      · rw [if_neg c2, pk_cpy_in (by omega) (by omega), show x + 1 + (i - x) = i + 1 by omega]
        exact h3 (i + 1) (by omega)
    · rw [cDel_at, if_neg (by omega)]
      exact h4 _ (by omega)
    · rw [cDel_at]
      by_cases c1 : i < x
      · rw [if_pos c1]; exact h5 i
      · rw [if_neg c1]; exact h5 _
/-! the trail -/
abbrev Te : Type := Nat × (Nat → Nat) × Nat
/-- taking a change back -/
def undL (f x old r : Nat) (L : Nat → Nat) : Nat → Nat := if f = 0 then cDel L x else if f = 1 then cIns L x old else if f = 2 then cSet (cIns L (x + 1) r) x old else if f = 3 then cDel (cSet L x old) (x + 1) else cSet L x old
def aT : List Te → Nat
  | [] => 0
  | e :: r => aT r + if e.1 = 0 ∨ e.1 = 3 then 1 else 0
def dT : List Te → Nat
  | [] => 0
  | e :: r => dT r + if e.1 = 1 ∨ e.1 = 2 then 1 else 0
def DB (vs : Nat) : List Te → Prop
  | [] => True
  | e :: r => dT (e :: r) ≤ aT (e :: r) + vs ∧ DB vs r
def TrR (S : St) : (Nat → Nat) → Nat → List Te → Prop
  | _, _, [] => True
  | L, n, e :: r => (∃ x old, S.2.1 23 r.length = nI e.1 ∧ e.1 ≤ 4 ∧ S.2.1 24 r.length = nI x ∧ x ≤ 63 ∧ S.2.1 25 r.length = nI old ∧ old = e.2.1 x ∧ S.2.1 26 r.length = nI e.2.2 ∧ 1 ≤ e.2.2 ∧ e.2.2 ≤ n ∧ e.2.2 ≤ 1 + r.length ∧ (∀ i, e.2.1 i < e.2.2) ∧ (e.1 = 2 → tB S (L x) = e.2.1 (x + 1) ∧ 0 < L x) ∧ undL e.1 x old (e.2.1 (x + 1)) L = e.2.1) ∧ TrR S e.2.1 e.2.2 r
def CX (S : St) (D : Nat) (L : Nat → Nat) (n : Nat) (tr : List Te) (vs : Nat) : Prop := TrC S n ∧ CtR S D L n ∧ S.1 27 = nI tr.length ∧ vs + tr.length ≤ 4000 ∧ TrR S L n tr ∧ D + dT tr ≤ 64 + vs + aT tr ∧ DB vs tr ∧ n ≤ 1 + tr.length
theorem aT_le : ∀ tr : List Te, aT tr ≤ tr.length
  | [] => Nat.le_refl _
  | e :: r => by
    have := aT_le r
    show aT r + (if e.1 = 0 ∨ e.1 = 3 then 1 else 0) ≤ r.length + 1
    by_cases c : e.1 = 0 ∨ e.1 = 3
    · rw [if_pos c]; omega
    · rw [if_neg c]; omega
theorem TrR.of {S S' : St} : ∀ (tr : List Te) (L : Nat → Nat) (n : Nat), (∀ j, j < tr.length → S'.2.1 23 j = S.2.1 23 j ∧ S'.2.1 24 j = S.2.1 24 j ∧ S'.2.1 25 j = S.2.1 25 j ∧ S'.2.1 26 j = S.2.1 26 j) → (∀ k, k < n → tB S' k = tB S k) → (∀ i, L i < n) → TrR S L n tr → TrR S' L n tr
  | [], _, _, _, _, _, _ => trivial
  | e :: r, L, n, h, ht, hL, ⟨⟨x, old, a1, a2, a3, a4, a5, a6, a7, a8, a9, a10, a11, a12, a13⟩, hr⟩ => by
    obtain ⟨b1, b2, b3, b4⟩ := h r.length (by show r.length < r.length + 1; omega)
    refine ⟨⟨x, old, by rw [b1]; exact a1, a2, by rw [b2]; exact a3, a4, by rw [b3]; exact a5, a6, by rw [b4]; exact a7, a8, a9, a10, a11, fun q => ?_, a13⟩, TrR.of r _ _ (fun j hj => h j (by show j < r.length + 1; omega)) (fun k hk => ht k (by omega)) a11 hr⟩
    rw [ht _ (hL x)]
    exact a12 q
theorem CX.room {S : St} {D n vs : Nat} {L : Nat → Nat} {tr : List Te} (h : CX S D L n tr vs) : D ≤ 4064 ∧ D ≤ 64 + vs + aT tr := by
  obtain ⟨-, -, -, h4, -, h6, -, -⟩ := h
  have := aT_le tr
  omega
