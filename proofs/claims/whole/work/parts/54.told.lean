theorem TdR.of {S S' : St} : ∀ (td : List Nat), (∀ j, j < td.length → S'.2.1 45 j = S.2.1 45 j) → TdR S td → TdR S' td
  | [], _, _ => trivial
  | c :: r, h, g => ⟨⟨g.1.1, fun q => (h r.length (Nat.lt_succ_self _)).trans (g.1.2 q)⟩, TdR.of r (fun j hj => h j (Nat.lt_succ_of_lt hj)) g.2⟩
theorem Td_tell {S : St} {N c : Nat} {td : List Nat} (h : TdR S td) (h2 : S.1 46 = nI td.length) (hn : td.length < 100000) (hc : c < 128) : ∃ S', fX8_tell N S (nI c) = some S' ∧ Fr S S' [46] [45] ∧ S'.1 46 = nI (c :: td).length ∧ TdR S' (c :: td) := by
  obtain ⟨S', e1, e2, e3, e4, e5⟩ := X8_tell (N := N) h2 hn hc
  exact ⟨S', e1, e2, e3, ⟨hc, e4⟩, TdR.of td (fun j hj => e5 j (by omega)) h⟩
def dgl (v : Nat) : Nat → List Nat → List Nat
  | 0, td => td
  | r + 1, td => dgl v r ((48 + v / 10 ^ r % 10) :: td)
theorem dgl_len (v : Nat) : ∀ (r : Nat) (td : List Nat), (dgl v r td).length = r + td.length
  | 0, td => by rw [Nat.zero_add]; rfl
  | r + 1, td => by
    show (dgl v r _).length = _
    rw [dgl_len v r]
    show r + (td.length + 1) = _
    omega
def un10 (r : Nat) : Nat := if r = 0 then 0 else 10 ^ (r - 1)
theorem p10_le : ∀ r, r ≤ 4 → 0 < r → 10 ^ (r - 1) ≤ 1000 ∧ 0 < 10 ^ (r - 1) ∧ 10 ^ (r - 1) / 10 = un10 (r - 1) := by decide
theorem X8_tellN18 {N v : Nat} (hv : v < 10000) : ∀ (r n : Nat) (S : St) (td : List Nat), r ≤ 4 → r < n → TdR S td → S.1 46 = nI td.length → td.length + r < 50000 →
    ∃ S', loopN (fun k x => fX8_tellNumber_18s N k x.1 x.2.1 x.2.2) n (S, nI v, nI (un10 r)) = some S' ∧ Fr S S' [46] [45] ∧ S'.1 46 = nI (dgl v r td).length ∧ TdR S' (dgl v r td)
  | _, 0, _, _, _, h, _, _, _ => absurd h (Nat.not_lt_zero _)
  | 0, n + 1, S, td, _, _, ht, h46, _ => by
    show ∃ S', fX8_tellNumber_18s N _ S (nI v) (nI 0) = some S' ∧ _
    unfold fX8_tellNumber_18s
    rw [if_pos (by decide)]
    exact ⟨S, rfl, Fr.rf, h46, ht⟩
  | r + 1, n + 1, S, td, hr, hn, ht, h46, hl => by
    have hu : un10 (r + 1) = 10 ^ r := rfl
    obtain ⟨g1, g2, g3⟩ := p10_le (r + 1) hr (by omega)
    have g1 : 10 ^ r ≤ 1000 := g1
    have g2 : 0 < 10 ^ r := g2
    have g3 : 10 ^ r / 10 = un10 r := g3
    show ∃ S', fX8_tellNumber_18s N _ S (nI v) (nI (un10 (r + 1))) = some S' ∧ _
    unfold fX8_tellNumber_18s
    rw [hu, if_neg (nI_nle (by omega) (by omega)), ckp_ok (by
      have : ¬ nI (10 ^ r) = 0 := nI_ne (by omega) (by omega)
      simp [this])]
    have hd : v / 10 ^ r ≤ v := Nat.div_le_self _ _
    rw [pk_div (by omega) g2 (by omega), show (10 : Int32) = nI 10 from rfl, pk_rem (by omega) (by omega) (by omega), show (48 : Int32) = nI 48 from rfl, nI_add]
    obtain ⟨S1, e1, e2, e3, e4⟩ := Td_tell (N := N) (c := 48 + v / 10 ^ r % 10) ht h46 (by omega) (by omega)
    rw [bdo_ok e1, bnd_eq, pk_div (by omega) (by omega) (by omega), g3]
    obtain ⟨S2, k1, k2, k3, k4⟩ := X8_tellN18 hv r n S1 ((48 + v / 10 ^ r % 10) :: td) (by omega) (by omega) e4 e3 (by show td.length + 1 + r < 50000; omega)
    exact ⟨S2, k1, e2.trans k2, k3, k4⟩
theorem dig_dgl {v : Nat} (td : List Nat) : ∀ r, r < 4 → v < 10000 → v / 10 ^ r ≤ 9 → (r = 0 ∨ 10 ^ r ≤ v) → dig v ++ td = dgl v (r + 1) td := by
  intro r hr hv h1 h2
  unfold dig
  match r, hr with
  | 0, _ =>
    have a1 : v / 10 ^ 0 = v := by omega
    show (if v < 10 then [48 + v] else _) ++ td = (48 + v / 10 ^ 0 % 10) :: td
    rw [if_pos (by omega), a1, show v % 10 = v by omega]
    rfl
  | 1, _ =>
    have a0 : v / 10 ^ 0 = v := by omega
    have a1 : v / 10 ^ 1 = v / 10 := by omega
    show (if v < 10 then [48 + v] else (48 + v % 10) :: (if v / 10 < 10 then [48 + v / 10] else _)) ++ td = (48 + v / 10 ^ 0 % 10) :: (48 + v / 10 ^ 1 % 10) :: td
    rw [if_neg (by omega), if_pos (by omega), a0, a1, show v / 10 % 10 = v / 10 by omega]
    rfl
  | 2, _ =>
    have a0 : v / 10 ^ 0 = v := by omega
    have a1 : v / 10 ^ 1 = v / 10 := by omega
    have a2 : v / 10 ^ 2 = v / 10 / 10 := by omega
    show (if v < 10 then [48 + v] else (48 + v % 10) :: (if v / 10 < 10 then [48 + v / 10] else (48 + v / 10 % 10) :: (if v / 10 / 10 < 10 then [48 + v / 10 / 10] else _))) ++ td = (48 + v / 10 ^ 0 % 10) :: (48 + v / 10 ^ 1 % 10) :: (48 + v / 10 ^ 2 % 10) :: td
    rw [if_neg (by omega), if_neg (by omega), if_pos (by omega), a0, a1, a2, show v / 10 / 10 % 10 = v / 10 / 10 by omega]
    rfl
  | 3, _ =>
    have a0 : v / 10 ^ 0 = v := by omega
    have a1 : v / 10 ^ 1 = v / 10 := by omega
    have a2 : v / 10 ^ 2 = v / 10 / 10 := by omega
    have a3 : v / 10 ^ 3 = v / 10 / 10 / 10 := by omega
    show (if v < 10 then [48 + v] else (48 + v % 10) :: (if v / 10 < 10 then [48 + v / 10] else (48 + v / 10 % 10) :: (if v / 10 / 10 < 10 then [48 + v / 10 / 10] else (48 + v / 10 / 10 % 10) :: (if v / 10 / 10 / 10 < 10 then [48 + v / 10 / 10 / 10] else _)))) ++ td = (48 + v / 10 ^ 0 % 10) :: (48 + v / 10 ^ 1 % 10) :: (48 + v / 10 ^ 2 % 10) :: (48 + v / 10 ^ 3 % 10) :: td
    rw [if_neg (by omega), if_neg (by omega), if_neg (by omega), if_pos (by omega), a0, a1, a2, a3, show v / 10 / 10 / 10 % 10 = v / 10 / 10 / 10 by omega]
    rfl
theorem p10_s : ∀ r, r < 4 → 10 ^ r ≤ 1000 ∧ 0 < 10 ^ r ∧ 10 * 10 ^ r = 10 ^ (r + 1) := by decide
theorem X8_tellN2 {N v : Nat} (hN : Big N) (hv : v < 10000) : ∀ (n r : Nat) (S : St) (td : List Nat), r < 4 → 4 < n + r → (r = 0 ∨ 10 ^ r ≤ v) → TdR S td → S.1 46 = nI td.length → td.length < 40000 →
    ∃ S', loopN (fun k x => fX8_tellNumber_2s N k x.1 x.2.1 x.2.2) n (S, nI v, nI (10 ^ r)) = some S' ∧ Fr S S' [46] [45] ∧ S'.1 46 = nI (dig v ++ td).length ∧ TdR S' (dig v ++ td)
  | 0, r, _, _, hr, h, _, _, _, _ => absurd h (by omega)
  | n + 1, r, S, td, hr, hn, h0, ht, h46, hl => by
    obtain ⟨g1, g2, g3⟩ := p10_s r hr
    show ∃ S', fX8_tellNumber_2s N _ S (nI v) (nI (10 ^ r)) = some S' ∧ _
    unfold fX8_tellNumber_2s
    have hd : v / 10 ^ r ≤ v := Nat.div_le_self _ _
    rw [ckp_ok (by
      have : ¬ nI (10 ^ r) = 0 := nI_ne (by omega) (by omega)
      simp [this]), pk_div (by omega) g2 (by omega), show (9 : Int32) = nI 9 from rfl]
    by_cases c1 : v / 10 ^ r ≤ 9
    · rw [if_pos (nI_le c1 (by omega)), dig_dgl td r hr hv c1 h0]
      exact X8_tellN18 hv (r + 1) N S td (by omega) (by unfold Big at hN; omega) ht h46 (by omega)
    · rw [if_neg (fun q => c1 ((nI_leI (by omega) (by omega)).mp q)), bnd_eq, show (10 : Int32) = nI 10 from rfl, pk_mul, g3]
      have h10 : 10 ^ (r + 1) ≤ v := by
        rw [← g3]
        have h1 : 10 ≤ v / 10 ^ r := by omega
        have := (Nat.le_div_iff_mul_le g2).mp h1
        omega
      have hr3 : r + 1 < 4 := by
        by_cases e : r = 3
        · subst e; omega
        · omega
      exact X8_tellN2 hN hv n (r + 1) S td hr3 (by omega) (Or.inr h10) ht h46 hl
theorem X8_tellNumber {S : St} {N v : Nat} {td : List Nat} (hN : Big N) (hv : v < 10000) (ht : TdR S td) (h46 : S.1 46 = nI td.length) (hl : td.length < 40000) :
    ∃ S', fX8_tellNumber N S (nI v) = some S' ∧ Fr S S' [46] [45] ∧ S'.1 46 = nI (dig v ++ td).length ∧ TdR S' (dig v ++ td) :=
  X8_tellN2 hN hv N 0 S td (by omega) (by unfold Big at hN; omega) (Or.inl rfl) ht h46 hl
theorem dig_len {v : Nat} (hv : v < 10000) : (dig v).length ≤ 4 := by
  have h : ∀ td : List Nat, (dig v).length + td.length ≤ 4 + td.length := fun td => by
    rw [← List.length_append]
    by_cases c0 : v / 10 ^ 0 ≤ 9
    · rw [dig_dgl td 0 (by omega) hv c0 (Or.inl rfl), dgl_len]; omega
    · by_cases c1 : v / 10 ^ 1 ≤ 9
      · rw [dig_dgl td 1 (by omega) hv c1 (Or.inr (by omega)), dgl_len]; omega
      · by_cases c2 : v / 10 ^ 2 ≤ 9
        · rw [dig_dgl td 2 (by omega) hv c2 (Or.inr (by omega)), dgl_len]; omega
        · rw [dig_dgl td 3 (by omega) hv (by omega) (Or.inr (by omega)), dgl_len]; omega
  have := h []
  simpa using this
