/-! the class: letters -/
def TdC (S : St) : List Nat → Prop
  | [] => True
  | c :: r => (c < 128 ∧ S.2.1 122 r.length = nI c) ∧ TdC S r
theorem TdC.of {S S' : St} : ∀ (td : List Nat), (∀ j, j < td.length → S'.2.1 122 j = S.2.1 122 j) → TdC S td → TdC S' td
  | [], _, _ => trivial
  | c :: r, h, ⟨⟨h1, h2⟩, h3⟩ => ⟨⟨h1, by rw [h r.length (by show r.length < r.length + 1; omega)]; exact h2⟩, TdC.of r (fun j hj => h j (by show j < r.length + 1; omega)) h3⟩
theorem vnc : ∀ c, c < 128 → vp_nar .char (nI c) = nI c := by decide +kernel
theorem X6_tell {S : St} {N c : Nat} {td : List Nat} (h : S.1 123 = nI td.length) (ht : TdC S td) (hc : c < 128) (hl : td.length ≤ 4000) : (td.length < 4000 → ∃ S', fX6_tell N S (nI c) = some (1, S') ∧ Fr S S' [123] [122] ∧ S'.1 123 = nI (td.length + 1) ∧ TdC S' (c :: td)) ∧ (4000 ≤ td.length → fX6_tell N S (nI c) = some (0, S)) := by
  obtain ⟨t, et⟩ : ∃ t, t = td.length := ⟨_, rfl⟩
  rw [← et] at h hl ⊢
  unfold fX6_tell
  rw [h, show (4000 : Int32) = nI 4000 from rfl]
  refine ⟨fun c1 => ?_, fun c1 => ?_⟩
  · rw [if_pos (nI_lt c1 (by omega)), ckx_ok (vp_in_nI (by omega) (by omega)), bnd_eq, bnd_eq, nI_clamp (by omega), vnc c hc]
    obtain ⟨S4, e4⟩ : ∃ z, z = sI (sA S 122 (upd (S.2.1 122) t (nI c))) 123 ((sA S 122 (upd (S.2.1 122) t (nI c))).1 123 + 1) := ⟨_, rfl⟩
    rw [← e4]
    have z : S4.2.1 122 = upd (S.2.1 122) t (nI c) := by rw [e4]; rfl
    refine ⟨S4, rfl, by rw [e4]; exact (Fr.A (by decide)).trans (Fr.I (by decide)), ?_, ⟨hc, ?_⟩, TdC.of td (fun j hj => ?_) ht⟩
    · rw [e4]
      show S.1 123 + 1 = _
      rw [h, nI_1]
    · rw [z, ← et, upd_at, if_pos rfl]
    · rw [z, upd_at, if_neg (by omega)]
  · rw [if_neg (nI_nlt c1 (by omega))]
theorem dgtI {v u : Nat} (hv : v < 10000) (hu0 : 0 < u) (hu : u ≤ 1000) : (((((48 : Int32) + ((nI v / nI u) - (nI v / nI u) / (10 : Int32) * (10 : Int32))) : Int32).toUInt32 % 65536).toInt32) = nI (48 + v / u % 10) ∧ 48 + v / u % 10 < 128 := by
  have h1 : nI v / nI u = nI (v / u) := pk_div (by omega) hu0 (by omega)
  have hq : v / u ≤ v := Nat.div_le_self v u
  refine ⟨?_, by have := Nat.mod_lt (v / u) (show 0 < 10 by decide); omega⟩
  rw [h1, show (10 : Int32) = nI 10 from rfl, pk_rem (by omega) (by omega) (by omega), show (48 : Int32) = nI 48 from rfl, nI_add, pk_char, pk_tn (by have := Nat.mod_lt (v / u) (show 0 < 10 by decide); omega)]
  have := Nat.mod_lt (v / u) (show 0 < 10 by decide)
  rw [Nat.mod_eq_of_lt (by omega)]
/-- the digits; x3: all fitted so far -/
theorem X6_tellN30 {N v : Nat} (hv : v < 10000) : ∀ (r f : Nat) (S : St) (td : List Nat) (b : Bool), r ≤ 4 → r < f → TdC S td → S.1 123 = nI td.length → td.length ≤ 4000 →
    ∃ S', loopN (fun k x => fX6_tellNumber_30s N k x.1 x.2.1 x.2.2.1 x.2.2.2) f (S, nI v, (if b then 1 else 0), nI (un10 r)) = some ((if b = true ∧ td.length + r ≤ 4000 then 1 else 0), S') ∧ Fr S S' [123] [122] ∧ (td.length + r ≤ 4000 → S'.1 123 = nI (td.length + r) ∧ TdC S' (dgl v r td))
  | 0, f, S, td, b, _, hf, ht, h, hl => by
    obtain ⟨f, rfl⟩ : ∃ f', f = f' + 1 := ⟨f - 1, by omega⟩
    refine ⟨S, ?_, Fr.rf, fun _ => ⟨h, ht⟩⟩
    show fX6_tellNumber_30s N _ S (nI v) (if b then 1 else 0) (nI (un10 0)) = _
    unfold fX6_tellNumber_30s
    rw [if_pos (by decide)]
    cases b
    · have z : (if false = true ∧ td.length + 0 ≤ 4000 then (1 : Int32) else 0) = 0 := if_neg (fun q => absurd q.1 (by decide))
      rw [ckp_ok (by decide), z]
      rfl
    · have z : (if true = true ∧ td.length + 0 ≤ 4000 then (1 : Int32) else 0) = 1 := if_pos ⟨rfl, hl⟩
      rw [ckp_ok (by decide), z]
      rfl
  | r + 1, f, S, td, b, hr, hf, ht, h, hl => by
    obtain ⟨f, rfl⟩ : ∃ f', f = f' + 1 := ⟨f - 1, by omega⟩
    obtain ⟨u1, u2, u3⟩ := p10_le (r + 1) hr (by omega)
    rw [Nat.add_sub_cancel] at u1 u2 u3
    have eu : un10 (r + 1) = 10 ^ r := by unfold un10; rw [if_neg (Nat.succ_ne_zero r), Nat.add_sub_cancel]
    obtain ⟨d1, d2⟩ := dgtI (v := v) hv u2 u1
    obtain ⟨Lp, eL⟩ : ∃ Lp, Lp = loopN (fun k x => fX6_tellNumber_30s N k x.1 x.2.1 x.2.2.1 x.2.2.2) f := ⟨_, rfl⟩
    show ∃ S', fX6_tellNumber_30s N (loopN (fun k x => fX6_tellNumber_30s N k x.1 x.2.1 x.2.2.1 x.2.2.2) f) S (nI v) (if b then 1 else 0) (nI (un10 (r + 1))) = some _ ∧ _
    rw [← eL, eu]
    unfold fX6_tellNumber_30s
    have zne : ¬ nI (10 ^ r) = 0 := nI_ne u2 (by omega)
    rw [if_neg (nI_nle u2 (by omega)), ckp_ok (by simp [zne]), d1]
    have dv : nI (10 ^ r) / (10 : Int32) = nI (un10 r) := by rw [show (10 : Int32) = nI 10 from rfl, pk_div (by omega) (by omega) (by omega), u3]
    obtain ⟨q1, q2⟩ := X6_tell (N := N) (c := 48 + v / 10 ^ r % 10) h ht d2 hl
    by_cases c1 : td.length < 4000
    · obtain ⟨S1, w1, w2, w3, w4⟩ := q1 c1
      rw [bd2_ok w1, if_neg (by decide)]
      obtain ⟨S', k1, k2, k3⟩ := X6_tellN30 (N := N) hv r f S1 ((48 + v / 10 ^ r % 10) :: td) b (by omega) (by omega) w4 w3 (by show td.length + 1 ≤ 4000; omega)
      have hlen : ((48 + v / 10 ^ r % 10) :: td).length + r = td.length + (r + 1) := by show td.length + 1 + r = _; omega
      rw [hlen] at k1 k3
      have ed : dgl v r ((48 + v / 10 ^ r % 10) :: td) = dgl v (r + 1) td := rfl
      rw [ed] at k3
      refine ⟨S', ?_, w2.trans k2, k3⟩
      cases b
      · rw [if_pos (by rfl)]
        unfold fX6_tellNumber_61 fX6_tellNumber_62
        rw [bnd_eq, dv, eL]
        exact k1
      · rw [if_neg (by decide)]
        unfold fX6_tellNumber_62
        rw [bnd_eq, dv, eL]
        exact k1
    · rw [bd2_ok (q2 (by omega)), if_pos rfl]
      unfold fX6_tellNumber_61 fX6_tellNumber_62
      rw [bnd_eq, dv, eL]
      obtain ⟨S', k1, k2, -⟩ := X6_tellN30 (N := N) hv r f S td false (by omega) (by omega) ht h hl
      refine ⟨S', ?_, k2, fun q => by omega⟩
      have z1 : (if b = true ∧ td.length + (r + 1) ≤ 4000 then (1 : Int32) else 0) = 0 := if_neg (fun q => by omega)
      have z2 : (if false = true ∧ td.length + r ≤ 4000 then (1 : Int32) else 0) = 0 := if_neg (fun q => absurd q.1 (by decide))
      rw [z2] at k1
      rw [z1]
      exact k1
theorem X6_tellN2 {N v : Nat} (hN : Big N) (hv : v < 10000) : ∀ (f r : Nat) (S : St) (td : List Nat), r < 4 → 4 < f + r → (r = 0 ∨ 10 ^ r ≤ v) → TdC S td → S.1 123 = nI td.length → td.length ≤ 4000 →
    ∃ S', loopN (fun k x => fX6_tellNumber_2s N k x.1 x.2.1 x.2.2) f (S, nI v, nI (10 ^ r)) = some ((if td.length + (dig v).length ≤ 4000 then 1 else 0), S') ∧ Fr S S' [123] [122] ∧ (td.length + (dig v).length ≤ 4000 → S'.1 123 = nI (td.length + (dig v).length) ∧ TdC S' (dig v ++ td))
  | 0, r, S, td, hr, hf, _, _, _, _ => by omega
  | f + 1, r, S, td, hr, hf, hrv, ht, h, hl => by
    obtain ⟨u1, u2, u3⟩ := p10_s r hr
    have hb := hN
    unfold Big at hb
    obtain ⟨Lp, eL⟩ : ∃ Lp, Lp = loopN (fun k x => fX6_tellNumber_2s N k x.1 x.2.1 x.2.2) f := ⟨_, rfl⟩
    show ∃ S', fX6_tellNumber_2s N (loopN (fun k x => fX6_tellNumber_2s N k x.1 x.2.1 x.2.2) f) S (nI v) (nI (10 ^ r)) = some _ ∧ _
    rw [← eL]
    unfold fX6_tellNumber_2s
    rw [show (10 : Int32) = nI 10 from rfl, pk_mul, show (1000 : Int32) = nI 1000 from rfl]
    have fin : v / 10 ^ r ≤ 9 → ∃ S', fX6_tellNumber_25 N S (nI v) (nI (10 ^ r)) = some ((if td.length + (dig v).length ≤ 4000 then 1 else 0), S') ∧ Fr S S' [123] [122] ∧ (td.length + (dig v).length ≤ 4000 → S'.1 123 = nI (td.length + (dig v).length) ∧ TdC S' (dig v ++ td)) := by
      intro h9
      have ed := dig_dgl (v := v) td r hr hv h9 hrv
      have el : (dig v).length = r + 1 := by
        have := congrArg List.length ed
        rw [List.length_append, dgl_len] at this
        omega
      obtain ⟨S', k1, k2, k3⟩ := X6_tellN30 (N := N) hv (r + 1) N S td true (by omega) (by omega) ht h hl
      have eu : un10 (r + 1) = 10 ^ r := by unfold un10; rw [if_neg (Nat.succ_ne_zero r), Nat.add_sub_cancel]
      rw [eu] at k1
      rw [el, ed]
      refine ⟨S', ?_, k2, k3⟩
      unfold fX6_tellNumber_25
      rw [bnd_eq]
      have k1' : fX6_tellNumber_30 N (S, nI v, 1, nI (10 ^ r)) = some ((if true = true ∧ td.length + (r + 1) ≤ 4000 then 1 else 0), S') := k1
      rw [k1']
      by_cases c : td.length + (r + 1) ≤ 4000
      · rw [if_pos ⟨rfl, c⟩, if_pos c]
      · rw [if_neg (fun q => c q.2), if_neg c]
    by_cases c1 : 1000 ≤ 10 ^ r
    · rw [if_pos (nI_le c1 (by omega))]
      refine fin ?_
      have : v / 10 ^ r ≤ v / 1000 := Nat.div_le_div_left c1 (by decide)
      omega
    · rw [if_neg (fun q => c1 ((nI_leI (by omega) (by omega)).mp q))]
      by_cases c2 : v < 10 ^ r * 10
      · rw [if_pos (nI_lt c2 (by omega))]
        refine fin ?_
        have : v / 10 ^ r < 10 := (Nat.div_lt_iff_lt_mul u2).mpr (by rw [Nat.mul_comm]; exact c2)
        omega
      · rw [if_neg (nI_nlt (by omega) (by omega)), bnd_eq, eL]
        have e10 : 10 ^ r * 10 = 10 ^ (r + 1) := by rw [Nat.mul_comm]; exact u3
        rw [e10]
        rw [e10] at c2
        have r3 : r + 1 < 4 := by
          have : ∀ r, r < 4 → ¬ 1000 ≤ 10 ^ r → r + 1 < 4 := by decide
          exact this r hr c1
        exact X6_tellN2 hN hv f (r + 1) S td r3 (by omega) (Or.inr (by omega)) ht h hl
theorem X6_tellNumber {S : St} {N v : Nat} {td : List Nat} (hN : Big N) (hv : v < 10000) (ht : TdC S td) (h : S.1 123 = nI td.length) (hl : td.length ≤ 4000) : ∃ S', fX6_tellNumber N S (nI v) = some ((if td.length + (dig v).length ≤ 4000 then 1 else 0), S') ∧ Fr S S' [123] [122] ∧ (td.length + (dig v).length ≤ 4000 → S'.1 123 = nI (td.length + (dig v).length) ∧ TdC S' (dig v ++ td)) := by
  have hb := hN
  unfold Big at hb
  obtain ⟨S', k1, k2⟩ := X6_tellN2 (N := N) hN hv N 0 S td (by decide) (by omega) (Or.inl rfl) ht h hl
  refine ⟨S', ?_, k2⟩
  unfold fX6_tellNumber
  rw [bnd_eq]
  exact k1
