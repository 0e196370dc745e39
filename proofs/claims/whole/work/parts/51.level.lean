theorem X8_areSame {S : St} {N n l q k : Nat} (hN : Big N) (hL : Lst S n) (hl : l < n) (hq : q < n) (hk : k ≤ 64) :
    (fX8_areSame N S (nI l) (nI q) (nI k) = some (1, S) ∧ ∀ i, i < k → lvl S l i = lvl S q i) ∨ (fX8_areSame N S (nI l) (nI q) (nI k) = some (0, S) ∧ ∃ i, i < k ∧ lvl S l i ≠ lvl S q i) := by
  have hn0 := hL.2.2.1
  obtain ⟨R, e1, e2⟩ := loop_par (step := fun k x => fX8_areSame_9s N k x.1 x.2.1 x.2.2.1 x.2.2.2.1 x.2.2.2.2) (fun a : Nat => (S, nI k, nI (tlk S a l), nI (tlk S a q), nI a)) (fun a => 64 - a)
    (fun a => a ≤ k ∧ ∀ i, i < a → lvl S l i = lvl S q i) (fun a R => (R = (1, S) ∧ ∀ i, i < k → lvl S l i = lvl S q i) ∨ (R = (0, S) ∧ ∃ i, i < k ∧ lvl S l i ≠ lvl S q i)) (by
      rintro f j ⟨hj, he⟩ ih
      dsimp only at hj he ih ⊢
      unfold fX8_areSame_9s
      by_cases c1 : k ≤ j
      · rw [if_pos (nI_le c1 (by omega))]
        exact ⟨_, rfl, Or.inl ⟨rfl, fun i hi => he i (by omega)⟩⟩
      · rw [if_neg (fun q => c1 ((nI_leI (by omega) (by omega)).mp q))]
        have h1 := tlk_lt hL j l hl
        have h2 := tlk_lt hL j q hq
        have b1 := hL.hlt (i := j) hl
        have b2 := hL.hlt (i := j) hq
        rw [bd2_ok (X8_head hL h1), bd2_ok (X8_head hL h2)]
        by_cases c2 : lvl S l j = lvl S q j
        · rw [if_pos (show nI (nH S (tlk S j l)) = nI (nH S (tlk S j q)) from congrArg nI c2), bd2_ok (X8_tail hL h1), bd2_ok (X8_tail hL h2), bnd_eq, ← tlk_s, ← tlk_s, nI_1]
          refine ih (j + 1) ⟨by omega, fun i hi => ?_⟩ (by show 64 - (j + 1) < 64 - j; omega)
          by_cases e : i = j
          · rw [e]; exact c2
          · exact he i (by omega)
        · rw [if_neg (show ¬ nI (nH S (tlk S j l)) = nI (nH S (tlk S j q)) from fun e => c2 ((nI_eq (a := lvl S l j) (b := lvl S q j) (by omega) (by omega)).mp e))]
          exact ⟨_, rfl, Or.inr ⟨rfl, j, by omega, c2⟩⟩) N 0 ⟨Nat.zero_le _, fun i hi => absurd hi (Nat.not_lt_zero _)⟩ (by show 64 - 0 < N; unfold Big at hN; omega)
  have e1 : fX8_areSame N S (nI l) (nI q) (nI k) = some R := e1
  rcases e2 with ⟨rfl, h⟩ | ⟨rfl, h⟩
  · exact Or.inl ⟨e1, h⟩
  · exact Or.inr ⟨e1, h⟩
/-! levels in the reference: each one once -/
def eK (S : St) (k : Nat) : Nat := (S.2.1 35 k).toNatClampNeg
def eA (S : St) (k : Nat) : Nat := (S.2.1 36 k).toNatClampNeg
def eB (S : St) (k : Nat) : Nat := (S.2.1 37 k).toNatClampNeg
def eN (S : St) (k : Nat) : Nat := if k = 0 then 0 else (S.2.1 38 k).toNatClampNeg
def eH (S : St) (k : Nat) : Nat := (S.2.1 39 k).toNatClampNeg
def hshI (x y z : Int32) : Int32 := (((((x + ((31 : Int32) * y)) + ((1009 : Int32) * z)) * (739982445 : Int32))).toUInt32 >>> (((23 : Int32)).toUInt32 &&& Int32.toUInt32 31)).toInt32
def hsh (x y z : Nat) : Nat := (hshI (nI x) (nI y) (nI z)).toBitVec.toNat
theorem hsh_ok (x y z : Nat) : hshI (nI x) (nI y) (nI z) = nI (hsh x y z) ∧ hsh x y z < 512 := by
  have h := pk_ushr (((nI x + ((31 : Int32) * nI y)) + ((1009 : Int32) * nI z)) * (739982445 : Int32)) 23 23 (by decide)
  have h1 : hsh x y z = ((((nI x + ((31 : Int32) * nI y)) + ((1009 : Int32) * nI z)) * (739982445 : Int32))).toBitVec.toNat / 2 ^ 23 := h
  have h2 : ((((nI x + ((31 : Int32) * nI y)) + ((1009 : Int32) * nI z)) * (739982445 : Int32))).toBitVec.toNat < 2 ^ 32 := BitVec.isLt _
  have h3 : hsh x y z < 512 := by rw [h1]; omega
  refine ⟨?_, h3⟩
  apply Int32.toBitVec_inj.mp
  apply BitVec.eq_of_toNat_eq
  rw [pk_tn (by omega)]
  rfl
/-- how far the chain of a bucket goes -/
def cha (S : St) : Nat → Nat → Nat
  | 0, k => k
  | j + 1, k => cha S j (eN S k)
theorem cha_0 (S : St) : ∀ j, cha S j 0 = 0
  | 0 => rfl
  | j + 1 => cha_0 S j
def Lvs (S : St) (n : Nat) : Prop := S.1 40 = nI n ∧ 0 < n ∧ n ≤ 4010 ∧
  (∀ k, 0 < k → k < n → S.2.1 35 k = nI (eK S k) ∧ S.2.1 36 k = nI (eA S k) ∧ S.2.1 37 k = nI (eB S k) ∧ S.2.1 38 k = nI (eN S k) ∧ 1 ≤ eK S k ∧ eK S k ≤ 3 ∧ eA S k < k ∧ eB S k < k ∧ eN S k < k) ∧
  (∀ h, h < 512 → S.2.1 39 h = nI (eH S h) ∧ eH S h < n) ∧
  (∀ i j, 0 < i → i < n → 0 < j → j < n → eK S i = eK S j → eA S i = eA S j → eB S i = eB S j → i = j) ∧
  (∀ k, 0 < k → k < n → ∃ j, cha S j (eH S (hsh (eK S k) (eA S k) (eB S k))) = k)
/-- more levels, the old ones as they were -/
def VExt (S S' : St) (n n' : Nat) : Prop := Lvs S' n' ∧ n ≤ n' ∧ ∀ k, k < n → eK S' k = eK S k ∧ eA S' k = eA S k ∧ eB S' k = eB S k
theorem VExt.rf {S : St} {n : Nat} (h : Lvs S n) : VExt S S n n := ⟨h, Nat.le_refl _, fun _ _ => ⟨rfl, rfl, rfl⟩⟩
theorem VExt.trans {S S1 S2 : St} {n n1 n2 : Nat} (h : VExt S S1 n n1) (g : VExt S1 S2 n1 n2) : VExt S S2 n n2 :=
  ⟨g.1, Nat.le_trans h.2.1 g.2.1, fun k hk => by
    obtain ⟨a1, a2, a3⟩ := h.2.2 k hk
    obtain ⟨b1, b2, b3⟩ := g.2.2 k (Nat.lt_of_lt_of_le hk h.2.1)
    exact ⟨b1.trans a1, b2.trans a2, b3.trans a3⟩⟩
theorem X8_level {S : St} {N n d x y : Nat} (hN : Big N) (hV : Lvs S n) (hn : n < 4010) (hd : 1 ≤ d ∧ d ≤ 3) (hx : x < n) (hy : y < n) :
    ∃ k S' n', fX8_level N S (nI d) (nI x) (nI y) = some (nI k, S') ∧ VExt S S' n n' ∧ Fr S S' [40] [35, 36, 37, 38, 39] ∧ n' ≤ n + 1 ∧ 0 < k ∧ k < n' ∧ eK S' k = d ∧ eA S' k = x ∧ eB S' k = y := by
  obtain ⟨h40, hn0, -, hent, hhd, huq, hcp⟩ := id hV
  obtain ⟨hz, hz2⟩ := hsh_ok d x y
  obtain ⟨hh1, hh2⟩ := hhd _ hz2
  obtain ⟨R, e1, e2⟩ := loop_par (step := fun k x => fX8_level_30s N k x.1 x.2.1 x.2.2.1 x.2.2.2.1 x.2.2.2.2.1 x.2.2.2.2.2) (fun a : Nat => (S, nI d, nI x, nI y, nI (hsh d x y), nI a)) (fun a => a)
    (fun a => a < n ∧ ∀ q, 0 < q → q < n → eK S q = d → eA S q = x → eB S q = y → ∃ j, cha S j a = q)
    (fun a R => ∃ k n', R.1 = nI k ∧ VExt S R.2 n n' ∧ Fr S R.2 [40] [35, 36, 37, 38, 39] ∧ n' ≤ n + 1 ∧ 0 < k ∧ k < n' ∧ eK R.2 k = d ∧ eA R.2 k = x ∧ eB R.2 k = y) (by
      rintro f k ⟨hk, hr⟩ ih
      dsimp only at hk hr ih ⊢
      unfold fX8_level_30s
      by_cases c1 : k = 0
      · subst c1
        rw [if_pos (by decide), bnd_eq, h40]
        have hin : vp_in (nI n) 4010 := vp_in_nI (by omega) (by omega)
        have hih : vp_in (nI (hsh d x y)) 512 := vp_in_nI (by omega) (by omega)
        rw [bnd_eq, ckx_ok hin, bnd_eq, ckx_ok hin, bnd_eq, ckx_ok hin, bnd_eq, ckx_ok hih, ckx_ok hin, bnd_eq, ckx_ok hih, bnd_eq, nI_clamp (by omega), nI_clamp (by omega)]
        rw [nI_1]
        obtain ⟨S', eS'⟩ : ∃ z : St, z = sA (sA (sA (sA (sA (sI S 40 (nI (n + 1))) 35 (upd (S.2.1 35) n (nI d))) 36 (upd (S.2.1 36) n (nI x))) 37 (upd (S.2.1 37) n (nI y))) 38 (upd (S.2.1 38) n (S.2.1 39 (hsh d x y)))) 39 (upd (S.2.1 39) (hsh d x y) (nI n)) := ⟨_, rfl⟩
        have q40 : S'.1 40 = nI (n + 1) := by rw [eS']; rfl
        have q35 : S'.2.1 35 = upd (S.2.1 35) n (nI d) := by rw [eS']; rfl
        have q36 : S'.2.1 36 = upd (S.2.1 36) n (nI x) := by rw [eS']; rfl
        have q37 : S'.2.1 37 = upd (S.2.1 37) n (nI y) := by rw [eS']; rfl
        have q38 : S'.2.1 38 = upd (S.2.1 38) n (S.2.1 39 (hsh d x y)) := by rw [eS']; rfl
        have q39 : S'.2.1 39 = upd (S.2.1 39) (hsh d x y) (nI n) := by rw [eS']; rfl
        have qF : Fr S S' [40] [35, 36, 37, 38, 39] := by
          rw [eS']
          exact ((((((Fr.I (by decide)).trans (Fr.A (by decide))).trans (Fr.A (by decide))).trans (Fr.A (by decide))).trans (Fr.A (by decide))).trans (Fr.A (by decide)))
        have vK : ∀ k, eK S' k = if k = n then d else eK S k := fun k => by
          unfold eK; rw [q35, upd_at]
          by_cases e : k = n
          · rw [if_pos e, if_pos e]; exact nI_clamp (by omega)
          · rw [if_neg e, if_neg e]
        have vA : ∀ k, eA S' k = if k = n then x else eA S k := fun k => by
          unfold eA; rw [q36, upd_at]
          by_cases e : k = n
          · rw [if_pos e, if_pos e]; exact nI_clamp (by omega)
          · rw [if_neg e, if_neg e]
        have vB : ∀ k, eB S' k = if k = n then y else eB S k := fun k => by
          unfold eB; rw [q37, upd_at]
          by_cases e : k = n
          · rw [if_pos e, if_pos e]; exact nI_clamp (by omega)
          · rw [if_neg e, if_neg e]
        have vN : ∀ k, eN S' k = if k = n then eH S (hsh d x y) else eN S k := fun k => by
          unfold eN; rw [q38, upd_at]
          by_cases e : k = n
          · rw [if_pos e, if_pos e, if_neg (by omega)]; rfl
          · rw [if_neg e, if_neg e]
        have vH : ∀ g, eH S' g = if g = hsh d x y then n else eH S g := fun g => by
          unfold eH; rw [q39, upd_at]
          by_cases e : g = hsh d x y
          · rw [if_pos e, if_pos e]; exact nI_clamp (by omega)
          · rw [if_neg e, if_neg e]
        have nlt : ∀ k, k < n → eN S k < n := fun k hk => by
          by_cases e : k = 0
          · rw [e]; exact hn0
          · have := (hent k (by omega) hk).2.2.2.2.2.2.2.2; omega
        have chn : ∀ j k, k < n → cha S' j k = cha S j k := fun j => by
          induction j with
          | zero => intro k _; rfl
          | succ j ihj =>
            intro k hk
            show cha S' j (eN S' k) = cha S j (eN S k)
            rw [vN, if_neg (by omega)]
            exact ihj _ (nlt k hk)
        show ∃ R, some (nI n, _) = some R ∧ _
        refine ⟨(nI n, S'), by rw [eS']; rfl, n, n + 1, rfl, ⟨⟨q40, by omega, by omega, fun k k1 k2 => ?_, fun g hg => ?_, fun i j i1 i2 j1 j2 w1 w2 w3 => ?_, fun k k1 k2 => ?_⟩, by omega, fun k hk => ?_⟩, qF, Nat.le_refl _, hn0, by omega, ?_, ?_, ?_⟩
        · dsimp only
          rw [vK, vA, vB, vN, q35, q36, q37, q38, upd_at, upd_at, upd_at, upd_at]
          by_cases e : k = n
          · rw [if_pos e, if_pos e, if_pos e, if_pos e, if_pos e, if_pos e, if_pos e, if_pos e]
            exact ⟨rfl, rfl, rfl, hh1, hd.1, hd.2, by omega, by omega, by omega⟩
          · rw [if_neg e, if_neg e, if_neg e, if_neg e, if_neg e, if_neg e, if_neg e, if_neg e]
            exact hent k k1 (by omega)
        · dsimp only
          rw [vH, q39, upd_at]
          by_cases e : g = hsh d x y
          · rw [if_pos e, if_pos e]; exact ⟨rfl, by omega⟩
          · rw [if_neg e, if_neg e]; exact ⟨(hhd g hg).1, by have := (hhd g hg).2; omega⟩
        · dsimp only at w1 w2 w3
          rw [vK, vK] at w1
          rw [vA, vA] at w2
          rw [vB, vB] at w3
          by_cases e : i = n <;> by_cases e2 : j = n
          · omega
          · rw [if_pos e, if_neg e2] at w1 w2 w3
            obtain ⟨t, ht⟩ := hr j j1 (by omega) w1.symm w2.symm w3.symm
            rw [cha_0] at ht
            omega
          · rw [if_neg e, if_pos e2] at w1 w2 w3
            obtain ⟨t, ht⟩ := hr i i1 (by omega) w1 w2 w3
            rw [cha_0] at ht
            omega
          · rw [if_neg e, if_neg e2] at w1 w2 w3
            exact huq i j i1 (by omega) j1 (by omega) w1 w2 w3
        · dsimp only
          rw [vK, vA, vB, vH]
          by_cases e : k = n
          · rw [if_pos e, if_pos e, if_pos e, if_pos rfl]
            exact ⟨0, e.symm⟩
          · rw [if_neg e, if_neg e, if_neg e]
            obtain ⟨j, hj⟩ := hcp k k1 (by omega)
            by_cases e3 : hsh (eK S k) (eA S k) (eB S k) = hsh d x y
            · rw [if_pos e3]
              refine ⟨j + 1, ?_⟩
              show cha S' j (eN S' n) = k
              rw [vN, if_pos rfl, chn j _ hh2, ← e3]
              exact hj
            · rw [if_neg e3]
              exact ⟨j, by rw [chn j _ (hhd _ (hsh_ok _ _ _).2).2]; exact hj⟩
        · dsimp only
          rw [vK, vA, vB, if_neg (by omega), if_neg (by omega), if_neg (by omega)]
          exact ⟨rfl, rfl, rfl⟩
        · dsimp only; rw [vK, if_pos rfl]
        · dsimp only; rw [vA, if_pos rfl]
        · dsimp only; rw [vB, if_pos rfl]
      · rw [if_neg (nI_nle (by omega) (by omega))]
        have hin : vp_in (nI k) 4010 := vp_in_nI (by omega) (by omega)
        obtain ⟨g1, g2, g3, g4, g5, g6, g7, g8, g9⟩ := hent k (by omega) hk
        have next : ¬ (eK S k = d ∧ eA S k = x ∧ eB S k = y) → ∃ R, fX8_level_71 N f S (nI d) (nI x) (nI y) (nI (hsh d x y)) (nI k) = some R ∧ ∃ k n', R.1 = nI k ∧ VExt S R.2 n n' ∧ Fr S R.2 [40] [35, 36, 37, 38, 39] ∧ n' ≤ n + 1 ∧ 0 < k ∧ k < n' ∧ eK R.2 k = d ∧ eA R.2 k = x ∧ eB R.2 k = y := by
          intro hne
          unfold fX8_level_71
          rw [ckx_ok hin, bnd_eq, nI_clamp (by omega), g4]
          refine ih (eN S k) ⟨by omega, fun q h1 h2 h3 h4 h5 => ?_⟩ g9
          obtain ⟨j, hj⟩ := hr q h1 h2 h3 h4 h5
          cases j with
          | zero =>
            have : k = q := hj
            subst this
            exact absurd ⟨h3, h4, h5⟩ hne
          | succ j => exact ⟨j, hj⟩
        rw [ckx_ok hin, nI_clamp (by omega), g1, ckx_ok hin, ckx_ok hin, g2, g3]
        by_cases d1 : eK S k = d
        · rw [if_pos (congrArg nI d1)]
          by_cases d2 : eA S k = x
          · rw [if_pos (congrArg nI d2)]
            by_cases d3 : eB S k = y
            · rw [if_pos (congrArg nI d3)]
              exact ⟨_, rfl, k, n, rfl, VExt.rf hV, Fr.rf, by omega, by omega, hk, d1, d2, d3⟩
            · rw [if_neg (fun e => d3 ((nI_eq (by omega) (by omega)).mp e))]
              exact next (fun q => d3 q.2.2)
          · rw [if_neg (fun e => d2 ((nI_eq (by omega) (by omega)).mp e))]
            exact next (fun q => d2 q.2.1)
        · rw [if_neg (fun e => d1 ((nI_eq (by omega) (by omega)).mp e))]
          exact next (fun q => d1 q.1)) N (eH S (hsh d x y)) ⟨hh2, fun q h1 h2 h3 h4 h5 => by
            obtain ⟨j, hj⟩ := hcp q h1 h2
            rw [h3, h4, h5] at hj
            exact ⟨j, hj⟩⟩ (by unfold Big at hN; omega)
  obtain ⟨k, n', e3, h1⟩ := e2
  obtain ⟨r1, r2⟩ := R
  dsimp only at e3 h1
  subst e3
  refine ⟨k, r2, n', ?_, h1⟩
  have e4 : fX8_level N S (nI d) (nI x) (nI y) = bnd (hshI (nI d) (nI x) (nI y)) fun z1 => ckx z1 512 <| bnd (S.2.1 39 (z1 : Int32).toNatClampNeg) fun z3 => fX8_level_30 N (S, nI d, nI x, nI y, z1, z3) := rfl
  rw [e4, bnd_eq, hz, ckx_ok (vp_in_nI (by omega) (by omega)), bnd_eq, nI_clamp (by omega), hh1]
  exact e1
