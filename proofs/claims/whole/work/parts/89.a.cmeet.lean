/-! the class: what two do that meet -/
theorem isCt : ∀ k, k < 7 → fX7_isControl (nI k) = some (if k = 2 ∨ k = 3 ∨ k = 4 then 1 else 0) := by decide +kernel
/-- two of the class's graph, no erasers and no root -/
def two (S : St) (l r : Nat) : Prop := COk S ∧ l < 3002 ∧ r < 3002 ∧ cK S l < 5 ∧ cK S r < 5
theorem X3_same {S : St} {N l r : Nat} (h : two S l r) : fX3_sameIndex N S (nI l) (nI r) = some (if cX S l = cX S r then 1 else 0, S) := by
  obtain ⟨hG, hl, hr, kl, kr⟩ := h
  have xl := ((hG.1 l hl).2.2 kl).2
  have xr := ((hG.1 r hr).2.2 kr).2
  unfold fX3_sameIndex
  rw [bd2_ok (X2_indexOf hG hl kl), bd2_ok (X2_indexOf hG hr kr)]
  by_cases c : cX S l = cX S r
  · rw [if_pos c, if_pos (by rw [c])]
  · rw [if_neg c, if_neg (fun q => c ((nI_eq (by omega) (by omega)).mp q))]
def betaC (S : St) (l r : Nat) : Prop := cX S l = cX S r ∧ ((cK S l = 0 ∧ cK S r = 1) ∨ (cK S l = 1 ∧ cK S r = 0))
def annC (S : St) (l r : Nat) : Prop := cX S l = cX S r ∧ isC (cK S l) ∧ cK S l = cK S r
theorem X3_isBeta {S : St} {N l r : Nat} (h : two S l r) : ∃ x : Int32, fX3_isBeta N S (nI l) (nI r) = some (x, S) ∧ (x = 0 ↔ ¬ betaC S l r) := by
  obtain ⟨hG, hl, hr, kl, kr⟩ := id h
  unfold fX3_isBeta
  rw [bd2_ok (X2_kindOf hG hl), bd2_ok (X2_kindOf hG hr), bd2_ok (X3_same h), kI_lt (show cK S l < 7 by omega), kI_lt (show cK S r < 7 by omega)]
  have no : ¬ betaC S l r → ∃ x' : Int32, some ((0 : Int32), S) = some (x', S) ∧ (x' = 0 ↔ ¬ betaC S l r) := fun hy => ⟨0, rfl, fun _ => hy, fun _ => rfl⟩
  have yes : betaC S l r → ∃ x' : Int32, some ((1 : Int32), S) = some (x', S) ∧ (x' = 0 ↔ ¬ betaC S l r) := fun hy => ⟨1, rfl, fun e => absurd e (by decide), fun e => absurd hy e⟩
  by_cases c : cX S l = cX S r
  · rw [if_pos c, if_neg (by decide)]
    have f38 : ¬ (cK S l = 0 ∧ cK S r = 1) → ∃ x : Int32, fX3_isBeta_38 N S (nI (cK S l)) (nI (cK S r)) = some (x, S) ∧ (x = 0 ↔ ¬ betaC S l r) := by
      intro n1
      unfold fX3_isBeta_38
      by_cases q : cK S l = 1
      · rw [if_pos (by rw [q]; rfl)]
        by_cases z : cK S r = 0
        · rw [if_pos (by rw [z]; rfl)]
          exact yes ⟨c, Or.inr ⟨q, z⟩⟩
        · rw [if_neg (fun y => z ((nI_eq (by omega) (by omega)).mp (y.trans (show (0 : Int32) = nI 0 from rfl))))]
          exact no (fun y => y.2.elim n1 (fun y => z y.2))
      · rw [if_neg (fun y => q ((nI_eq (by omega) (by omega)).mp (y.trans (show (1 : Int32) = nI 1 from rfl))))]
        exact no (fun y => y.2.elim n1 (fun y => q y.1))
    by_cases q : cK S l = 0
    · rw [if_pos (by rw [q]; rfl)]
      by_cases z : cK S r = 1
      · rw [if_pos (by rw [z]; rfl)]
        exact yes ⟨c, Or.inl ⟨q, z⟩⟩
      · rw [if_neg (fun y => z ((nI_eq (by omega) (by omega)).mp (y.trans (show (1 : Int32) = nI 1 from rfl))))]
        exact f38 (fun y => z y.2)
    · rw [if_neg (fun y => q ((nI_eq (by omega) (by omega)).mp (y.trans (show (0 : Int32) = nI 0 from rfl))))]
      exact f38 (fun y => q y.1)
  · rw [if_neg c, if_pos rfl]
    exact no (fun y => c y.1)
theorem X3_isAnn {S : St} {N l r : Nat} (h : two S l r) : ∃ x : Int32, fX3_isAnnihilation N S (nI l) (nI r) = some (x, S) ∧ (x = 0 ↔ ¬ annC S l r) := by
  obtain ⟨hG, hl, hr, kl, kr⟩ := id h
  unfold fX3_isAnnihilation
  rw [bd2_ok (X2_kindOf hG hl), bd2_ok (X3_same h), kI_lt (show cK S l < 7 by omega)]
  have no : ¬ annC S l r → ∃ x' : Int32, some ((0 : Int32), S) = some (x', S) ∧ (x' = 0 ↔ ¬ annC S l r) := fun hy => ⟨0, rfl, fun _ => hy, fun _ => rfl⟩
  by_cases c : cX S l = cX S r
  · rw [if_pos c, if_neg (by decide), bd2_ok (X2_kindOf hG hr), kI_lt (show cK S r < 7 by omega)]
    by_cases q : cK S l = cK S r
    · rw [if_pos (by rw [q]), bdo_ok (isCt _ (by omega))]
      by_cases w : cK S l = 2 ∨ cK S l = 3 ∨ cK S l = 4
      · rw [if_pos w, if_neg (by decide)]
        exact ⟨1, rfl, fun e => absurd e (by decide), fun e => absurd ⟨c, w, q⟩ e⟩
      · rw [if_neg w, if_pos rfl]
        exact no (fun y => w y.2.1)
    · rw [if_neg (fun y => q ((nI_eq (by omega) (by omega)).mp y))]
      exact no (fun y => q y.2.2)
  · rw [if_neg c, if_pos rfl]
    exact no (fun y => c y.1)
theorem X3_passes {S : St} {N l r : Nat} (h : two S l r) : ∃ x : Int32, fX3_passes N S (nI l) (nI r) = some (x, S) ∧ (x = 0 ↔ ¬ (isC (cK S l) ∧ cX S l < cX S r)) := by
  obtain ⟨hG, hl, hr, kl, kr⟩ := id h
  have xl := ((hG.1 l hl).2.2 kl).2
  have xr := ((hG.1 r hr).2.2 kr).2
  unfold fX3_passes
  rw [bd2_ok (X2_kindOf hG hl), kI_lt (show cK S l < 7 by omega), bdo_ok (isCt _ (by omega))]
  by_cases w : cK S l = 2 ∨ cK S l = 3 ∨ cK S l = 4
  · rw [if_pos w, if_neg (by decide), bd2_ok (X2_indexOf hG hl kl), bd2_ok (X2_indexOf hG hr kr)]
    by_cases c : cX S l < cX S r
    · rw [if_neg (fun q => absurd ((nI_leI (by omega) (by omega)).mp q) (by omega))]
      exact ⟨1, rfl, fun e => absurd e (by decide), fun e => absurd ⟨w, c⟩ e⟩
    · rw [if_pos (nI_le (by omega) (by omega))]
      exact ⟨0, rfl, fun _ q => c q.2, fun _ => rfl⟩
  · rw [if_neg w, if_pos rfl]
    exact ⟨0, rfl, fun _ q => w q.1, fun _ => rfl⟩
def tgtc (S : St) (c u : Nat) : Prop := 3002 < cntA 3002 (cK S) + morc S c u ∨ (cK S c = 4 ∧ cX S u = 63)
theorem X3_hasRoom {S : St} {N c u : Nat} (hG : GC S) (hc3 : c < 3002) (hu3 : u < 3002) (hc : isC (cK S c)) (hu : cK S u < 5) (ne : c ≠ u) (hij : cX S c < cX S u) : ∃ x : Int32, fX3_hasRoom N S (nI c) (nI u) = some (x, S) ∧ (x = 0 ↔ tgtc S c u) := by
  have c5 : cK S c < 5 := by rcases hc with e | e | e <;> omega
  obtain ⟨s, h44, hs, -⟩ := hG.2.1
  have xu := ((hG.1.1 u hu3).2.2 hu).2
  have n0 : 0 < nP (cK S u) := lv_p (n := 3002) (G := Gc S) (v := u) ⟨hu3, Or.inl hu⟩
  have n3 := nP_le (cK S u)
  have ca : 2 ≤ cntA 3002 (cK S) := by
    have a1 := cntA_free (n := 3002) (K := cK S) hc3 (by omega)
    have a2 := cntA_free (n := 3002) (K := updN (cK S) c 7) hu3 (by rw [updN_at, if_neg (fun q => ne q.symm)]; omega)
    omega
  have m1 : morc S c u = nP (cK S u) - 1 + (if cK S c = 2 then 2 else 1) := rfl
  have core : ∀ m, m = (if cK S c = 2 then 2 else 1) → ∃ x : Int32, fX3_hasRoom_17 N S (nI c) (nI u) (nI m) = some (x, S) ∧ (x = 0 ↔ tgtc S c u) := by
    intro m hm
    have hm2 : m ≤ 2 := by
      by_cases z : cK S c = 2
      · rw [if_pos z] at hm; omega
      · rw [if_neg z] at hm; omega
    unfold fX3_hasRoom_17
    have sz : fX2_size N S = some (nI (cntA 3002 (cK S)), S) := by
      unfold fX2_size
      rw [h44, show (3002 : Int32) = nI 3002 from rfl, pk_sub (by omega), show 3002 - s = cntA 3002 (cK S) by omega]
    rw [bd2_ok sz, bd2_ok (X2_kindOf hG.1 hu3), bdo_ok (oP _ hu), bnd_eq, show (2 : Int32) = nI 2 from rfl, pk_sub ca, nI_add, nI_add, show (3000 : Int32) = nI 3000 from rfl]
    unfold tgtc
    rw [m1, ← hm]
    by_cases t : 3000 < cntA 3002 (cK S) - 2 + m + (nP (cK S u) - 1)
    · rw [if_pos (nI_lt t (by omega))]
      exact ⟨0, rfl, fun _ => Or.inl (by omega), fun _ => rfl⟩
    · rw [if_neg (nI_nlt (by omega) (by omega)), bd2_ok (X3_passedIndex hG.1 hc3 hu3 hc hu (by omega)), show (63 : Int32) = nI 63 from rfl]
      have shc := sh_cases hc (cX S u)
      by_cases z : 63 < sh (cK S c) (cX S u)
      · rw [if_pos (nI_lt z (by omega))]
        exact ⟨0, rfl, fun _ => Or.inr (by omega), fun _ => rfl⟩
      · rw [if_neg (nI_nlt (by omega) (by omega))]
        exact ⟨1, rfl, fun e => absurd e (by decide), fun q => by omega⟩
  unfold fX3_hasRoom
  rw [bd2_ok (X2_kindOf hG.1 hc3), kI_lt (show cK S c < 7 by omega)]
  by_cases k2 : cK S c = 2
  · rw [if_pos (by rw [k2]; rfl)]
    exact core 2 (by rw [if_pos k2])
  · rw [if_neg (fun y => k2 ((nI_eq (by omega) (by omega)).mp (y.trans (show (2 : Int32) = nI 2 from rfl))))]
    exact core 1 (by rw [if_neg k2])
/-- the three cases, as the class tells them apart -/
theorem mOf_c {S : St} {l r : Nat} : (betaC S l r → mOf (Gc S) l r = 0) ∧ (¬ betaC S l r → annC S l r → mOf (Gc S) l r = 1) ∧ (isC (cK S l) ∧ cX S l < cX S r → mOf (Gc S) l r = 2 ∧ loN (Gc S) l r = l ∧ hiN (Gc S) l r = r) ∧ (isC (cK S r) ∧ cX S r < cX S l → mOf (Gc S) l r = 2 ∧ loN (Gc S) l r = r ∧ hiN (Gc S) l r = l) ∧ (¬ betaC S l r → ¬ annC S l r → ¬ (isC (cK S l) ∧ cX S l < cX S r) → ¬ (isC (cK S r) ∧ cX S r < cX S l) → mOf (Gc S) l r = 3) := by
  refine ⟨fun h => mOf_b h.1 h.2, fun _ h => mOf_a h.1 h.2, fun h => ?_, fun h => ?_, fun h1 h2 h3 h4 => ?_⟩
  · have lo : loN (Gc S) l r = l := if_pos h.2
    have hi : hiN (Gc S) l r = r := if_pos h.2
    refine ⟨mOf_p (show cX S l ≠ cX S r by omega) (by rw [lo]; exact h.1), lo, hi⟩
  · have z : ¬ cX S l < cX S r := by omega
    have lo : loN (Gc S) l r = r := if_neg z
    have hi : hiN (Gc S) l r = l := if_neg z
    exact ⟨mOf_p (show cX S l ≠ cX S r by omega) (by rw [lo]; exact h.1), lo, hi⟩
  · by_cases c : cX S l = cX S r
    · exact mOf_w c (fun q => h1 ⟨c, q⟩) (fun q => h2 ⟨c, q⟩)
    · refine mOf_n (show cX S l ≠ cX S r from c) (fun q => ?_)
      by_cases d : cX S l < cX S r
      · have lo : loN (Gc S) l r = l := if_pos d
        rw [lo] at q
        exact h3 ⟨q, d⟩
      · have lo : loN (Gc S) l r = r := if_neg d
        rw [lo] at q
        exact h4 ⟨q, by omega⟩
theorem two.symm {S : St} {l r : Nat} (h : two S l r) : two S r l := ⟨h.1, h.2.2.1, h.2.1, h.2.2.2.2, h.2.2.2.1⟩
noncomputable def refC (S : St) (l r : Nat) : Nat := @ite _ (mOf (Gc S) l r = 3) (Classical.propDecidable _) 4 (@ite _ (mOf (Gc S) l r = 2 ∧ tgtc S (loN (Gc S) l r) (hiN (Gc S) l r)) (Classical.propDecidable _) 2 5)
theorem X3_refusal {S : St} {N l r : Nat} (hG : GC S) (h : two S l r) (ne : l ≠ r) : fX3_refusal N S (nI l) (nI r) = some (nI (refC S l r), S) := by
  obtain ⟨hO, hl, hr, kl, kr⟩ := id h
  obtain ⟨m1, m2, m3, m4, m5⟩ := mOf_c (S := S) (l := l) (r := r)
  unfold fX3_refusal refC
  obtain ⟨x1, a1, a2⟩ := X3_isBeta (N := N) h
  rw [bd2_ok a1]
  by_cases b : betaC S l r
  · rw [if_neg (fun q => a2.mp q b), if_neg (by rw [m1 b]; decide), if_neg (by rw [m1 b]; exact fun q => absurd q.1 (by decide))]
    rfl
  · rw [if_pos (a2.mpr b)]
    obtain ⟨x2, b1, b2⟩ := X3_isAnn (N := N) h
    rw [bd2_ok b1]
    by_cases an : annC S l r
    · rw [if_neg (fun q => b2.mp q an), if_neg (by rw [m2 b an]; decide), if_neg (by rw [m2 b an]; exact fun q => absurd q.1 (by decide))]
      rfl
    · rw [if_pos (b2.mpr an)]
      obtain ⟨x3, c1, c2⟩ := X3_passes (N := N) h
      rw [bd2_ok c1]
      by_cases p1 : isC (cK S l) ∧ cX S l < cX S r
      · obtain ⟨e1, e2, e3⟩ := m3 p1
        rw [if_neg (fun q => c2.mp q p1)]
        obtain ⟨x4, d1, d2⟩ := X3_hasRoom (N := N) hG hl hr p1.1 kr ne p1.2
        rw [bd2_ok d1, if_neg (show ¬ mOf (Gc S) l r = 3 by rw [e1]; decide), e2, e3]
        by_cases t : tgtc S l r
        · rw [if_pos (d2.mpr t), if_pos ⟨e1, t⟩]
          rfl
        · rw [if_neg (fun q => t (d2.mp q)), if_neg (fun q => t q.2)]
          rfl
      · rw [if_pos (c2.mpr p1)]
        obtain ⟨x5, f1, f2⟩ := X3_passes (N := N) h.symm
        rw [bd2_ok f1]
        by_cases p2 : isC (cK S r) ∧ cX S r < cX S l
        · obtain ⟨e1, e2, e3⟩ := m4 p2
          rw [if_neg (fun q => f2.mp q p2)]
          obtain ⟨x4, d1, d2⟩ := X3_hasRoom (N := N) hG hr hl p2.1 kl (fun q => ne q.symm) p2.2
          rw [bd2_ok d1, if_neg (show ¬ mOf (Gc S) l r = 3 by rw [e1]; decide), e2, e3]
          by_cases t : tgtc S r l
          · rw [if_pos (d2.mpr t), if_pos ⟨e1, t⟩]
            rfl
          · rw [if_neg (fun q => t (d2.mp q)), if_neg (fun q => t q.2)]
            rfl
        · rw [if_pos (f2.mpr p2), if_pos (m5 b an p1 p2)]
          rfl
/-- a graph of the class, all erased that can be -/
def CGd (S : St) : Prop := GC S ∧ GVr 3002 (Gc S) ∧ Cov 3002 (Gc S) (fun _ => False) ∧ NE 3002 (Gc S) ∧ RcR S 0 ∧ cntA 3002 (cK S) ≤ 3000
theorem X3_act {S : St} {N l r a : Nat} (hN : Big N) (h : CGd S) (hl : l < 3002) (hr : r < 3002) (kl : cK S l < 5) (kr : cK S r < 5) (hw : cV S l 0 = r ∧ cP S l 0 = 0 ∧ cV S r 0 = l ∧ cP S r 0 = 0) (ne : l ≠ r) (h5 : refC S l r = 5) (h49 : S.1 49 = nI a) :
    ∃ S1 S' G1, fX3_act N S (nI l) (nI r) = some S1 ∧ fX2_eraseAll N S1 = some S' ∧ MtR 3002 (Gc S) l r G1 ∧ GVr 3002 G1 ∧ ESp 3002 G1 (Gc S') ∧ CGd S' ∧ (∃ b, S'.1 49 = nI b ∧ b + cntL 3002 (cK S') = a + cntL 3002 G1.1) ∧ cntL 3002 G1.1 + 2 = cntL 3002 (cK S) + (if mOf (Gc S) l r = 2 then morc S (loN (Gc S) l r) (hiN (Gc S) l r) else 0) ∧
      S'.1 61 = S.1 61 + (if mOf (Gc S) l r = 0 then 1 else 0) ∧ S'.1 62 = S.1 62 + (if mOf (Gc S) l r = 1 then 1 else 0) ∧ S'.1 63 = S.1 63 + (if mOf (Gc S) l r = 2 then 1 else 0) ∧ Fr S S' [44, 48, 49, 61, 62, 63] [40, 41, 42, 43, 45, 46, 47] := by
  obtain ⟨g1, g2, g3, g4, g5, g6⟩ := h
  have ht : two S l r := ⟨g1.1, hl, hr, kl, kr⟩
  obtain ⟨m1, m2, m3, m4, m5⟩ := mOf_c (S := S) (l := l) (r := r)
  have er : ∀ (S1 : St) (s1 : Nat), GC S1 → GVr 3002 (Gc S1) → Cov 3002 (Gc S1) (Rc S1) → RcR S1 s1 → cntA 3002 (cK S1) ≤ 3000 → S1.1 49 = nI a → ∃ S', fX2_eraseAll N S1 = some S' ∧ ESp 3002 (Gc S1) (Gc S') ∧ CGd S' ∧ (∃ b, S'.1 49 = nI b ∧ b + cntL 3002 (cK S') = a + cntL 3002 (cK S1)) ∧ Fr S1 S' [44, 48, 49] [40, 41, 42, 43, 45, 46, 47] := by
    intro S1 s1 a1 a2 a3 a4 a6 a7
    obtain ⟨S', b1, b2, b3, b4, b5, b6, b7, b8, b9, b10⟩ := X2_eraseAll (N := N) hN a1 a2 a3 a4 a6 a7
    exact ⟨S', b1, b2, ⟨b6, b3, b5, b4, b7, by omega⟩, b10, b8⟩
  have n3 : mOf (Gc S) l r ≠ 3 := fun q => by
    unfold refC at h5
    rw [if_pos q] at h5; omega
  have nt : mOf (Gc S) l r = 2 → ¬ tgtc S (loN (Gc S) l r) (hiN (Gc S) l r) := fun q t => by
    unfold refC at h5
    rw [if_neg n3, if_pos ⟨q, t⟩] at h5; omega
  -- joined
  have jn : mOf (Gc S) l r < 2 → ∀ x y : Int32, x = (if mOf (Gc S) l r = 0 then 1 else 0) → y = (if mOf (Gc S) l r = 1 then 1 else 0) → ∃ S0, fX3_joinPorts N S (nI l) (nI r) = some S0 ∧ ∀ S1, S1.1 61 = S0.1 61 + x → S1.1 62 = S0.1 62 + y → Fr S0 S1 [61, 62] [] → ∃ S' G1, fX2_eraseAll N S1 = some S' ∧ MtR 3002 (Gc S) l r G1 ∧ GVr 3002 G1 ∧ ESp 3002 G1 (Gc S') ∧ CGd S' ∧ (∃ b, S'.1 49 = nI b ∧ b + cntL 3002 (cK S') = a + cntL 3002 G1.1) ∧ cntL 3002 G1.1 + 2 = cntL 3002 (cK S) + (if mOf (Gc S) l r = 2 then morc S (loN (Gc S) l r) (hiN (Gc S) l r) else 0) ∧
      S'.1 61 = S.1 61 + (if mOf (Gc S) l r = 0 then 1 else 0) ∧ S'.1 62 = S.1 62 + (if mOf (Gc S) l r = 1 then 1 else 0) ∧ S'.1 63 = S.1 63 + (if mOf (Gc S) l r = 2 then 1 else 0) ∧ Fr S S' [44, 48, 49, 61, 62, 63] [40, 41, 42, 43, 45, 46, 47] := by
    intro c1 x y ex ey
    have hJ : JH 3002 (Gc S) l r := ⟨g2, hl, hr, ne, hw, mOf_nP c1, lv_p (n := 3002) (G := Gc S) (v := l) ⟨hl, Or.inl kl⟩⟩
    obtain ⟨S0, s0, p1, p2, p3, p4, p6, p7, p8, p9⟩ := X3_joinPorts (N := N) hN g1 hJ kl kr g5
    refine ⟨S0, p1, fun S1 z1 z2 f2 => ?_⟩
    have v1 := p6.gv hJ (show cK S l ≠ 6 by omega) (show cK S r ≠ 6 by omega)
    have cv := p6.cov hJ (show cK S l ≠ 5 by omega) (show cK S r ≠ 5 by omega) g3 p7
    obtain ⟨q2, mm⟩ := p3.of f2 (by decide) (by decide)
    have k2 : cK S1 = cK S0 := congrArg Prod.fst mm
    obtain ⟨S', b1, b2, b3, b4, b5⟩ := er S1 s0 q2 (by rw [mm]; exact v1) (by rw [mm, Rc.of (f2.2.1 47 (by decide))]; exact cv) (p4.of (f2.1 48 (by decide)) (f2.2.1 46 (by decide)) (f2.2.1 47 (by decide))) (by rw [k2]; omega) (by rw [f2.1 49 (by decide), p2.1 49 (by decide)]; exact h49)
    have nz : ¬ mOf (Gc S) l r = 2 := by omega
    refine ⟨S', Gc S0, b1, Or.inl ⟨c1, p6⟩, v1, by rw [← mm]; exact b2, b3, by rw [k2] at b4; exact b4, ?_, ?_, ?_, ?_, ?_⟩
    · rw [if_neg nz]
      have e : (Gc S0).1 = cK S0 := rfl
      rw [e]
      omega
    · rw [b5.1 61 (by decide), z1, p2.1 61 (by decide), ex]
    · rw [b5.1 62 (by decide), z2, p2.1 62 (by decide), ey]
    · rw [if_neg nz, b5.1 63 (by decide), f2.1 63 (by decide), p2.1 63 (by decide)]
      exact (Int32.add_zero _).symm
    · exact ((p2.mono (by decide) (by decide)).trans (f2.mono (by decide) (fun _ h => (List.not_mem_nil h).elim))).trans (b5.mono (by decide) (by decide))
  -- passed
  have ps : ∀ c u, mOf (Gc S) l r = 2 → loN (Gc S) l r = c → hiN (Gc S) l r = u → PHc S c u → cX S c < cX S u → ∃ S1, fX3_pass N S (nI c) (nI u) = some S1 ∧ ∃ S' G1, fX2_eraseAll N S1 = some S' ∧ MtR 3002 (Gc S) l r G1 ∧ GVr 3002 G1 ∧ ESp 3002 G1 (Gc S') ∧ CGd S' ∧ (∃ b, S'.1 49 = nI b ∧ b + cntL 3002 (cK S') = a + cntL 3002 G1.1) ∧ cntL 3002 G1.1 + 2 = cntL 3002 (cK S) + (if mOf (Gc S) l r = 2 then morc S (loN (Gc S) l r) (hiN (Gc S) l r) else 0) ∧
      S'.1 61 = S.1 61 + (if mOf (Gc S) l r = 0 then 1 else 0) ∧ S'.1 62 = S.1 62 + (if mOf (Gc S) l r = 1 then 1 else 0) ∧ S'.1 63 = S.1 63 + (if mOf (Gc S) l r = 2 then 1 else 0) ∧ Fr S S' [44, 48, 49, 61, 62, 63] [40, 41, 42, 43, 45, 46, 47] := by
    intro c u c2 ec eu hP hij
    have t3 := nt c2
    rw [ec, eu] at t3
    have x63 : cX S u ≤ 63 := ((g1.1.1 u hP.2.2.2.2.2.1).2.2 hP.2.2.2.1).2
    have hsh : sh (cK S c) (cX S u) ≤ 63 := by
      rcases sh_cases hP.2.2.1 (cX S u) with ⟨-, e⟩ | ⟨-, e⟩ | ⟨e4, e⟩
      · omega
      · omega
      · by_cases z : cX S u = 63
        · exact absurd (Or.inr ⟨e4, z⟩) t3
        · omega
    have hroom : cntA 3002 (cK S) + morc S c u ≤ 3002 := by
      by_cases z : cntA 3002 (cK S) + morc S c u ≤ 3002
      · exact z
      · exact absurd (Or.inl (by omega)) t3
    obtain ⟨S1, s1, o, lk, p1, p2, p3, p4, p6, p7, p8, p9, p10, p11⟩ := X3_pass (N := N) hN g1 hP hij hsh g5 hroom
    have c5 : cK S c < 5 := by rcases hP.2.2.1 with e | e | e <;> omega
    have lc : lv 3002 (Gc S) c := ⟨hP.2.2.2.2.1, Or.inl c5⟩
    have lu : lv 3002 (Gc S) u := ⟨hP.2.2.2.2.2.1, Or.inl hP.2.2.2.1⟩
    have v1 := p6.gv g2 hP.2.1 hP.2.2.1 lc lu hP.2.2.2.1 hP.2.2.2.2.2.2 p7
    have cv := p6.cov g2 hP.2.1 hP.2.2.1 lc lu hP.2.2.2.1 p7 g3 p8
    obtain ⟨S', b1, b2, b3, b4, b5⟩ := er S1 s1 p3 v1 cv p4 (by omega) (by rw [p2.1 49 (by decide)]; exact h49)
    refine ⟨S1, p1, S', Gc S1, b1, Or.inr ⟨c2, o, lk, by rw [ec, eu]; exact p6, p7⟩, v1, b2, b3, b4, ?_, ?_, ?_, ?_, ?_⟩
    · rw [if_pos c2, ec, eu]; exact p10
    · rw [c2, if_neg (by decide), b5.1 61 (by decide), p2.1 61 (by decide)]
      exact (Int32.add_zero _).symm
    · rw [c2, if_neg (by decide), b5.1 62 (by decide), p2.1 62 (by decide)]
      exact (Int32.add_zero _).symm
    · rw [c2, if_pos rfl, b5.1 63 (by decide), p11]
    · exact (p2.mono (by decide) (by decide)).trans (b5.mono (by decide) (by decide))
  unfold fX3_act
  obtain ⟨x1, a1, a2⟩ := X3_isBeta (N := N) ht
  rw [bd2_ok a1]
  by_cases b : betaC S l r
  · have c0 := m1 b
    rw [if_neg (fun q => a2.mp q b)]
    obtain ⟨S0, q1, q2⟩ := jn (by omega) 1 0 (by rw [if_pos c0]) (by rw [if_neg (by omega)])
    rw [bdo_ok q1, bnd_eq]
    obtain ⟨S', G1, r1⟩ := q2 (sI S0 61 (S0.1 61 + 1)) rfl (Int32.add_zero _).symm (Fr.I (by decide))
    exact ⟨_, S', G1, rfl, r1⟩
  · rw [if_pos (a2.mpr b)]
    obtain ⟨x2, b1, b2⟩ := X3_isAnn (N := N) ht
    rw [bd2_ok b1]
    by_cases an : annC S l r
    · have c0 := m2 b an
      rw [if_neg (fun q => b2.mp q an)]
      obtain ⟨S0, q1, q2⟩ := jn (by omega) 0 1 (by rw [if_neg (by omega)]) (by rw [if_pos c0])
      rw [bdo_ok q1, bnd_eq]
      obtain ⟨S', G1, r1⟩ := q2 (sI S0 62 (S0.1 62 + 1)) (Int32.add_zero _).symm rfl (Fr.I (by decide))
      exact ⟨_, S', G1, rfl, r1⟩
    · rw [if_pos (b2.mpr an)]
      obtain ⟨x3, c1, c2⟩ := X3_passes (N := N) ht
      rw [bd2_ok c1]
      by_cases p1 : isC (cK S l) ∧ cX S l < cX S r
      · obtain ⟨e1, e2, e3⟩ := m3 p1
        rw [if_neg (fun q => c2.mp q p1)]
        obtain ⟨S1, q1, S', G1, r1⟩ := ps l r e1 e2 e3 ⟨g2, hw, p1.1, kr, hl, hr, ne⟩ p1.2
        rw [bdo_ok q1]
        exact ⟨_, S', G1, rfl, r1⟩
      · rw [if_pos (c2.mpr p1)]
        obtain ⟨x5, f1, f2⟩ := X3_passes (N := N) ht.symm
        rw [bd2_ok f1]
        by_cases p2 : isC (cK S r) ∧ cX S r < cX S l
        · obtain ⟨e1, e2, e3⟩ := m4 p2
          rw [if_neg (fun q => f2.mp q p2)]
          obtain ⟨S1, q1, S', G1, r1⟩ := ps r l e1 e2 e3 ⟨g2, ⟨hw.2.2.1, hw.2.2.2, hw.1, hw.2.1⟩, p2.1, kl, hr, hl, fun q => ne q.symm⟩ p2.2
          rw [bdo_ok q1]
          exact ⟨_, S', G1, rfl, r1⟩
        · exact absurd (m5 b an p1 p2) n3
