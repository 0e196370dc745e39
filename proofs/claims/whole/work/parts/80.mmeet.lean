/-! the reference: what two do that meet -/
noncomputable def mOf (G : Gr) (l r : Nat) : Nat := @ite _ (G.2.1 l = G.2.1 r) (Classical.propDecidable _) (@ite _ ((G.1 l = 0 ∧ G.1 r = 1) ∨ (G.1 l = 1 ∧ G.1 r = 0)) (Classical.propDecidable _) 0 (@ite _ (isC (G.1 l) ∧ G.1 l = G.1 r) (Classical.propDecidable _) 1 3)) (@ite _ (isC (G.1 (if G.2.1 l < G.2.1 r then l else r))) (Classical.propDecidable _) 2 3)
def loN (G : Gr) (l r : Nat) : Nat := if G.2.1 l < G.2.1 r then l else r
def hiN (G : Gr) (l r : Nat) : Nat := if G.2.1 l < G.2.1 r then r else l
theorem isW_i : ∀ k, k < 7 → fX8_isWay (nI k) = some (if k = 2 ∨ k = 3 ∨ k = 4 then 1 else 0) := by decide +kernel
theorem mOf_b {G : Gr} {l r : Nat} (h1 : G.2.1 l = G.2.1 r) (h2 : (G.1 l = 0 ∧ G.1 r = 1) ∨ (G.1 l = 1 ∧ G.1 r = 0)) : mOf G l r = 0 := by
  unfold mOf
  rw [if_pos h1, if_pos h2]
theorem mOf_a {G : Gr} {l r : Nat} (h1 : G.2.1 l = G.2.1 r) (h2 : isC (G.1 l) ∧ G.1 l = G.1 r) : mOf G l r = 1 := by
  unfold mOf
  rw [if_pos h1, if_neg (fun q => by rcases h2.1 with e | e | e <;> omega), if_pos h2]
theorem mOf_w {G : Gr} {l r : Nat} (h1 : G.2.1 l = G.2.1 r) (h2 : ¬ ((G.1 l = 0 ∧ G.1 r = 1) ∨ (G.1 l = 1 ∧ G.1 r = 0))) (h3 : ¬ (isC (G.1 l) ∧ G.1 l = G.1 r)) : mOf G l r = 3 := by
  unfold mOf
  rw [if_pos h1, if_neg h2, if_neg h3]
theorem mOf_p {G : Gr} {l r : Nat} (h1 : G.2.1 l ≠ G.2.1 r) (h2 : isC (G.1 (loN G l r))) : mOf G l r = 2 := by
  unfold mOf loN at *
  rw [if_neg h1, if_pos h2]
theorem mOf_n {G : Gr} {l r : Nat} (h1 : G.2.1 l ≠ G.2.1 r) (h2 : ¬ isC (G.1 (loN G l r))) : mOf G l r = 3 := by
  unfold mOf loN at *
  rw [if_neg h1, if_neg h2]
theorem X8_meetingOf {S : St} {N l r : Nat} (hG : GOk S) (hl : l < 3010) (hr : r < 3010) (kl : gK S l < 5) (kr : gK S r < 5) : ∃ S', fX8_meetingOf N S (nI l) (nI r) = some (nI (mOf (Gm S) l r), S') ∧ Fr S S' [32, 33] [] ∧ (mOf (Gm S) l r = 2 → S'.1 32 = nI (loN (Gm S) l r) ∧ S'.1 33 = nI (hiN (Gm S) l r)) := by
  obtain ⟨l1, l2, l3, l4⟩ := hG.1 l hl
  obtain ⟨r1, r2, r3, r4⟩ := hG.1 r hr
  unfold fX8_meetingOf
  rw [ckx_ok (vp_in_nI (by omega) (by omega)), bnd_eq, nI_clamp (show l < 2 ^ 31 by omega), l3, ckx_ok (vp_in_nI (by omega) (by omega)), bnd_eq, nI_clamp (show r < 2 ^ 31 by omega), r3]
  by_cases cx : gX S l = gX S r
  · have hx : (Gm S).2.1 l = (Gm S).2.1 r := cx
    rw [if_pos (by rw [cx]), ckx_ok (vp_in_nI (by omega) (by omega)), l1]
    -- no beta
    have rest : ¬ ((gK S l = 0 ∧ gK S r = 1) ∨ (gK S l = 1 ∧ gK S r = 0)) → ∃ S', fX8_meetingOf_63 N S (nI l) (nI r) = some (nI (mOf (Gm S) l r), S') ∧ Fr S S' [32, 33] [] ∧ (mOf (Gm S) l r = 2 → S'.1 32 = nI (loN (Gm S) l r) ∧ S'.1 33 = nI (hiN (Gm S) l r)) := by
      intro nb
      unfold fX8_meetingOf_63 fX8_meetingOf_64
      rw [if_pos rfl, ckx_ok (vp_in_nI (by omega) (by omega)), nI_clamp (show l < 2 ^ 31 by omega), l1, bdo_ok (isW_i _ (by omega))]
      by_cases w : gK S l = 2 ∨ gK S l = 3 ∨ gK S l = 4
      · rw [if_pos w, if_neg (by decide), ckx_ok (vp_in_nI (by omega) (by omega)), ckx_ok (vp_in_nI (by omega) (by omega)), nI_clamp (show r < 2 ^ 31 by omega), r1]
        by_cases q : gK S l = gK S r
        · rw [if_pos (by rw [q]), mOf_a hx ⟨w, q⟩]
          exact ⟨S, rfl, Fr.rf, fun z => absurd z (by decide)⟩
        · rw [if_neg (fun z => q ((nI_eq (by omega) (by omega)).mp z)), mOf_w hx nb (fun z => q z.2)]
          exact ⟨S, rfl, Fr.rf, fun z => absurd z (by decide)⟩
      · rw [if_neg w, if_pos rfl, mOf_w hx nb (fun z => w z.1)]
        exact ⟨S, rfl, Fr.rf, fun z => absurd z (by decide)⟩
    have beta : ((gK S l = 0 ∧ gK S r = 1) ∨ (gK S l = 1 ∧ gK S r = 0)) → ∃ S', fX8_meetingOf_59 N S (nI l) (nI r) = some (nI (mOf (Gm S) l r), S') ∧ Fr S S' [32, 33] [] ∧ (mOf (Gm S) l r = 2 → S'.1 32 = nI (loN (Gm S) l r) ∧ S'.1 33 = nI (hiN (Gm S) l r)) := by
      intro b
      unfold fX8_meetingOf_59 fX8_meetingOf_64
      rw [if_neg (by decide), mOf_b hx b]
      exact ⟨S, rfl, Fr.rf, fun z => absurd z (by decide)⟩
    have f40 : ¬ (gK S l = 0 ∧ gK S r = 1) → ∃ S', fX8_meetingOf_40 N S (nI l) (nI r) = some (nI (mOf (Gm S) l r), S') ∧ Fr S S' [32, 33] [] ∧ (mOf (Gm S) l r = 2 → S'.1 32 = nI (loN (Gm S) l r) ∧ S'.1 33 = nI (hiN (Gm S) l r)) := by
      intro n1
      unfold fX8_meetingOf_40
      rw [ckx_ok (vp_in_nI (by omega) (by omega)), nI_clamp (show l < 2 ^ 31 by omega), l1]
      by_cases q : gK S l = 1
      · rw [if_pos (by rw [q]; rfl), ckx_ok (vp_in_nI (by omega) (by omega)), nI_clamp (show r < 2 ^ 31 by omega), r1]
        by_cases z : gK S r = 0
        · rw [if_pos (by rw [z]; rfl)]
          exact beta (Or.inr ⟨q, z⟩)
        · rw [if_neg (fun y => z ((nI_eq (by omega) (by omega)).mp (y.trans (show (0 : Int32) = nI 0 from rfl))))]
          exact rest (fun y => y.elim n1 (fun y => z y.2))
      · rw [if_neg (fun y => q ((nI_eq (by omega) (by omega)).mp (y.trans (show (1 : Int32) = nI 1 from rfl))))]
        exact rest (fun y => y.elim n1 (fun y => q y.1))
    by_cases q : gK S l = 0
    · rw [if_pos (by rw [q]; rfl), ckx_ok (vp_in_nI (by omega) (by omega)), r1]
      by_cases z : gK S r = 1
      · rw [if_pos (by rw [z]; rfl)]
        exact beta (Or.inl ⟨q, z⟩)
      · rw [if_neg (fun y => z ((nI_eq (by omega) (by omega)).mp (y.trans (show (1 : Int32) = nI 1 from rfl))))]
        exact f40 (fun y => z y.2)
    · rw [if_neg (fun y => q ((nI_eq (by omega) (by omega)).mp (y.trans (show (0 : Int32) = nI 0 from rfl))))]
      exact f40 (fun y => q y.1)
  · have hx : (Gm S).2.1 l ≠ (Gm S).2.1 r := cx
    rw [if_neg (fun q => cx ((nI_eq (by omega) (by omega)).mp q))]
    have fin : ∀ c u, c < 3010 → gK S c < 5 → loN (Gm S) l r = c → hiN (Gm S) l r = u → ∃ S', fX8_meetingOf_135 N (sI S 32 (nI c)) (nI u) = some (nI (mOf (Gm S) l r), S') ∧ Fr S S' [32, 33] [] ∧ (mOf (Gm S) l r = 2 → S'.1 32 = nI (loN (Gm S) l r) ∧ S'.1 33 = nI (hiN (Gm S) l r)) := by
      intro c u hc kc e1 e2
      unfold fX8_meetingOf_135
      have k1 := (hG.1 c hc).1
      have f : Fr S (sI (sI S 32 (nI c)) 33 (nI u)) [32, 33] [] := (Fr.I (by decide)).trans (Fr.I (by decide))
      rw [bnd_eq, show (sI (sI S 32 (nI c)) 33 (nI u)).1 32 = nI c from rfl, ckx_ok (vp_in_nI (by omega) (by omega)), nI_clamp (by omega), f.2.1 17 (by decide), k1, bdo_ok (isW_i _ (by omega))]
      by_cases w : gK S c = 2 ∨ gK S c = 3 ∨ gK S c = 4
      · rw [if_pos w, if_neg (by decide), mOf_p hx (by rw [e1]; exact w)]
        exact ⟨_, rfl, f, fun _ => by rw [e1, e2]; exact ⟨rfl, rfl⟩⟩
      · rw [if_neg w, if_pos rfl, mOf_n hx (by rw [e1]; exact w)]
        exact ⟨_, rfl, f, fun z => absurd z (by decide)⟩
    unfold fX8_meetingOf_120
    by_cases c : gX S l < gX S r
    · have z : ¬ nI (gX S r) ≤ nI (gX S l) := fun q => absurd ((nI_leI (by omega) (by omega)).mp q) (by omega)
      rw [if_neg z, bnd_eq, if_neg z]
      exact fin l r hl kl (if_pos c) (if_pos c)
    · have z : nI (gX S r) ≤ nI (gX S l) := nI_le (by omega) (by omega)
      rw [if_pos z, bnd_eq, if_pos z]
      exact fin r l hr kr (if_neg c) (if_neg c)
/-- too little room -/
def tgt (S : St) (c u : Nat) : Prop := 3002 < cntA 3010 (gK S) + mor S c u ∨ (gK S c = 4 ∧ gX S u = 63)
theorem X8_isTight {S : St} {N c u : Nat} (hG : GM S) (h32 : S.1 32 = nI c) (h33 : S.1 33 = nI u) (hc : c < 3010) (hu : u < 3010) (kc : gK S c < 5) (ku : gK S u < 5) (ne : c ≠ u) : ∃ x : Int32, fX8_isTight N S = some (x, S) ∧ (x = 0 ↔ ¬ tgt S c u) := by
  obtain ⟨c1, c2, c3, c4⟩ := hG.1.1 c hc
  obtain ⟨u1, u2, u3, u4⟩ := hG.1.1 u hu
  obtain ⟨s, h21, hs, h22, -⟩ := hG.2
  have n0 : 0 < nP (gK S u) := lv_p (n := 3010) (G := Gm S) (v := u) ⟨hu, Or.inl ku⟩
  have n3 := nP_le (gK S u)
  have ca : 2 ≤ cntA 3010 (gK S) := by
    have a1 := cntA_free (n := 3010) (K := gK S) hc (by omega)
    have a2 := cntA_free (n := 3010) (K := updN (gK S) c 7) hu (by rw [updN_at, if_neg (fun q => ne q.symm)]; omega)
    omega
  have m1 : mor S c u = nP (gK S u) - 1 + (if gK S c = 2 then 2 else 1) := rfl
  have core : ∀ m, m = (if gK S c = 2 then 2 else 1) → ∃ x : Int32, fX8_isTight_32 N S (nI (nP (gK S u) - 1)) (nI m) = some (x, S) ∧ (x = 0 ↔ ¬ tgt S c u) := by
    intro m hm
    have hm2 : m ≤ 2 := by
      by_cases z : gK S c = 2
      · rw [if_pos z] at hm; omega
      · rw [if_neg z] at hm; omega
    unfold fX8_isTight_32 tgt
    rw [bnd_eq, nI_add, h22, show (2 : Int32) = nI 2 from rfl, pk_sub ca, nI_add, show (3000 : Int32) = nI 3000 from rfl, m1, ← hm]
    by_cases t : 3000 < cntA 3010 (gK S) - 2 + (nP (gK S u) - 1 + m)
    · rw [if_pos (nI_lt t (by omega))]
      refine ⟨1, rfl, fun q => absurd q (by decide), fun q => absurd (Or.inl (by omega)) q⟩
    · rw [if_neg (nI_nlt (by omega) (by omega)), h32, ckx_ok (vp_in_nI (by omega) (by omega)), nI_clamp (by omega), c1]
      by_cases k4 : gK S c = 4
      · rw [if_pos (by rw [k4]; rfl), h33, ckx_ok (vp_in_nI (by omega) (by omega)), nI_clamp (by omega), u3]
        by_cases x6 : gX S u = 63
        · rw [if_pos (by rw [x6]; rfl)]
          exact ⟨1, rfl, fun q => absurd q (by decide), fun q => absurd (Or.inr ⟨k4, x6⟩) q⟩
        · rw [if_neg (fun y => x6 ((nI_eq (by omega) (by omega)).mp (y.trans (show (63 : Int32) = nI 63 from rfl))))]
          exact ⟨0, rfl, fun _ q => q.elim (fun q => by omega) (fun q => x6 q.2), fun _ => rfl⟩
      · rw [if_neg (fun y => k4 ((nI_eq (by omega) (by omega)).mp (y.trans (show (4 : Int32) = nI 4 from rfl))))]
        exact ⟨0, rfl, fun _ q => q.elim (fun q => by omega) (fun q => k4 q.1), fun _ => rfl⟩
  unfold fX8_isTight
  rw [h33, ckx_ok (vp_in_nI (by omega) (by omega)), nI_clamp (by omega), bdo_ok (X8_ports hG.1 hu (by omega)), h32, ckx_ok (vp_in_nI (by omega) (by omega)), nI_clamp (show c < 2 ^ 31 by omega), c1, nI_sub1 n0]
  by_cases k2 : gK S c = 2
  · rw [if_pos (by rw [k2]; rfl)]
    exact core 2 (by rw [if_pos k2])
  · rw [if_neg (fun y => k2 ((nI_eq (by omega) (by omega)).mp (y.trans (show (2 : Int32) = nI 2 from rfl))))]
    exact core 1 (by rw [if_neg k2])
/-- a graph of the reference, all erased that can be -/
def MGd (S : St) : Prop := GM S ∧ GVr 3010 (Gm S) ∧ Cov 3010 (Gm S) (fun _ => False) ∧ NE 3010 (Gm S) ∧ RsR S 0 ∧ cntA 3010 (gK S) ≤ 3000
/-- what a meeting of l and r makes of the graph, before the erasing -/
def MtR (n : Nat) (G : Gr) (l r : Nat) (G1 : Gr) : Prop := (mOf G l r < 2 ∧ JX n G l r G1) ∨ (mOf G l r = 2 ∧ ∃ o lk, PX n G (loN G l r) (hiN G l r) o lk G1 ∧ ∀ v, v < n → G1.1 v = 5 → G.1 v = 5)
theorem mOf_lt {G : Gr} {l r : Nat} (h : mOf G l r < 2) : G.2.1 l = G.2.1 r ∧ (((G.1 l = 0 ∧ G.1 r = 1) ∨ (G.1 l = 1 ∧ G.1 r = 0)) ∨ (isC (G.1 l) ∧ G.1 l = G.1 r)) := by
  by_cases h1 : G.2.1 l = G.2.1 r
  · refine ⟨h1, ?_⟩
    by_cases h2 : (G.1 l = 0 ∧ G.1 r = 1) ∨ (G.1 l = 1 ∧ G.1 r = 0)
    · exact Or.inl h2
    · by_cases h3 : isC (G.1 l) ∧ G.1 l = G.1 r
      · exact Or.inr h3
      · rw [mOf_w h1 h2 h3] at h; omega
  · by_cases h2 : isC (G.1 (loN G l r))
    · rw [mOf_p h1 h2] at h; omega
    · rw [mOf_n h1 h2] at h; omega
theorem mOf_le {G : Gr} {l r : Nat} : mOf G l r ≤ 3 := by
  by_cases h1 : G.2.1 l = G.2.1 r
  · by_cases h2 : (G.1 l = 0 ∧ G.1 r = 1) ∨ (G.1 l = 1 ∧ G.1 r = 0)
    · rw [mOf_b h1 h2]; decide
    · by_cases h3 : isC (G.1 l) ∧ G.1 l = G.1 r
      · rw [mOf_a h1 h3]; decide
      · rw [mOf_w h1 h2 h3]; decide
  · by_cases h2 : isC (G.1 (loN G l r))
    · rw [mOf_p h1 h2]; decide
    · rw [mOf_n h1 h2]; decide
theorem mOf_2 {G : Gr} {l r : Nat} (h : mOf G l r = 2) : G.2.1 l ≠ G.2.1 r ∧ isC (G.1 (loN G l r)) := by
  by_cases h1 : G.2.1 l = G.2.1 r
  · by_cases h2 : (G.1 l = 0 ∧ G.1 r = 1) ∨ (G.1 l = 1 ∧ G.1 r = 0)
    · rw [mOf_b h1 h2] at h; omega
    · by_cases h3 : isC (G.1 l) ∧ G.1 l = G.1 r
      · rw [mOf_a h1 h3] at h; omega
      · rw [mOf_w h1 h2 h3] at h; omega
  · by_cases h2 : isC (G.1 (loN G l r))
    · exact ⟨h1, h2⟩
    · rw [mOf_n h1 h2] at h; omega
theorem lohi {G : Gr} {l r : Nat} (P : Nat → Nat → Prop) (h1 : P l r) (h2 : P r l) : P (loN G l r) (hiN G l r) := by
  unfold loN hiN
  by_cases c : G.2.1 l < G.2.1 r
  · rw [if_pos c, if_pos c]; exact h1
  · rw [if_neg c, if_neg c]; exact h2
theorem lohi_x {G : Gr} {l r : Nat} (h : G.2.1 l ≠ G.2.1 r) : G.2.1 (loN G l r) < G.2.1 (hiN G l r) := by
  unfold loN hiN
  by_cases c : G.2.1 l < G.2.1 r
  · rw [if_pos c, if_pos c]; exact c
  · rw [if_neg c, if_neg c]; omega
theorem mOf_nP {G : Gr} {l r : Nat} (h : mOf G l r < 2) : nP (G.1 l) = nP (G.1 r) := by
  rcases (mOf_lt h).2 with (e | e) | e
  · rw [e.1, e.2]; rfl
  · rw [e.1, e.2]; rfl
  · rw [e.2]
theorem X8_meet {S : St} {N l r a : Nat} (hN : Big N) (h : MGd S) (hl : l < 3010) (hr : r < 3010) (kl : gK S l < 5) (kr : gK S r < 5) (hw : gV S l 0 = r ∧ gP S l 0 = 0 ∧ gV S r 0 = l ∧ gP S r 0 = 0) (ne : l ≠ r) (h3 : mOf (Gm S) l r ≠ 3) (h2 : mOf (Gm S) l r = 2 → S.1 32 = nI (loN (Gm S) l r) ∧ S.1 33 = nI (hiN (Gm S) l r) ∧ ¬ tgt S (loN (Gm S) l r) (hiN (Gm S) l r)) (h26 : S.1 26 = nI a) :
    ∃ S' G1, fX8_meet N S (nI (mOf (Gm S) l r)) (nI l) (nI r) = some S' ∧ MtR 3010 (Gm S) l r G1 ∧ GVr 3010 G1 ∧ ESp 3010 G1 (Gm S') ∧ MGd S' ∧ (∃ b, S'.1 26 = nI b ∧ b + cntL 3010 (gK S') = a + cntL 3010 G1.1) ∧ cntL 3010 G1.1 + 2 = cntL 3010 (gK S) + (if mOf (Gm S) l r = 2 then mor S (loN (Gm S) l r) (hiN (Gm S) l r) else 0) ∧
      S'.1 23 = S.1 23 + (if mOf (Gm S) l r = 0 then 1 else 0) ∧ S'.1 24 = S.1 24 + (if mOf (Gm S) l r = 1 then 1 else 0) ∧ S'.1 25 = S.1 25 + (if mOf (Gm S) l r = 2 then 1 else 0) ∧ Fr S S' [21, 22, 23, 24, 25, 26, 28] [17, 18, 19, 20, 27, 34] := by
  obtain ⟨g1, g2, g3, g4, g5, g6⟩ := h
  have m4 : mOf (Gm S) l r ≤ 3 := mOf_le
  unfold fX8_meet
  -- the erasing
  have er : ∀ (S1 : St) (s1 : Nat), GM S1 → GVr 3010 (Gm S1) → Cov 3010 (Gm S1) (Rm S1) → RsR S1 s1 → s1 ≤ 8 → cntA 3010 (gK S1) ≤ 3000 → S1.1 26 = nI a → ∃ S', fX8_meet_65 N S1 = some S' ∧ ESp 3010 (Gm S1) (Gm S') ∧ MGd S' ∧ (∃ b, S'.1 26 = nI b ∧ b + cntL 3010 (gK S') = a + cntL 3010 (gK S1)) ∧ Fr S1 S' [21, 22, 26, 28] [17, 18, 19, 20, 27] := by
    intro S1 s1 a1 a2 a3 a4 a5 a6 a7
    have := cntL_A (n := 3010) (K := gK S1)
    obtain ⟨S', b1, b2, b3, b4, b5, b6, b7, b8, b9, b10⟩ := X8_erase (N := N) hN a1 a2 a3 a4 (by omega) (by omega) a7
    refine ⟨S', ?_, b2, ⟨b6, b3, b5, b4, b7, by omega⟩, b10, b8⟩
    unfold fX8_meet_65
    rw [bdo_ok b1]
  by_cases c2 : mOf (Gm S) l r = 2
  · obtain ⟨t1, t2, t3⟩ := h2 c2
    obtain ⟨x1, x2⟩ := mOf_2 c2
    have hij := lohi_x x1
    obtain ⟨c, ec⟩ : ∃ c, c = loN (Gm S) l r := ⟨_, rfl⟩
    obtain ⟨u, eu⟩ : ∃ u, u = hiN (Gm S) l r := ⟨_, rfl⟩
    have hP : PH S c u := by
      have := lohi (G := Gm S) (l := l) (r := r) (fun c u => (gV S c 0 = u ∧ gP S c 0 = 0 ∧ gV S u 0 = c ∧ gP S u 0 = 0) ∧ gK S u < 5 ∧ c < 3010 ∧ u < 3010 ∧ c ≠ u) ⟨hw, kr, hl, hr, ne⟩ ⟨⟨hw.2.2.1, hw.2.2.2, hw.1, hw.2.1⟩, kl, hr, hl, fun q => ne q.symm⟩
      rw [← ec, ← eu] at this
      rw [← ec] at x2
      exact ⟨g2, this.1, x2, this.2⟩
    rw [← ec] at t1
    rw [← eu] at t2
    rw [← ec, ← eu] at t3 hij
    rw [← ec, ← eu]
    have hij : gX S c < gX S u := hij
    have x63 : gX S u ≤ 63 := (g1.1.1 u hP.2.2.2.2.2.1).2.2.2
    have hsh : sh (gK S c) (gX S u) ≤ 63 := by
      rcases sh_cases hP.2.2.1 (gX S u) with ⟨-, e⟩ | ⟨-, e⟩ | ⟨e4, e⟩
      · omega
      · omega
      · by_cases z : gX S u = 63
        · exact absurd (Or.inr ⟨e4, z⟩) t3
        · omega
    have hroom : cntA 3010 (gK S) + mor S c u ≤ 3002 := by
      by_cases z : cntA 3010 (gK S) + mor S c u ≤ 3002
      · exact z
      · exact absurd (Or.inl (by omega)) t3
    obtain ⟨S1, s1, o, lk, p1, p2, p3, p4, p5, p6, p7, p8, p9, p10⟩ := X8_pass (N := N) hN g1 hP t1 t2 hij hsh g5 (by omega) (by omega)
    have c5 : gK S c < 5 := by rcases hP.2.2.1 with e | e | e <;> omega
    have lc : lv 3010 (Gm S) c := ⟨hP.2.2.2.2.1, Or.inl c5⟩
    have lu : lv 3010 (Gm S) u := ⟨hP.2.2.2.2.2.1, Or.inl hP.2.2.2.1⟩
    have v1 := p6.gv g2 hP.2.1 hP.2.2.1 lc lu hP.2.2.2.1 hP.2.2.2.2.2.2 p7
    have cv := p6.cov g2 hP.2.1 hP.2.2.1 lc lu hP.2.2.2.1 p7 g3 p8
    obtain ⟨S2, e2⟩ : ∃ z, z = sI S1 25 (S1.1 25 + 1) := ⟨_, rfl⟩
    have f2 : Fr S1 S2 [25] [] := by rw [e2]; exact Fr.I (by decide)
    obtain ⟨q2, m2⟩ := p3.of f2 (by decide) (by decide)
    have k2 : gK S2 = gK S1 := congrArg Prod.fst m2
    obtain ⟨S', b1, b2, b3, b4, b5⟩ := er S2 s1 q2 (by rw [m2]; exact v1) (by rw [m2, Rm.of (f2.1 28 (by decide)) (f2.2.1 27 (by decide))]; exact cv) (p4.of (f2.1 28 (by decide)) (f2.2.1 27 (by decide))) p5 (by rw [k2]; omega) (by rw [f2.1 26 (by decide), p2.1 26 (by decide)]; exact h26)
    refine ⟨S', Gm S1, ?_, Or.inr ⟨c2, o, lk, by rw [← ec, ← eu]; exact p6, p7⟩, v1, by rw [← m2]; exact b2, b3, by rw [k2] at b4; exact b4, ?_, ?_, ?_, ?_, ?_⟩
    · rw [c2, if_pos (by decide), bdo_ok p1, bnd_eq, ← e2]
      exact b1
    · rw [if_pos c2]; exact p10
    · rw [c2, if_neg (by decide), b5.1 23 (by decide), f2.1 23 (by decide), p2.1 23 (by decide)]
      exact (Int32.add_zero _).symm
    · rw [c2, if_neg (by decide), b5.1 24 (by decide), f2.1 24 (by decide), p2.1 24 (by decide)]
      exact (Int32.add_zero _).symm
    · rw [c2, if_pos rfl, b5.1 25 (by decide), e2]
      show S1.1 25 + 1 = _
      rw [p2.1 25 (by decide)]
    · exact ((p2.mono (by decide) (by decide)).trans (f2.mono (by decide) (fun _ h => (List.not_mem_nil h).elim))).trans (b5.mono (by decide) (by decide))
  · have c1 : mOf (Gm S) l r < 2 := by omega
    have hJ : JH 3010 (Gm S) l r := ⟨g2, hl, hr, ne, hw, mOf_nP c1, lv_p (n := 3010) (G := Gm S) (v := l) ⟨hl, Or.inl kl⟩⟩
    obtain ⟨S1, s1, p1, p2, p3, p4, p5, p6, p7, p8, p9⟩ := X8_join (N := N) hN g1 hJ kl kr g5 (by omega)
    have v1 := p6.gv hJ (show gK S l ≠ 6 by omega) (show gK S r ≠ 6 by omega)
    have cv := p6.cov hJ (show gK S l ≠ 5 by omega) (show gK S r ≠ 5 by omega) g3 p7
    rw [if_neg (fun q => c2 ((nI_eq (by omega) (by omega)).mp (q.trans (show (2 : Int32) = nI 2 from rfl)))), bdo_ok p1]
    obtain ⟨x, ex⟩ : ∃ x : Int32, x = if mOf (Gm S) l r = 0 then 1 else 0 := ⟨_, rfl⟩
    obtain ⟨y, ey⟩ : ∃ y : Int32, y = if mOf (Gm S) l r = 1 then 1 else 0 := ⟨_, rfl⟩
    obtain ⟨S2, e2⟩ : ∃ z, z = sI (sI S1 23 (S1.1 23 + x)) 24 ((sI S1 23 (S1.1 23 + x)).1 24 + y) := ⟨_, rfl⟩
    have f2 : Fr S1 S2 [23, 24] [] := by rw [e2]; exact (Fr.I (by decide)).trans (Fr.I (by decide))
    obtain ⟨q2, m2⟩ := p3.of f2 (by decide) (by decide)
    have k2 : gK S2 = gK S1 := congrArg Prod.fst m2
    obtain ⟨S', b1, b2, b3, b4, b5⟩ := er S2 s1 q2 (by rw [m2]; exact v1) (by rw [m2, Rm.of (f2.1 28 (by decide)) (f2.2.1 27 (by decide))]; exact cv) (p4.of (f2.1 28 (by decide)) (f2.2.1 27 (by decide))) p5 (by rw [k2]; omega) (by rw [f2.1 26 (by decide), p2.1 26 (by decide)]; exact h26)
    refine ⟨S', Gm S1, ?_, Or.inl ⟨c1, p6⟩, v1, by rw [← m2]; exact b2, b3, by rw [k2] at b4; exact b4, ?_, ?_, ?_, ?_, ?_⟩
    · have e42 : ∀ z : Int32, z = x → fX8_meet_42 N S1 (nI (mOf (Gm S) l r)) (S1.1 23) z = some S' := by
        intro z hz
        unfold fX8_meet_42
        rw [bnd_eq, hz]
        unfold fX8_meet_61
        by_cases d : mOf (Gm S) l r = 1
        · rw [if_pos d] at ey
          rw [if_pos (by rw [d]; rfl), bnd_eq, ← ey, ← e2]
          exact b1
        · rw [if_neg d] at ey
          rw [if_neg (fun q => d ((nI_eq (by omega) (by omega)).mp (q.trans (show (1 : Int32) = nI 1 from rfl)))), bnd_eq, ← ey, ← e2]
          exact b1
      by_cases d : mOf (Gm S) l r = 0
      · rw [if_pos (by rw [d]; rfl)]
        exact e42 1 (by rw [ex, if_pos d])
      · rw [if_neg (fun q => d ((nI_eq (by omega) (by omega)).mp (q.trans (show (0 : Int32) = nI 0 from rfl))))]
        exact e42 0 (by rw [ex, if_neg d])
    · rw [if_neg c2]
      have e : (Gm S1).1 = gK S1 := rfl
      rw [e]
      omega
    · rw [b5.1 23 (by decide), e2]
      show S1.1 23 + x = _
      rw [p2.1 23 (by decide), ex]
    · rw [b5.1 24 (by decide), e2]
      show S1.1 24 + y = _
      rw [p2.1 24 (by decide), ey]
    · rw [if_neg c2, b5.1 25 (by decide), f2.1 25 (by decide), p2.1 25 (by decide)]
      exact (Int32.add_zero _).symm
    · exact ((p2.mono (by decide) (by decide)).trans (f2.mono (by decide) (fun _ h => (List.not_mem_nil h).elim))).trans (b5.mono (by decide) (by decide))
