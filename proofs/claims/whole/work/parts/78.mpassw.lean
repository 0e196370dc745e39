/-! the reference: passing, its loops -/
theorem nI_p3 (k : Nat) : (3 : Int32) + nI k = nI (3 + k) := by rw [show (3 : Int32) = nI 3 from rfl, nI_add]
theorem X8_passC {S0 : St} {N c u s : Nat} {o : Nat → Nat} {x7 : Int32} (hc : isC (gK S0 c)) (hc3 : c < 3010) (hu : gK S0 u < 5) (hx7 : gK S0 c = 2 → x7 = nI (o 2)) (hs : s + 4 ≤ 12000) : ∀ (d k f : Nat) (S : St) (y : Nat → Nat), k + d = nP (gK S0 u) → d < f → 0 < k → CI S0 S c u o y k s → cntA 3010 (gK S) + d ≤ 3010 →
    ∃ S1 y1, loopN (fun k x => fX8_pass_116s N k x.1 x.2.1 x.2.2.1 x.2.2.2.1 x.2.2.2.2.1 x.2.2.2.2.2.1 x.2.2.2.2.2.2.1 x.2.2.2.2.2.2.2) f (S, nI c, nI u, nI (gK S0 c), nI (nP (gK S0 u)), nI (o 1), x7, nI k) = fX8_pass_197 N (S1, nI c, nI u, nI (gK S0 c), nI (nP (gK S0 u)), 1) ∧ CI S0 S1 c u o y1 (nP (gK S0 u)) s ∧ cntA 3010 (gK S1) = cntA 3010 (gK S) + d ∧ cntL 3010 (gK S1) = cntL 3010 (gK S) + d := by
  intro d
  have n3 := nP_le (gK S0 u)
  induction d with
  | zero =>
    intro k f S y hk hf k0 h hA
    obtain ⟨f, rfl⟩ : ∃ f', f = f' + 1 := ⟨f - 1, by omega⟩
    have hk : k = nP (gK S0 u) := by omega
    refine ⟨S, y, ?_, by rw [← hk]; exact h, by rw [Nat.add_zero], by rw [Nat.add_zero]⟩
    show fX8_pass_116s N _ S (nI c) (nI u) (nI (gK S0 c)) (nI (nP (gK S0 u))) (nI (o 1)) x7 (nI k) = _
    unfold fX8_pass_116s
    rw [if_pos (nI_le (by omega) (by omega)), bnd_eq]
  | succ d ih =>
    intro k f S y hk hf k0 h hA
    obtain ⟨f, rfl⟩ : ∃ f', f = f' + 1 := ⟨f - 1, by omega⟩
    obtain ⟨S8, v, S9, e1, e2, e3, S11, e4, e5, e6⟩ := X8_passC1 (N := N) hc hc3 hu (by omega) k0 h (by omega) hs
    have run : ∀ K : St → Option St, (bd2 (fX8_node N S (nI (gK S0 c)) (S.2.1 18 c)) fun v4 S6 => ckx ((3 : Int32) + nI k) 6 <| bnd (sA S6 34 (upd (S6.2.1 34) ((3 : Int32) + nI k).toNatClampNeg ((3 : Int32) * v4))) fun S8 => bdo (fX8_wire N S8 ((3 : Int32) * nI (o 1) + nI k) ((3 : Int32) * v4 + 1)) fun S11 => if nI (gK S0 c) = 2 then bdo (fX8_wire N S11 ((3 : Int32) * x7 + nI k) ((3 : Int32) * v4 + 2)) fun S15 => K S15 else K S11) = if nI (gK S0 c) = 2 then bdo (fX8_wire N S11 ((3 : Int32) * x7 + nI k) (nI (3 * v + 2))) fun S15 => K S15 else K S11 := by
      intro K
      rw [bd2_ok e1, nI_p3, ckx_ok (vp_in_nI (by omega) (by omega)), bnd_eq, nI_clamp (by omega), nI_m3, ← e3, nI_m3, nI_add, nI_1, bdo_ok e4, show (2 : Int32) = nI 2 from rfl, nI_add]
    obtain ⟨L, eL⟩ : ∃ L, L = loopN (fun k x => fX8_pass_116s N k x.1 x.2.1 x.2.2.1 x.2.2.2.1 x.2.2.2.2.1 x.2.2.2.2.2.1 x.2.2.2.2.2.2.1 x.2.2.2.2.2.2.2) f := ⟨_, rfl⟩
    have fin : ∀ S2, CI S0 S2 c u o (updN y k v) (k + 1) s → cntA 3010 (gK S2) = cntA 3010 (gK S) + 1 → cntL 3010 (gK S2) = cntL 3010 (gK S) + 1 → (if nI (gK S0 c) = 2 then bdo (fX8_wire N S11 ((3 : Int32) * x7 + nI k) (nI (3 * v + 2))) fun S15 => fX8_pass_188 N L S15 (nI c) (nI u) (nI (gK S0 c)) (nI (nP (gK S0 u))) (nI (o 1)) x7 (nI k) else fX8_pass_188 N L S11 (nI c) (nI u) (nI (gK S0 c)) (nI (nP (gK S0 u))) (nI (o 1)) x7 (nI k)) = fX8_pass_188 N L S2 (nI c) (nI u) (nI (gK S0 c)) (nI (nP (gK S0 u))) (nI (o 1)) x7 (nI k) → ∃ S1 y1, loopN (fun k x => fX8_pass_116s N k x.1 x.2.1 x.2.2.1 x.2.2.2.1 x.2.2.2.2.1 x.2.2.2.2.2.1 x.2.2.2.2.2.2.1 x.2.2.2.2.2.2.2) (f + 1) (S, nI c, nI u, nI (gK S0 c), nI (nP (gK S0 u)), nI (o 1), x7, nI k) = fX8_pass_197 N (S1, nI c, nI u, nI (gK S0 c), nI (nP (gK S0 u)), 1) ∧ CI S0 S1 c u o y1 (nP (gK S0 u)) s ∧ cntA 3010 (gK S1) = cntA 3010 (gK S) + (d + 1) ∧ cntL 3010 (gK S1) = cntL 3010 (gK S) + (d + 1) := by
      intro S2 i1 i2 i3 e
      obtain ⟨S1, y1, a1, a2, a3, a4⟩ := ih (k + 1) f S2 (updN y k v) (by omega) (by omega) (by omega) i1 (by omega)
      refine ⟨S1, y1, ?_, a2, by omega, by omega⟩
      rw [← a1]
      show fX8_pass_116s N (loopN (fun k x => fX8_pass_116s N k x.1 x.2.1 x.2.2.1 x.2.2.2.1 x.2.2.2.2.1 x.2.2.2.2.2.1 x.2.2.2.2.2.2.1 x.2.2.2.2.2.2.2) f) S (nI c) (nI u) (nI (gK S0 c)) (nI (nP (gK S0 u))) (nI (o 1)) x7 (nI k) = _
      rw [← eL]
      unfold fX8_pass_116s
      rw [if_neg (fun q => absurd ((nI_leI (by omega) (by omega)).mp q) (by omega)), ckx_ok (vp_in_nI (by omega) (by omega)), nI_clamp (by omega), run, e]
      unfold fX8_pass_188
      rw [bnd_eq, nI_1]
    by_cases c2 : gK S0 c = 2
    · obtain ⟨S15, b1, b2, b3, b4⟩ := e6 c2
      refine fin S15 b2 b3 b4 ?_
      rw [if_pos (by rw [c2]; rfl), hx7 c2, nI_m3, nI_add, bdo_ok b1]
    · obtain ⟨b2, b3, b4⟩ := e5 c2
      refine fin S11 b2 b3 b4 ?_
      rw [if_neg (fun q => c2 ((nI_eq (by rcases hc with e | e | e <;> omega) (by omega)).mp (q.trans (show (2 : Int32) = nI 2 from rfl))))]
/-- in the middle of the wiring; Dn: the ports that are done -/
def DI (S0 S1 S : St) (c u : Nat) (o lk : Nat → Nat) (Dn : Nat → Nat → Prop) (s : Nat) : Prop := GM S ∧ RsR S s ∧ Fr S1 S [28] [19, 27] ∧
  (∀ k, k < 3 → (gV S c k = gV S0 c k ∧ gP S c k = gP S0 c k) ∧ (gV S u k = gV S0 u k ∧ gP S u k = gP S0 u k)) ∧
  (∀ a j, auxC (gK S0 c) a → 0 < j → j < nP (gK S0 u) → (gV S (o a) j = lk j ∧ gP S (o a) j = a) ∧ (gV S (lk j) a = o a ∧ gP S (lk j) a = j)) ∧
  (∀ v k, kpt 3010 (Gm S0) c u v k → Dn v k → (gV S (stn c u o lk (v, k)).1 (stn c u o lk (v, k)).2, gP S (stn c u o lk (v, k)).1 (stn c u o lk (v, k)).2) = stn c u o lk (gV S0 v k, gP S0 v k)) ∧
  (∀ e, e < 3010 → gK S0 e = 5 → (gV S0 e 0 = c ∨ gV S0 e 0 = u) → Dn e 0 → Rm S e)
/-- where a kept port is -/
theorem stn_cls {S0 : St} {c u : Nat} {o lk : Nat → Nat} (hc : isC (gK S0 c)) (hF : FRS 3010 (Gm S0) c u o lk) {v k : Nat} (h : kpt 3010 (Gm S0) c u v k) : (stn c u o lk (v, k)).1 < 3010 ∧ (stn c u o lk (v, k)).2 < 3 ∧ (((stn c u o lk (v, k)).2 = 0 ∧ gK S0 (stn c u o lk (v, k)).1 = 7) ∨ (v ≠ c ∧ v ≠ u ∧ stn c u o lk (v, k) = (v, k) ∧ gK S0 v < 7)) := by
  obtain ⟨hv, hk, m1, m2⟩ := h
  have hk' : k < nP (gK S0 v) := hk
  have v7 := nP_7 (Nat.lt_of_le_of_lt (Nat.zero_le _) hk')
  by_cases c1 : v = c
  · subst c1
    rw [stn_c]
    have ha := aux_of hc (fun q => m1 ⟨rfl, q⟩) hk'
    exact ⟨(hF.1 k ha).1, by show 0 < 3; decide, Or.inl ⟨rfl, (hF.1 k ha).2⟩⟩
  · by_cases c2 : v = u
    · subst c2
      rw [stn_u (fun q => c1 q.symm)]
      have h0 : 0 < k := Nat.pos_of_ne_zero (fun q => m2 ⟨rfl, q⟩)
      exact ⟨(hF.2.1 k h0 hk).1, by show 0 < 3; decide, Or.inl ⟨rfl, (hF.2.1 k h0 hk).2⟩⟩
    · rw [stn_o c1 c2]
      exact ⟨hv, Nat.lt_of_lt_of_le hk' (nP_le _), Or.inr ⟨c1, c2, rfl, v7⟩⟩
theorem X8_pw {S0 S1 S : St} {N c u s t1 t2 : Nat} {o lk : Nat → Nat} {Dn : Nat → Nat → Prop} (hV : GVr 3010 (Gm S0)) (hcu : gV S0 c 0 = u ∧ gP S0 c 0 = 0 ∧ gV S0 u 0 = c ∧ gP S0 u 0 = 0) (hc : isC (gK S0 c)) (hu : gK S0 u < 5) (hF : FRS 3010 (Gm S0) c u o lk) (hK1 : ∀ w, gK S0 w < 7 → gK S1 w = gK S0 w) (ht : kpt 3010 (Gm S0) c u t1 t2) (htc : t1 = c ∨ t1 = u) (h : DI S0 S1 S c u o lk Dn s) (hs : s + 2 ≤ 12000) :
    ∃ S' s', fX8_wire N S (nI (3 * (stn c u o lk (t1, t2)).1 + (stn c u o lk (t1, t2)).2)) (nI (3 * (stn c u o lk (gV S0 t1 t2, gP S0 t1 t2)).1 + (stn c u o lk (gV S0 t1 t2, gP S0 t1 t2)).2)) = some S' ∧ DI S0 S1 S' c u o lk (fun v k => Dn v k ∨ (v = t1 ∧ k = t2) ∨ (v = gV S0 t1 t2 ∧ k = gP S0 t1 t2)) s' ∧ s' ≤ s + 2 := by
  obtain ⟨h1, h2, h3, h4, h5, h6, h7⟩ := h
  obtain ⟨hw, iw1, iw2⟩ := kpt.w hV hcu ht
  have hw : kpt 3010 (Gm S0) c u (gV S0 t1 t2) (gP S0 t1 t2) := hw
  have iw1 : gV S0 (gV S0 t1 t2) (gP S0 t1 t2) = t1 := iw1
  have iw2 : gP S0 (gV S0 t1 t2) (gP S0 t1 t2) = t2 := iw2
  obtain ⟨a1, a2, a3⟩ := stn_cls hc hF ht
  obtain ⟨b1, b2, b3⟩ := stn_cls hc hF hw
  obtain ⟨w1, e1⟩ : ∃ w, w = gV S0 t1 t2 := ⟨_, rfl⟩
  obtain ⟨w2, e2⟩ : ∃ w, w = gP S0 t1 t2 := ⟨_, rfl⟩
  rw [← e1, ← e2] at hw iw1 iw2 b1 b2 b3
  rw [← e1, ← e2]
  have c7 : gK S0 c < 7 := by rcases hc with e | e | e <;> omega
  have u7 : gK S0 u < 7 := by omega
  obtain ⟨S', s', t1', t2', t3, t4, t5, t6, -, t7, t8, t9⟩ := X8_wire (N := N) h1 h2 a1 a2 b1 b2 hs
  have W := mw_of t4
  refine ⟨S', s', t1', ⟨t3, t5, h3.trans t2', fun k hk => ?_, fun a j ha j0 hj => ?_, fun v k hv hd => ?_, fun e he h5 hin hd => ?_⟩, t6⟩
  · have off : ∀ x, x = c ∨ x = u → (¬ (x = (stn c u o lk (w1, w2)).1 ∧ k = (stn c u o lk (w1, w2)).2)) ∧ ¬ (x = (stn c u o lk (t1, t2)).1 ∧ k = (stn c u o lk (t1, t2)).2) := by
      intro x hx
      have x7 : gK S0 x < 7 := by rcases hx with q | q <;> rw [q] <;> assumption
      refine ⟨fun q => ?_, fun q => ?_⟩
      · rcases b3 with ⟨-, z⟩ | ⟨z1, z2, z3, -⟩
        · rw [← q.1] at z; omega
        · rw [z3] at q
          rcases hx with y | y
          · exact z1 (q.1.symm.trans y)
          · exact z2 (q.1.symm.trans y)
      · rcases a3 with ⟨-, z⟩ | ⟨z1, z2, z3, -⟩
        · rw [← q.1] at z; omega
        · rw [z3] at q
          rcases hx with y | y
          · exact z1 (q.1.symm.trans y)
          · exact z2 (q.1.symm.trans y)
    obtain ⟨d1, d2⟩ := W c k hk
    obtain ⟨d3, d4⟩ := W u k hk
    rw [if_neg (off c (Or.inl rfl)).1, if_neg (off c (Or.inl rfl)).2] at d1 d2
    rw [if_neg (off u (Or.inr rfl)).1, if_neg (off u (Or.inr rfl)).2] at d3 d4
    rw [d1, d2, d3, d4]
    exact h4 k hk
  · have a03 : 0 < a ∧ a < 3 := by rcases ha with q | q <;> omega
    have j3 : j < 3 := Nat.lt_of_lt_of_le hj (nP_le _)
    have off : ∀ x i, gK S0 x = 7 → 0 < i → (¬ (x = (stn c u o lk (w1, w2)).1 ∧ i = (stn c u o lk (w1, w2)).2)) ∧ ¬ (x = (stn c u o lk (t1, t2)).1 ∧ i = (stn c u o lk (t1, t2)).2) := by
      intro x i x7 i0
      refine ⟨fun q => ?_, fun q => ?_⟩
      · rcases b3 with ⟨z, -⟩ | ⟨-, -, z3, z4⟩
        · omega
        · rw [z3] at q
          have q1 : x = w1 := q.1
          rw [← q1] at z4; omega
      · rcases a3 with ⟨z, -⟩ | ⟨-, -, z3, z4⟩
        · omega
        · rw [z3] at q
          have q1 : x = t1 := q.1
          rw [← q1] at z4; omega
    obtain ⟨d1, d2⟩ := W (o a) j j3
    obtain ⟨d3, d4⟩ := W (lk j) a a03.2
    have oo := off (o a) j (hF.1 a ha).2 j0
    have ll := off (lk j) a (hF.2.1 j j0 hj).2 a03.1
    rw [if_neg oo.1, if_neg oo.2] at d1 d2
    rw [if_neg ll.1, if_neg ll.2] at d3 d4
    rw [d1, d2, d3, d4]
    exact h5 a j ha j0 hj
  · obtain ⟨p1, p2, p3⟩ := stn_cls hc hF hv
    obtain ⟨d1, d2⟩ := W (stn c u o lk (v, k)).1 (stn c u o lk (v, k)).2 p2
    rw [d1, d2]
    by_cases z1 : (stn c u o lk (v, k)).1 = (stn c u o lk (w1, w2)).1 ∧ (stn c u o lk (v, k)).2 = (stn c u o lk (w1, w2)).2
    · rw [if_pos z1, if_pos z1]
      obtain ⟨y1, y2⟩ := stn_inj hc hF hv hw (Prod.ext z1.1 z1.2)
      rw [y1, y2, iw1, iw2]
    · rw [if_neg z1, if_neg z1]
      by_cases z2 : (stn c u o lk (v, k)).1 = (stn c u o lk (t1, t2)).1 ∧ (stn c u o lk (v, k)).2 = (stn c u o lk (t1, t2)).2
      · rw [if_pos z2, if_pos z2]
        obtain ⟨y1, y2⟩ := stn_inj hc hF hv ht (Prod.ext z2.1 z2.2)
        rw [y1, y2, ← e1, ← e2]
      · rw [if_neg z2, if_neg z2]
        refine h6 v k hv ?_
        rcases hd with q | q | q
        · exact q
        · exact absurd (by rw [q.1, q.2]; exact ⟨rfl, rfl⟩) z2
        · exact absurd (by rw [q.1, q.2]; exact ⟨rfl, rfl⟩) z1
  · rcases hd with q | q | q
    · exact t7 _ (h7 e he h5 hin q)
    · exfalso
      rw [q.1] at h5
      rcases htc with z | z
      · rw [z] at h5; rcases hc with y | y | y <;> omega
      · rw [z] at h5; omega
    · have ec : e ≠ c := fun y => by rw [y] at h5; rcases hc with z | z | z <;> omega
      have eu : e ≠ u := fun y => by rw [y] at h5; omega
      refine (show (stn c u o lk (w1, w2)).1 = e from ?_) ▸ t9 ?_
      · rw [← q.1, stn_o ec eu]
      · rw [← q.1, stn_o ec eu]
        show gK S e = 5
        have : gK S e = gK S1 e := by unfold gK; rw [h3.2.1 17 (by decide)]
        rw [this, hK1 e (by omega)]
        exact h5
theorem X8_stands {S0 S : St} {N c u x j : Nat} {o lk : Nat → Nat} (h32 : S.1 32 = nI c) (h33 : S.1 33 = nI u) (hc3 : c < 3010) (hu3 : u < 3010) (hc : isC (gK S0 c)) (ne : c ≠ u) (hi1 : ∀ a, auxC (gK S0 c) a → S.2.1 34 a = nI (3 * o a)) (hi2 : ∀ j, 0 < j → j < nP (gK S0 u) → S.2.1 34 (3 + j) = nI (3 * lk j)) (h : kpt 3010 (Gm S0) c u x j) : fX8_stands N S (nI (3 * x + j)) = some (nI (3 * (stn c u o lk (x, j)).1 + (stn c u o lk (x, j)).2), S) := by
  obtain ⟨hx, hj, m1, m2⟩ := h
  have hj : j < nP (gK S0 x) := hj
  have j3 : j < 3 := Nat.lt_of_lt_of_le hj (nP_le _)
  unfold fX8_stands
  have d3 : nI (3 * x + j) / nI 3 = nI x := by rw [pk_div (by omega) (by omega) (by omega), show (3 * x + j) / 3 = x by omega]
  have r3 : nI (3 * x + j) - nI x * nI 3 = nI j := by rw [pk_mul, pk_sub (by omega), show 3 * x + j - x * 3 = j by omega]
  rw [h32, h33, show (3 : Int32) = nI 3 from rfl, d3, r3]
  by_cases c1 : x = c
  · subst c1
    rw [if_pos rfl, ckx_ok (vp_in_nI (by omega) (by omega)), nI_clamp (by omega), hi1 j (aux_of hc (fun q => m1 ⟨rfl, q⟩) hj), stn_c]
    rfl
  · rw [if_neg (fun q => c1 ((nI_eq (by omega) (by omega)).mp q))]
    by_cases c2 : x = u
    · subst c2
      rw [if_pos rfl, nI_add, ckx_ok (vp_in_nI (by omega) (by omega)), nI_clamp (by omega), hi2 j (Nat.pos_of_ne_zero (fun q => m2 ⟨rfl, q⟩)) hj, stn_u ne]
      rfl
    · rw [if_neg (fun q => c2 ((nI_eq (by omega) (by omega)).mp q)), stn_o c1 c2]
