/-! both programs take a term -/
theorem LK.wi {S S' M : St} {φ ψ : Nat → Nat} {is as : List Nat} (h : LK S M φ ψ) (hf : FrW S S' is as) (h1 : 44 ∉ is ∧ 48 ∉ is) (h2 : 40 ∉ as ∧ 41 ∉ as ∧ 42 ∉ as ∧ 43 ∉ as ∧ 45 ∉ as ∧ 46 ∉ as ∧ 47 ∉ as) (h3 : 61 ∉ is ∧ 62 ∉ is ∧ 63 ∉ is ∧ 49 ∉ is) : LK S' M φ ψ := by
  obtain ⟨g1, g2, g3, g4, g5, g6, g7, a, g8, g9⟩ := h
  obtain ⟨b, c⟩ := g1.w hf h1 h2
  exact ⟨b, g2, by rw [c]; exact g3, by rw [c]; exact g4, by rw [hf.1 61 h3.1]; exact g5, by rw [hf.1 62 h3.2.1]; exact g6, by rw [hf.1 63 h3.2.2.1]; exact g7, a, by rw [hf.1 49 h3.2.2.2]; exact g8, g9⟩
theorem B_take {S M : St} {N w bn : Nat} (hN : Big N) (hS : WiC S) (hM : WiM M) (hT : TR S M w bn) :
    ∃ S' M', fX7_takeTerm N S = some S' ∧ fX8_begin N M (nI (w - 1)) = some M' ∧ LK S' M' id id ∧ (∃ L, LbG 3002 (Gc S') L) ∧ S'.1 143 = 0 ∧ M'.1 47 = 0 ∧ FrT S S' ∧ Fr M M' [21, 22, 23, 24, 25, 26, 28, 47] [17, 18, 19, 20, 27, 29, 30, 31] := by
  have hb := hN
  unfold Big at hb
  obtain ⟨wd, xh, us, v, w83, w1, w2, m14, hwd, hrun, hv, hu⟩ := hT
  obtain ⟨S1, a1, a2, s44, s48, s49, s45, sAr⟩ := X2_clear (S := S) hN
  obtain ⟨S2, e2⟩ : ∃ z, z = sI (sI (sI S1 61 0) 62 0) 63 0 := ⟨_, rfl⟩
  obtain ⟨S3, e3⟩ : ∃ z, z = sI S2 3 0 := ⟨_, rfl⟩
  have f13 : Fr S1 S3 [3, 61, 62, 63] [] := by
    rw [e3, e2]
    exact (((Fr.I (by decide)).trans (Fr.I (by decide))).trans (Fr.I (by decide))).trans (Fr.I (by decide))
  have F3 : FrT S S3 := (a2.t (by decide) (by decide)).trans (f13.t (by decide) (by decide))
  have z61 : S3.1 61 = 0 ∧ S3.1 62 = 0 ∧ S3.1 63 = 0 ∧ S3.1 3 = nI 0 := by
    rw [e3, e2, sI_ne (by decide), sI_ne (by decide), sI_ne (by decide), sI_at, sI_ne (by decide), sI_ne (by decide), sI_at, sI_ne (by decide), sI_at, sI_at]
    exact ⟨rfl, rfl, rfl, rfl⟩
  obtain ⟨M1, b1, b2, m21, mA⟩ := BM_loop (N := N) (top := w - 1) 3010 (sI M 21 0) N (by omega) (by omega) sI_at (fun i hi => absurd hi (by omega))
  obtain ⟨M2, em2⟩ : ∃ z, z = sI (sI (sI (sI (sI (sI (sI M1 22 0) 23 0) 24 0) 25 0) 26 0) 28 0) 47 0 := ⟨_, rfl⟩
  have fm12 : Fr M1 M2 [22, 23, 24, 25, 26, 28, 47] [] := by
    rw [em2]
    exact ((((((Fr.I (by decide)).trans (Fr.I (by decide))).trans (Fr.I (by decide))).trans (Fr.I (by decide))).trans (Fr.I (by decide))).trans (Fr.I (by decide))).trans (Fr.I (by decide))
  have zm : M2.1 22 = 0 ∧ M2.1 23 = 0 ∧ M2.1 24 = 0 ∧ M2.1 25 = 0 ∧ M2.1 26 = 0 ∧ M2.1 28 = 0 ∧ M2.1 47 = 0 := by
    rw [em2]
    refine ⟨?_, ?_, ?_, ?_, ?_, ?_, ?_⟩
    · rw [sI_ne (by decide), sI_ne (by decide), sI_ne (by decide), sI_ne (by decide), sI_ne (by decide), sI_ne (by decide), sI_at]
    · rw [sI_ne (by decide), sI_ne (by decide), sI_ne (by decide), sI_ne (by decide), sI_ne (by decide), sI_at]
    · rw [sI_ne (by decide), sI_ne (by decide), sI_ne (by decide), sI_ne (by decide), sI_at]
    · rw [sI_ne (by decide), sI_ne (by decide), sI_ne (by decide), sI_at]
    · rw [sI_ne (by decide), sI_ne (by decide), sI_at]
    · rw [sI_ne (by decide), sI_at]
    · rw [sI_at]
  have Fm2 : Fr M M2 [21, 22, 23, 24, 25, 26, 28, 47] [17, 18, 19, 20, 27, 29, 30, 31] := (Fr.trans (Fr.I (by decide)) (b2.mono (by decide) (by decide))).trans (fm12.mono (by decide) (by decide))
  have Fm2' : Fr M M2 [21, 22, 23, 24, 25, 26, 28, 47] [17, 20] := (Fr.trans (Fr.I (by decide)) (b2.mono (by decide) (by decide))).trans (fm12.mono (by decide) (by decide))
  have wS3 : WiC S3 := by
    have : cW S3 = cW S := by funext p; unfold cW; rw [f13.2.1 42 (by decide), a2.2.1 42 (by decide)]
    intro p hp
    rw [this, f13.2.1 42 (by decide), a2.2.1 42 (by decide)]
    exact hS p hp
  have wM2 : WiM M2 := by
    have g1 : gX M2 = gX M := by funext p; unfold gX; rw [Fm2'.2.1 18 (by decide)]
    have g2 : gW M2 = gW M := by funext p; unfold gW; rw [Fm2'.2.1 19 (by decide)]
    unfold WiM
    rw [g1, g2, Fm2'.2.1 18 (by decide), Fm2'.2.1 19 (by decide)]
    exact hM
  have B0 := BG_0 (xh := xh) (be := fun _ => 0) (U := fun j => j ∈ ([] : List Nat)) wS3 wM2 (by rw [f13.1 44 (by decide)]; exact s44) (by rw [f13.1 48 (by decide)]; exact s48) (fun j hj => by rw [f13.2.1 45 (by decide)]; exact s45 j hj) (fun j hj => by rw [f13.2.1 40 (by decide), f13.2.1 47 (by decide), f13.2.1 43 (by decide)]; exact sAr j hj) (by rw [fm12.1 21 (by decide)]; exact m21) zm.1 zm.2.2.2.2.2.1 (fun i hi => by rw [fm12.2.1 20 (by decide), fm12.2.1 17 (by decide)]; exact mA i hi)
  obtain ⟨S4, M4, c1, c2, c3, c4, c5, c6⟩ := BG_make (N := N) (be' := fun _ => 0) (U' := fun j => j ∈ ([] : List Nat)) (k := 6) (y := 0) (x := -1) B0 (by omega) (by decide) (fun q => absurd q (by decide)) (by omega) (fun _ => 0) (fun _ _ => False) (fun j q => ⟨q, rfl⟩) (fun G g1 g2 => by
    refine ⟨?_, ?_⟩
    · unfold LbN
      rw [g1]
      simp
    · unfold EnN isC
      rw [g1]
      simp)
  obtain ⟨M5, em5⟩ : ∃ z, z = sA M4 30 (upd (M4.2.1 30) (w - 1) 0) := ⟨_, rfl⟩
  have fm25 : Fr M2 M5 [21, 22] [17, 18, 30] := by
    rw [em5]
    exact (c4.mono (by decide) (by decide)).trans (Fr.A (by decide))
  have f34 : FrT S3 S4 := c3.t (by decide) (by decide)
  have F4 : FrT S S4 := F3.trans f34
  have Fm5 : Fr M M5 [21, 22, 23, 24, 25, 26, 28, 47] [17, 18, 19, 20, 27, 29, 30, 31] := Fm2.trans (fm25.mono (by decide) (by decide))
  obtain ⟨par1, par2⟩ := hrun.par
  obtain ⟨len1, len2, len3⟩ := hrun.len
  have top0 : (wd (w - 1)).2.1 = 0 := (len3 _ (List.mem_singleton.mpr rfl)).2.symm
  obtain ⟨M6, i1, i2, i3⟩ := IX_pass (N := N) (top := w - 1) (wd := wd) (by omega) (fun q hq => par2 q (by omega)) (fun j hj => by
    rcases par1 j (by omega) with ⟨it, q1, q2⟩ | ⟨q, q1, q2, q3⟩
    · rw [List.mem_singleton.mp q1] at q2
      exact Or.inl q2.symm
    · exact Or.inr ⟨q, q1, by omega, q3⟩) w M5 N (by omega) (by omega) (fun k hk => by
    obtain ⟨y1, y2, y3, y4, y5, y6⟩ := hwd k (by omega)
    exact ⟨by rw [Fm5.2.1 3 (by decide)]; exact y4, by rw [Fm5.2.1 4 (by decide)]; exact y5, by rw [Fm5.2.1 5 (by decide)]; exact y6⟩) (fun j hj q => by
    rcases q with q | ⟨q, q1, q2, -⟩
    · rw [em5, sA_at, upd_at, if_pos q, q, top0]; rfl
    · omega)
  have Fm6 : Fr M M6 [21, 22, 23, 24, 25, 26, 28, 47] [17, 18, 19, 20, 27, 29, 30, 31] := Fm5.trans (i2.mono (by decide) (by decide))
  have k40 : cK S4 0 = 6 := by rw [c5, updN_at, if_pos rfl]
  have hBS : BS S4 M6 1 0 bn [] (fun v p => if v = 0 then (fun _ => 0) p else (fun _ _ => 0) v p) (fun v p => if v = 0 then (fun _ _ => False) p else (fun _ _ _ => False) v p) (fun _ _ => (1000, 0)) xh (fun _ => 0) (fun j => j ∈ ([] : List Nat)) := by
    obtain ⟨z1, z2⟩ := c6.of (S' := S4) (M' := M6) (fun k hk => rfl) (fun k hk => rfl) (fun k hk => by
      rw [i2.1 k (by intro q; cases q), em5]; rfl) (fun k hk => by
      have : k ≠ 30 := fun z => by rw [z] at hk; exact absurd hk (by decide)
      rw [i2.2.1 k (fun z => this (List.mem_singleton.mp z)), em5, sA_ne this])
    have eD : (fun v p => (fun _ _ => False) v p ∨ (v = 0 ∧ p < nP 6)) = Dst [] := by
      funext v p
      refine propext ⟨fun q => ?_, fun q => ?_⟩
      · rcases q with q | ⟨q1, q2⟩
        · exact q.elim
        · have q2 : p < 1 := q2
          exact Or.inl ⟨q1, by omega⟩
      · rcases q with ⟨q1, q2⟩ | ⟨it, q1, -⟩
        · exact Or.inr ⟨q1, by rw [q2]; decide⟩
        · exact (List.not_mem_nil q1).elim
    rw [eD] at z1
    exact ⟨z1, trivial, by rw [c3.1 3 (by decide)]; exact z61.2.2.2, by rw [Fm6.1 14 (by decide)]; exact m14, by omega, Nat.le_refl _, k40, rfl, fun i q => q, rfl⟩
  have wd4 : ∀ k, k < w → WdR S4 M6 k (wd k) := fun k hk => by
    obtain ⟨y1, y2, y3, y4, y5, y6⟩ := hwd k hk
    exact ⟨by rw [F4.2.1 80 (by decide)]; exact y1, by rw [F4.2.1 81 (by decide)]; exact y2, fun q => by rw [F4.2.1 82 (by decide)]; exact y3 q, by rw [Fm6.2.1 3 (by decide)]; exact y4, by rw [Fm6.2.1 4 (by decide)]; exact y5, by rw [Fm6.2.1 5 (by decide)]; exact y6⟩
  obtain ⟨S7, M7, n, c, lab, E, tag, be, its, d1, d2, d3, d4, d5, d6, d7, d8⟩ := B_words (N := N) (top := w - 1) (wd := wd) hN hBS (by rw [F4.1 83 (by decide)]; exact w83) w2 (by omega) wd4 (fun k hk => i3 k (by omega)) w _ us v (Nat.le_refl _) hrun hv hu
  obtain ⟨it, r', e7, e8, e9⟩ := its_cons d6
  have r0 : r' = [] := by
    cases r' with
    | nil => rfl
    | cons a b => cases e9
  subst r0
  subst e7
  obtain ⟨g1, ⟨⟨h1, h2, h3, h4, h5, h6, h7, h8, h9⟩, -⟩, g3, g4, g5, g6, k0, l0, e0, t0⟩ := d5
  obtain ⟨p1, p2, p3, p4, p5, p6⟩ := h4
  have it1 : it.1 = 0 := congrArg (fun x : SI => x.1) e8
  have it2 : it.2.1 = [] := congrArg (fun x : SI => x.2.1) e8
  have it3 : it.2.2.1 = w - 1 := congrArg (fun x : SI => x.2.2) e8
  have nn : ∀ i, it.2.2.2.2 i = none := fun i => by
    cases e : it.2.2.2.2 i with
    | none => rfl
    | some p =>
      exfalso
      obtain ⟨s, hs⟩ := (h5 i p e).2.2.2.2.2.2.2
      rw [it2] at hs
      exact List.not_mem_nil hs
  have rm : (v - [((0 : Nat), ([] : Sc), w - 1)].length) * (1 + bn) ≤ 1700 := by
    have r1 : (v - [((0 : Nat), ([] : Sc), w - 1)].length) * (1 + bn) ≤ v * (81 - v) := Nat.mul_le_mul (Nat.sub_le _ _) (by omega)
    exact Nat.le_trans r1 (names_room v (by omega))
  have rp0 : ¬ (it.2.2.2.1.1 = 0 ∧ it.2.2.2.1.2 = 0) := fun z => by
    rw [z.1, z.2, t0] at p3
    exact absurd (congrArg Prod.fst p3) (by show ¬ 1000 = 0; omega)
  obtain ⟨S8, M8, c', j1, j2, j3, j4, j5, j6, j7, j8⟩ := BG_link (N := N) (a := 0) (i := 0) (b := it.2.2.2.1.1) (j := it.2.2.2.1.2) g1 (by omega) (Or.inl ⟨rfl, rfl⟩) (Or.inr ⟨it, List.mem_singleton.mpr rfl, Or.inl rfl⟩) (fun z => rp0 ⟨z.1.symm, z.2.symm⟩) (by rw [l0, p4, it1]) (fun t => by
      rw [p6 t, nn t]
      exact ⟨fun q => absurd q (e0 t), fun q => absurd rfl q⟩) (by
      rw [k0]
      exact ⟨fun _ => p5, fun _ => Or.inr (Or.inr ⟨by omega, rfl⟩)⟩)
  have cc : c' = c := j7 (by rw [k0]; decide) (out_5 p2 p5)
  have eD : (fun v p => Dst [it] v p ∧ ¬ (v = 0 ∧ p = 0) ∧ ¬ (v = it.2.2.2.1.1 ∧ p = it.2.2.2.1.2)) = fun _ _ => False := by
    funext v p
    refine propext ⟨fun ⟨q1, q2, q3⟩ => ?_, fun q => q.elim⟩
    rcases q1 with q1 | ⟨a, q1, q4⟩
    · exact q2 q1
    · rw [List.mem_singleton.mp q1] at q4
      rcases q4 with q4 | ⟨i, q4⟩
      · exact q3 ⟨(congrArg Prod.fst q4).symm, (congrArg Prod.snd q4).symm⟩
      · rw [nn i] at q4; cases q4
  rw [eD] at j8
  obtain ⟨k1, k2, k3, k4, k5, k6, k7, k8⟩ := BG_end j8 g6 (by rw [j5]; exact k0)
  obtain ⟨cn1, cn2⟩ := j8.cnt
  obtain ⟨⟨r, q3⟩, ⟨r2, q4, q5⟩⟩ : (∃ r, RcR S8 r) ∧ ∃ r, r ≤ c' ∧ RsR M8 r := ⟨j8.2.2.1, j8.2.2.2.1⟩
  have F7 : FrT S4 S7 := d3.t
  have F8 : FrT S7 S8 := j3.t (by decide) (by decide)
  have F48 : Fr M6 M8 [21, 22, 28] [17, 18, 19, 27, 29, 31] := d4.trans (j4.mono (by decide) (by decide))
  have s8_49 : S8.1 49 = nI 0 := by
    rw [j3.1 49 (by decide), d3.1 49 (by decide), c3.1 49 (by decide), f13.1 49 (by decide), s49]; rfl
  have fm26 : Fr M2 M8 [21, 22, 28] [17, 18, 19, 27, 29, 30, 31] := ((fm25.mono (by decide) (by decide)).trans (i2.mono (by decide) (by decide))).trans (F48.mono (by decide) (by decide))
  have m8_26 : M8.1 26 = nI 0 := by rw [fm26.1 26 (by decide), zm.2.2.2.2.1]; rfl
  have cl1 := cntL_A (n := 3010) (K := gK M8)
  obtain ⟨S9, t1, t2, t3, t4, t5, t6, t7, t8, t9, b, t10, t11⟩ := X2_eraseAll (N := N) hN j8.1 k1 k3 q3 (by omega) s8_49
  obtain ⟨M9, u1, u2, u3, u4, u5, u6, u7, u8, u9, b', u10, u11⟩ := X8_erase (N := N) hN j8.2.1 k2 k4 q5 (by omega) (by omega) m8_26
  have I9 := Iso_erase k1 k2 k7 t2 u2 t3.1 u3.1
  obtain ⟨L, hL, -⟩ := LB_erase k1 t3 t2 k6
  have s9e : S9.1 61 = M9.1 23 ∧ S9.1 62 = M9.1 24 ∧ S9.1 63 = M9.1 25 := by
    rw [t8.1 61 (by decide), t8.1 62 (by decide), t8.1 63 (by decide), j3.1 61 (by decide), j3.1 62 (by decide), j3.1 63 (by decide), d3.1 61 (by decide), d3.1 62 (by decide), d3.1 63 (by decide), c3.1 61 (by decide), c3.1 62 (by decide), c3.1 63 (by decide), z61.1, z61.2.1, z61.2.2.1, u8.1 23 (by decide), u8.1 24 (by decide), u8.1 25 (by decide), fm26.1 23 (by decide), fm26.1 24 (by decide), fm26.1 25 (by decide), zm.2.1, zm.2.2.1, zm.2.2.2.1]
    exact ⟨rfl, rfl, rfl⟩
  have K9 : ∀ x, S9.1 49 = nI x → M9.1 26 = nI x → LK S9 M9 id id := fun x z1 z2 => ⟨⟨t6, t3, t5, t4, t7, by omega⟩, ⟨u6, u3, u5, u4, u7, by omega⟩, WG_erase k1 k5 t2, I9, s9e.1, s9e.2.1, s9e.2.2, x, z1, z2⟩
  have cl9 : cntL 3010 (gK M9) = cntL 3002 (cK S9) := by
    have c := fun j (hj : j < 7) => Iso_cnt t3 u3 t4 u4 I9 hj
    have c0 : cnt 3002 (cK S9) 0 = cnt 3010 (gK M9) 0 := c 0 (by decide)
    have c1 : cnt 3002 (cK S9) 1 = cnt 3010 (gK M9) 1 := c 1 (by decide)
    have c2 : cnt 3002 (cK S9) 2 = cnt 3010 (gK M9) 2 := c 2 (by decide)
    have c3 : cnt 3002 (cK S9) 3 = cnt 3010 (gK M9) 3 := c 3 (by decide)
    have c4 : cnt 3002 (cK S9) 4 = cnt 3010 (gK M9) 4 := c 4 (by decide)
    unfold cntL
    rw [c0, c1, c2, c3, c4]
  have eb : b = b' := by omega
  rw [← eb] at u10
  refine ⟨sI S9 143 0, M9, ?_, ?_, (K9 b t10 u10).wi (Fr.I (is := [143]) (as := []) (by decide)).w (by decide) (by decide) (by decide), ⟨L, hL⟩, sI_at, ?_, (F4.trans (F7.trans (F8.trans (t8.t (by decide) (by decide))))).trans ((Fr.I (is := [143]) (as := []) (by decide)).t (by decide) (by decide)), (Fm6.trans (F48.mono (by decide) (by decide))).trans (u8.mono (by decide) (by decide))⟩
  · have c1' : fX2_make N S3 6 (-1) = some (nI 0, S4) := c1
    have x3 : fX3_clear N S1 = some S2 := by
      unfold fX3_clear
      rw [bnd_eq, bnd_eq, bnd_eq, ← e2]
    have lp := d1 (N - w) (nI 0)
    rw [show N - w + w = N by omega] at lp
    have j1' : fX2_link N S7 (nI (4 * 0 + 0)) (nI (4 * it.2.2.2.1.1 + it.2.2.2.1.2)) = some S8 := j1
    have h6 : S7.2.1 1 0 = nI (4 * it.2.2.2.1.1 + it.2.2.2.1.2) := h6
    have g3 : S7.1 3 = nI 1 := g3
    have e1 : fX4_wordCount N S7 = some (nI w, S7) := by
      unfold fX4_wordCount
      rw [d3.1 83 (by decide), F4.1 83 (by decide), w83]
    have bu : fX0_build N S2 = some S8 := by
      unfold fX0_build
      rw [bnd_eq, ← e3, bd2_ok c1', bnd_eq]
      show loopN (Fc N) N (S4, nI 0, nI 0) = _
      rw [lp]
      obtain ⟨f', ef⟩ : ∃ f', N - w = f' + 1 := ⟨N - w - 1, by omega⟩
      rw [ef]
      show fX0_build_18s N (loopN (Fc N) f') S7 (nI 0) (nI w) = _
      unfold fX0_build_18s
      rw [bd2_ok e1, if_pos (nI_le (by omega) (by omega)), g3, if_neg (show ¬ nI 1 ≤ 0 by decide), bdo_ok (show fX7_portOf (nI 0) 0 = some (nI (4 * 0 + 0)) from pO 0 0), ckx_ok (show vp_in (0 : Int32) 43 from vp_in_nI (n := 0) (N := 43) (by omega) (by omega)), show ((0 : Int32)).toNatClampNeg = 0 from rfl, h6, bdo_ok j1']
    unfold fX7_takeTerm
    rw [bdo_ok a1, bdo_ok x3, bdo_ok bu, bdo_ok t1, bnd_eq]
  · have c2' : fX8_node N M2 6 0 = some (nI 0, M4) := c2
    have lp := d2 (N - w)
    rw [show N - w + w = N by omega] at lp
    have bl : fX8_build N M4 (nI (w - 1)) = some (nI (3 * it.2.2.2.1.1 + it.2.2.2.1.2), M7) := by
      unfold fX8_build
      rw [ckx_ok (vp_in_nI (by omega) (by omega)), bnd_eq, nI_clamp (by omega), ← em5]
      show loopN (Fi N) N (M5, nI (w - 1), nI (w - 1)) = _
      rw [show ((M5, nI (w - 1), nI (w - 1)) : St × Int32 × Int32) = (M5, nI (w - 1), nI w - 1) by rw [nI_sub1 (by omega)], i1]
      show loopN (Fm N) N (M6, nI (w - 1), nI 0) = _
      rw [lp]
      obtain ⟨f', ef⟩ : ∃ f', N - w = f' + 1 := ⟨N - w - 1, by omega⟩
      rw [ef]
      show fX8_build_97s N (loopN (Fm N) f') M7 (nI (w - 1)) (nI w) = _
      unfold fX8_build_97s
      rw [if_pos (nI_lt (by omega) (by omega)), ckx_ok (vp_in_nI (by omega) (by omega)), nI_clamp (by omega), ← it3, h8]
    have j2' : fX8_wire N M7 (nI 0) (nI (3 * it.2.2.2.1.1 + it.2.2.2.1.2)) = some M8 := j2
    unfold fX8_begin fX8_begin_9
    rw [bnd_eq, bnd_eq, show (3009 : Int32) = nI 3010 - 1 from rfl, b1]
    unfold fX8_begin_9s
    rw [if_pos (show nI 0 - 1 < 0 by decide), bnd_eq, bnd_eq, bnd_eq, bnd_eq, bnd_eq, bnd_eq, bnd_eq, ← em2, bd2_ok c2', bd2_ok bl, show (3 : Int32) = nI 3 from rfl, pk_mul, bdo_ok j2', bdo_ok u1]
  · rw [u8.1 47 (by decide), fm26.1 47 (by decide), zm.2.2.2.2.2.2]
