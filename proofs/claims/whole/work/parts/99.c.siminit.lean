/-! both programs begin -/
def bs0 : Nat → Nat := fun p => if p = 0 then 92 else if p = 2 then 46 else 120
def Mv0 : St := sA (sI St0 2 (nI 4)) 1 (fun p => sb (bs0 p))
def Mo0 : St := sA (sA St0 15 (fun _ => 1)) 12 (fun _ => nI 120)
def S80 : St := sA (sA (sA (sA StC0 140 (upd (StC0.2.1 140) 0 92)) 140 (upd ((sA StC0 140 (upd (StC0.2.1 140) 0 92)).2.1 140) 1 120)) 140 (upd ((sA (sA StC0 140 (upd (StC0.2.1 140) 0 92)) 140 (upd ((sA StC0 140 (upd (StC0.2.1 140) 0 92)).2.1 140) 1 120)).2.1 140) 2 46)) 140 (upd ((sA (sA (sA StC0 140 (upd (StC0.2.1 140) 0 92)) 140 (upd ((sA StC0 140 (upd (StC0.2.1 140) 0 92)).2.1 140) 1 120)) 140 (upd ((sA (sA StC0 140 (upd (StC0.2.1 140) 0 92)) 140 (upd ((sA StC0 140 (upd (StC0.2.1 140) 0 92)).2.1 140) 1 120)).2.1 140) 2 46)).2.1 140) 3 120)
theorem S80_fr : Fr StC0 S80 [] [140] := ((Fr.A (by decide)).trans (Fr.A (by decide))).trans (Fr.A (by decide)) |>.trans (Fr.A (by decide))
theorem S80_t : ∀ p, p < 4 → bs0 p < 256 ∧ S80.2.1 140 p = nI (bs0 p) := fun p hp => by
  have : p = 0 ∨ p = 1 ∨ p = 2 ∨ p = 3 := by omega
  rcases this with e | e | e | e <;> subst e
  · exact ⟨by decide, rfl⟩
  · exact ⟨by decide, rfl⟩
  · exact ⟨by decide, rfl⟩
  · exact ⟨by decide, rfl⟩
theorem S_init {N : Nat} (hN : Big N) : ∃ S M, fX7_init N = some S ∧ fX8_init N = some M ∧ SIM S M := by
  have hb := hN
  unfold Big at hb
  -- the text
  obtain ⟨S0, e0⟩ : ∃ z, z = sI (sI (sI (sI (sI (sI (sI (sI (sI S80 88 1) 89 (nI 4)) 90 0) 83 0) 87 0) 91 0) 92 0) 93 0) 94 0 := ⟨_, rfl⟩
  have f0 : Fr S80 S0 (88 :: 89 :: CI4) CA4 := by
    rw [e0]
    exact ((((((((Fr.I (by decide)).trans (Fr.I (by decide))).trans (Fr.I (by decide))).trans (Fr.I (by decide))).trans (Fr.I (by decide))).trans (Fr.I (by decide))).trans (Fr.I (by decide))).trans (Fr.I (by decide))).trans (Fr.I (by decide))
  have v89 : S0.1 89 = nI 4 := by rw [e0]; rfl
  have v88 : S0.1 88 = 1 := by rw [e0]; rfl
  have v90 : S0.1 90 = nI 0 := by rw [e0]; rfl
  have v83 : S0.1 83 = nI 0 := by rw [e0]; rfl
  have v87 : S0.1 87 = nI 0 := by rw [e0]; rfl
  have v91 : S0.1 91 = nI 0 := by rw [e0]; rfl
  have v92 : S0.1 92 = nI 0 := by rw [e0]; rfl
  have v93 : S0.1 93 = nI 0 := by rw [e0]; rfl
  have v94 : S0.1 94 = 0 := by rw [e0]; rfl
  have T0 : TP S0 Mv0 bs0 4 := ⟨by omega, v89, by rw [v88]; decide, rfl, fun p hp => by
    rw [f0.2.1 140 (by decide)]
    exact ⟨(S80_t p hp).1, (S80_t p hp).2, rfl⟩⟩
  have TF : ∀ S', Fr S0 S' CI4 CA4 → TP S' Mv0 bs0 4 := fun S' f => T0.of f (Fr.rf (is := []) (as := [])) (by decide) (by decide) (by decide) (by decide)
  -- its first name
  obtain ⟨A1, a1⟩ : ∃ z, z = sI S0 90 (nI 1) := ⟨_, rfl⟩
  have g1 : Fr S0 A1 CI4 CA4 := by rw [a1]; exact Fr.I (by decide)
  have q1 : A1.1 90 = nI 1 := by rw [a1, sI_at]
  have k1 : fX4_skipBlanks N A1 = some A1 := by
    rw [X4_skip hN (TF A1 g1) (show 1 ≤ 4 by omega) q1, show sk bs0 (4 - 1) 1 = 1 from rfl, sI_self q1]
  have n1 : fX4_nameSize N A1 = some (nI 1, A1) := by
    rw [X4_nameSize hN (TF A1 g1) (show 1 ≤ 4 by omega) q1, show nsz bs0 4 1 = 1 by decide]
  obtain ⟨A2, a2⟩ : ∃ z, z = sI A1 91 (nI 1) := ⟨_, rfl⟩
  have c1 : fX4_countName N A1 = some (0, A2) := by
    rw [X4_countName (nm := 0) (by rw [a1, sI_ne (by decide)]; exact v91) (by omega), if_neg (by omega), a2]
  obtain ⟨A3, a3⟩ : ∃ z, z = sI A2 94 0 := ⟨_, rfl⟩
  have g3 : Fr S0 A3 CI4 CA4 := by rw [a3, a2]; exact (g1.trans (Fr.I (by decide))).trans (Fr.I (by decide))
  have q3 : A3.1 90 = nI 1 := by rw [a3, sI_ne (by decide), a2, sI_ne (by decide)]; exact q1
  have o1 : fX4_nameOf N A3 (nI 1) = some (nI 120, A3) := by
    rw [X4_nameOf hN (TF A3 g3) q3 (show 1 + 1 ≤ 4 by omega)]
    rfl
  obtain ⟨A4, a4⟩ : ∃ z, z = sI A3 90 (nI 2) := ⟨_, rfl⟩
  have g4 : Fr S0 A4 CI4 CA4 := by rw [a4]; exact g3.trans (Fr.I (by decide))
  have q4 : A4.1 90 = nI 2 := by rw [a4, sI_at]
  have k4 : fX4_skipBlanks N A4 = some A4 := by
    rw [X4_skip hN (TF A4 g4) (show 2 ≤ 4 by omega) q4, show sk bs0 (4 - 2) 2 = 2 from rfl, sI_self q4]
  have y4 : fX4_byteAt N A4 (nI 2) = some (46, A4) := by
    rw [C_byte (TF A4 g4) (by omega), if_pos (by omega)]
    rfl
  obtain ⟨A5, a5⟩ : ∃ z, z = sI A4 90 (nI 3) := ⟨_, rfl⟩
  have g5 : Fr S0 A5 [90, 91, 94] [] := by rw [a5, a4, a3, a2, a1]; exact (((Fr.I (by decide)).trans (Fr.I (by decide))).trans (Fr.I (by decide))).trans (Fr.I (by decide)) |>.trans (Fr.I (by decide))
  obtain ⟨A6, p1, p2, p3, p4, p5, p6⟩ := X4_push (N := N) (S := A5) (k := 0) (x := 0) (p := 0) (z := nI 120) (by omega) (by rw [g5.1 87 (by decide)]; exact v87) (by rw [g5.1 92 (by decide)]; exact v92) (by rw [g5.1 93 (by decide)]; exact v93)
  have g6 : Fr S0 A6 CI4 CA4 := (g5.mono (by decide) (by decide)).trans (p2.mono (by decide) (by decide))
  have t1 : fX4_takeNext N S0 = some A6 := by
    have by0 : fX4_byteAt N S0 (nI 0) = some (nI 92, S0) := by
      rw [C_byte T0 (by omega), if_pos (by omega)]
      rfl
    have ol : fX4_openLambda N S0 = some A6 := by
      unfold fX4_openLambda
      rw [v93, if_pos (show nI 0 ≤ 0 by decide), v87, if_pos (show nI 0 < 40 by decide), bnd_eq, v90, show nI 0 + (1 : Int32) = nI 1 from rfl, ← a1, bdo_ok k1, bd2_ok n1, if_neg (by decide), if_pos (show nI 1 ≤ 4 by decide), bd2_ok c1]
      unfold fX4_openLambda_65
      rw [bnd_eq, ← a3, show A3.1 94 = 0 by rw [a3, sI_at], if_pos rfl, bd2_ok o1, bnd_eq, q3, show nI 1 + nI 1 = nI 2 from rfl, ← a4, bdo_ok k4, q4, bd2_ok y4, if_pos rfl, bnd_eq, q4, show nI 2 + (1 : Int32) = nI 3 from rfl, ← a5, bdo_ok p1]
    unfold fX4_takeNext
    rw [v90, bd2_ok by0, bdo_ok (C_blank (b := 92) (by omega)), if_pos (by decide), if_pos (show nI 92 = 92 from rfl), bdo_ok ol]
  -- its second name
  have q6 : A6.1 90 = nI 3 := by rw [p2.1 90 (by decide), a5, sI_at]
  have u87 : A6.1 87 = nI 1 := p3
  have u91 : A6.1 91 = nI 1 := by rw [p2.1 91 (by decide), a5, sI_ne (by decide), a4, sI_ne (by decide), a3, sI_ne (by decide), a2, sI_at]
  have u92 : A6.1 92 = nI 0 := by rw [p2.1 92 (by decide), g5.1 92 (by decide)]; exact v92
  have u93 : A6.1 93 = nI 0 := by rw [p2.1 93 (by decide), g5.1 93 (by decide)]; exact v93
  have u94 : A6.1 94 = 0 := by rw [p2.1 94 (by decide), a5, sI_ne (by decide), a4, sI_ne (by decide), a3, sI_at]
  have u83 : A6.1 83 = nI 0 := by rw [p2.1 83 (by decide), g5.1 83 (by decide)]; exact v83
  have u84 : A6.2.1 84 0 = nI 120 := by rw [p4, upd_at, if_pos rfl]
  have O6 : OR A6 Mo0 [.inl (nI 120, 0)] := ⟨⟨u84, by decide, rfl, rfl, rfl, rfl⟩, trivial⟩
  obtain ⟨A7, a7⟩ : ∃ z, z = sI A6 91 (nI 2) := ⟨_, rfl⟩
  obtain ⟨A8, a8⟩ : ∃ z, z = sI A7 94 0 := ⟨_, rfl⟩
  obtain ⟨A9, a9⟩ : ∃ z, z = sI A8 90 (nI 4) := ⟨_, rfl⟩
  have g9 : Fr A6 A9 [90, 91, 94] [] := by rw [a9, a8, a7]; exact ((Fr.I (by decide)).trans (Fr.I (by decide))).trans (Fr.I (by decide))
  obtain ⟨M1, m1⟩ : ∃ z, z = sI St0 14 1 := ⟨_, rfl⟩
  obtain ⟨B1, M4, r1, r2, r3, r4, r5, r6, r7⟩ := J_add (N := N) (S := A9) (M := M1) (w := 0) (K := 0) (x := 0) (a := 0) (b := 0) (s := 0) (sl := nI 0) (wd := fun _ => (0, 0, 0, 0, 0)) (by omega) (by rw [g9.1 83 (by decide)]; exact u83) (by rw [m1]; rfl) (fun k hk => absurd hk (by omega)) (fun _ => rfl)
  have s92 : B1.1 92 = nI 0 := by rw [r3.1 92 (by decide), g9.1 92 (by decide)]; exact u92
  have s93 : B1.1 93 = nI 0 := by rw [r3.1 93 (by decide), g9.1 93 (by decide)]; exact u93
  obtain ⟨B2, b2⟩ : ∃ z, z = sI B1 93 (nI 1) := ⟨_, rfl⟩
  have ep : fX4_endPart N B1 = some B2 := by
    unfold fX4_endPart
    rw [bnd_eq, s93, show nI 0 + (1 : Int32) = nI 1 from rfl, sI_at, if_pos (show nI 1 ≤ 1 by decide), ← b2]
  have t2 : fX4_takeNext N A6 = some B2 := by
    have by3 : fX4_byteAt N A6 (nI 3) = some (nI 120, A6) := by
      rw [C_byte (TF A6 g6) (by omega), if_pos (by omega)]
      rfl
    have ns : fX4_nameSize N A6 = some (nI 1, A6) := by
      rw [X4_nameSize hN (TF A6 g6) (show 3 ≤ 4 by omega) q6, show nsz bs0 4 3 = 1 by decide]
    have no : fX4_nameOf N A6 (nI 1) = some (nI 120, A6) := by
      rw [X4_nameOf hN (TF A6 g6) q6 (show 3 + 1 ≤ 4 by omega)]
      rfl
    have so : fX4_slotOf N A6 (nI 120) = some (nI 0, A6) := by
      rw [X4_slotOf hN (by decide) O6 (by decide) u87]
      have : lkE [.inl (nI 120, 0)] (nI 120) = some (0, 0) := if_pos rfl
      rw [this]
    have r1' : fX4_addWord N A9 0 (nI 0) (nI 0) = some B1 := r1
    have pi : fX4_partIndex N A9 = some (nI 0, A9) := by
      rw [X4_part (p := 0) (x := 0) (by omega) (by rw [g9.1 92 (by decide)]; exact u92) (by rw [g9.1 93 (by decide)]; exact u93)]
      rfl
    have tv : fX4_takeVariable N A6 = some B2 := by
      unfold fX4_takeVariable
      rw [bd2_ok ns, if_pos (show nI 1 ≤ 4 by decide), bd2_ok no, bd2_ok so, if_neg (by decide), bd2_ok (X4_countName (nm := 1) u91 (by omega)), if_neg (show ¬ (1 : Nat) = 80 by omega), bnd_eq, show nI (1 + 1) = nI 2 from rfl, ← a7, ← a8, show A8.1 94 = 0 by rw [a8, sI_at], if_pos rfl, bnd_eq, show A8.1 90 = nI 3 by rw [a8, sI_ne (by decide), a7, sI_ne (by decide)]; exact q6, show nI 3 + nI 1 = nI 4 from rfl, ← a9, bd2_ok pi, bdo_ok r1', bdo_ok ep]
    have li : fX4_isLetter (nI 120) = some 1 := by rw [C_letter (by omega), if_pos (by decide)]
    unfold fX4_takeNext
    rw [q6, bd2_ok by3, bdo_ok (C_blank (b := 120) (by omega)), if_pos (by decide), if_neg (show ¬ nI 120 = 92 by decide), if_neg (show ¬ nI 120 = 40 by decide), if_neg (show ¬ nI 120 = 41 by decide), bdo_ok li, if_neg (by decide), bdo_ok tv]
  -- its end
  have f12 : Fr B1 B2 [93] [] := by rw [b2]; exact Fr.I (by decide)
  have w87 : B2.1 87 = nI 1 := by rw [f12.1 87 (by decide), r3.1 87 (by decide), g9.1 87 (by decide)]; exact u87
  have w84 : B2.2.1 84 0 = nI 120 := by rw [f12.2.1 84 (by decide), r3.2.1 84 (by decide), g9.2.1 84 (by decide)]; exact u84
  have w92 : B2.1 92 = nI 0 := by rw [f12.1 92 (by decide)]; exact s92
  have w93 : B2.1 93 = nI 1 := by rw [b2, sI_at]
  have w94 : B2.1 94 = 0 := by rw [f12.1 94 (by decide), r3.1 94 (by decide), a9, sI_ne (by decide), a8, sI_at]
  have w90 : B2.1 90 = nI 4 := by rw [f12.1 90 (by decide), r3.1 90 (by decide), a9, sI_at]
  obtain ⟨B3, b3⟩ : ∃ z, z = sI B2 87 (nI 0) := ⟨_, rfl⟩
  have f23 : Fr B2 B3 [87] [] := by rw [b3]; exact Fr.I (by decide)
  obtain ⟨B4, M7, x1, x2, x3, x4, x5, x6, x7⟩ := J_add (N := N) (S := B3) (M := M4) (w := 1) (K := 1) (x := 0) (a := 0) (b := 0) (s := 0) (sl := nI 0) (by omega) (by rw [f23.1 83 (by decide), f12.1 83 (by decide)]; exact r5) r6 (fun k hk => ((r7 k hk).of f12 (Fr.rf (is := []) (as := [])) (by decide) (by decide)).of f23 (Fr.rf (is := []) (as := [])) (by decide) (by decide)) (fun _ => rfl)
  have y87 : B4.1 87 = nI 0 := by rw [x3.1 87 (by decide), b3, sI_at]
  have y94 : B4.1 94 = 0 := by rw [x3.1 94 (by decide), f23.1 94 (by decide)]; exact w94
  have x1' : fX4_addWord N B3 1 (B3.1 92) (B3.1 87) = some B4 := by
    rw [f23.1 92 (by decide), w92, show B3.1 87 = nI 0 by rw [b3, sI_at]]; exact x1
  have cl : fX4_closeLambdas N B2 = some B4 := by
    show loopN (fun k x => fX4_closeLambdas_0s N k x) N B2 = _
    obtain ⟨N2, eN⟩ : ∃ k, N = k + 2 := ⟨N - 2, by omega⟩
    have st : ∀ kk, fX4_closeLambdas_0s N kk B2 = kk B4 := fun kk => by
      unfold fX4_closeLambdas_0s
      rw [w87, if_neg (show ¬ nI 1 ≤ 0 by decide), show nI 1 - (1 : Int32) = nI 0 from rfl, ckx_ok (vp_in_nI (by omega) (by omega)), nI_clamp (by omega), w84, if_neg (by decide), bnd_eq, ← b3, bdo_ok x1']
    have en : ∀ kk, fX4_closeLambdas_0s N kk B4 = some B4 := fun kk => by
      unfold fX4_closeLambdas_0s
      rw [y87, if_pos (show nI 0 ≤ 0 by decide)]
    have lp : ∀ k, loopN (fun k x => fX4_closeLambdas_0s N k x) (k + 2) B2 = some B4 := fun k => by
      show fX4_closeLambdas_0s N (loopN (fun k x => fX4_closeLambdas_0s N k x) (k + 1)) B2 = _
      rw [st]
      show fX4_closeLambdas_0s N (loopN (fun k x => fX4_closeLambdas_0s N k x) k) B4 = _
      rw [en]
    have := lp N2
    rw [← eN] at this
    exact this
  have et : fX4_endText N B2 = some B4 := by
    unfold fX4_endText
    rw [w93, if_neg (by decide), bdo_ok cl, y87, if_pos (show nI 0 ≤ 0 by decide)]
  have sc : fX4_scan N S80 4 = some (B4.1 94, B4) := by
    have bg : fX4_begin N S80 4 = some S0 := by
      unfold fX4_begin
      rw [bnd_eq, if_neg (by decide)]
      unfold fX4_begin_18
      rw [bnd_eq, bnd_eq, bnd_eq, bnd_eq, bnd_eq, bnd_eq, bnd_eq, bnd_eq, e0]
      rfl
    have st : ∀ kk (S S' : St) (k q : Nat), k < 4 → q < 4 → S.1 89 = nI 4 → S.1 90 = nI q → S.1 94 = 0 → fX4_takeNext N S = some S' → fX4_scan_8s N kk S (nI k) = kk (S', nI (k + 1)) := fun kk S S' k q hk hq h1 h2 h3 h4 => by
      unfold fX4_scan_8s
      rw [h1, h2, h3, if_neg (fun z => absurd ((nI_leI (by omega) (by omega)).mp z) (by omega)), if_neg (fun z => absurd ((nI_leI (by omega) (by omega)).mp z) (by omega)), if_pos rfl, bdo_ok h4, bnd_eq, show nI k + (1 : Int32) = nI (k + 1) from nI_1 _]
    have z89 : A6.1 89 = nI 4 := by rw [g6.1 89 (by decide)]; exact v89
    have zB89 : B2.1 89 = nI 4 := by rw [f12.1 89 (by decide), r3.1 89 (by decide), g9.1 89 (by decide)]; exact z89
    have en : ∀ kk, fX4_scan_8s N kk B2 (nI 2) = some (B4.1 94, B4) := fun kk => by
      unfold fX4_scan_8s
      rw [zB89, w90, if_neg (show ¬ nI 4 ≤ nI 2 by decide), if_pos (show nI 4 ≤ nI 4 by decide)]
      unfold fX4_scan_44
      rw [w94, if_pos rfl, bdo_ok et]
    have lp : ∀ k, loopN (fun k x => fX4_scan_8s N k x.1 x.2) (k + 3) (S0, nI 0) = some (B4.1 94, B4) := fun k => by
      show fX4_scan_8s N (loopN (fun k x => fX4_scan_8s N k x.1 x.2) (k + 2)) S0 (nI 0) = _
      rw [st _ S0 A6 0 0 (by omega) (by omega) v89 v90 v94 t1]
      show fX4_scan_8s N (loopN (fun k x => fX4_scan_8s N k x.1 x.2) (k + 1)) A6 (nI 1) = _
      rw [st _ A6 B2 1 3 (by omega) (by omega) z89 q6 u94 t2]
      show fX4_scan_8s N (loopN (fun k x => fX4_scan_8s N k x.1 x.2) k) B2 (nI 2) = _
      rw [en]
    unfold fX4_scan
    rw [bdo_ok bg, bnd_eq]
    have := lp (N - 3)
    rw [show N - 3 + 3 = N by omega] at this
    exact this
  -- the term
  have fB : Fr S80 B4 (88 :: 89 :: CI4) CA4 := (((((f0.trans (g6.mono (by decide) (by decide))).trans (g9.mono (by decide) (by decide))).trans (r3.mono (by decide) (by decide))).trans (f12.mono (by decide) (by decide))).trans (f23.mono (by decide) (by decide))).trans (x3.mono (by decide) (by decide))
  have fM : Fr St0 M7 [6, 14] [3, 4, 5] := by
    have : Fr St0 M1 [6, 14] [3, 4, 5] := by rw [m1]; exact Fr.I (by decide)
    exact (this.trans (r4.mono (by decide) (by decide))).trans (x4.mono (by decide) (by decide))
  have m14 : M7.1 14 = nI 1 := by rw [x4.1 14 (by decide), r4.1 14 (by decide), m1, sI_at]; rfl
  have hT : TR B4 M7 2 1 := by
    refine ⟨_, fun _ => 0, [0], 1, x5, by omega, by omega, m14, x7, ⟨[(0, [(0, 0)], 0)], [], 1, ⟨[], [], 0, ⟨rfl, rfl, rfl⟩, Or.inl ⟨rfl, ⟨[(0, 0)], rfl, List.mem_singleton.mpr rfl, ⟨List.pairwise_singleton .., fun e he => by rw [List.mem_singleton.mp he]; exact ⟨by show 0 < 40; omega, by show 0 < 1; omega⟩⟩⟩, Nat.le_refl _, by show 0 ≤ 62; omega, by show 0 < 43; omega, rfl, rfl⟩⟩, Or.inr (Or.inl ⟨rfl, ⟨[], [], rfl, rfl⟩, rfl, List.not_mem_nil, rfl, rfl⟩)⟩, by omega, Nat.le_refl _⟩
  have wc : WiC B4 := by
    have e : B4.2.1 42 = fun _ => 0 := by rw [fB.2.1 42 (by decide), S80_fr.2.1 42 (by decide)]; rfl
    intro p hp
    unfold cW
    rw [e]
    exact ⟨rfl, by show (0 : Int32).toNatClampNeg < 12008; decide⟩
  have wm : WiM M7 := by
    have e18 : M7.2.1 18 = fun _ => 0 := by rw [fM.2.1 18 (by decide)]; rfl
    have e19 : M7.2.1 19 = fun _ => 0 := by rw [fM.2.1 19 (by decide)]; rfl
    unfold WiM gX gW
    rw [e18, e19]
    exact ⟨fun v hv => ⟨rfl, by show (0 : Int32).toNatClampNeg ≤ 63; decide⟩, fun p hp => ⟨rfl, by show (0 : Int32).toNatClampNeg < 9030; decide⟩⟩
  obtain ⟨S', M', d1, d2, d3, d4, d5, d6, d7, d8⟩ := B_take (N := N) hN wc wm hT
  refine ⟨S', M', ?_, ?_, ⟨bs0, 0, by omega, ?_, ?_, fun p hp => absurd hp (by omega)⟩, ⟨?_, 0, by omega, ?_⟩, ⟨[], by decide, d5, d6, fun q => absurd rfl q⟩, ⟨id, id, d3⟩, d4, ?_, 1, ?_⟩
  · unfold fX7_init
    rw [ckx_ok (show vp_in (0 : Int32) 600 from vp_in_nI (n := 0) (N := 600) (by omega) (by omega)), bnd_eq, ckx_ok (show vp_in (1 : Int32) 600 from vp_in_nI (n := 1) (N := 600) (by omega) (by omega)), bnd_eq, ckx_ok (show vp_in (2 : Int32) 600 from vp_in_nI (n := 2) (N := 600) (by omega) (by omega)), bnd_eq, ckx_ok (show vp_in (3 : Int32) 600 from vp_in_nI (n := 3) (N := 600) (by omega) (by omega)), bnd_eq]
    show (bd2 (fX4_scan N S80 4) fun v9 S11 => bdo (fX7_takeTerm N S11) fun S14 => some S14) = _
    rw [bd2_ok sc, bdo_ok d1]
  · have r2' : fX8_tree N M1 0 0 0 = some (nI 0, M4) := r2
    have x2' : fX8_tree N M4 1 0 (nI 0) = some (nI 1, M7) := x2
    have d2' : fX8_begin N M7 (nI 1) = some M' := d2
    unfold fX8_init
    rw [bnd_eq, ← m1, bd2_ok r2', bd2_ok x2', bdo_ok d2']
  · rw [d7.1 141 (by decide), fB.1 141 (by decide), S80_fr.1 141 (by decide)]; rfl
  · rw [d8.1 2 (by decide), fM.1 2 (by decide)]; rfl
  · rw [d7.1 142 (by decide), fB.1 142 (by decide), S80_fr.1 142 (by decide), d8.1 8 (by decide), fM.1 8 (by decide)]; rfl
  · rw [d8.1 8 (by decide), fM.1 8 (by decide)]; rfl
  · have : S'.2.2.2 = StC0.2.2.2 := by rw [d7.2.2, fB.2.2, S80_fr.2.2]
    unfold RmC gc gs
    rw [this]
    exact ⟨by decide, by decide, by decide, by decide, fun _ => by decide⟩
  · have a0 : ∀ k, k ∈ [100, 101, 102, 103, 104] → S'.2.1 k = fun _ => 0 := fun k hk => by
      have h1 : k ∉ [1, 40, 41, 42, 43, 45, 46, 47] := by
        intro z
        have : ∀ k ∈ [100, 101, 102, 103, 104], k ∉ [1, 40, 41, 42, 43, 45, 46, 47] := by decide
        exact this k hk z
      have h2 : k ∉ CA4 := by
        intro z
        have : ∀ k ∈ [100, 101, 102, 103, 104], k ∉ CA4 := by decide
        exact this k hk z
      have h3 : k ∉ [140] := by
        intro z
        have : ∀ k ∈ [100, 101, 102, 103, 104], k ∉ [140] := by decide
        exact this k hk z
      rw [d7.2.1 k h1, fB.2.1 k h2, S80_fr.2.1 k h3]
      rfl
    refine ⟨by rw [d7.1 105 (by decide), fB.1 105 (by decide), S80_fr.1 105 (by decide)]; rfl, by omega, by omega, fun k h1 h2 => by omega, fun g hg => ?_, fun i j h1 h2 => by omega⟩
    rw [a0 104 (by decide), prv_s, if_neg (fun z => absurd z.1 (Nat.lt_irrefl _))]
    rfl
