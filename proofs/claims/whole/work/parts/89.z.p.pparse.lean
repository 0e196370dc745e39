/-! both programs read a text: from its begin to its end -/
theorem C_44 {S M : St} {N : Nat} (h : PFt S M) : fX4_scan_44 N S = some (S.1 94, S) := by
  obtain ⟨f, q, f0, f5, h94, -⟩ := h
  unfold fX4_scan_44
  rw [h94, if_neg (nI_ne f0 (by omega))]
theorem C_stop {S M : St} {N f k L : Nat} (h : PFt S M) (h89 : S.1 89 = nI L) : loopN (fun k x => fX4_scan_8s N k x.1 x.2) (f + 1) (S, nI k) = some (S.1 94, S) := by
  show fX4_scan_8s N (loopN (fun k x => fX4_scan_8s N k x.1 x.2) f) S (nI k) = _
  have e := C_44 (N := N) h
  obtain ⟨g, q, f0, f5, h94, -⟩ := h
  unfold fX4_scan_8s
  rw [e, h94, if_neg (nI_ne f0 (by omega))]
  split
  · rfl
  · split <;> rfl
theorem M_stop {S M : St} {N f : Nat} {y z : Int32} (h : z = 0 ∨ PFt S M) : loopN (fun k x => fX8_term_4s N k x.1 x.2.1 x.2.2) (f + 1) (M, y, z) = some (y, M) := by
  show fX8_term_4s N (loopN (fun k x => fX8_term_4s N k x.1 x.2.1 x.2.2) f) M y z = _
  unfold fX8_term_4s
  by_cases c : z = 0
  · rw [if_pos c]
  · rw [if_neg c]
    rcases h with h | ⟨g, q, f0, f5, -, h8, -⟩
    · exact absurd h c
    · rw [h8, if_neg (nI_ne f0 (by omega))]
theorem M_blank {S M : St} {bs : Nat → Nat} {L N q : Nat} {y : Int32} (hN : Big N) (h : TP S M bs L) (hq : q < L) (hb : isB (bs q)) (h7 : M.1 7 = nI q) (h8 : M.1 8 = 0) (k4 : St × Int32 × Int32 → Option (Int32 × St)) : fX8_term_4s N k4 M y 1 = fX8_term_4s N k4 (sI M 7 (nI (q + 1))) y 1 := by
  have e1 := X8_look (N := N) hN h (show q ≤ L by omega) h7
  have e2 := X8_look (N := N) hN (h.j (k := 7) (v := nI (q + 1)) (by decide)) (show q + 1 ≤ L by omega) sI_at
  have es : sk bs (L - q) q = sk bs (L - (q + 1)) (q + 1) := by
    obtain ⟨d, ed⟩ : ∃ d, L - q = d + 1 := ⟨L - q - 1, by omega⟩
    rw [ed, show L - (q + 1) = d by omega]
    show (if isB (bs q) then sk bs d (q + 1) else q) = _
    rw [if_pos hb]
  rw [sI_sI] at e2
  rw [es] at e1
  unfold fX8_term_4s
  rw [sI_ne (by decide), h8, if_pos rfl, if_pos rfl, bd2_ok e1, bd2_ok e2, if_neg (show ¬ (1 : Int32) = 0 by decide), if_neg (show ¬ (1 : Int32) = 0 by decide)]
theorem PSt_blank {S M : St} {o : List Ent} {x p t q : Nat} (h : PSt S M o x p t q) : PSt (sI S 90 (nI (q + 1))) (sI M 7 (nI (q + 1))) o x p t (q + 1) := by
  obtain ⟨w, nm, bn, wd, xh, us, v, ⟨⟨n1, n1'⟩, ⟨n2, n2'⟩, ⟨n3, n3'⟩, ⟨n4, n4'⟩, n5, n6, ⟨n7, n7'⟩, n8, n9, n10, n11⟩, hv⟩ := h
  have f : Fr S (sI S 90 (nI (q + 1))) [90] [] := Fr.I (by decide)
  have g : Fr M (sI M 7 (nI (q + 1))) [7] [] := Fr.I (by decide)
  exact ⟨w, nm, bn, wd, xh, us, v, ⟨⟨by rw [f.1 83 (by decide)]; exact n1, by rw [g.1 6 (by decide)]; exact n1'⟩, ⟨by rw [f.1 87 (by decide)]; exact n2, by rw [g.1 9 (by decide)]; exact n2'⟩, ⟨sI_at, sI_at⟩, ⟨by rw [f.1 91 (by decide)]; exact n4, by rw [g.1 10 (by decide)]; exact n4'⟩, by rw [f.1 92 (by decide)]; exact n5, by rw [f.1 93 (by decide)]; exact n6, ⟨by rw [f.1 94 (by decide)]; exact n7, by rw [g.1 8 (by decide)]; exact n7'⟩, by rw [g.1 13 (by decide)]; exact n8, by rw [g.1 14 (by decide)]; exact n9, n10.fr f g (by decide) (by decide), fun k hk => (n11 k hk).of f g (by decide) (by decide)⟩, hv.q (by omega)⟩
theorem PSt.n {S M : St} {o : List Ent} {x p t q : Nat} (h : PSt S M o x p t q) : S.1 90 = nI q ∧ M.1 7 = nI q ∧ S.1 94 = 0 ∧ M.1 8 = 0 := by
  obtain ⟨w, nm, bn, wd, xh, us, v, ⟨-, -, ⟨n3, n3'⟩, -, -, -, ⟨n7, n7'⟩, -⟩, -⟩ := h
  exact ⟨n3, n3', n7, n7'⟩
theorem R_loop {bs : Nat → Nat} {L N : Nat} (hN : Big N) : ∀ (d q : Nat) (S M : St) (o : List Ent) (x p t f f' k : Nat), L - q ≤ d → q ≤ L → k ≤ q → L - k < f → L - q + 1 < f' → TP S M bs L → PSt S M o x p t q → ∃ S' M' y, loopN (fun k x => fX4_scan_8s N k x.1 x.2) f (S, nI k) = some (S'.1 94, S') ∧ loopN (fun k x => fX8_term_4s N k x.1 x.2.1 x.2.2) f' (M, TI p t, 1) = some (y, M') ∧ Fr S S' CI4 CA4 ∧ Fr M M' MI4 MA4 ∧ PEnd S' M' y := by
  intro d
  induction d with
  | zero =>
    intro q S M o x p t f f' k h1 h2 h3 h4 h5 hT hP
    have eq : q = L := by omega
    subst eq
    exact R_last hN S M o x p t f f' k h3 h4 h5 hT hP
  | succ d ih =>
    intro q S M o x p t f f' k h1 h2 h3 h4 h5 hT hP
    by_cases c : q = L
    · subst c
      exact R_last hN S M o x p t f f' k h3 h4 h5 hT hP
    · have hL := hT.1
      obtain ⟨f, rfl⟩ : ∃ g, f = g + 1 := ⟨f - 1, by omega⟩
      obtain ⟨f', rfl⟩ : ∃ g, f' = g + 1 := ⟨f' - 1, by omega⟩
      obtain ⟨n3, n3', n7, n7'⟩ := hP.n
      have op : ∀ {S1}, fX4_takeNext N S = some S1 → loopN (fun k x => fX4_scan_8s N k x.1 x.2) (f + 1) (S, nI k) = loopN (fun k x => fX4_scan_8s N k x.1 x.2) f (S1, nI (k + 1)) := fun {S1} e => by
        show fX4_scan_8s N (loopN (fun k x => fX4_scan_8s N k x.1 x.2) f) S (nI k) = _
        obtain ⟨Lp, eL⟩ : ∃ Lp, Lp = loopN (fun k x => fX4_scan_8s N k x.1 x.2) f := ⟨_, rfl⟩
        rw [← eL]
        unfold fX4_scan_8s
        rw [hT.2.1, n3, n7, if_neg (fun z => absurd ((nI_leI (by omega) (by omega)).mp z) (by omega)), if_neg (fun z => absurd ((nI_leI (by omega) (by omega)).mp z) (by omega)), if_pos rfl, bdo_ok e, bnd_eq, show nI k + (1 : Int32) = nI (k + 1) from nI_1 _]
      by_cases nb : isB (bs q)
      · have tk : fX4_takeNext N S = some (sI S 90 (nI (q + 1))) := by
          have by' := C_byte (N := N) hT (show q < 2000 by omega)
          rw [if_pos (show q < L by omega)] at by'
          unfold fX4_takeNext
          rw [n3, bd2_ok by', bdo_ok (C_blank (hT.2.2.2.2 q (by omega)).1), if_pos nb, if_neg (by decide), bnd_eq, n3, show nI q + (1 : Int32) = nI (q + 1) from nI_1 _]
        obtain ⟨S', M', y, a1, a2, a3, a4, a5⟩ := ih (q + 1) (sI S 90 (nI (q + 1))) (sI M 7 (nI (q + 1))) o x p t f (f' + 1) (k + 1) (by omega) (by omega) (by omega) (by omega) (by omega) ((hT.i (by decide)).j (by decide)) (PSt_blank hP)
        refine ⟨S', M', y, by rw [op tk]; exact a1, ?_, Fr.trans (Fr.I (by decide)) a3, Fr.trans (Fr.I (by decide)) a4, a5⟩
        rw [← a2]
        exact M_blank hN hT (by omega) nb n3' n7' _
      · obtain ⟨S1, M1, y1, b1, b2, b3, b4, b5⟩ := T_tok (N := N) hN hT (show q < L by omega) nb hP
        have s89 : S1.1 89 = nI L := by rw [b3.1 89 (by decide)]; exact hT.2.1
        rcases b5 with b5 | ⟨o', x', p', t', q', b5, b6, b7, b8⟩
        · refine ⟨S1, M1, y1, ?_, ?_, b3, b4, Or.inl b5⟩
          · obtain ⟨g, eg⟩ : ∃ g, f = g + 1 := ⟨f - 1, by omega⟩
            rw [op b1, eg]
            exact C_stop b5 s89
          · obtain ⟨g, eg⟩ : ∃ g, f' = g + 1 := ⟨f' - 1, by omega⟩
            show fX8_term_4s N (loopN (fun k x => fX8_term_4s N k x.1 x.2.1 x.2.2) f') M (TI p t) 1 = _
            rw [b2, eg]
            exact M_stop (Or.inr b5)
        · obtain ⟨S', M', y, a1, a2, a3, a4, a5⟩ := ih q' S1 M1 o' x' p' t' f f' (k + 1) (by omega) (by omega) (by omega) (by omega) (by omega) (hT.of b3 b4 (by decide) (by decide) (by decide) (by decide)) b6
          refine ⟨S', M', y, by rw [op b1]; exact a1, ?_, b3.trans a3, b4.trans a4, a5⟩
          show fX8_term_4s N (loopN (fun k x => fX8_term_4s N k x.1 x.2.1 x.2.2) f') M (TI p t) 1 = _
          rw [b2, b5]
          exact a2
where
  R_last {bs : Nat → Nat} {L N : Nat} (hN : Big N) (S M : St) (o : List Ent) (x p t f f' k : Nat) (h3 : k ≤ L) (h4 : L - k < f) (h5 : L - L + 1 < f') (hT : TP S M bs L) (hP : PSt S M o x p t L) : ∃ S' M' y, loopN (fun k x => fX4_scan_8s N k x.1 x.2) f (S, nI k) = some (S'.1 94, S') ∧ loopN (fun k x => fX8_term_4s N k x.1 x.2.1 x.2.2) f' (M, TI p t, 1) = some (y, M') ∧ Fr S S' CI4 CA4 ∧ Fr M M' MI4 MA4 ∧ PEnd S' M' y := by
    have hL := hT.1
    obtain ⟨f, rfl⟩ : ∃ g, f = g + 1 := ⟨f - 1, by omega⟩
    obtain ⟨f', rfl⟩ : ∃ g, f' = g + 2 := ⟨f' - 2, by omega⟩
    obtain ⟨n3, n3', n7, n7'⟩ := hP.n
    obtain ⟨S', M', y, z, a1, a2, a3, a4, a5, a6⟩ := T_end (N := N) hN hT hP
    refine ⟨S', M', y, ?_, ?_, a3, a4, a6⟩
    · show fX4_scan_8s N (loopN (fun k x => fX4_scan_8s N k x.1 x.2) f) S (nI k) = _
      have e44 : fX4_scan_44 N S = some (S'.1 94, S') := by
        unfold fX4_scan_44
        rw [n7, if_pos rfl, bdo_ok a1]
      unfold fX4_scan_8s
      rw [hT.2.1, n3, e44, if_pos (show nI L ≤ nI L from nI_le (by omega) (by omega))]
      split <;> rfl
    · show fX8_term_4s N (loopN (fun k x => fX8_term_4s N k x.1 x.2.1 x.2.2) (f' + 1)) M (TI p t) 1 = _
      rw [a2]
      exact M_stop a5
theorem X_parse {S M : St} {bs : Nat → Nat} {L N : Nat} (hN : Big N) (hL : L ≤ 600) (hS : ∀ p, p < L → bs p < 256 ∧ S.2.1 140 p = nI (bs p) ∧ M.2.1 1 p = sb (bs p)) (m2 : M.1 2 = nI L) (mz : M.1 6 = 0 ∧ M.1 7 = 0 ∧ M.1 8 = 0 ∧ M.1 9 = 0 ∧ M.1 10 = 0 ∧ M.1 13 = 0 ∧ M.1 14 = 0) :
    ∃ S' M' y, fX4_scan N S (nI L) = some (S'.1 94, S') ∧ fX8_term N M = some (y, M') ∧ Fr S S' (88 :: 89 :: CI4) CA4 ∧ Fr M M' MI4 MA4 ∧ PEnd S' M' y := by
  have hb := hN
  unfold Big at hb
  obtain ⟨z6, z7, z8, z9, z10, z13, z14⟩ := mz
  obtain ⟨S0, e0⟩ : ∃ z, z = sI (sI (sI (sI (sI (sI (sI (sI (sI S 88 1) 89 (nI L)) 90 0) 83 0) 87 0) 91 0) 92 0) 93 0) 94 0 := ⟨_, rfl⟩
  have f0 : Fr S S0 (88 :: 89 :: CI4) CA4 := by
    rw [e0]
    exact ((((((((Fr.I (by decide)).trans (Fr.I (by decide))).trans (Fr.I (by decide))).trans (Fr.I (by decide))).trans (Fr.I (by decide))).trans (Fr.I (by decide))).trans (Fr.I (by decide))).trans (Fr.I (by decide))).trans (Fr.I (by decide))
  have v89 : S0.1 89 = nI L := by
    rw [e0, sI_ne (by decide), sI_ne (by decide), sI_ne (by decide), sI_ne (by decide), sI_ne (by decide), sI_ne (by decide), sI_ne (by decide), sI_at]
  have v88 : S0.1 88 = 1 := by
    rw [e0, sI_ne (by decide), sI_ne (by decide), sI_ne (by decide), sI_ne (by decide), sI_ne (by decide), sI_ne (by decide), sI_ne (by decide), sI_ne (by decide), sI_at]
  have v90 : S0.1 90 = 0 := by
    rw [e0, sI_ne (by decide), sI_ne (by decide), sI_ne (by decide), sI_ne (by decide), sI_ne (by decide), sI_ne (by decide), sI_at]
  have v83 : S0.1 83 = 0 := by
    rw [e0, sI_ne (by decide), sI_ne (by decide), sI_ne (by decide), sI_ne (by decide), sI_ne (by decide), sI_at]
  have v87 : S0.1 87 = 0 := by
    rw [e0, sI_ne (by decide), sI_ne (by decide), sI_ne (by decide), sI_ne (by decide), sI_at]
  have v91 : S0.1 91 = 0 := by
    rw [e0, sI_ne (by decide), sI_ne (by decide), sI_ne (by decide), sI_at]
  have v92 : S0.1 92 = 0 := by
    rw [e0, sI_ne (by decide), sI_ne (by decide), sI_at]
  have v93 : S0.1 93 = 0 := by
    rw [e0, sI_ne (by decide), sI_at]
  have v94 : S0.1 94 = 0 := by rw [e0, sI_at]
  have a0 : S0.2.1 140 = S.2.1 140 := by rw [e0]; rfl
  have T0 : TP S0 M bs L := ⟨hL, v89, by rw [v88]; decide, m2, fun p hp => by rw [a0]; exact hS p hp⟩
  have P0 : PSt S0 M [] 0 0 0 0 := ⟨0, 0, 0, fun _ => (0, 0, 0, 0, 0), fun _ => 0, [], 0, ⟨⟨v83, z6⟩, ⟨v87, z9⟩, ⟨v90, z7⟩, ⟨v91, z10⟩, v92, v93, ⟨v94, z8⟩, z13, z14, trivial, fun k hk => absurd hk (by omega)⟩, ⟨Nat.zero_le _, ⟨rfl, rfl, rfl⟩, rfl, trivial, rfl, Nat.zero_le _, rfl, Nat.le_refl _⟩⟩
  obtain ⟨S', M', y, a1, a2, a3, a4, a5⟩ := R_loop (N := N) hN L 0 S0 M [] 0 0 0 N N 0 (by omega) (by omega) (by omega) (by omega) (by omega) T0 P0
  refine ⟨S', M', y, ?_, ?_, f0.trans (a3.mono (by decide) (by decide)), a4, a5⟩
  · have bg : fX4_begin N S (nI L) = some S0 := by
      unfold fX4_begin
      rw [bnd_eq, show Int32.ofNat 600 = nI 600 from rfl, if_neg (nI_nlt (by omega) (by omega))]
      unfold fX4_begin_18
      rw [bnd_eq, bnd_eq, bnd_eq, bnd_eq, bnd_eq, bnd_eq, bnd_eq, bnd_eq, ← e0]
    unfold fX4_scan
    rw [bdo_ok bg, bnd_eq]
    exact a1
  · unfold fX8_term
    rw [bnd_eq, bnd_eq]
    exact a2
