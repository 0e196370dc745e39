/-! read, run, count, letter, nodes -/
theorem SIM.gen {S S' M M' : St} {is as is' as' : List Nat} (h : SIM S M) (f : Fr S S' is as) (g : Fr M M' is' as') (h1 : ∀ k ∈ [44, 48, 49, 61, 62, 63, 105, 123, 143], k ∉ is) (h2 : ∀ k ∈ [40, 41, 42, 43, 45, 46, 47, 100, 101, 102, 103, 104, 122], k ∉ as) (h3 : ∀ k ∈ [21, 22, 23, 24, 25, 26, 28, 47], k ∉ is') (h4 : ∀ k ∈ [17, 18, 19, 20, 27, 45], k ∉ as') (hT : ∃ bs L, TPE S' M' bs L) (hF : S'.1 142 = M'.1 8 ∧ ∃ f, f < 5 ∧ M'.1 8 = nI f) : SIM S' M' := by
  obtain ⟨-, -, ⟨td, t1, t2, t3, t4⟩, ⟨φ, ψ, h5⟩, ⟨L, h6⟩, h7, n, h8⟩ := h
  have w1 : 44 ∉ is ∧ 48 ∉ is := ⟨h1 44 (by decide), h1 48 (by decide)⟩
  have w2 : 40 ∉ as ∧ 41 ∉ as ∧ 42 ∉ as ∧ 43 ∉ as ∧ 45 ∉ as ∧ 46 ∉ as ∧ 47 ∉ as := ⟨h2 40 (by decide), h2 41 (by decide), h2 42 (by decide), h2 43 (by decide), h2 45 (by decide), h2 46 (by decide), h2 47 (by decide)⟩
  have eG := (h5.1.w f.w w1 w2).2
  refine ⟨hT, hF, ⟨td, t1, by rw [f.1 143 (h1 143 (by decide))]; exact t2, by rw [g.1 47 (h3 47 (by decide))]; exact t3, fun q => ?_⟩, ⟨φ, ψ, (h5.wi f.w w1 w2 ⟨h1 61 (by decide), h1 62 (by decide), h1 63 (by decide), h1 49 (by decide)⟩).mi g ⟨h3 21 (by decide), h3 22 (by decide), h3 28 (by decide)⟩ ⟨h4 17 (by decide), h4 18 (by decide), h4 19 (by decide), h4 20 (by decide), h4 27 (by decide)⟩ ⟨h3 23 (by decide), h3 24 (by decide), h3 25 (by decide), h3 26 (by decide)⟩⟩, ⟨L, by rw [eG]; exact h6⟩, h7.tl (by rw [f.2.2]), n, h8.of (f.1 105 (h1 105 (by decide))) (f.2.1 100 (h2 100 (by decide))) (f.2.1 101 (h2 101 (by decide))) (f.2.1 102 (h2 102 (by decide))) (f.2.1 103 (h2 103 (by decide))) (f.2.1 104 (h2 104 (by decide)))⟩
  obtain ⟨q1, q2, q3⟩ := t4 q
  exact ⟨by rw [f.1 123 (h1 123 (by decide))]; exact q1, TdC.of td (fun j _ => by rw [f.2.1 122 (h2 122 (by decide))]) q2, SIM.of.TdR_of td (fun j _ => by rw [g.2.1 45 (h4 45 (by decide))]) q3⟩
theorem X2_size {S : St} {N : Nat} (h : GC S) : fX2_size N S = some (nI (cntA 3002 (cK S)), S) := by
  obtain ⟨s, a1, a2, -⟩ := h.2.1
  unfold fX2_size
  rw [a1, show (3002 : Int32) = nI 3002 from rfl, pk_sub (by omega), show 3002 - s = cntA 3002 (cK S) by omega]
theorem LK.all {S M : St} {φ ψ : Nat → Nat} (h : LK S M φ ψ) : cntA 3002 (cK S) = cntA 3010 (gK M) := by
  unfold cntA
  rw [h.cnt (j := 0) (by decide), h.cnt (j := 1) (by decide), h.cnt (j := 2) (by decide), h.cnt (j := 3) (by decide), h.cnt (j := 4) (by decide), h.cnt (j := 5) (by decide), h.cnt (j := 6) (by decide)]
theorem LK.m22 {S M : St} {φ ψ : Nat → Nat} (h : LK S M φ ψ) : M.1 22 = nI (cntA 3002 (cK S)) := by
  obtain ⟨s, a1, a2, a3, -⟩ := h.2.1.1.2
  rw [a3, h.all]
theorem TR.of {S S' M M' : St} {w bn : Nat} {is as is' as' : List Nat} (h : TR S M w bn) (f : Fr S S' is as) (g : Fr M M' is' as') (h1 : 83 ∉ is) (h2 : 80 ∉ as ∧ 81 ∉ as ∧ 82 ∉ as) (h3 : 14 ∉ is') (h4 : 3 ∉ as' ∧ 4 ∉ as' ∧ 5 ∉ as') : TR S' M' w bn := by
  obtain ⟨wd, xh, us, v, a1, a2, a3, a4, a5, a6⟩ := h
  exact ⟨wd, xh, us, v, by rw [f.1 83 h1]; exact a1, a2, a3, by rw [g.1 14 h3]; exact a4, fun k hk => (a5 k hk).of f g h2 h4, a6⟩
theorem S_read {S M : St} {N : Nat} (hN : Big N) (h : SIM S M) : ∃ v S' M', fX7_read N S = some (v, S') ∧ fX8_read N M = some (v, M') ∧ SIM S' M' ∧ Ge S' S := by
  obtain ⟨bs, L, a1, a2, a3, a4⟩ := id h.1
  obtain ⟨M0, e0⟩ : ∃ z, z = sI (sI (sI (sI (sI (sI (sI (sI M 0 0) 7 0) 8 0) 9 0) 10 0) 13 0) 14 0) 6 0 := ⟨_, rfl⟩
  have f0 : Fr M M0 (0 :: MI4) [] := by
    rw [e0]
    exact (((((((Fr.I (by decide)).trans (Fr.I (by decide))).trans (Fr.I (by decide))).trans (Fr.I (by decide))).trans (Fr.I (by decide))).trans (Fr.I (by decide))).trans (Fr.I (by decide))).trans (Fr.I (by decide))
  have z : M0.1 6 = 0 ∧ M0.1 7 = 0 ∧ M0.1 8 = 0 ∧ M0.1 9 = 0 ∧ M0.1 10 = 0 ∧ M0.1 13 = 0 ∧ M0.1 14 = 0 := by
    rw [e0]
    refine ⟨?_, ?_, ?_, ?_, ?_, ?_, ?_⟩
    · rw [sI_at]
    · rw [sI_ne (by decide), sI_ne (by decide), sI_ne (by decide), sI_ne (by decide), sI_ne (by decide), sI_ne (by decide), sI_at]
    · rw [sI_ne (by decide), sI_ne (by decide), sI_ne (by decide), sI_ne (by decide), sI_ne (by decide), sI_at]
    · rw [sI_ne (by decide), sI_ne (by decide), sI_ne (by decide), sI_ne (by decide), sI_at]
    · rw [sI_ne (by decide), sI_ne (by decide), sI_ne (by decide), sI_at]
    · rw [sI_ne (by decide), sI_ne (by decide), sI_at]
    · rw [sI_ne (by decide), sI_at]
  obtain ⟨S1, M1, y, b1, b2, b3, b4, b5⟩ := X_parse (S := S) (M := M0) (bs := bs) (N := N) hN a1 (fun p hp => by rw [f0.2.1 1 (by decide)]; exact a4 p hp) (by rw [f0.1 2 (by decide)]; exact a3) z
  obtain ⟨S5, e5⟩ : ∃ z, z = sI (sI S1 142 (S1.1 94)) 141 0 := ⟨_, rfl⟩
  obtain ⟨M2, m2⟩ : ∃ z, z = sI M1 2 0 := ⟨_, rfl⟩
  have fS5 : Fr S1 S5 [141, 142] [] := by rw [e5]; exact (Fr.I (by decide)).trans (Fr.I (by decide))
  have fM2 : Fr M1 M2 [2] [] := by rw [m2]; exact Fr.I (by decide)
  have FS : Fr S S5 (141 :: 142 :: 88 :: 89 :: CI4) CA4 := (b3.mono (by decide) (by decide)).trans (fS5.mono (by decide) (by decide))
  have FM : Fr M M2 (0 :: 2 :: MI4) MA4 := ((f0.mono (by decide) (by decide)).trans (b4.mono (by decide) (by decide))).trans (fM2.mono (by decide) (by decide))
  have s141 : S5.1 141 = nI 0 := by rw [e5, sI_at]; rfl
  have s142 : S5.1 142 = S1.1 94 := by rw [e5, sI_ne (by decide), sI_at]
  have m22 : M2.1 2 = nI 0 := by rw [m2, sI_at]; rfl
  have m28 : M2.1 8 = M1.1 8 := by rw [m2, sI_ne (by decide)]
  have T5 : TPE S5 M2 bs 0 := ⟨by omega, s141, m22, fun p hp => absurd hp (by omega)⟩
  have opC : fX7_read N S = if S5.1 142 = 0 then (bdo (fX7_takeTerm N S5) fun S9 => bd2 (fX2_size N S9) fun v10 S12 => some (v10, S12)) else bd2 (fX4_place N S5) fun v13 S15 => some (((-1 : Int32) - v13), S15) := by
    unfold fX7_read
    rw [a2, bd2_ok b1, bnd_eq, bnd_eq, ← e5]
  have opM : fX8_read N M = if M2.1 8 ≤ 0 then (bdo (fX8_begin N M2 y) fun S16 => some (S16.1 22, S16)) else some (((-1 : Int32) - M2.1 7), M2) := by
    unfold fX8_read
    rw [bnd_eq, bnd_eq, bnd_eq, bnd_eq, bnd_eq, bnd_eq, bnd_eq, bnd_eq, ← e0, bd2_ok b2, bnd_eq, ← m2]
  rcases b5 with ⟨f, q, p1, p2, p3, p4, p5, p6, p7⟩ | ⟨p1, p2, w, bn, p3, p4⟩
  · refine ⟨(-1 : Int32) - nI q, S5, M2, ?_, ?_, h.gen FS FM (by decide) (by decide) (by decide) (by decide) ⟨bs, 0, T5⟩ ⟨by rw [s142, m28, p3, p4], f, p2, by rw [m28, p4]⟩, Ge.fr FS⟩
    · rw [opC, s142, p3, if_neg (nI_ne p1 (by omega))]
      unfold fX4_place
      show some (-1 - S5.1 90, S5) = _
      rw [fS5.1 90 (by decide), p5]
    · rw [opM, m28, p4, if_neg (show ¬ nI f ≤ 0 from fun z => absurd ((nI_leI (b := 0) (by omega) (by omega)).mp z) (by omega)), fM2.1 7 (by decide), p6]
  · obtain ⟨-, -, -, ⟨φ, ψ, h4⟩, -, h6, n, h7⟩ := id h
    have wc : WiC S5 := by
      have e : S5.2.1 42 = S.2.1 42 := FS.2.1 42 (by decide)
      have ew : cW S5 = cW S := by funext p; unfold cW; rw [e]
      intro p hp
      rw [ew, e]
      exact h4.1.1.1.2 p hp
    have wm : WiM M2 := by
      have e18 : M2.2.1 18 = M.2.1 18 := FM.2.1 18 (by decide)
      have e19 : M2.2.1 19 = M.2.1 19 := FM.2.1 19 (by decide)
      have g1 : gX M2 = gX M := by funext p; unfold gX; rw [e18]
      have g2 : gW M2 = gW M := by funext p; unfold gW; rw [e19]
      unfold WiM
      rw [g1, g2, e18, e19]
      exact ⟨fun v hv => (h4.2.1.1.1.1 v hv).2.2, h4.2.1.1.1.2⟩
    obtain ⟨S6, M6, c1, c2, c3, c4, c5, c6, c7, c8⟩ := B_take (N := N) hN wc wm (p3.of fS5 fM2 (by decide) (by decide) (by decide) (by decide))
    have g6 : Ge S6 S := by
      show S.2.2.2.2.2.1 ≤ S6.2.2.2.2.2.1 ∧ S.2.2.2.2.2.2 ≤ S6.2.2.2.2.2.2
      rw [c7.2.2, FS.2.2]
      exact ⟨Nat.le_refl _, Nat.le_refl _⟩
    refine ⟨nI (cntA 3002 (cK S6)), S6, M6, ?_, ?_, ⟨⟨bs, 0, by omega, by rw [c7.1 141 (by decide)]; exact s141, by rw [c8.1 2 (by decide)]; exact m22, fun p hp => absurd hp (by omega)⟩, ⟨by rw [c7.1 142 (by decide), s142, c8.1 8 (by decide), m28, p1, p2], 0, by omega, by rw [c8.1 8 (by decide), m28, p2]; rfl⟩, ⟨[], by decide, c5, c6, fun q => absurd rfl q⟩, ⟨id, id, c3⟩, c4, h6.tl (by rw [c7.2.2, FS.2.2]), n, h7.of ?_ ?_ ?_ ?_ ?_ ?_⟩, g6⟩
    · rw [opC, s142, p1, if_pos rfl, bdo_ok c1, bd2_ok (X2_size c3.1.1)]
    · rw [opM, m28, p2, if_pos (by decide), p4, bdo_ok c2, c3.m22]
    · rw [c7.1 105 (by decide), FS.1 105 (by decide)]
    · rw [c7.2.1 100 (by decide), FS.2.1 100 (by decide)]
    · rw [c7.2.1 101 (by decide), FS.2.1 101 (by decide)]
    · rw [c7.2.1 102 (by decide), FS.2.1 102 (by decide)]
    · rw [c7.2.1 103 (by decide), FS.2.1 103 (by decide)]
    · rw [c7.2.1 104 (by decide), FS.2.1 104 (by decide)]
theorem S_run {S M : St} {N : Nat} (hN : Big N) (h : SIM S M) (x : Int32) : Ans S (fX7_run N S x) (fX8_run N M x) (fun e => e) := by
  have hb := hN
  unfold Big at hb
  have bad : fX8_run_12 N M x = some (0, sI M 0 1) := by
    unfold fX8_run_12 fX8_run_17
    rw [bnd_eq, sI_at, if_neg (by decide)]
  have no : Ans S (some (.inr (1, S))) (fX8_run_12 N M x) (fun e => e) := Or.inr ⟨1, S, 0, sI M 0 1, rfl, bad, sI_at, by omega, by omega, h.thr _, Ge.rf⟩
  unfold fX7_run fX8_run
  by_cases c0 : x < 0
  · rw [if_pos c0, if_pos c0]; exact no
  · rw [if_neg c0, if_neg c0]
    by_cases c1 : x ≤ (100000 : Int32)
    · rw [if_pos c1, if_pos c1]
      obtain ⟨j, j1, rfl⟩ := i32_le (k := 100000) c0 c1 (by omega)
      obtain ⟨⟨bs, L, a1, a2, a3, a4⟩, ⟨f1, f, f2, f3⟩, -, ⟨φ, ψ, h4⟩, ⟨lb, h5⟩, h6, n, h7⟩ := id h
      obtain ⟨S1, b1, b2, b3⟩ := X6_begin (N := N) hN h4.1.1 h7 h6 h5 h4.1.2.1.2.1
      obtain ⟨M3, m3⟩ : ∃ z, z = sI (sI M 0 0) 47 0 := ⟨_, rfl⟩
      have fM3 : Fr M M3 [0, 47] [] := by rw [m3]; exact (Fr.I (by decide)).trans (Fr.I (by decide))
      have K1 : LK S1 M3 φ ψ := (h4.w (b2.w.mono (by decide) (by decide))).mi fM3 (by decide) (by decide) (by decide)
      obtain ⟨code, S', M', φ', ψ', d1, d2, d3, d4, d5, d6, d7, d8, d9, ⟨ck, ck6, ek⟩, d11⟩ := lock (N := N) hN j S1 M3 0 _ [] lb φ ψ N j1 (by omega) K1 b3
      have re : fX7_reduce N S (nI j) = some (code, S') := by
        unfold fX7_reduce
        rw [bdo_ok b1]
        exact d1
      have r17 : fX8_run_17 N M (nI j) 0 = some (code, M') := by
        unfold fX8_run_17
        rw [bnd_eq, sI_at, if_pos (by decide), bnd_eq, ← m3]
        exact d2 N (by omega)
      have gr : Ge S' S := nX7_reduce N S (nI j) (code, S') re
      rw [bd2_ok re, r17]
      have z2 : M'.1 2 = nI L := by rw [d7.1 2 (by decide), fM3.1 2 (by decide)]; exact a3
      have z1 : M'.2.1 1 = M.2.1 1 := by rw [d7.2.1 1 (by decide), fM3.2.1 1 (by decide)]
      have z8 : M'.1 8 = M.1 8 := by rw [d7.1 8 (by decide), fM3.1 8 (by decide)]
      have z0 : M'.1 0 = 0 := by rw [d7.1 0 (by decide), m3, sI_ne (by decide), sI_at]
      have y141 : S'.1 141 = nI L := by rw [d6.1 141 (by decide), b2.1 141 (by decide)]; exact a2
      have y142 : S'.1 142 = S.1 142 := by rw [d6.1 142 (by decide), b2.1 142 (by decide)]
      have y140 : S'.2.1 140 = S.2.1 140 := by rw [d6.2.1 140 (by decide), b2.2.1 140 (by decide)]
      have fin : ∀ v : Int32, LTR (sI S' 143 v) M' → SIM (sI S' 143 v) M' := fun v hl => by
        have fv : Fr S' (sI S' 143 v) [143] [] := Fr.I (by decide)
        obtain ⟨n', t'⟩ := d5
        obtain ⟨lb', t11⟩ := d11
        exact ⟨⟨bs, L, a1, by rw [fv.1 141 (by decide)]; exact y141, z2, fun p hp => by rw [fv.2.1 140 (by decide), y140, z1]; exact a4 p hp⟩, ⟨by rw [fv.1 142 (by decide), y142, z8]; exact f1, f, f2, by rw [z8]; exact f3⟩, hl, ⟨φ', ψ', d3.wi fv.w (by decide) (by decide) (by decide)⟩, ⟨lb', t11⟩, d4.tl rfl, n', t'.of (fv.1 105 (by decide)) rfl rfl rfl rfl rfl⟩
      by_cases c : code = 0
      · obtain ⟨td, e1, e2, e3, e4, e5⟩ := d8 c
        have tl : fX6_told N S' = some (S'.1 123, S') := rfl
        rw [if_pos c, bd2_ok tl, bnd_eq]
        refine Or.inl ⟨code, _, M', rfl, rfl, z0, fin _ ⟨td, e3, by rw [sI_at]; exact e1, e4, fun _ => ⟨by rw [sI_ne (by decide)]; exact e1, TdC.of td (fun j _ => by rw [sI_2]) e2, e5⟩⟩, gr⟩
      · rw [if_neg c, bnd_eq]
        exact Or.inl ⟨code, _, M', rfl, rfl, z0, fin _ ⟨[], by decide, sI_at, d9 c, fun q => absurd rfl q⟩, gr⟩
    · rw [if_neg c1, if_neg c1]; exact no
theorem S_letter {S M : St} {N : Nat} (h : SIM S M) (x : Int32) : Ans S (fX7_letter N S x) (fX8_letter N M x) (fun _ => 1) := by
  have bad : fX8_letter_13 N M x = some (0, sI M 0 1) := by
    unfold fX8_letter_13 fX8_letter_18
    rw [bnd_eq, sI_at, if_neg (by decide)]
  have no : Ans S (some (.inr (3, S))) (fX8_letter_13 N M x) (fun _ => 1) := Or.inr ⟨3, S, 0, sI M 0 1, rfl, bad, sI_at, by omega, by omega, h.thr _, Ge.rf⟩
  obtain ⟨td, t1, t2, t3, t4⟩ := h.2.2.1
  unfold fX7_letter fX8_letter
  by_cases c0 : x < 0
  · rw [if_pos c0, if_pos c0]; exact no
  · rw [if_neg c0, if_neg c0, t2, t3]
    by_cases c1 : x < nI td.length
    · rw [if_pos c1, if_pos c1]
      obtain ⟨j, j1, rfl⟩ := i32_lt c0 c1 (by omega)
      obtain ⟨q1, q2, q3⟩ := t4 (fun z => by rw [z] at j1; exact absurd j1 (Nat.not_lt_zero _))
      have key : ∀ (td : List Nat) (j : Nat), j < td.length → td.length ≤ 4000 → TdC S td → TdR M td → S.2.1 122 j = M.2.1 45 j := by
        intro td
        induction td with
        | nil => intro j hj; exact absurd hj (Nat.not_lt_zero _)
        | cons c r ih =>
          intro j hj hl hC hR
          have hj : j < r.length + 1 := hj
          have hl : r.length + 1 ≤ 4000 := hl
          obtain ⟨⟨-, u1⟩, u2⟩ := hC
          obtain ⟨⟨-, v1⟩, v2⟩ := hR
          by_cases c : j = r.length
          · rw [c, u1, v1 (by omega)]
          · exact ih j (by omega) (by omega) u2 v2
      have kj := key td j j1 t1 q2 q3
      have la : fX6_letterAt N S (nI j) = some (S.2.1 122 j, S) := by
        unfold fX6_letterAt
        rw [if_neg (nI_pos (by omega)), q1, if_neg (fun z => absurd ((nI_leI (by omega) (by omega)).mp z) (by omega)), show (4000 : Int32) = nI 4000 from rfl, if_neg (fun z => absurd ((nI_leI (by omega) (by omega)).mp z) (by omega)), ckx_ok (vp_in_nI (by omega) (by omega)), nI_clamp (by omega)]
      refine Or.inl ⟨S.2.1 122 j, S, sI M 0 0, by rw [bd2_ok la], ?_, sI_at, h.thr _, Ge.rf⟩
      unfold fX8_letter_18
      rw [bnd_eq, sI_at, if_pos (by decide), ckx_ok (vp_in_nI (by omega) (by omega)), nI_clamp (by omega), kj]
      rfl
    · rw [if_neg c1, if_neg c1]; exact no
theorem NL_loop {M : St} {N : Nat} {x : Int32} (hM : GOk M) : ∀ (d k f : Nat) (acc : Int32), k + d = 3010 → d < f → ∃ z, loopN (fun k x => fX8_nodes_22s N k x.1 x.2.1 x.2.2.1 x.2.2.2) f (M, x, acc, nI k) = (if M.1 0 ≤ 0 then some (z, M) else some (0, M)) ∧ ∀ j, j < 7 → x = nI j → acc = nI (cnt k (gK M) j) → z = nI (cnt 3010 (gK M) j)
  | 0, k, f, acc, hk, hf => by
    obtain ⟨f, rfl⟩ : ∃ g, f = g + 1 := ⟨f - 1, by omega⟩
    refine ⟨acc, ?_, fun j _ _ e => by rw [e, show k = 3010 by omega]⟩
    show fX8_nodes_22s N _ M x acc (nI k) = _
    unfold fX8_nodes_22s
    rw [show (3010 : Int32) = nI 3010 from rfl, if_pos (nI_le (by omega) (by omega))]
  | d + 1, k, f, acc, hk, hf => by
    obtain ⟨f, rfl⟩ : ∃ g, f = g + 1 := ⟨f - 1, by omega⟩
    have gk := hM.1 k (by omega)
    obtain ⟨acc', ea⟩ : ∃ z, z = acc + (if M.2.1 17 k = x then (1 : Int32) else 0) := ⟨_, rfl⟩
    obtain ⟨z, a1, a2⟩ := NL_loop (N := N) (x := x) hM d (k + 1) f acc' (by omega) (by omega)
    refine ⟨z, ?_, fun j hj ex e => a2 j hj ex ?_⟩
    · show fX8_nodes_22s N (loopN (fun k x => fX8_nodes_22s N k x.1 x.2.1 x.2.2.1 x.2.2.2) f) M x acc (nI k) = _
      obtain ⟨Lp, eL⟩ : ∃ Lp, Lp = loopN (fun k x => fX8_nodes_22s N k x.1 x.2.1 x.2.2.1 x.2.2.2) f := ⟨_, rfl⟩
      rw [← eL] at a1 ⊢
      unfold fX8_nodes_22s
      rw [show (3010 : Int32) = nI 3010 from rfl, if_neg (fun z => absurd ((nI_leI (by omega) (by omega)).mp z) (by omega)), ckx_ok (vp_in_nI (by omega) (by omega)), nI_clamp (by omega)]
      have e45 : ∀ y : Int32, fX8_nodes_45 N Lp M x (nI k) acc y = Lp (M, x, acc + y, nI (k + 1)) := fun y => by
        unfold fX8_nodes_45
        rw [bnd_eq, bnd_eq, show nI k + (1 : Int32) = nI (k + 1) from nI_1 _]
      rw [e45, e45]
      by_cases c : M.2.1 17 k = x
      · rw [if_pos c] at ea ⊢
        rw [← ea]; exact a1
      · rw [if_neg c] at ea ⊢
        rw [← ea]; exact a1
    · rw [ea, e]
      show _ = nI (cnt k (gK M) j + if gK M k = j then 1 else 0)
      by_cases c : gK M k = j
      · rw [if_pos c, if_pos (by rw [gk.1, c, ex]), nI_1]
      · rw [if_neg c, if_neg (fun z => c ((nI_eq (by omega) (by omega)).mp (gk.1.symm.trans (z.trans ex)))), show (0 : Int32) = nI 0 from rfl, nI_add]
theorem S_nodes {S M : St} {N : Nat} (hN : Big N) (h : SIM S M) (x : Int32) : Ans S (fX7_nodes N S x) (fX8_nodes N M x) (fun _ => 1) := by
  have hb := hN
  unfold Big at hb
  obtain ⟨φ, ψ, h4⟩ := h.2.2.2.1
  have lp : ∀ y : Int32, ∃ z, fX8_nodes_15 N M x y = (if (sI M 0 y).1 0 ≤ 0 then some (z, sI M 0 y) else some (0, sI M 0 y)) ∧ ∀ j, j < 7 → x = nI j → z = nI (cnt 3010 (gK M) j) := fun y => by
    obtain ⟨z, a1, a2⟩ := NL_loop (N := N) (x := x) (M := sI M 0 y) h4.2.1.1.1 3010 0 N 0 (by omega) (by omega)
    exact ⟨z, a1, fun j hj e => a2 j hj e rfl⟩
  have no : Ans S (some (.inr (3, S))) (fX8_nodes_10 N M x) (fun _ => 1) := by
    obtain ⟨z, a1, -⟩ := lp 1
    rw [sI_at, if_neg (by decide)] at a1
    exact Or.inr ⟨3, S, 0, sI M 0 1, rfl, a1, sI_at, by omega, by omega, h.thr _, Ge.rf⟩
  unfold fX7_nodes fX8_nodes
  by_cases c0 : x < 0
  · rw [if_pos c0, if_pos c0]; exact no
  · rw [if_neg c0, if_neg c0]
    by_cases c1 : x ≤ (5 : Int32)
    · rw [if_pos c1, if_pos c1]
      obtain ⟨j, j1, rfl⟩ := i32_le (k := 5) c0 c1 (by omega)
      obtain ⟨z, a1, a2⟩ := lp 0
      rw [sI_at, if_pos (by decide)] at a1
      have ez := a2 j (by omega) rfl
      have pp : fX2_population N S (nI j) = some (nI (cnt 3002 (cK S) j), S) := by
        unfold fX2_population
        rw [if_neg (nI_pos (by omega)), show (7 : Int32) = nI 7 from rfl, if_neg (fun z => absurd ((nI_leI (by omega) (by omega)).mp z) (by omega)), ckx_ok (vp_in_nI (by omega) (by omega)), nI_clamp (by omega), h4.1.1.2.2 j (by omega)]
      rw [bd2_ok pp, a1, ez, ← h4.cnt (show j < 7 by omega)]
      exact Or.inl ⟨_, S, _, rfl, rfl, sI_at, h.thr _, Ge.rf⟩
    · rw [if_neg c1, if_neg c1]; exact no
theorem S_count {S M : St} {N : Nat} (h : SIM S M) (x : Int32) : Ans S (fX7_count N S x) (fX8_count N M x) (fun _ => 1) := by
  obtain ⟨⟨bs, L, a1, a2, a3, a4⟩, ⟨f1, -⟩, ⟨td, t1, t2, t3, t4⟩, ⟨φ, ψ, h4⟩, -⟩ := id h
  have ok : ∀ (k : Nat) (v : Int32), x = nI k → k ≤ 7 → fX7_count N S x = some (.inl (v, S)) → fX8_count_16 N M x 0 = some (v, sI M 0 0) → Ans S (fX7_count N S x) (fX8_count N M x) (fun _ => 1) := fun k v e hk e1 e2 => by
    refine Or.inl ⟨v, S, sI M 0 0, e1, ?_, sI_at, h.thr _, Ge.rf⟩
    unfold fX8_count
    rw [e, if_neg (nI_pos (by omega)), show (7 : Int32) = nI 7 from rfl, if_pos (nI_le hk (by omega)), ← e]
    exact e2
  have m22 := h4.m22
  obtain ⟨-, -, -, -, k61, k62, k63, a, k49, k26⟩ := id h4
  by_cases c0 : x < 0
  · have n : ∀ k : Nat, k < 8 → ¬ x = nI k := fun k hk e => by rw [e] at c0; exact nI_pos (by omega) c0
    refine Or.inr ⟨3, S, 0, sI M 0 1, ?_, ?_, sI_at, by omega, by omega, h.thr _, Ge.rf⟩
    · unfold fX7_count
      rw [if_neg (show ¬ x = 0 from n 0 (by omega)), if_neg (show ¬ x = 1 from n 1 (by omega)), if_neg (show ¬ x = 2 from n 2 (by omega)), if_neg (show ¬ x = 3 from n 3 (by omega)), if_neg (show ¬ x = 4 from n 4 (by omega)), if_neg (show ¬ x = 5 from n 5 (by omega)), if_neg (show ¬ x = 6 from n 6 (by omega)), if_neg (show ¬ x = 7 from n 7 (by omega))]
    · unfold fX8_count
      rw [if_pos c0]
      unfold fX8_count_11 fX8_count_16
      rw [bnd_eq, if_neg (show ¬ x = 0 from n 0 (by omega)), if_neg (show ¬ x = 1 from n 1 (by omega)), if_neg (show ¬ x = 2 from n 2 (by omega)), if_neg (show ¬ x = 3 from n 3 (by omega)), if_neg (show ¬ x = 4 from n 4 (by omega)), if_neg (show ¬ x = 5 from n 5 (by omega)), if_neg (show ¬ x = 6 from n 6 (by omega)), if_neg (show ¬ x = 7 from n 7 (by omega))]
  · by_cases c7 : x ≤ (7 : Int32)
    · obtain ⟨j, j1, rfl⟩ := i32_le (k := 7) c0 c7 (by omega)
      have : j = 0 ∨ j = 1 ∨ j = 2 ∨ j = 3 ∨ j = 4 ∨ j = 5 ∨ j = 6 ∨ j = 7 := by omega
      rcases this with e | e | e | e | e | e | e | e <;> subst e
      · exact ok 0 (S.1 142) rfl (by omega) rfl (by show some (M.1 8, sI M 0 0) = _; rw [f1])
      · exact ok 1 (S.1 61) rfl (by omega) rfl (by show some (M.1 23, sI M 0 0) = _; rw [k61])
      · exact ok 2 (S.1 62) rfl (by omega) rfl (by show some (M.1 24, sI M 0 0) = _; rw [k62])
      · exact ok 3 (S.1 63) rfl (by omega) rfl (by show some (M.1 25, sI M 0 0) = _; rw [k63])
      · exact ok 4 (S.1 49) rfl (by omega) rfl (by show some (M.1 26, sI M 0 0) = _; rw [k49, k26])
      · exact ok 5 (nI (cntA 3002 (cK S))) rfl (by omega) (by
          have e : fX7_count N S (nI 5) = bd2 (fX2_size N S) fun v19 S21 => some (.inl (v19, S21)) := rfl
          rw [e, bd2_ok (X2_size h4.1.1)]) (by show some (M.1 22, sI M 0 0) = _; rw [m22])
      · exact ok 6 (S.1 143) rfl (by omega) rfl (by show some (M.1 47, sI M 0 0) = _; rw [t2, t3])
      · exact ok 7 (S.1 141) rfl (by omega) rfl (by show some (M.1 2, sI M 0 0) = _; rw [a2, a3])
    · have n : ∀ k : Nat, k < 8 → ¬ x = nI k := fun k hk e => c7 (by rw [e]; exact nI_le (b := 7) (by omega) (by omega))
      refine Or.inr ⟨3, S, 0, sI M 0 1, ?_, ?_, sI_at, by omega, by omega, h.thr _, Ge.rf⟩
      · unfold fX7_count
        rw [if_neg (show ¬ x = 0 from n 0 (by omega)), if_neg (show ¬ x = 1 from n 1 (by omega)), if_neg (show ¬ x = 2 from n 2 (by omega)), if_neg (show ¬ x = 3 from n 3 (by omega)), if_neg (show ¬ x = 4 from n 4 (by omega)), if_neg (show ¬ x = 5 from n 5 (by omega)), if_neg (show ¬ x = 6 from n 6 (by omega)), if_neg (show ¬ x = 7 from n 7 (by omega))]
      · unfold fX8_count
        rw [if_neg c0, if_neg c7]
        unfold fX8_count_11 fX8_count_16
        rw [bnd_eq, if_neg (show ¬ x = 0 from n 0 (by omega)), if_neg (show ¬ x = 1 from n 1 (by omega)), if_neg (show ¬ x = 2 from n 2 (by omega)), if_neg (show ¬ x = 3 from n 3 (by omega)), if_neg (show ¬ x = 4 from n 4 (by omega)), if_neg (show ¬ x = 5 from n 5 (by omega)), if_neg (show ¬ x = 6 from n 6 (by omega)), if_neg (show ¬ x = 7 from n 7 (by omega))]
