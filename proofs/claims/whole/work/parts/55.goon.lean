theorem lvl_same {S S' : St} (h41 : S'.2.1 41 = S.2.1 41) (h42 : S'.2.1 42 = S.2.1 42) : lvl S' = lvl S := by
  have hT : nT S' = nT S := by funext l; unfold nT; rw [h42]
  have hH : nH S' = nH S := by funext l; unfold nH; rw [h41]
  have hk : ∀ i l, tlk S' i l = tlk S i l := by
    intro i
    induction i with
    | zero => intro l; rfl
    | succ i ih => intro l; show tlk S' i (nT S' l) = tlk S i (nT S l); rw [hT]; exact ih _
  funext l i
  unfold lvl
  rw [hk, hH]
theorem val_same {S S' : St} (h35 : S'.2.1 35 = S.2.1 35) (h36 : S'.2.1 36 = S.2.1 36) (h37 : S'.2.1 37 = S.2.1 37) : val S' = val S := by
  have e1 : eK S' = eK S := by funext l; unfold eK; rw [h35]
  have e2 : eA S' = eA S := by funext l; unfold eA; rw [h36]
  have e3 : eB S' = eB S := by funext l; unfold eB; rw [h37]
  have hk : ∀ f k, valF S' f k = valF S f k := by
    intro f
    induction f with
    | zero => intro k; rfl
    | succ f ih =>
      intro k
      show (if k = 0 then 0 else code_ (eK S' k) (valF S' f (eA S' k)) (valF S' f (eB S' k))) = (if k = 0 then 0 else code_ (eK S k) (valF S f (eA S k)) (valF S f (eB S k)))
      rw [e1, e2, e3, ih, ih]
  funext k
  exact hk k k
theorem cxt_same {S S' : St} {is as : List Nat} (h : Fr S S' is as) (h1 : 41 ∉ as ∧ 42 ∉ as ∧ 35 ∉ as ∧ 36 ∉ as ∧ 37 ∉ as) : cxt S' = cxt S := by
  funext l i
  unfold cxt
  rw [lvl_same (h.2.1 41 h1.1) (h.2.1 42 h1.2.1), val_same (h.2.1 35 h1.2.2.1) (h.2.1 36 h1.2.2.2.1) (h.2.1 37 h1.2.2.2.2)]
theorem LatR.of {S S' : St} {n n' : Nat} (hn : n ≤ n') (hc : ∀ l, l < n → cxt S' l = cxt S l) : ∀ (lat : List Lt), (∀ j, j < lat.length → S'.2.1 55 j = S.2.1 55 j ∧ S'.2.1 56 j = S.2.1 56 j) → LatR S n lat → LatR S' n' lat
  | [], _, _ => trivial
  | it :: r, h, g => by
    have h0 := h r.length (Nat.lt_succ_self _)
    refine ⟨?_, LatR.of hn hc r (fun j hj => h j (Nat.lt_succ_of_lt hj)) g.2⟩
    rw [h0.1, h0.2]
    rcases g.1 with q | q | ⟨q1, q2, q3, l, q4, q5, q6⟩
    · exact Or.inl q
    · exact Or.inr (Or.inl q)
    · exact Or.inr (Or.inr ⟨q1, q2, q3, l, q4, Nat.lt_of_lt_of_le q5 hn, (hc l q5).trans q6⟩)
theorem AbR.of {S S' : St} {n n' : Nat} (hn : n ≤ n') (hc : ∀ l, l < n → cxt S' l = cxt S l) : ∀ (ab : List Ab), (∀ j, j < ab.length → S'.2.1 52 j = S.2.1 52 j ∧ S'.2.1 53 j = S.2.1 53 j) → AbR S n ab → AbR S' n' ab
  | [], _, _ => trivial
  | it :: r, h, g => by
    have h0 := h r.length (Nat.lt_succ_self _)
    obtain ⟨⟨q1, q2, l, q4, q5, q6⟩, g2⟩ := g
    exact ⟨⟨q1, h0.1.trans q2, l, h0.2.trans q4, Nat.lt_of_lt_of_le q5 hn, (hc l q5).trans q6⟩, AbR.of hn hc r (fun j hj => h j (Nat.lt_succ_of_lt hj)) g2⟩
def cnt1 : List Lt → Nat
  | [] => 0
  | it :: r => (if it.1 = 1 then 1 else 0) + cnt1 r
/-- stacks and letters of a walk -/
def StkR (S : St) (n : Nat) (lat : List Lt) (ab : List Ab) (td : List Nat) : Prop := S.1 57 = nI lat.length ∧ LatR S n lat ∧ S.1 54 = nI ab.length ∧ AbR S n ab ∧ S.1 46 = nI td.length ∧ TdR S td ∧ cnt1 lat = ab.length
theorem StkR.of {S S' : St} {n n' : Nat} {lat : List Lt} {ab : List Ab} {td : List Nat} {is as : List Nat} (h : StkR S n lat ab td) (hf : Fr S S' is as) (h1 : 57 ∉ is ∧ 54 ∉ is ∧ 46 ∉ is) (h2 : 55 ∉ as ∧ 56 ∉ as ∧ 52 ∉ as ∧ 53 ∉ as ∧ 45 ∉ as) (hn : n ≤ n') (hc : ∀ l, l < n → cxt S' l = cxt S l) : StkR S' n' lat ab td :=
  ⟨(hf.1 57 h1.1).trans h.1, LatR.of hn hc lat (fun j _ => by rw [hf.2.1 55 h2.1, hf.2.1 56 h2.2.1]; exact ⟨rfl, rfl⟩) h.2.1, (hf.1 54 h1.2.1).trans h.2.2.1, AbR.of hn hc ab (fun j _ => by rw [hf.2.1 52 h2.2.2.1, hf.2.1 53 h2.2.2.2.1]; exact ⟨rfl, rfl⟩) h.2.2.2.1, (hf.1 46 h1.2.2).trans h.2.2.2.2.1, TdR.of td (fun j _ => by rw [hf.2.1 45 h2.2.2.2.2]) h.2.2.2.2.2.1, h.2.2.2.2.2.2⟩
theorem X8_goLoop {N n : Nat} : ∀ (lat : List Lt) (k : Nat) (S : St) (ab : List Ab) (td : List Nat), lat.length < k → lat.length ≤ 8000 → StkR S n lat ab td → td.length + lat.length < 30000 →
    ∃ S', loopN (fun k x => fX8_goOn_0s N k x) k S = some (nI (aGo lat ab td).1, S') ∧ Fr S S' [57, 54, 46, 48, 49] [45, 55, 56] ∧ StkR S' n (aGo lat ab td).2.2.2.2.1 (aGo lat ab td).2.2.2.2.2.1 (aGo lat ab td).2.2.2.2.2.2 ∧
      ((aGo lat ab td).1 = 0 ∨ ((aGo lat ab td).1 = 6 ∧ (aGo lat ab td).2.1 < 3010 ∧ (aGo lat ab td).2.2.1 = 2 ∧ S'.1 49 = nI (3 * (aGo lat ab td).2.1 + 2) ∧ ∃ l, S'.1 48 = nI l ∧ l < n ∧ cxt S' l = (aGo lat ab td).2.2.2.1)) ∧ (aGo lat ab td).2.2.2.2.2.2.length ≤ td.length + lat.length
  | _, 0, _, _, _, h, _, _, _ => absurd h (Nat.not_lt_zero _)
  | [], k + 1, S, ab, td, _, _, hS, _ => by
    show ∃ S', fX8_goOn_0s N _ S = some (nI 0, S') ∧ _
    unfold fX8_goOn_0s
    rw [hS.1, if_pos (by decide)]
    exact ⟨S, rfl, Fr.rf, hS, Or.inl rfl, Nat.le_refl _⟩
  | it :: r, k + 1, S, ab, td, hk, hl, hS, ht => by
    obtain ⟨s57, sL, s54, sA, s46, sT, sC⟩ := id hS
    have hk' : r.length < k := Nat.lt_of_succ_lt_succ hk
    have hl' : r.length + 1 ≤ 8000 := hl
    have ht' : td.length + (r.length + 1) < 30000 := ht
    have s57' : S.1 57 = nI (r.length + 1) := s57
    show ∃ S', fX8_goOn_0s N _ S = some _ ∧ _
    unfold fX8_goOn_0s
    rw [s57', if_neg (nI_nle (by omega) (by omega)), bnd_eq, nI_pred]
    obtain ⟨S2, eS2⟩ : ∃ z, z = sI S 57 (nI r.length) := ⟨_, rfl⟩
    rw [← eS2]
    have f2 : Fr S S2 [57, 54, 46, 48, 49] [45, 55, 56] := by rw [eS2]; exact Fr.I (by decide)
    have f2' : Fr S S2 [57] [] := by rw [eS2]; exact Fr.I (by decide)
    have q57 : S2.1 57 = nI r.length := by rw [eS2]; rfl
    have c2 : cxt S2 = cxt S := cxt_same f2' (by decide)
    have hL2 : LatR S2 n r := LatR.of (Nat.le_refl _) (fun l _ => by rw [c2]) r (fun j _ => by rw [f2'.2.1 55 (by decide), f2'.2.1 56 (by decide)]; exact ⟨rfl, rfl⟩) sL.2
    have hA2 : AbR S2 n ab := AbR.of (Nat.le_refl _) (fun l _ => by rw [c2]) ab (fun j _ => by rw [f2'.2.1 52 (by decide), f2'.2.1 53 (by decide)]; exact ⟨rfl, rfl⟩) sA
    have hT2 : TdR S2 td := TdR.of td (fun j _ => by rw [f2'.2.1 45 (by decide)]) sT
    have q54 : S2.1 54 = nI ab.length := (f2'.1 54 (by decide)).trans s54
    have q46 : S2.1 46 = nI td.length := (f2'.1 46 (by decide)).trans s46
    rw [q57, ckx_ok (vp_in_nI (by omega) (by omega)), bnd_eq, nI_clamp (by omega), f2'.2.1 55 (by decide)]
    rcases sL.1 with ⟨t1, t2⟩ | ⟨t1, t2⟩ | ⟨t1, t2, t3, l, t4, t5, t6⟩
    · rw [t2, if_pos rfl, bnd_eq, q54]
      have hc1 : cnt1 (it :: r) = 1 + cnt1 r := by show (if it.1 = 1 then 1 else 0) + cnt1 r = _; rw [if_pos t1]
      rw [hc1] at sC
      obtain ⟨a0, ab', rfl⟩ : ∃ a0 ab', ab = a0 :: ab' := by
        cases ab with
        | nil => exact absurd sC (by show ¬ 1 + cnt1 r = 0; omega)
        | cons x y => exact ⟨x, y, rfl⟩
      have e0 : aGo (it :: r) (a0 :: ab') td = aGo r ab' td := by
        show (if it.1 = 1 then aGo r ab' td else _) = _
        rw [if_pos t1]
      rw [e0, show nI (a0 :: ab').length - 1 = nI ab'.length from nI_pred _]
      obtain ⟨S3, eS3⟩ : ∃ z, z = sI S2 54 (nI ab'.length) := ⟨_, rfl⟩
      rw [← eS3]
      have f3 : Fr S2 S3 [54] [] := by rw [eS3]; exact Fr.I (by decide)
      have c3 : cxt S3 = cxt S2 := cxt_same f3 (by decide)
      unfold fX8_goOn_98
      obtain ⟨S', k1, k2, k3, k4, k5⟩ := X8_goLoop r k S3 ab' td hk' (by omega) ⟨(f3.1 57 (by decide)).trans q57, LatR.of (Nat.le_refl _) (fun l _ => by rw [c3]) r (fun j _ => by rw [f3.2.1 55 (by decide), f3.2.1 56 (by decide)]; exact ⟨rfl, rfl⟩) hL2, by rw [eS3]; rfl, AbR.of (Nat.le_refl _) (fun l _ => by rw [c3]) ab' (fun j _ => by rw [f3.2.1 52 (by decide), f3.2.1 53 (by decide)]; exact ⟨rfl, rfl⟩) hA2.2, (f3.1 46 (by decide)).trans q46, TdR.of td (fun j _ => by rw [f3.2.1 45 (by decide)]) hT2, by
        have : 1 + cnt1 r = ab'.length + 1 := sC
        omega⟩ (by omega)
      exact ⟨S', k1, (f2.trans (f3.mono (by decide) (fun _ h => by cases h))).trans k2, k3, k4, by show _ ≤ td.length + (r.length + 1); omega⟩
    · have e0 : aGo (it :: r) ab td = aGo r ab (41 :: td) := by
        show (if it.1 = 1 then _ else if it.1 = 2 then aGo r ab (41 :: td) else _) = _
        rw [if_neg (by omega), if_pos t1]
      rw [e0, t2, if_neg (by decide), if_pos rfl]
      obtain ⟨S3, e1, e2, e3, e4⟩ := Td_tell (N := N) (c := 41) hT2 q46 (by omega) (by decide)
      rw [bdo_ok (show fX8_tell N S2 (41 : Int32) = some S3 from e1)]
      unfold fX8_goOn_98
      have c3 : cxt S3 = cxt S2 := cxt_same e2 (by decide)
      have hc1 : cnt1 (it :: r) = cnt1 r := by show (if it.1 = 1 then 1 else 0) + cnt1 r = _; rw [if_neg (by omega), Nat.zero_add]
      rw [hc1] at sC
      obtain ⟨S', k1, k2, k3, k4, k5⟩ := X8_goLoop r k S3 ab (41 :: td) hk' (by omega) ⟨(e2.1 57 (by decide)).trans q57, LatR.of (Nat.le_refl _) (fun l _ => by rw [c3]) r (fun j _ => by rw [e2.2.1 55 (by decide), e2.2.1 56 (by decide)]; exact ⟨rfl, rfl⟩) hL2, (e2.1 54 (by decide)).trans q54, AbR.of (Nat.le_refl _) (fun l _ => by rw [c3]) ab (fun j _ => by rw [e2.2.1 52 (by decide), e2.2.1 53 (by decide)]; exact ⟨rfl, rfl⟩) hA2, e3, e4, sC⟩ (by show td.length + 1 + r.length < 30000; omega)
      exact ⟨S', k1, (f2.trans (e2.mono (by decide) (by decide))).trans k2, k3, k4, by
        have : _ ≤ (td.length + 1) + r.length := k5
        show _ ≤ td.length + (r.length + 1)
        omega⟩
    · have e0 : aGo (it :: r) ab td = (6, (it.2.1, 2, it.2.2, (2, 0, (fun _ => 0)) :: r, ab, 32 :: td)) := by
        show (if it.1 = 1 then _ else if it.1 = 2 then _ else (6, (it.2.1, 2, it.2.2, (2, 0, (fun _ => 0)) :: r, ab, 32 :: td))) = _
        rw [if_neg (by omega), if_neg (by omega)]
      rw [e0, t3, if_neg (by intro h; have := nI_pos (n := it.2.1) (by omega); rw [h] at this; exact this (by decide)), if_neg (by intro h; have := nI_pos (n := it.2.1) (by omega); rw [h] at this; exact this (by decide))]
      obtain ⟨S3, e1, e2, e3, e4⟩ := Td_tell (N := N) (c := 32) hT2 q46 (by omega) (by decide)
      rw [bdo_ok (show fX8_tell N S2 (32 : Int32) = some S3 from e1)]
      have p57 : S3.1 57 = nI r.length := (e2.1 57 (by decide)).trans q57
      rw [p57, ckx_ok (vp_in_nI (by omega) (by omega)), bnd_eq, bnd_eq, nI_clamp (by omega)]
      have p56 : S3.2.1 56 r.length = nI l := by rw [e2.2.1 56 (by decide), f2'.2.1 56 (by decide)]; exact t4
      rw [p56, show (3 : Int32) = nI 3 from rfl, show (2 : Int32) = nI 2 from rfl, pk_mul, nI_add]
      obtain ⟨S4, eS4⟩ : ∃ z, z = sI (sI S3 48 (nI l)) 49 (nI (3 * it.2.1 + 2)) := ⟨_, rfl⟩
      rw [← eS4]
      have f4 : Fr S3 S4 [48, 49] [] := by rw [eS4]; exact (Fr.I (by decide)).trans (Fr.I (by decide))
      obtain ⟨S5, k1, k2, k3, k4, k5, k6⟩ := X8_after (N := N) (x := -2) (y := 0) (show S4.1 57 = nI r.length from (f4.1 57 (by decide)).trans p57) (by omega)
      rw [bdo_ok (show fX8_after N S4 (-nI 2) 0 = some S5 from k1)]
      have c5 : cxt S5 = cxt S := (cxt_same k2 (by decide)).trans ((cxt_same f4 (by decide)).trans ((cxt_same e2 (by decide)).trans c2))
      have a55 : ∀ j, j < r.length → S5.2.1 55 j = S2.2.1 55 j ∧ S5.2.1 56 j = S2.2.1 56 j := fun j hj => by
        obtain ⟨w1, w2⟩ := k6 j (by omega)
        rw [w1, w2, f4.2.1 55 (by decide), f4.2.1 56 (by decide), e2.2.1 55 (by decide), e2.2.1 56 (by decide)]
        exact ⟨rfl, rfl⟩
      have hc1 : cnt1 (it :: r) = cnt1 r := by show (if it.1 = 1 then 1 else 0) + cnt1 r = _; rw [if_neg (by omega), Nat.zero_add]
      rw [hc1] at sC
      refine ⟨S5, rfl, ((f2.trans (e2.mono (by decide) (by decide))).trans (f4.mono (by decide) (fun _ h => by cases h))).trans (k2.mono (by decide) (by decide)), ⟨k3, ⟨Or.inr (Or.inl ⟨rfl, k4⟩), LatR.of (Nat.le_refl _) (fun l _ => by rw [c5, c2]) r a55 hL2⟩, (k2.1 54 (by decide)).trans ((f4.1 54 (by decide)).trans ((e2.1 54 (by decide)).trans q54)), AbR.of (Nat.le_refl _) (fun l _ => by rw [c5, c2]) ab (fun j _ => by rw [k2.2.1 52 (by decide), k2.2.1 53 (by decide), f4.2.1 52 (by decide), f4.2.1 53 (by decide), e2.2.1 52 (by decide), e2.2.1 53 (by decide)]; exact ⟨rfl, rfl⟩) hA2, (k2.1 46 (by decide)).trans ((f4.1 46 (by decide)).trans e3), TdR.of _ (fun j _ => by rw [k2.2.1 45 (by decide), f4.2.1 45 (by decide)]) e4, ?_⟩, Or.inr ⟨rfl, t2, rfl, ?_, l, ?_, t5, ?_⟩, ?_⟩
      · show (if (2 : Nat) = 1 then 1 else 0) + cnt1 r = ab.length
        rw [if_neg (by decide), Nat.zero_add]
        exact sC
      · rw [k2.1 49 (by decide), eS4]; rfl
      · rw [k2.1 48 (by decide), eS4]; rfl
      · rw [c5]; exact t6
      · show td.length + 1 ≤ td.length + (r.length + 1)
        omega
