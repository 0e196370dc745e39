/-! one step of the reference's walk -/
def gK (S : St) (v : Nat) : Nat := (S.2.1 17 v).toNatClampNeg
def gX (S : St) (v : Nat) : Nat := (S.2.1 18 v).toNatClampNeg
def gW (S : St) (p : Nat) : Nat := (S.2.1 19 p).toNatClampNeg
def gV (S : St) (v k : Nat) : Nat := gW S (3 * v + k) / 3
def gP (S : St) (v k : Nat) : Nat := gW S (3 * v + k) % 3
def GOk (S : St) : Prop := (∀ v, v < 3010 → S.2.1 17 v = nI (gK S v) ∧ gK S v ≤ 7 ∧ S.2.1 18 v = nI (gX S v) ∧ gX S v ≤ 63) ∧ ∀ p, p < 9030 → S.2.1 19 p = nI (gW S p) ∧ gW S p < 9030
def WR (S : St) (nl nv : Nat) (c : Cf) : Prop := CR S nl nv ∧ c.1 < 3010 ∧ c.2.1 < 3 ∧ S.1 49 = nI (3 * c.1 + c.2.1) ∧ (∃ l, S.1 48 = nI l ∧ l < nl ∧ cxt S l = c.2.2.1) ∧ StkR S nl c.2.2.2.1 c.2.2.2.2.1 c.2.2.2.2.2 ∧ c.2.2.2.1.length ≤ c.2.2.2.2.2.length ∧ c.2.2.2.2.1.length ≤ c.2.2.2.2.2.length
abbrev FI : List Nat := [40, 43, 46, 48, 49, 50, 51, 54, 57]
abbrev FA : List Nat := [35, 36, 37, 38, 39, 41, 42, 44, 45, 52, 53, 55, 56]
def StepR (S S' : St) (nl nv : Nat) (r : Nat × Cf) : Prop := Fr S S' FI FA ∧ S'.1 46 = nI r.2.2.2.2.2.2.length ∧ TdR S' r.2.2.2.2.2.2 ∧ (r.1 = 6 → ∃ nl' nv', WR S' nl' nv' r.2 ∧ nl' ≤ nl + 66 ∧ nv' ≤ nv + 1)
theorem aGo_len : ∀ (lat : List Lt) (ab : List Ab) (td : List Nat), (aGo lat ab td).2.2.2.2.1.length ≤ lat.length ∧ (aGo lat ab td).2.2.2.2.2.1.length ≤ ab.length ∧ td.length ≤ (aGo lat ab td).2.2.2.2.2.2.length
  | [], ab, td => ⟨Nat.le_refl _, Nat.le_refl _, Nat.le_refl _⟩
  | it :: r, ab, td => by
    have e0 : aGo (it :: r) ab td = if it.1 = 1 then aGo r ab.tail td else if it.1 = 2 then aGo r ab (41 :: td) else (6, (it.2.1, 2, it.2.2, (2, 0, (fun _ => 0)) :: r, ab, 32 :: td)) := rfl
    rw [e0]
    by_cases c1 : it.1 = 1
    · rw [if_pos c1]
      obtain ⟨h1, h2, h3⟩ := aGo_len r ab.tail td
      refine ⟨Nat.le_succ_of_le h1, Nat.le_trans h2 ?_, h3⟩
      rw [List.length_tail]
      exact Nat.sub_le _ _
    · rw [if_neg c1]
      by_cases c2 : it.1 = 2
      · rw [if_pos c2]
        obtain ⟨h1, h2, h3⟩ := aGo_len r ab (41 :: td)
        exact ⟨Nat.le_succ_of_le h1, h2, Nat.le_trans (Nat.le_succ _) h3⟩
      · rw [if_neg c2]
        exact ⟨Nat.le_refl _, Nat.le_refl _, Nat.le_succ _⟩
theorem StepR.stay {S : St} {nl nv : Nat} {c : Cf} {w : Nat} (h : WR S nl nv c) (hw : w ≠ 6) : StepR S S nl nv (w, c) :=
  ⟨Fr.rf, h.2.2.2.2.2.1.2.2.2.2.1, h.2.2.2.2.2.1.2.2.2.2.2.1, fun e => absurd e hw⟩
/-- only the context and the way on change -/
theorem StepR.ctx {S S' : St} {nl nv nl' nv' v k l : Nat} {c : Cf} {cx : Nat → Nat} (h : WR S nl nv c) (hf : Fr S S' [40, 43, 48, 49] [35, 36, 37, 38, 39, 41, 42, 44]) (hC : CR S' nl' nv') (hv : v < 3010) (hk : k < 3) (h49 : S'.1 49 = nI (3 * v + k)) (h48 : S'.1 48 = nI l) (hl : l < nl') (hcx : cxt S' l = cx) (h1 : nl ≤ nl') (h2 : nl' ≤ nl + 66) (h3 : nv' ≤ nv + 1) (hold : ∀ q, q < nl → cxt S' q = cxt S q) : StepR S S' nl nv (6, (v, k, cx, c.2.2.2)) := by
  have hs := h.2.2.2.2.2.1.of (n' := nl') hf (by decide) (by decide) h1 hold
  exact ⟨hf.mono (by decide) (by decide), hs.2.2.2.2.1, hs.2.2.2.2.2.1, fun _ => ⟨nl', nv', ⟨hC, hv, hk, h49, ⟨l, h48, hl, hcx⟩, hs, h.2.2.2.2.2.2.1, h.2.2.2.2.2.2.2⟩, h2, h3⟩⟩
theorem X8_atLambda {S : St} {N nl nv v q : Nat} {c : Cf} (hN : Big N) (hG : GOk S) (h : WR S nl nv c) (hv : v < 3010) (hq : q < 3) (ht : c.2.2.2.2.2.length ≤ 4000) : ∃ S', fX8_atLambda N S (nI v) (nI q) = some (nI (aLam v q (gX S v) c).1, S') ∧ StepR S S' nl nv (aLam v q (gX S v) c) := by
  obtain ⟨hC, g1, g2, g3, ⟨l, g4, g5, g6⟩, hS, g7, g8⟩ := id h
  obtain ⟨-, -, hx, hx6⟩ := hG.1 v hv
  unfold fX8_atLambda aLam
  rw [show (2 : Int32) = nI 2 from rfl, show (1 : Int32) = nI 1 from rfl]
  by_cases c1 : q = 2
  · rw [if_pos (congrArg nI c1), if_pos c1]
    rcases X8_variable hN hC.1 hC.2.1 hC.2.2 hv hx hx6 g5 g4 hS (by omega) (by omega) (by omega) with ⟨e1, e2⟩ | ⟨k, e1, e2, S', e3, e4, e5, e6⟩
    · rw [g6] at e1
      rw [e1, bd2_ok e2]
      exact ⟨S, rfl, StepR.stay h (by decide)⟩
    · rw [g6] at e1
      rw [e1, bd2_ok e3]
      dsimp only
      obtain ⟨a1, a2, a3⟩ := aGo_len c.2.2.2.1 c.2.2.2.2.1 (dig k ++ c.2.2.2.2.2)
      have a4 : c.2.2.2.2.2.length ≤ (dig k ++ c.2.2.2.2.2).length := by rw [List.length_append]; omega
      refine ⟨S', rfl, e4.mono (by decide) (by decide), e5.2.2.2.2.1, e5.2.2.2.2.2.1, fun h6 => ?_⟩
      rcases e6 with e6 | ⟨-, b1, b2, b3, b4⟩
      · exact absurd (e6.symm.trans h6) (by decide)
      · refine ⟨nl, nv, ⟨hC.of e4 (by decide) (by decide), b1, by omega, by rw [b2]; exact b3, b4, e5, by omega, by omega⟩, by omega, by omega⟩
  · rw [if_neg (fun e => c1 ((nI_eq (by omega) (by omega)).mp e)), if_neg c1]
    by_cases c2 : q = 1
    · rw [if_pos (congrArg nI c2), if_pos c2]
      exact ⟨S, rfl, StepR.stay h (by decide)⟩
    · rw [if_neg (fun e => c2 ((nI_eq (by omega) (by omega)).mp e)), if_neg c2]
      obtain ⟨s57, sL, s54, sA_, s46, sT, sC⟩ := id hS
      obtain ⟨S1, e1, e2, e3, e4⟩ := Td_tell (N := N) (c := 92) sT s46 (by omega) (by decide)
      rw [bdo_ok (show fX8_tell N S (92 : Int32) = some S1 from e1), e3, show (4000 : Int32) = nI 4000 from rfl]
      by_cases c3 : 4000 ≤ c.2.2.2.2.2.length
      · rw [if_pos c3, if_neg (fun e => absurd ((nI_leI (show (92 :: c.2.2.2.2.2).length < 2 ^ 31 by show c.2.2.2.2.2.length + 1 < _; omega) (by omega)).mp e) (by show ¬ c.2.2.2.2.2.length + 1 ≤ 4000; omega))]
        exact ⟨S1, rfl, e2.mono (by decide) (by decide), e3, e4, fun e => absurd e (by show ¬ (3 : Nat) = 6; decide)⟩
      · rw [if_neg c3, if_pos (nI_le (show (92 :: c.2.2.2.2.2).length ≤ 4000 by show c.2.2.2.2.2.length + 1 ≤ 4000; omega) (by omega))]
        have p54 : S1.1 54 = nI c.2.2.2.2.1.length := (e2.1 54 (by decide)).trans s54
        have p48 : S1.1 48 = nI l := (e2.1 48 (by decide)).trans g4
        rw [p54, ckx_ok (vp_in_nI (by omega) (by omega)), bnd_eq, sA_1, p54, ckx_ok (vp_in_nI (by omega) (by omega)), bnd_eq, bnd_eq, sA_1, sA_1, p54, p48, nI_add, nI_clamp (by omega)]
        obtain ⟨S2, eS2⟩ : ∃ z, z = sI (sA (sA S1 52 (upd (S1.2.1 52) c.2.2.2.2.1.length (nI v))) 53 (upd (S1.2.1 53) c.2.2.2.2.1.length (nI l))) 54 (nI (c.2.2.2.2.1.length + 1)) := ⟨_, rfl⟩
        have f2 : Fr S1 S2 [54] [52, 53] := by rw [eS2]; exact ((Fr.A (by decide)).trans (Fr.A (by decide))).trans (Fr.I (by decide))
        have q54 : S2.1 54 = nI (c.2.2.2.2.1.length + 1) := by rw [eS2]; rfl
        have q52 : S2.2.1 52 = upd (S1.2.1 52) c.2.2.2.2.1.length (nI v) := by rw [eS2]; rfl
        have q53 : S2.2.1 53 = upd (S1.2.1 53) c.2.2.2.2.1.length (nI l) := by rw [eS2]; rfl
        have p57 : S2.1 57 = nI c.2.2.2.1.length := (f2.1 57 (by decide)).trans ((e2.1 57 (by decide)).trans s57)
        obtain ⟨S3, k1, k2, k3, k4, k5, k6⟩ := X8_after (N := N) (x := -1) (y := 0) p57 (by omega)
        have eS2' : fX8_after N (sI (sA (sA S1 52 (upd (S1.2.1 52) c.2.2.2.2.1.length (nI v))) 53 (upd ((sA S1 52 (upd (S1.2.1 52) c.2.2.2.2.1.length (nI v))).2.1 53) c.2.2.2.2.1.length (nI l))) 54 (nI (c.2.2.2.2.1.length + 1))) (-nI 1) 0 = some S3 := by
          rw [eS2] at k1
          exact k1
        rw [bdo_ok eS2', bnd_eq, show (3 : Int32) = nI 3 from rfl, pk_mul, nI_add]
        obtain ⟨S4, eS4⟩ : ∃ z, z = sI S3 49 (nI (3 * v + 1)) := ⟨_, rfl⟩
        rw [← eS4]
        have f4 : Fr S3 S4 [49] [] := by rw [eS4]; exact Fr.I (by decide)
        have c4 : cxt S4 = cxt S := (cxt_same f4 (by decide)).trans ((cxt_same k2 (by decide)).trans ((cxt_same f2 (by decide)).trans (cxt_same e2 (by decide))))
        have F4 : Fr S S4 [46, 54, 57, 49] [45, 52, 53, 55, 56] := (((e2.mono (by decide) (by decide)).trans (f2.mono (by decide) (by decide))).trans (k2.mono (by decide) (by decide))).trans (f4.mono (by decide) (fun _ h => by cases h))
        have r46 : S4.1 46 = nI (92 :: c.2.2.2.2.2).length := (f4.1 46 (by decide)).trans ((k2.1 46 (by decide)).trans ((f2.1 46 (by decide)).trans e3))
        have rT : TdR S4 (92 :: c.2.2.2.2.2) := TdR.of _ (fun j _ => by rw [f4.2.1 45 (by decide), k2.2.1 45 (by decide), f2.2.1 45 (by decide)]) e4
        refine ⟨S4, rfl, F4.mono (by decide) (by decide), r46, rT, fun _ => ⟨nl, nv, ⟨hC.of F4 (by decide) (by decide), hv, (by show 1 < 3; decide), by rw [eS4]; rfl, ⟨l, (F4.1 48 (by decide)).trans g4, g5, by rw [c4]; exact g6⟩, ⟨?_, ⟨Or.inl ⟨rfl, ?_⟩, ?_⟩, ?_, ⟨⟨hv, ?_, l, ?_, g5, by rw [c4]; exact g6⟩, ?_⟩, r46, rT, ?_⟩, ?_, ?_⟩, by omega, by omega⟩⟩
        · exact (f4.1 57 (by decide)).trans k3
        · rw [f4.2.1 55 (by decide)]; exact k4
        · exact LatR.of (Nat.le_refl _) (fun l _ => by rw [c4]) c.2.2.2.1 (fun j hj => by
            rw [f4.2.1 55 (by decide), f4.2.1 56 (by decide), (k6 j (by omega)).1, (k6 j (by omega)).2, f2.2.1 55 (by decide), f2.2.1 56 (by decide), e2.2.1 55 (by decide), e2.2.1 56 (by decide)]
            exact ⟨rfl, rfl⟩) sL
        · exact (f4.1 54 (by decide)).trans ((k2.1 54 (by decide)).trans q54)
        · rw [f4.2.1 52 (by decide), k2.2.1 52 (by decide), q52, upd_at, if_pos rfl]
        · rw [f4.2.1 53 (by decide), k2.2.1 53 (by decide), q53, upd_at, if_pos rfl]
        · exact AbR.of (Nat.le_refl _) (fun l _ => by rw [c4]) c.2.2.2.2.1 (fun j hj => by
            rw [f4.2.1 52 (by decide), f4.2.1 53 (by decide), k2.2.1 52 (by decide), k2.2.1 53 (by decide), q52, q53, upd_at, upd_at, if_neg (by omega), if_neg (by omega), e2.2.1 52 (by decide), e2.2.1 53 (by decide)]
            exact ⟨rfl, rfl⟩) sA_
        · show (if (1 : Nat) = 1 then 1 else 0) + cnt1 c.2.2.2.1 = c.2.2.2.2.1.length + 1
          rw [if_pos rfl, sC]; omega
        · show c.2.2.2.1.length + 1 ≤ c.2.2.2.2.2.length + 1
          omega
        · show c.2.2.2.2.1.length + 1 ≤ c.2.2.2.2.2.length + 1
          omega
theorem X8_atApplication {S : St} {N nl nv v q : Nat} {c : Cf} (h : WR S nl nv c) (hv : v < 3010) (hq : q < 3) (ht : c.2.2.2.2.2.length ≤ 4000) : ∃ S', fX8_atApplication N S (nI v) (nI q) = some (nI (aApp v q c).1, S') ∧ StepR S S' nl nv (aApp v q c) := by
  obtain ⟨hC, g1, g2, g3, ⟨l, g4, g5, g6⟩, hS, g7, g8⟩ := id h
  unfold fX8_atApplication aApp
  rw [show (1 : Int32) = nI 1 from rfl]
  by_cases c2 : q = 1
  · rw [if_pos (congrArg nI c2), if_pos c2]
    obtain ⟨s57, sL, s54, sA_, s46, sT, sC⟩ := id hS
    obtain ⟨S1, e1, e2, e3, e4⟩ := Td_tell (N := N) (c := 40) sT s46 (by omega) (by decide)
    rw [bdo_ok (show fX8_tell N S (40 : Int32) = some S1 from e1), e3, show (4000 : Int32) = nI 4000 from rfl]
    by_cases c3 : 4000 ≤ c.2.2.2.2.2.length
    · rw [if_pos c3, if_neg (fun e => absurd ((nI_leI (show (40 :: c.2.2.2.2.2).length < 2 ^ 31 by show c.2.2.2.2.2.length + 1 < _; omega) (by omega)).mp e) (by show ¬ c.2.2.2.2.2.length + 1 ≤ 4000; omega))]
      exact ⟨S1, rfl, e2.mono (by decide) (by decide), e3, e4, fun e => absurd e (by show ¬ (3 : Nat) = 6; decide)⟩
    · rw [if_neg c3, if_pos (nI_le (show (40 :: c.2.2.2.2.2).length ≤ 4000 by show c.2.2.2.2.2.length + 1 ≤ 4000; omega) (by omega))]
      have p48 : S1.1 48 = nI l := (e2.1 48 (by decide)).trans g4
      have p57 : S1.1 57 = nI c.2.2.2.1.length := (e2.1 57 (by decide)).trans s57
      obtain ⟨S3, k1, k2, k3, k4, k5, k6⟩ := X8_after (N := N) (x := nI v) (y := nI l) p57 (by omega)
      rw [p48, bdo_ok k1, bnd_eq, show (3 : Int32) = nI 3 from rfl, pk_mul]
      obtain ⟨S4, eS4⟩ : ∃ z, z = sI S3 49 (nI (3 * v)) := ⟨_, rfl⟩
      rw [← eS4]
      have f4 : Fr S3 S4 [49] [] := by rw [eS4]; exact Fr.I (by decide)
      have c4 : cxt S4 = cxt S := (cxt_same f4 (by decide)).trans ((cxt_same k2 (by decide)).trans (cxt_same e2 (by decide)))
      have F4 : Fr S S4 [46, 57, 49] [45, 55, 56] := ((e2.mono (by decide) (by decide)).trans (k2.mono (by decide) (by decide))).trans (f4.mono (by decide) (fun _ h => by cases h))
      have r46 : S4.1 46 = nI (40 :: c.2.2.2.2.2).length := (f4.1 46 (by decide)).trans ((k2.1 46 (by decide)).trans e3)
      have rT : TdR S4 (40 :: c.2.2.2.2.2) := TdR.of _ (fun j _ => by rw [f4.2.1 45 (by decide), k2.2.1 45 (by decide)]) e4
      refine ⟨S4, rfl, F4.mono (by decide) (by decide), r46, rT, fun _ => ⟨nl, nv, ⟨hC.of F4 (by decide) (by decide), hv, (by show 0 < 3; decide), by rw [eS4]; rfl, ⟨l, (F4.1 48 (by decide)).trans g4, g5, by rw [c4]; exact g6⟩, ⟨(f4.1 57 (by decide)).trans k3, ⟨Or.inr (Or.inr ⟨rfl, hv, ?_, l, ?_, g5, by rw [c4]; exact g6⟩), ?_⟩, (F4.1 54 (by decide)).trans s54, ?_, r46, rT, ?_⟩, ?_, ?_⟩, by omega, by omega⟩⟩
      · rw [f4.2.1 55 (by decide)]; exact k4
      · rw [f4.2.1 56 (by decide)]; exact k5
      · exact LatR.of (Nat.le_refl _) (fun l _ => by rw [c4]) c.2.2.2.1 (fun j hj => by
          rw [f4.2.1 55 (by decide), f4.2.1 56 (by decide), (k6 j (by omega)).1, (k6 j (by omega)).2, e2.2.1 55 (by decide), e2.2.1 56 (by decide)]
          exact ⟨rfl, rfl⟩) sL
      · exact AbR.of (Nat.le_refl _) (fun l _ => by rw [c4]) c.2.2.2.2.1 (fun j hj => by
          rw [F4.2.1 52 (by decide), F4.2.1 53 (by decide)]
          exact ⟨rfl, rfl⟩) sA_
      · show (if (0 : Nat) = 1 then 1 else 0) + cnt1 c.2.2.2.1 = c.2.2.2.2.1.length
        rw [if_neg (by decide), sC]; omega
      · show c.2.2.2.1.length + 1 ≤ c.2.2.2.2.2.length + 1
        omega
      · show c.2.2.2.2.1.length ≤ c.2.2.2.2.2.length + 1
        omega
  · rw [if_neg (fun e => c2 ((nI_eq (by omega) (by omega)).mp e)), if_neg c2]
    exact ⟨S, rfl, StepR.stay h (by decide)⟩
