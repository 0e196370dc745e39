/-! the class: behind a variable -/
def WE (S : St) (X : Nat → Nat) (lat : List Lt) (ab : List Ab) (td : List Nat) (tr : List Te) (ms : List Nat) (L : Nat → Nat) (n vs : Nat) : Prop := ∃ D bc, CX S D L n tr vs ∧ S.1 123 = nI td.length ∧ TdC S td ∧ td.length ≤ 4000 ∧ S.1 130 = nI lat.length ∧ lat.length ≤ td.length ∧ S.1 133 = nI ab.length ∧ S.1 135 = nI bc ∧ bc ≤ 63 * ab.length ∧ ab.length ≤ lat.length ∧ bc ≤ S.2.2.2.2.1 ∧ SkA S X L n tr lat ab ms bc ∧ RmC S
theorem SkA.al {S : St} {X L : Nat → Nat} {n : Nat} {tr : List Te} : ∀ (lat : List Lt) (ab : List Ab) (ms : List Nat) (bc : Nat), SkA S X L n tr lat ab ms bc → ab.length ≤ lat.length
  | [], _, _, _, h => by rw [h.1]; exact Nat.zero_le _
  | it :: r, ab, ms, bc, ⟨m, ms', _, _, _, _, hc⟩ => by
    show ab.length ≤ r.length + 1
    rcases hc with ⟨c1, c2, v, cxb, ab', st, d1, d2, d3, d4, d5, d6, d7, d8⟩ | ⟨c1, c2, c3⟩ | ⟨c1, c2, c3, c4, c5, c6⟩
    · have := SkA.al r ab' ms' st d8
      have hl : ab.length = ab'.length + 1 := by rw [d1]; rfl
      omega
    · have := SkA.al r ab ms' bc c3; omega
    · have := SkA.al r ab ms' bc c6; omega
/-- the mark where a walk goes on, and those outside of it -/
def eg : List Lt → List Nat → Nat × List Nat
  | it :: r, m :: ms => if it.1 = 1 ∨ it.1 = 2 then eg r ms else (m, ms)
  | _, _ => (0, [])
theorem X6_forget {S : St} {N b st : Nat} (h : S.1 133 = nI (b + 1)) (hb : b < 4000) (h2 : S.2.1 132 b = nI st) : ∃ S', fX6_forgetBinder N S = some S' ∧ Fr S S' [133, 135] [] ∧ S'.1 133 = nI b ∧ S'.1 135 = nI st := by
  unfold fX6_forgetBinder
  rw [h, if_neg (nI_nle (by omega) (by omega)), show (4000 : Int32) = nI 4000 from rfl, if_neg (nI_nlt (by omega) (by omega)), bnd_eq, nI_sub1 (by omega), Nat.add_sub_cancel]
  obtain ⟨S3, e3⟩ : ∃ z, z = sI S 133 (nI b) := ⟨_, rfl⟩
  rw [← e3]
  have z : S3.1 133 = nI b := by rw [e3]; rfl
  have z2 : S3.2.1 132 b = nI st := by rw [e3]; exact h2
  rw [z, ckx_ok (vp_in_nI (by omega) (by omega)), nI_clamp (by omega), z2, bnd_eq]
  exact ⟨_, rfl, by rw [e3]; exact (Fr.I (by decide)).trans (Fr.I (by decide)), z, rfl⟩
theorem X6_endLp {N vs n : Nat} {X L : Nat → Nat} {tr : List Te} (hN : Big N) : ∀ (lat : List Lt) (ab : List Ab) (td : List Nat) (ms : List Nat) (S : St) (f : Nat), lat.length < f → WE S X lat ab td tr ms L n vs →
    ∃ S' code, loopN (fun k x => fX6_endTerm_7s N k x.1 x.2) f (S, nI lat.length - 1) = some (code, S') ∧ FrW S S' WI WA ∧ RmC S' ∧ (∃ n', TrC S' n') ∧ (4000 < (aGo lat ab td).2.2.2.2.2.2.length → code = 3) ∧ ((aGo lat ab td).2.2.2.2.2.2.length ≤ 4000 → code = nI (aGo lat ab td).1 ∧ ((aGo lat ab td).1 = 0 → S'.1 123 = nI (aGo lat ab td).2.2.2.2.2.2.length ∧ TdC S' (aGo lat ab td).2.2.2.2.2.2) ∧ ((aGo lat ab td).1 = 6 → WK S' X (aGo lat ab td).2 (tr.drop (tr.length - (eg lat ms).1)) ((eg lat ms).1 :: (eg lat ms).2) (ctxAt L n tr (eg lat ms).1).1 (ctxAt L n tr (eg lat ms).1).2 vs ∧ (eg lat ms).1 ≤ tr.length))
  | [], ab, td, ms, S, f, hf, h => by
    obtain ⟨f, rfl⟩ : ∃ f', f = f' + 1 := ⟨f - 1, by have : 0 < f := hf; omega⟩
    obtain ⟨D, bc, h1, h2, h3, h4, h5, h6, h7, h8, h9, h10, h11, h12, h13⟩ := h
    refine ⟨S, 0, ?_, FrW.rf, h13, ⟨n, h1.1⟩, fun q => absurd h4 (by show ¬ td.length ≤ 4000; have : 4000 < td.length := q; omega), fun _ => ⟨rfl, fun _ => ⟨h2, h3⟩, fun q => absurd q (by show ¬ (0 : Nat) = 6; decide)⟩⟩
    show fX6_endTerm_7s N _ S (nI 0 - 1) = _
    unfold fX6_endTerm_7s
    rw [if_pos (by decide)]
  | it :: r, ab, td, ms, S, f, hf, h => by
    have hf : r.length + 1 < f := hf
    obtain ⟨f, rfl⟩ : ∃ f', f = f' + 1 := ⟨f - 1, by omega⟩
    obtain ⟨D, bc, h1, h2, h3, h4, h5, h6, h7, h8, h9, h10, h11, h12, h13⟩ := h
    have h5 : S.1 130 = nI (r.length + 1) := h5
    have h6 : r.length + 1 ≤ td.length := h6
    have h10 : ab.length ≤ r.length + 1 := h10
    obtain ⟨m, ms', e1, e2, e3, e4, hc⟩ := h12
    subst e1
    have e0 : aGo (it :: r) ab td = if it.1 = 1 then aGo r ab.tail td else if it.1 = 2 then aGo r ab (41 :: td) else (6, (it.2.1, 2, it.2.2, (2, 0, (fun _ => 0)) :: r, ab, 32 :: td)) := rfl
    have eg0 : eg (it :: r) (m :: ms') = if it.1 = 1 ∨ it.1 = 2 then eg r ms' else (m, ms') := rfl
    have ex : nI (it :: r).length - 1 = nI r.length := nI_sub1 (n := r.length + 1) (by omega)
    obtain ⟨Lp, eL⟩ : ∃ Lp, Lp = loopN (fun k x => fX6_endTerm_7s N k x.1 x.2) f := ⟨_, rfl⟩
    have eu : loopN (fun k x => fX6_endTerm_7s N k x.1 x.2) (f + 1) (S, nI (it :: r).length - 1) = fX6_endTerm_7s N Lp S (nI r.length) := by
      rw [eL, ← ex]; rfl
    have opn : ∀ t : Nat, t ≤ 2 → S.2.1 127 r.length = nI t → fX6_endTerm_7s N Lp S (nI r.length) = if nI t = (1 : Int32) then bdo (fX1_undoTo N S (nI m)) fun S14 => bnd (sA S14 127 (upd (S14.2.1 127) r.length (2 : Int32))) fun S16 => bdo (fX7_portOf (S16.2.1 128 r.length) (2 : Int32)) fun v18 => bnd (sI S16 124 v18) fun S20 => bd2 (fX6_tell N S20 (32 : Int32)) fun v21 S23 => if v21 = 0 then some ((3 : Int32), S23) else some ((6 : Int32), S23) else if nI t = (2 : Int32) then bd2 (fX6_tell N S (41 : Int32)) fun v7 S9 => if v7 = 0 then some ((3 : Int32), S9) else fX6_endTerm_99 N Lp S9 (nI r.length) else fX6_endTerm_99 N Lp S (nI r.length) := by
      intro t ht et
      unfold fX6_endTerm_7s
      rw [if_neg (nI_pos (by omega)), show (4000 : Int32) = nI 4000 from rfl, if_neg (fun q => absurd ((nI_leI (by omega) (by omega)).mp q) (by omega)), ckx_ok (vp_in_nI (by omega) (by omega)), nI_clamp (by omega), et, e4]
      by_cases c1 : nI t = (1 : Int32)
      · rw [if_pos c1, if_pos c1, ckx_ok (vp_in_nI (by omega) (by omega))]
        congr 1
        funext S14
        rw [ckx_ok (vp_in_nI (by omega) (by omega)), bnd_eq, bnd_eq, ckx_ok (vp_in_nI (by omega) (by omega))]
      · rw [if_neg c1, if_neg c1, ckx_ok (vp_in_nI (by omega) (by omega))]
    -- one stage less
    have less : ∀ (S9 : St) (td9 : List Nat) (ab9 : List Ab) (bc9 : Nat), Fr S S9 [123, 133, 135] [122] → S9.1 123 = nI td9.length → TdC S9 td9 → td9.length ≤ 4000 → td.length ≤ td9.length → S9.1 133 = nI ab9.length → S9.1 135 = nI bc9 → bc9 ≤ 63 * ab9.length → ab9.length ≤ r.length → bc9 ≤ S.2.2.2.2.1 → SkA S X L n tr r ab9 ms' bc9 → WE (sI S9 130 (nI r.length)) X r ab9 td9 tr ms' L n vs ∧ FrW S (sI S9 130 (nI r.length)) WI WA := by
      intro S9 td9 ab9 bc9 f9 a1 a2 a3 a4 a5 a6 a7 a8 a9 a10
      have f10 : Fr S9 (sI S9 130 (nI r.length)) [130] [] := Fr.I (by decide)
      have F : Fr S (sI S9 130 (nI r.length)) [123, 130, 133, 135] [122] := (f9.mono (by decide) (fun _ h => h)).trans (f10.mono (by decide) (fun _ h => (List.not_mem_nil h).elim))
      have etv : tv (sI S9 130 (nI r.length)) = tv S := tv_fr F.w (by decide)
      refine ⟨⟨D, bc9, h1.fr F.w (by decide) (by decide), a1, TdC.of (S := S9) _ (fun j _ => rfl) a2, a3, rfl, by omega, a5, a6, a7, a8, by rw [F.2.2]; exact a9, SkA.of _ _ _ _ (fun j _ => ⟨by rw [F.2.1 127 (by decide)], by rw [F.2.1 128 (by decide)], by rw [F.2.1 129 (by decide)]⟩) (fun j _ => ⟨by rw [F.2.1 131 (by decide)], by rw [F.2.1 132 (by decide)]⟩) (fun j _ => by rw [F.2.1 134 (by decide)]) (fun m2 hm => ⟨SkA.ms _ _ _ _ a10 m2 hm, rfl, fun i => by rw [etv]⟩) a10, h13.of F.2.2⟩, F.w.mono (by decide) (by decide)⟩
    have f112 : ∀ S9 : St, fX6_endTerm_112 N Lp S9 (nI r.length) = Lp (sI S9 130 (nI r.length), nI r.length - 1) := by
      intro S9
      unfold fX6_endTerm_112
      rw [bnd_eq, bnd_eq, show nI r.length + (-1 : Int32) = nI r.length - 1 from (Int32.sub_eq_add_neg _ _).symm]
    rcases hc with ⟨c1, c2, v, cxb, ab', st, d1, d2, d3, d4, d5, d6, d7, d8⟩ | ⟨c1, c2, c3⟩ | ⟨c1, c2, c3, c4, c5, c6⟩
    · -- an abstraction ends
      rw [eu, opn 0 (by decide) c2, if_neg (by decide), if_neg (by decide)]
      rw [e0, if_pos c1, eg0, if_pos (Or.inl c1), d1]
      show ∃ S' code, _ = some (code, S') ∧ _
      have hl : ab.length = ab'.length + 1 := by rw [d1]; rfl
      obtain ⟨S9, k1, k2, k3, k4⟩ := X6_forget (N := N) (b := ab'.length) (st := st) (by rw [h7, hl]) (by omega) d4
      have dm := SkA_bc _ _ _ _ d8
      obtain ⟨w1, w2⟩ := less S9 td ab' st (k2.mono (by decide) (fun _ h => (List.not_mem_nil h).elim)) (by rw [k2.1 123 (by decide)]; exact h2) (TdC.of _ (fun j _ => by rw [k2.2.1 122 (by decide)]) h3) h4 (Nat.le_refl _) k3 k4 dm (by omega) (by omega) d8
      obtain ⟨S', code, q1, q2, q3, q4, q5, q6⟩ := X6_endLp hN r ab' td ms' _ f (by omega) w1
      refine ⟨S', code, ?_, w2.trans q2, q3, q4, q5, q6⟩
      unfold fX6_endTerm_99
      rw [ckx_ok (vp_in_nI (by omega) (by omega)), nI_clamp (by omega), c2, if_pos (by decide), bdo_ok k1, f112, eL]
      exact q1
    · -- an argument ends
      rw [eu, opn 2 (by decide) c2, if_neg (by decide), if_pos (by decide)]
      rw [e0, if_neg (by omega), if_pos c1, eg0, if_pos (Or.inr c1)]
      have al := (aGo_len r ab (41 :: td)).2.2
      have al : td.length + 1 ≤ (aGo r ab (41 :: td)).2.2.2.2.2.2.length := al
      obtain ⟨t1, t2⟩ := X6_tell (N := N) (c := 41) h2 h3 (by decide) h4
      by_cases c4 : td.length < 4000
      · obtain ⟨S9, k1, k2, k3, k4⟩ := t1 c4
        have k1' : fX6_tell N S 41 = some (1, S9) := k1
        have c9 : ab.length ≤ r.length := SkA.al _ _ _ _ c3
        obtain ⟨w1, w2⟩ := less S9 (41 :: td) ab bc (k2.mono (by decide) (fun _ h => h)) k3 k4 (by show td.length + 1 ≤ 4000; omega) (by show td.length ≤ td.length + 1; omega) (by rw [k2.1 133 (by decide)]; exact h7) (by rw [k2.1 135 (by decide)]; exact h8) h9 c9 h11 c3
        obtain ⟨S', code, q1, q2, q3, q4, q5, q6⟩ := X6_endLp hN r ab (41 :: td) ms' _ f (by omega) w1
        refine ⟨S', code, ?_, w2.trans q2, q3, q4, q5, q6⟩
        rw [bd2_ok k1', if_neg (by decide)]
        unfold fX6_endTerm_99
        have c29 : S9.2.1 127 r.length = nI 2 := by rw [k2.2.1 127 (by decide)]; exact c2
        rw [ckx_ok (vp_in_nI (by omega) (by omega)), nI_clamp (by omega), c29, if_neg (by decide), f112, eL]
        exact q1
      · have k1 : fX6_tell N S 41 = some (0, S) := t2 (by omega)
        rw [bd2_ok k1, if_pos rfl]
        exact ⟨S, 3, rfl, FrW.rf, h13, ⟨n, h1.1⟩, fun _ => rfl, fun q => by omega⟩
    · -- a function ends: its argument is next
      rw [eu, opn 1 (by decide) c2, if_pos (by decide)]
      rw [e0, if_neg (by omega), if_neg (by omega), eg0, if_neg (by omega)]
      obtain ⟨S4, D4, u1, u2, u3, u4⟩ := X1_undoM (N := N) hN h1 e2
      have u3 : CX S4 D4 (ctxAt L n tr m).1 (ctxAt L n tr m).2 (tr.drop (tr.length - m)) vs := u3
      have u4 : TExt S S4 (ctxAt L n tr m).2 := u4
      have ln : (ctxAt L n tr m).2 ≤ n := (TrR_ids tr L n (tr.length - m) h1.2.2.2.2.1 h1.2.1.2.2.2.2.1).2
      have etv0 : ∀ k, k < (ctxAt L n tr m).2 → tv S4 k = tv S k := fun k hk => (tv_ext u3.1 h1.1 ln (fun k hk => ⟨(u4 k hk).1.symm, (u4 k hk).2.1.symm, (u4 k hk).2.2.symm⟩) k hk).symm
      rw [bdo_ok u1, bnd_eq]
      obtain ⟨S5, e5⟩ : ∃ z, z = sA S4 127 (upd (S4.2.1 127) r.length 2) := ⟨_, rfl⟩
      rw [← e5]
      have f5 : Fr S4 S5 [] [127] := by rw [e5]; exact Fr.A (by decide)
      have x128 : S5.2.1 128 r.length = nI it.2.1 := by rw [f5.2.1 128 (by decide), u2.2.1 128 (by decide)]; exact c4
      have po : fX7_portOf (nI it.2.1) 2 = some (nI (4 * it.2.1 + 2)) := pO it.2.1 2
      rw [x128, bdo_ok po, bnd_eq]
      obtain ⟨S6, e6⟩ : ∃ z, z = sI S5 124 (nI (4 * it.2.1 + 2)) := ⟨_, rfl⟩
      rw [← e6]
      have f6 : Fr S5 S6 [124] [] := by rw [e6]; exact Fr.I (by decide)
      have F6 : Fr S S6 [22, 27, 105, 124] [21, 23, 24, 25, 26, 100, 101, 102, 103, 104, 127] := ((u2.mono (by decide) (by decide)).trans (f5.mono (fun _ h => (List.not_mem_nil h).elim) (by decide))).trans (f6.mono (by decide) (fun _ h => (List.not_mem_nil h).elim))
      have F46 : Fr S4 S6 [124] [127] := (f5.mono (fun _ h => (List.not_mem_nil h).elim) (fun _ h => h)).trans (f6.mono (fun _ h => h) (fun _ h => (List.not_mem_nil h).elim))
      have td6 : TdC S6 td := TdC.of _ (fun j _ => by rw [F6.2.1 122 (by decide)]) h3
      obtain ⟨t1, t2⟩ := X6_tell (S := S6) (N := N) (c := 32) (by rw [F6.1 123 (by decide)]; exact h2) td6 (by decide) h4
      by_cases c7 : td.length < 4000
      · obtain ⟨S9, k1, k2, k3, k4⟩ := t1 c7
        have k1' : fX6_tell N S6 32 = some (1, S9) := k1
        have F : Fr S S9 WI WA := (F6.mono (by decide) (by decide)).trans (k2.mono (by decide) (by decide))
        have F49 : Fr S4 S9 [123, 124] [122, 127] := (F46.mono (by decide) (by decide)).trans (k2.mono (by decide) (by decide))
        have etv : ∀ k, k < (ctxAt L n tr m).2 → tv S9 k = tv S k := fun k hk => by rw [tv_fr F49.w (by decide)]; exact etv0 k hk
        have cx9 := u3.fr F49.w (by decide) (by decide)
        have w127 : S9.2.1 127 = upd (S.2.1 127) r.length 2 := by
          rw [k2.2.1 127 (by decide), f6.2.1 127 (by decide), e5]
          show upd (S4.2.1 127) r.length 2 = _
          rw [u2.2.1 127 (by decide)]
        have tl : (tr.drop (tr.length - m)).length = m := by rw [List.length_drop]; omega
        have w129 : S9.2.1 129 = S.2.1 129 := by rw [k2.2.1 129 (by decide), F6.2.1 129 (by decide)]
        have w128 : S9.2.1 128 = S.2.1 128 := by rw [k2.2.1 128 (by decide), F6.2.1 128 (by decide)]
        have w131 : S9.2.1 131 = S.2.1 131 := by rw [k2.2.1 131 (by decide), F6.2.1 131 (by decide)]
        have w132 : S9.2.1 132 = S.2.1 132 := by rw [k2.2.1 132 (by decide), F6.2.1 132 (by decide)]
        have w134 : S9.2.1 134 = S.2.1 134 := by rw [k2.2.1 134 (by decide), F6.2.1 134 (by decide)]
        have c9 : ab.length ≤ r.length := SkA.al _ _ _ _ c6
        have fin : WK S9 X (it.2.1, 2, it.2.2, (2, 0, (fun _ => 0)) :: r, ab, 32 :: td) (tr.drop (tr.length - m)) (m :: ms') (ctxAt L n tr m).1 (ctxAt L n tr m).2 vs := by
          refine ⟨D4, bc, cx9, ?_, ?_, k3, k4, by show td.length + 1 ≤ 4000; omega, ?_, by show r.length + 1 ≤ td.length + 1; omega, by rw [k2.1 133 (by decide), F6.1 133 (by decide)]; exact h7, by rw [k2.1 135 (by decide), F6.1 135 (by decide)]; exact h8, h9, by show ab.length ≤ r.length + 1; omega, by rw [F.2.2]; exact h11, ⟨m, ms', rfl, by omega, e3, by rw [w129]; exact e4, Or.inr (Or.inl ⟨rfl, by rw [w127, upd_at, if_pos rfl]; rfl, SkA.of _ _ _ _ (fun j hj => ?_) (fun j _ => by rw [w131, w132]; exact ⟨rfl, rfl⟩) (fun j _ => by rw [w134]) (fun m2 hm => ?_) c6⟩)⟩, h13.of F.2.2⟩
          · show it.2.2 = _
            rw [c5]
            funext i
            exact (etv _ (by have := (TrR_ids tr L n (tr.length - m) h1.2.2.2.2.1 h1.2.1.2.2.2.2.1).1 i; exact this)).symm
          · rw [k2.1 124 (by decide), e6]; rfl
          · rw [k2.1 130 (by decide), F6.1 130 (by decide)]; exact h5
          · rw [w127, w128, w129, upd_at, if_neg (by omega)]
            exact ⟨rfl, rfl, rfl⟩
          · have ml := e3 m2 hm
            have ed : ctxAt (ctxAt L n tr m).1 (ctxAt L n tr m).2 (tr.drop (tr.length - m)) m2 = ctxAt L n tr m2 := ctxAt_drop (tr.length - m) L n tr (by omega) (by omega)
            refine ⟨by omega, ed, fun i => etv _ ?_⟩
            have := TrR_ids (tr.drop (tr.length - m)) (ctxAt L n tr m).1 (ctxAt L n tr m).2 ((tr.drop (tr.length - m)).length - m2) cx9.2.2.2.2.1 cx9.2.1.2.2.2.2.1
            rw [← ed]
            exact Nat.lt_of_lt_of_le (this.1 i) this.2
        refine ⟨S9, 6, ?_, F.w, h13.of F.2.2, ⟨_, cx9.1⟩, fun q => ?_, fun _ => ⟨rfl, fun q => absurd q (by show ¬ (6 : Nat) = 0; decide), fun _ => ⟨fin, e2⟩⟩⟩
        · rw [bd2_ok k1', if_neg (by decide)]
        · have q : 4000 < td.length + 1 := q
          omega
      · have k1 : fX6_tell N S6 32 = some (0, S6) := t2 (by omega)
        rw [bd2_ok k1, if_pos rfl]
        refine ⟨S6, 3, rfl, F6.w.mono (by decide) (by decide), h13.of F6.2.2, ⟨_, (u3.fr F46.w (by decide) (by decide)).1⟩, fun _ => rfl, fun q => ?_⟩
        have q : td.length + 1 ≤ 4000 := q
        omega
