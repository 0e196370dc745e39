/-! the two programs' runs side by side -/
abbrev CI9 : List Nat := [44, 48, 49, 61, 62, 63, 126, 22, 27, 105, 123, 124, 130, 133, 135]
abbrev CA9 : List Nat := [40, 41, 42, 43, 45, 46, 47, 125, 21, 23, 24, 25, 26, 100, 101, 102, 103, 104, 122, 127, 128, 129, 131, 132, 134]
abbrev MI9 : List Nat := [21, 22, 23, 24, 25, 26, 28] ++ FI2
abbrev MA9 : List Nat := [17, 18, 19, 20, 27, 34] ++ FA
/-- the class's walk over a meeting and its erasing -/
theorem CW_next {S S' : St} {t l r : Nat} {y : XS} {H : List XS} {lab : Nat → Nat → Nat} {G1 : Gr} {c0 : Cf} (h : CW S t y H lab) (hG : GVr 3002 (Gc S)) (hW : WG (Gc S)) (hl : l < 3002) (hr : r < 3002) (kl : cK S l < 5) (kr : cK S r < 5) (ne : l ≠ r) (hcu : cV S l 0 = r ∧ cP S l 0 = 0 ∧ cV S r 0 = l ∧ cP S r 0 = 0) (hM : MtR 3002 (Gc S) l r G1) (hG1 : GVr 3002 G1) (hE : ESp 3002 G1 (Gc S')) (hG' : GVr 3002 (Gc S')) (h6 : gStep (Gc S) y.1 = (6, c0)) (hf : Fr S S' [44, 48, 49, 61, 62, 63] [40, 41, 42, 43, 45, 46, 47]) : WG (Gc S') ∧ ∃ lab', CW S' t y H lab' := by
  obtain ⟨wk, w126, w3, w4, w5, w6, w7, w8⟩ := h
  obtain ⟨g1, g2, g3, lab', g4, g5⟩ := Mt_next hG hW hl hr kl kr ne hcu hM hG1 hE hG' w7
  have hl6 : (Gc S).1 l ≠ 6 := by show cK S l ≠ 6; omega
  have hr6 : (Gc S).1 r ≠ 6 := by show cK S r ≠ 6; omega
  have f1 : ∀ t c c', wkTo (Gc S) t aStart c → gStep (Gc S) c = (6, c') → NT l r c ∧ wkTo G1 t aStart c := fun t c c' a b => by
    have nt := NT_to hG hW hcu hl6 hr6 t c c' a b
    exact ⟨nt, wk_agr hG hW hcu hl6 hr6 g3 t c a nt⟩
  -- nodes that a state speaks of
  have nd : ∀ t c c', wkTo (Gc S) t aStart c → gStep (Gc S) c = (6, c') → CQ (fun v => lv 3002 (Gc S) v ∧ v ≠ l ∧ v ≠ r ∧ stay 3002 G1 v) c := fun t c c' a b => by
    obtain ⟨nt, w⟩ := f1 t c c' a b
    have s := wk_stay hG1 g1 t c w
    have q := (wk_ok hG t c a).1
    exact ⟨⟨q.1, nt.1.1, nt.1.2, s.1⟩, fun e he => ⟨q.2.1 e he, (nt.2.1 e he).1, (nt.2.1 e he).2, s.2.1 e he⟩, fun it hi n1 n2 => ⟨q.2.2 it hi n1 n2, (nt.2.2 it hi n1 n2).1, (nt.2.2 it hi n1 n2).2, s.2.2 it hi n1 n2⟩⟩
  have ll : ∀ (z : XS) t c', wkTo (Gc S) t aStart z.1 → gStep (Gc S) z.1 = (6, c') → LLs lab z → LLs lab' z := fun z t c' a b hz => by
    have q := nd t z.1 c' a b
    obtain ⟨z1, z2, z3⟩ := hz
    refine ⟨?_, z2, LLt_congr _ _ (fun it hi n1 n2 => g5 _ _ (q.2.2 it hi n1 n2).1 (q.2.2 it hi n1 n2).2.1 (q.2.2 it hi n1 n2).2.2.1 (q.2.2 it hi n1 n2).2.2.2) z3⟩
    rw [g5 _ _ q.1.1 q.1.2.1 q.1.2.2.1 q.1.2.2.2]
    exact z1
  have ny := nd t y.1 c0 w6.hd h6
  obtain ⟨wk', etv⟩ := WK.of (X' := cX S') wk hf.w (by decide) (by decide) hf.2.2 (fun e he => by
    obtain ⟨n1, n2, n3, n4⟩ := ny.2.1 e he
    have a := (hE.1 e.1 n4).2.1
    have b := (g3 e.1 n1.1 n2 n3 (lv_p n1)).2.1
    exact a.trans b)
  refine ⟨g2, lab', wk', by rw [hf.1 126 (by decide)]; exact w126, w3, w4, HC.of H y t (fun j _ => by rw [hf.2.1 125 (by decide)]) (fun k _ => by rw [etv]) w5, HW.map H t y.1 c0 (fun t c c' a b => wk_erase hG1 g1 hE t c (f1 t c c' a b).2) h6 w6, g4, ll y t c0 w6.hd h6 w8.1, fun z hz => ?_⟩
  obtain ⟨t1, c', a, b⟩ := HW.on H t y.1 w6 z hz
  exact ll z t1 c' a b (w8.2 z hz)
def LockP (N left : Nat) : Prop := ∀ (S M : St) (t : Nat) (x : XS) (H : List XS) (lab : Nat → Nat → Nat) (φ ψ : Nat → Nat) (f : Nat), left ≤ 100000 → left < f → LK S M φ ψ → CW S t x H lab →
    ∃ code S' M' φ' ψ', loopN (fun k x => fX7_reduce_9s N k x.1 x.2) f (S, nI left) = some (code, S') ∧ RM N M left (code, M') ∧ LK S' M' φ' ψ' ∧ RmC S' ∧ (∃ n', TrC S' n') ∧ FrW S S' CI9 CA9 ∧ Fr M M' MI9 MA9 ∧ (code = 0 → ∃ td, S'.1 123 = nI td.length ∧ TdC S' td ∧ td.length ≤ 4000 ∧ M'.1 47 = nI td.length ∧ TdR M' td) ∧ (code ≠ 0 → M'.1 47 = 0) ∧ (∃ k, k ≤ 6 ∧ code = nI k) ∧ ∃ L, LbG 3002 (Gc S') L
theorem lock1 {N : Nat} (hN : Big N) (left : Nat) (ih : ∀ k, left = k + 1 → LockP N k) : LockP N left := by
  intro S M t x H lab φ ψ f hl4 hf hK h
  have hb := hN
  unfold Big at hb
  obtain ⟨f, rfl⟩ : ∃ f', f = f' + 1 := ⟨f - 1, by omega⟩
  obtain ⟨hC, hM, hW, hI, k61, k62, k63, a, k49, k26⟩ := id hK
  obtain ⟨-, -, w3, -, -, w6, -, -⟩ := id h
  have ew : gWalk (Gc S) (4000 - t) x.1 = gWalk (Gc S) 4000 aStart := by
    have := gWalk_to t (4000 - t) aStart x.1 w6.hd
    rw [show t + (4000 - t) = 4000 by omega] at this
    exact this.symm
  obtain ⟨S1, code, a1, a2, a3, a4, a5, a6, a7⟩ := X6_adv hN (4000 - t) S t x H N lab (by omega) (by omega) hC.1 hC.2.1 h
  rw [ew] at a5 a6 a7
  have em := gWalk_start hC.2.1 hM.2.1 hI 4000
  obtain ⟨e, ee⟩ : ∃ e, e = gWalk (Gc S) 4000 aStart := ⟨_, rfl⟩
  have le6 : e.1 ≤ 6 := by rw [ee]; exact gWalk_le _ _ _
  have a1' : fX6_advance N S = some (code, S1) := a1
  have K1 : LK S1 M φ ψ := hK.w a2
  have lb1 : ∃ L, LbG 3002 (Gc S1) L := ⟨lab, by rw [(hC.w a2 (by decide) (by decide)).2]; exact h.2.2.2.2.2.2.1⟩
  obtain ⟨Lp, eL⟩ : ∃ Lp, Lp = loopN (fun k x => fX7_reduce_9s N k x.1 x.2) f := ⟨_, rfl⟩
  have F1 : FrW S S1 CI9 CA9 := a2.mono (by decide) (by decide)
  have op : loopN (fun k x => fX7_reduce_9s N k x.1 x.2) (f + 1) (S, nI left) = if code = (5 : Int32) then (if nI left = 0 then some ((1 : Int32), S1) else bd2 (fX6_nodeLeft N S1) fun v7 S9 => bd2 (fX6_nodeAhead N S9) fun v10 S12 => bd2 (fX3_refusal N S12 v7 v10) fun v13 S15 => if v13 = (5 : Int32) then bdo (fX6_stepBack N S15) fun S19 => bdo (fX3_act N S19 v7 v10) fun S22 => bdo (fX2_eraseAll N S22) fun S25 => bnd (nI left + (-1 : Int32)) fun z26 => Lp (S25, z26) else some (v13, S15)) else some (code, S1) := by
    show fX7_reduce_9s N (loopN (fun k x => fX7_reduce_9s N k x.1 x.2) f) S (nI left) = _
    rw [← eL]
    unfold fX7_reduce_9s
    rw [if_neg (nI_pos (by omega)), bd2_ok a1']
  rw [op]
  by_cases c5 : e.1 = 5
  · rw [ee] at c5
    obtain ⟨l, r, j, el, ep, er, hj, wj, g5, hl, hr, kl, kr6, ne, hcu⟩ := meet_at hC.2.1 hC.2.2.1 c5
    obtain ⟨t', x', H', cw, ex, ht'⟩ := a7 c5
    have kl : cK S l < 5 := kl
    have kr : cK S r < 5 := by
      have := (Vis.to hW (RW_to hW j _ wj).1).1
      rw [el, ep, er] at this
      exact this
    have hcu : cV S l 0 = r ∧ cP S l 0 = 0 ∧ cV S r 0 = l ∧ cP S r 0 = 0 := hcu
    have G1 : Gc S1 = Gc S := (hC.w a2 (by decide) (by decide)).2
    have k1 : cK S1 = cK S := congrArg (fun z => z.1) G1
    have x1 : cX S1 = cX S := congrArg (fun z => z.2.1) G1
    have v1 : cV S1 = cV S := congrArg (fun z => z.2.2.1) G1
    have p1 : cP S1 = cP S := congrArg (fun z => z.2.2.2) G1
    have h124 : S1.1 124 = nI (4 * l + 0) := by
      obtain ⟨⟨D, bc, -, -, z, -⟩, -⟩ := id cw
      rw [z, ex, el, ep]
    have hc5 : code = 5 := by rw [a5, c5]; rfl
    rw [if_pos hc5]
    -- the other side
    obtain ⟨lφ, -, φk, φx, φw⟩ := hI.1 l ⟨hl, Or.inl kl⟩
    obtain ⟨rφ, -, ρk, ρx, ρw⟩ := hI.1 r ⟨hr, Or.inl kr⟩
    have φk : gK M (φ l) = cK S l := φk
    have ρk : gK M (φ r) = cK S r := ρk
    have r5 : (Gc S).1 ((Gc S).2.2.1 l 0) ≠ 5 := by show cK S (cV S l 0) ≠ 5; rw [hcu.1]; omega
    have l5 : (Gc S).1 ((Gc S).2.2.1 r 0) ≠ 5 := by show cK S (cV S r 0) ≠ 5; rw [hcu.2.2.1]; omega
    have m1 := (φw 0 (lv_p (G := Gc S) (n := 3002) ⟨hl, Or.inl kl⟩)).2 r5
    have m2 := (ρw 0 (lv_p (G := Gc S) (n := 3002) ⟨hr, Or.inl kr⟩)).2 l5
    have hcM : gV M (φ l) 0 = φ r ∧ gP M (φ l) 0 = 0 ∧ gV M (φ r) 0 = φ l ∧ gP M (φ r) 0 = 0 := by
      have z1 : gV M (φ l) 0 = φ (cV S l 0) := m1.1
      have z2 : gP M (φ l) 0 = cP S l 0 := m1.2
      have z3 : gV M (φ r) 0 = φ (cV S r 0) := m2.1
      have z4 : gP M (φ r) 0 = cP S r 0 := m2.2
      rw [z1, z2, z3, z4, hcu.1, hcu.2.1, hcu.2.2.1, hcu.2.2.2]
      exact ⟨rfl, rfl, rfl, rfl⟩
    obtain ⟨R0, R3, R2, R5⟩ := RM_meet (N := N) hN hM (l := φ l) (r := φ r) (by rw [em]; exact c5) (by rw [em]; show φ (gWalk (Gc S) 4000 aStart).2.1 = _; rw [el]) (by rw [em]; exact ep) hcM.1 lφ.1 rφ.1 (by omega) (by omega) (fun q => ne (hI.1.inj ⟨hl, Or.inl kl⟩ ⟨hr, Or.inl kr⟩ q)) hcM
    obtain ⟨o1, o2, o3⟩ := mOf_iso hI hl hr kl kr
    by_cases z0 : left = 0
    · rw [z0, if_pos (show nI 0 = (0 : Int32) from rfl)]
      obtain ⟨M', b1, b2, b3⟩ := R0
      exact ⟨1, S1, M', φ, ψ, rfl, b1, K1.m b2, a3, a4, F1, b2.mono (by decide) (by decide), fun q => absurd q (by decide), fun _ => b3, ⟨1, by decide, rfl⟩, lb1⟩
    · obtain ⟨k, rfl⟩ : ∃ k, left = k + 1 := ⟨left - 1, by omega⟩
      rw [if_neg (nI_ne (by omega) (by omega))]
      have nl : fX6_nodeLeft N S1 = some (nI l, S1) := by
        unfold fX6_nodeLeft
        rw [h124, bdo_ok (nA (by omega)), show (4 * l + 0) / 4 = l by omega]
      have na : fX6_nodeAhead N S1 = some (nI r, S1) := by
        unfold fX6_nodeAhead
        rw [h124, bd2_ok (X2_across K1.1.1.1 hl (by omega)), v1, p1, hcu.1, hcu.2.1, bdo_ok (nA (by omega)), show (4 * r + 0) / 4 = r by omega]
      have ht : two S1 l r := ⟨K1.1.1.1, hl, hr, by rw [k1]; exact kl, by rw [k1]; exact kr⟩
      rw [bd2_ok nl, bd2_ok na, bd2_ok (X3_refusal K1.1.1 ht ne)]
      have lh := lohi (G := Gc S) (l := l) (r := r) (fun c u => c < 3002 ∧ u < 3002 ∧ cK S c < 5 ∧ cK S u < 5) ⟨hl, hr, kl, kr⟩ ⟨hr, hl, kr, kl⟩
      obtain ⟨tg, mo⟩ := hK.tg lh.1 lh.2.1 lh.2.2.1 lh.2.2.2
      rw [o2, o3] at R2
      rw [o1] at R3 R2 R5
      rw [o2, o3] at R5
      have tgS : tgtc S1 = tgtc S := by funext c u; unfold tgtc morc; rw [k1, x1]
      by_cases m3 : mOf (Gc S) l r = 3
      · have e4 : refC S1 l r = 4 := by unfold refC; rw [G1, if_pos m3]
        rw [e4, if_neg (by decide)]
        obtain ⟨M', b1, b2, b3⟩ := R3 m3 (k + 1) (by omega) hl4
        exact ⟨4, S1, M', φ, ψ, rfl, b1, K1.m b2, a3, a4, F1, b2.mono (by decide) (by decide), fun q => absurd q (by decide), fun _ => b3, ⟨4, by decide, rfl⟩, lb1⟩
      · by_cases m2t : mOf (Gc S) l r = 2 ∧ tgtc S (loN (Gc S) l r) (hiN (Gc S) l r)
        · have e2 : refC S1 l r = 2 := by unfold refC; rw [G1, tgS, if_neg m3, if_pos m2t]
          rw [e2, if_neg (by decide)]
          obtain ⟨M', b1, b2, b3⟩ := R2 m2t.1 (tg.mpr m2t.2) (k + 1) (by omega) hl4
          exact ⟨2, S1, M', φ, ψ, rfl, b1, K1.m b2, a3, a4, F1, b2.mono (by decide) (by decide), fun q => absurd q (by decide), fun _ => b3, ⟨2, by decide, rfl⟩, lb1⟩
        · have e5 : refC S1 l r = 5 := by unfold refC; rw [G1, tgS, if_neg m3, if_neg m2t]
          rw [e5, if_pos (by decide)]
          obtain ⟨S2, y, H2, t1, et, b1, b2, b3, b4, b5⟩ := X6_back (N := N) hN K1.1.1 K1.1.2.1 cw (by rw [G1, ex]; exact g5)
          rw [G1] at b4
          have F2 : FrW S S2 (126 :: WI) (125 :: WA) := a2.trans (b2.w.mono (by decide) (by decide))
          have K2 : LK S2 M φ ψ := hK.w F2
          have G2 : Gc S2 = Gc S := (hC.w F2 (by decide) (by decide)).2
          have k2 : cK S2 = cK S := congrArg (fun z => z.1) G2
          have x2 : cX S2 = cX S := congrArg (fun z => z.2.1) G2
          have v2 : cV S2 = cV S := congrArg (fun z => z.2.2.1) G2
          have p2 : cP S2 = cP S := congrArg (fun z => z.2.2.2) G2
          have r2 : refC S2 l r = 5 := by
            have tgS2 : tgtc S2 = tgtc S := by funext c u; unfold tgtc morc; rw [k2, x2]
            unfold refC
            rw [G2, tgS2, if_neg m3, if_neg m2t]
          have mS2 : morc S2 = morc S := by funext c u; unfold morc; rw [k2]
          have hcu2 : cV S2 l 0 = r ∧ cP S2 l 0 = 0 ∧ cV S2 r 0 = l ∧ cP S2 r 0 = 0 := by rw [v2, p2]; exact hcu
          obtain ⟨S3, S4, Gx, d1, d2, d3, d4, d5, d6, ⟨b, d7, d8⟩, d9, d10, d11, d12, d13⟩ := X3_act (N := N) (l := l) (r := r) (a := a) hN K2.1 hl hr (by rw [k2]; exact kl) (by rw [k2]; exact kr) hcu2 ne r2 (by rw [F2.1 49 (by decide)]; exact k49)
          obtain ⟨M', Gy, q1, q2, q3, q4, q5, ⟨b', q6, q7⟩, q8, q9, q10, q11, q12⟩ := R5 a k26 m3 (fun m2 q => m2t ⟨m2, tg.mp q⟩)
          rw [bdo_ok b1, bdo_ok d1, bdo_ok d2, bnd_eq, pk_m1]
          obtain ⟨wg4, lab', cw4⟩ := CW_next (G1 := Gx) (c0 := x'.1) b5 K2.1.2.1 K2.2.2.1 hl hr (by rw [k2]; exact kl) (by rw [k2]; exact kr) ne hcu2 d3 d4 d5 d6.2.1 (by rw [G2, b4]) d13
          rw [G2] at d3
          obtain ⟨φ4, ψ4, I4⟩ := Mt_iso hC.2.1 hM.2.1 hI hl hr kl kr hcu d3 q2 d4 q3 d5 q4 d6.2.1 q5.2.1
          rw [G2] at d9 d10 d11 d12
          rw [k2, mS2] at d9
          rw [mo] at q8
          have e61 : S4.1 61 = M'.1 23 := by rw [d10, q9, F2.1 61 (by decide), k61]
          have e62 : S4.1 62 = M'.1 24 := by rw [d11, q10, F2.1 62 (by decide), k62]
          have e63 : S4.1 63 = M'.1 25 := by rw [d12, q11, F2.1 63 (by decide), k63]
          have K4' : ∀ b, S4.1 49 = nI b → M'.1 26 = nI b → LK S4 M' φ4 ψ4 := fun b z1 z2 => ⟨d6, q5, wg4, I4, e61, e62, e63, b, z1, z2⟩
          have cl0 := hK.cl
          have cl4 : cntL 3010 (gK M') = cntL 3002 (cK S4) := by
            unfold cntL
            have c := fun j (hj : j < 7) => Iso_cnt d6.2.1 q5.2.1 d6.2.2.2.1 q5.2.2.2.1 I4 hj
            have c0 : cnt 3002 (cK S4) 0 = cnt 3010 (gK M') 0 := c 0 (by decide)
            have c1 : cnt 3002 (cK S4) 1 = cnt 3010 (gK M') 1 := c 1 (by decide)
            have c2 : cnt 3002 (cK S4) 2 = cnt 3010 (gK M') 2 := c 2 (by decide)
            have c3 : cnt 3002 (cK S4) 3 = cnt 3010 (gK M') 3 := c 3 (by decide)
            have c4 : cnt 3002 (cK S4) 4 = cnt 3010 (gK M') 4 := c 4 (by decide)
            rw [c0, c1, c2, c3, c4]
          have eb : b = b' := by omega
          subst eb
          have K4 := K4' b d7 q6
          obtain ⟨code', S', M2, φ', ψ', s1, s2, s3, s4, s5, s6, s7, s8, s9, s10, s11⟩ := ih k rfl S4 M' t1 y H2 lab' φ4 ψ4 f (by omega) (by omega) K4 cw4
          refine ⟨code', S', M2, φ', ψ', by rw [eL]; exact s1, q1 (k + 1) _ (by omega) hl4 s2, s3, s4, s5, ((F2.mono (by decide) (by decide)).trans (d13.w.mono (by decide) (by decide))).trans s6, q12.trans s7, s8, s9, s10, s11⟩
  · have hc5 : ¬ code = 5 := by
      rw [a5, ← ee]
      exact fun q => c5 ((nI_eq (b := 5) (by omega) (by omega)).mp (q.trans (show (5 : Int32) = nI 5 from rfl)))
    rw [if_neg hc5]
    have emm : (gWalk (Gm M) 4000 aStart).1 = e.1 := by rw [em, ee]
    obtain ⟨M', b1, b2, b3, b4, b5⟩ := RM_stop (N := N) (left := left) hN hM (by rw [emm]; exact c5)
    have etd : (gWalk (Gm M) 4000 aStart).2.2.2.2.2.2 = e.2.2.2.2.2.2 := by rw [em, ee]; rfl
    rw [emm, etd] at b3
    rw [etd] at b4
    rw [emm] at b1
    rw [← ee] at a5 a6
    refine ⟨code, S1, M', φ, ψ, rfl, by rw [a5]; exact b1, K1.m b2, a3, a4, F1, b2.mono (by decide) (by decide), fun q => ?_, fun q => ?_, ⟨e.1, le6, a5⟩, lb1⟩
    · have e0 : e.1 = 0 := by
        rw [a5] at q
        exact (nI_eq (b := 0) (by omega) (by omega)).mp (q.trans (show (0 : Int32) = nI 0 from rfl))
      obtain ⟨y1, y2, y3⟩ := a6 e0
      rw [if_pos e0] at b3
      exact ⟨e.2.2.2.2.2.2, y1, y2, y3, b3, b4⟩
    · have e0 : ¬ e.1 = 0 := fun z => q (by rw [a5, z]; rfl)
      rw [if_neg e0] at b3
      exact b3
theorem lock {N : Nat} (hN : Big N) (left : Nat) : LockP N left := by
  induction left with
  | zero => exact lock1 hN 0 (fun k q => absurd q (by omega))
  | succ k ih => exact lock1 hN (k + 1) (fun j q => by rw [show j = k by omega]; exact ih)
