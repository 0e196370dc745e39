theorem X2_indexOf' {S : St} {N v : Nat} (hv : v < 3002) : ∃ z, fX2_indexOf N S (nI v) = some (z, S) := by
  unfold fX2_indexOf
  rw [if_neg (nI_pos (by omega)), show (3002 : Int32) = nI 3002 from rfl, if_neg (fun q => absurd ((nI_leI (by omega) (by omega)).mp q) (by omega)), ckx_ok (vp_in_nI (by omega) (by omega))]
  exact ⟨_, rfl⟩
theorem X6_step {S : St} {N : Nat} {lab : Nat → Nat → Nat} {c : Cf} {tr : List Te} {ms : List Nat} {L : Nat → Nat} {n vs w q : Nat} (hN : Big N) (hO : COk S) (h : WK S (cX S) c tr ms L n vs) (hc : c.1 < 3002) (hp : c.2.1 < nP (cK S c.1)) (ew : cV S c.1 c.2.1 = w) (eq : cP S c.1 c.2.1 = q) (hw : w < 3002) (hq : q < nP (cK S w)) (hLb : LbG 3002 (Gc S) lab) (hLL : LLx lab c tr ms vs) (hv : vs + tr.length < 4000) (n5 : ¬ (q = 0 ∧ c.2.1 = 0 ∧ ¬ cK S c.1 = 6)) :
    ∃ S' code, (∀ K : Int32 → St → Option (Int32 × St), (bd2 (fX6_arrive N S (nI w) (nI q)) fun v16 S18 => if v16 = (7 : Int32) then bd2 (fX6_endTerm N S18) fun v20 S22 => K v20 S22 else K v16 S18) = K code S') ∧ FrW S S' WI WA ∧ RmC S' ∧ (∃ n', TrC S' n') ∧ OutS S S' (cX S) lab c tr ms L n vs code (gStep (Gc S) c) := by
  have hb := hN
  unfold Big at hb
  have nl : LbN (Gc S) lab w := hLb.1 w hw
  have lw : lab w q = lab c.1 c.2.1 := by
    have : lab (cV S c.1 c.2.1) (cP S c.1 c.2.1) = lab c.1 c.2.1 := hLb.2 c.1 c.2.1 hc hp
    rw [ew, eq] at this
    exact this
  have gs : gStep (Gc S) c = if cK S w = 0 then aLam w q (cX S w) c else if cK S w = 1 then aApp w q c else if cK S w = 2 then aFan w q (cX S w) c else if cK S w = 3 then aCro w q (cX S w) c else if cK S w = 4 then aBra w q (cX S w) c else (4, c) := by
    show aStep (cK S) (cX S) (cV S) (cP S) c = _
    unfold aStep
    rw [ew, eq, if_neg n5]
  have k7 : cK S w < 7 := nP_7 (Nat.lt_of_le_of_lt (Nat.zero_le _) hq)
  have kd : fX2_kindOf N S (nI w) = some (nI (cK S w), S) := by rw [X2_kindOf hO hw, kI_lt (by omega)]
  obtain ⟨zi, ix⟩ := X2_indexOf' (S := S) (N := N) hw
  obtain ⟨D, bc, h1, h2, h3, h4, h5, h6, h7, h8, h9, h10, h11, h12, h13, h14, h15⟩ := id h
  obtain ⟨g1, g2, g3⟩ := id hLL
  have hL := h1.2.1.2.2.2.2.1
  have out4 : OutS S S (cX S) lab c tr ms L n vs 4 (4, c) := ⟨fun z => absurd h6 (by have z : 4000 < c.2.2.2.2.2.length := z; omega), fun _ => ⟨rfl, fun z => absurd z (by show ¬ (4 : Nat) = 0; decide), fun z => absurd z (by show ¬ (4 : Nat) = 6; decide)⟩⟩
  have ret4 : fX6_arrive N S (nI w) (nI q) = some (4, S) → ∀ K : Int32 → St → Option (Int32 × St), (bd2 (fX6_arrive N S (nI w) (nI q)) fun v16 S18 => if v16 = (7 : Int32) then bd2 (fX6_endTerm N S18) fun v20 S22 => K v20 S22 else K v16 S18) = K 4 S := fun z K => by rw [bd2_ok z, if_neg (by decide)]
  by_cases k0 : cK S w = 0
  · rw [gs, if_pos k0]
    rw [k0] at hq
    have hq : q < 3 := hq
    have ar : fX6_arrive N S (nI w) (nI q) = bd2 (fX6_atLambda N S (nI w) (nI q)) fun v8 S10 => some (v8, S10) := by
      unfold fX6_arrive
      rw [bd2_ok ix, bd2_ok kd, k0, if_pos (by decide)]
    obtain ⟨n0, n1, n2⟩ := nl.1 (Or.inl k0)
    have cs : q = 0 ∨ q = 1 ∨ q = 2 := by omega
    rcases cs with z | z | z
    · rw [z] at ar lw ⊢
      have al0 : fX6_atLambda N S (nI w) (nI 0) = bd2 (fX6_readAbstraction N S (nI w)) fun v2 S4 => some (v2, S4) := by
        unfold fX6_atLambda
        rw [if_pos (by decide)]
      have el : aLam w 0 (cX S w) c = if 4000 ≤ c.2.2.2.2.2.length then (3, (c.1, c.2.1, c.2.2.1, c.2.2.2.1, c.2.2.2.2.1, 92 :: c.2.2.2.2.2)) else (6, (w, 1, c.2.2.1, (1, 0, (fun _ => 0)) :: c.2.2.2.1, (w, c.2.2.1) :: c.2.2.2.2.1, 92 :: c.2.2.2.2.2)) := rfl
      obtain ⟨t1, t2⟩ := X6_abs (N := N) hN hO rfl k0 h hw
      rw [el]
      by_cases c1 : 4000 ≤ c.2.2.2.2.2.length
      · rw [if_pos c1]
        refine ⟨S, 3, fun K => ?_, FrW.rf, h15, ⟨n, h1.1⟩, fun _ => rfl, fun z => absurd c1 (by have z : c.2.2.2.2.2.length + 1 ≤ 4000 := z; omega)⟩
        rw [ar, al0, bd2_ok (t1 c1), bd2_ok rfl, bd2_ok rfl, if_neg (by decide)]
      · rw [if_neg c1]
        obtain ⟨S', a1, a2, a3⟩ := t2 (by omega)
        obtain ⟨D', bc', b1⟩ := id a3
        refine ⟨S', 6, fun K => ?_, a2, b1.2.2.2.2.2.2.2.2.2.2.2.2.2.2, ⟨n, b1.1.1⟩, fun z => absurd c1 (by have z : 4000 < c.2.2.2.2.2.length + 1 := z; omega), fun _ => ⟨rfl, fun z => absurd z (by show ¬ (6 : Nat) = 0; decide), fun _ => ⟨tr, tr.length :: ms, L, n, vs, a3, ⟨?_, ?_, ⟨fun z => absurd rfl z, g3⟩⟩, by omega, Or.inl (by show ¬ (1 : Nat) = 0; decide)⟩⟩⟩
        · rw [ar, al0, bd2_ok a1, bd2_ok rfl, bd2_ok rfl, if_neg (by decide)]
        · show aT tr + (0 + al c.2.2.2.1) = dT tr + lab w 1
          omega
        · show 0 + al c.2.2.2.1 ≤ vs
          omega
    · rw [z] at ar ⊢
      have el : aLam w 1 (cX S w) c = (4, c) := rfl
      rw [el]
      refine ⟨S, 4, ?_, FrW.rf, h15, ⟨n, h1.1⟩, out4⟩
      rw [z] at ret4
      refine ret4 ?_
      rw [ar]
      unfold fX6_atLambda
      rw [if_neg (by decide), if_neg (by decide), bd2_ok rfl]
    · rw [z] at ar ⊢
      have x63 : cX S w ≤ 63 := ((hO.1 w hw).2.2 (by omega)).2
      have va := X6_varLp (N := N) (v := w) (X := cX S) (tot := c.2.2.2.2.1.length) (td := c.2.2.2.2.2) hN h1.1 h1.2.1 hw x63 h15.2.1 h9 (by omega) h5 h4 h6 c.2.2.2.2.1 0 N (by omega) (by omega) (SkA.ab h1.2.2.2.2.1 hL _ _ _ _ h13 h14)
      have rv : fX6_readVariable N S (nI w) = loopN (fun k x => fX6_readVariable_16s N k x.1 x.2.1 x.2.2.1 x.2.2.2) N (S, nI w, nI (cX S w), nI c.2.2.2.2.1.length - 1) := by
        unfold fX6_readVariable
        rw [bd2_ok (X2_indexOf hO hw (by omega)), bnd_eq, h9]
        rfl
      have al0 : fX6_atLambda N S (nI w) (nI 2) = bd2 (fX6_readVariable N S (nI w)) fun v6 S8 => some (v6, S8) := by
        unfold fX6_atLambda
        rw [if_neg (by decide), if_pos (by decide)]
      have el : aLam w 2 (cX S w) c = (match fnd w (cX S w) c.2.2.1 c.2.2.2.2.1 0 with | none => (4, c) | some k => aGo c.2.2.2.1 c.2.2.2.2.1 (dig k ++ c.2.2.2.2.2)) := rfl
      rw [el, h2]
      rw [← rv] at va
      cases e : fnd w (cX S w) (fun i => tv S (L i)) c.2.2.2.2.1 0 with
      | none =>
        rw [e] at va
        have va : fX6_readVariable N S (nI w) = some (4, S) := va
        refine ⟨S, 4, ?_, FrW.rf, h15, ⟨n, h1.1⟩, out4⟩
        rw [z] at ret4
        refine ret4 ?_
        rw [ar, al0, bd2_ok va, bd2_ok rfl]
      | some k =>
        rw [e] at va
        obtain ⟨va1, S1, va2, va3, va4⟩ := va
        show ∃ S' code, _ ∧ _ ∧ _ ∧ _ ∧ OutS S S' (cX S) lab c tr ms L n vs code (aGo c.2.2.2.1 c.2.2.2.2.1 (dig k ++ c.2.2.2.2.2))
        have ln : (dig k ++ c.2.2.2.2.2).length = c.2.2.2.2.2.length + (dig k).length := by rw [List.length_append, Nat.add_comm]
        have F1 : FrW S S1 WI WA := va3.w.mono (by decide) (by decide)
        by_cases c1 : c.2.2.2.2.2.length + (dig k).length ≤ 4000
        · rw [if_pos c1] at va2
          obtain ⟨w1, w2⟩ := va4 c1
          have etv : tv S1 = tv S := tv_fr va3.w (by decide)
          have we : WE S1 (cX S) c.2.2.2.1 c.2.2.2.2.1 (dig k ++ c.2.2.2.2.2) tr ms L n (vs + 1) := by
            refine ⟨D, bc, (h1.fr va3.w (by decide) (by decide)).up (by omega), by rw [ln]; exact w1, w2, by omega, by rw [va3.1 130 (by decide)]; exact h7, by omega, by rw [va3.1 133 (by decide)]; exact h9, by rw [va3.1 135 (by decide)]; exact h10, h11, h12, by rw [va3.2.2]; exact h13, SkA.of _ _ _ _ (fun j _ => ⟨by rw [va3.2.1 127 (by decide)], by rw [va3.2.1 128 (by decide)], by rw [va3.2.1 129 (by decide)]⟩) (fun j _ => ⟨by rw [va3.2.1 131 (by decide)], by rw [va3.2.1 132 (by decide)]⟩) (fun j _ => by rw [va3.2.1 134 (by decide)]) (fun m hm => ⟨SkA.ms _ _ _ _ h14 m hm, rfl, fun i => by rw [etv]⟩) h14, h15.of va3.2.2⟩
          obtain ⟨S', code, q1, q2, q3, q4, q5, q6⟩ := X6_endLp hN c.2.2.2.1 c.2.2.2.2.1 (dig k ++ c.2.2.2.2.2) ms S1 N (by omega) we
          refine ⟨S', code, fun K => ?_, F1.trans q2, q3, q4, q5, fun z6 => ?_⟩
          · have et : fX6_endTerm N S1 = some (code, S') := by
              unfold fX6_endTerm
              rw [bnd_eq, va3.1 130 (by decide), h7]
              exact q1
            rw [ar, al0, bd2_ok va2, bd2_ok rfl, bd2_ok rfl, if_pos rfl, bd2_ok et]
          · obtain ⟨r1, r2, r3⟩ := q6 z6
            refine ⟨r1, r2, fun z7 => ?_⟩
            obtain ⟨r4, r5⟩ := r3 z7
            obtain ⟨l1, l2⟩ := aGo_LL (vs := vs) (lab := lab) c.2.2.2.1 c.2.2.2.2.1 (dig k ++ c.2.2.2.2.2) ms bc h14 g3 g2 z7
            have tl : (trT tr (eg c.2.2.2.1 ms).1).length = (eg c.2.2.2.1 ms).1 := trT_len r5
            refine ⟨_, _, _, _, _, r4, l1, ?_, Or.inl (by rw [l2]; decide)⟩
            show vs + 1 + (trT tr (eg c.2.2.2.1 ms).1).length ≤ _
            omega
        · rw [if_neg c1] at va2
          have al' := (aGo_len c.2.2.2.1 c.2.2.2.2.1 (dig k ++ c.2.2.2.2.2)).2.2
          refine ⟨S1, 3, fun K => ?_, F1, h15.of va3.2.2, ⟨n, (h1.fr va3.w (by decide) (by decide)).1⟩, fun _ => rfl, fun z6 => by omega⟩
          rw [ar, al0, bd2_ok va2, bd2_ok rfl, bd2_ok rfl, if_neg (by decide)]
  · rw [gs, if_neg k0]
    have nk0 : ¬ nI (cK S w) = 0 := nI_ne (by omega) (by omega)
    by_cases k1 : cK S w = 1
    · rw [if_pos k1]
      rw [k1] at hq
      have hq : q < 3 := hq
      have ar : fX6_arrive N S (nI w) (nI q) = if nI q = (1 : Int32) then bd2 (fX6_readApplication N S (nI w)) fun v13 S15 => some (v13, S15) else some ((4 : Int32), S) := by
        unfold fX6_arrive
        rw [bd2_ok ix, bd2_ok kd, if_neg nk0, k1, if_pos (by decide)]
      obtain ⟨n0, n1, n2⟩ := nl.1 (Or.inr k1)
      by_cases z : q = 1
      · rw [z] at ar lw ⊢
        rw [if_pos (by decide)] at ar
        have el : aApp w 1 c = if 4000 ≤ c.2.2.2.2.2.length then (3, (c.1, c.2.1, c.2.2.1, c.2.2.2.1, c.2.2.2.2.1, 40 :: c.2.2.2.2.2)) else (6, (w, 0, c.2.2.1, (0, w, c.2.2.1) :: c.2.2.2.1, c.2.2.2.2.1, 40 :: c.2.2.2.2.2)) := rfl
        obtain ⟨t1, t2⟩ := X6_app (N := N) h hw
        rw [el]
        by_cases c1 : 4000 ≤ c.2.2.2.2.2.length
        · rw [if_pos c1]
          refine ⟨S, 3, fun K => ?_, FrW.rf, h15, ⟨n, h1.1⟩, fun _ => rfl, fun z => absurd c1 (by have z : c.2.2.2.2.2.length + 1 ≤ 4000 := z; omega)⟩
          rw [ar, bd2_ok (t1 c1), bd2_ok rfl, if_neg (by decide)]
        · rw [if_neg c1]
          obtain ⟨S', a1, a2, a3, a4⟩ := t2 (by omega)
          obtain ⟨D', bc', b1⟩ := id a4
          refine ⟨S', 6, fun K => ?_, a2, b1.2.2.2.2.2.2.2.2.2.2.2.2.2.2, ⟨n, b1.1.1⟩, fun z => absurd c1 (by have z : 4000 < c.2.2.2.2.2.length + 1 := z; omega), fun _ => ⟨rfl, fun z => absurd z (by show ¬ (6 : Nat) = 0; decide), fun _ => ⟨tr, tr.length :: ms, L, n, vs, a4, ⟨?_, ?_, ⟨fun _ _ => ?_, g3⟩⟩, by omega, Or.inr ⟨⟨b1.2.1, hL, Nat.le_refl _, rfl, SkA.ms _ _ _ _ h14, Or.inr ⟨rfl, rfl, rfl, rfl, rfl⟩⟩, fun k _ => by rw [a3]⟩⟩⟩⟩
          · rw [ar, bd2_ok a1, bd2_ok rfl, if_neg (by decide)]
          · show aT tr + (0 + al c.2.2.2.1) = dT tr + lab w 0
            omega
          · show 0 + al c.2.2.2.1 ≤ vs
            omega
          · show aT (trT tr tr.length) + al c.2.2.2.1 + 1 = dT (trT tr tr.length) + lab w 2
            rw [trT_top]
            omega
      · have el : aApp w q c = (4, c) := by unfold aApp; rw [if_neg z]
        rw [el]
        refine ⟨S, 4, ret4 ?_, FrW.rf, h15, ⟨n, h1.1⟩, out4⟩
        rw [ar, if_neg (fun e => z ((nI_eq (b := 1) (by omega) (by omega)).mp (e.trans (show (1 : Int32) = nI 1 from rfl))))]
    · rw [if_neg k1]
      by_cases kc : isC (cK S w)
      · have el : (if cK S w = 2 then aFan w q (cX S w) c else if cK S w = 3 then aCro w q (cX S w) c else if cK S w = 4 then aBra w q (cX S w) c else (4, c)) = ctlS (cK S w) w q (cX S w) c := by
          unfold ctlS
          rcases kc with e | e | e <;> rw [e] <;> rfl
        rw [el]
        have q3 : q < 3 := by rcases kc with e | e | e <;> rw [e] at hq <;> first | exact hq | exact Nat.lt_succ_of_lt hq
        obtain ⟨S', a1, a2, a3, a4, a5⟩ := X6_ctl (N := N) (c := c) hN hO hw kc rfl hq h1 hv h2 (fun z => by
          rcases z with ⟨z1, z2⟩ | ⟨z1, z2⟩
          · have := (nl.2.2.1 z1).1
            rw [z2] at lw
            omega
          · have := (nl.2.2.2.1 z1).1
            rw [z2] at lw
            omega)
        have F : FrW S S' WI WA := a4.w.mono (by decide) (by decide)
        rcases ctlS_46 (k := cK S w) (w := w) (q := q) (x := cX S w) (c := c) with ⟨e6, ec⟩ | e4
        · obtain ⟨D', L', n', b1, b2, b3, b4, b5⟩ := a2 e6
          rw [e6] at a1
          have etv : ∀ k, k < n → tv S' k = tv S k := tv_ext h1.1 b1.1 b5 a5
          have el1 : (ctlS (cK S w) w q (cX S w) c).2.2.2.2.1 = c.2.2.2.1 := congrArg Prod.fst ec
          have el2 : (ctlS (cK S w) w q (cX S w) c).2.2.2.2.2.1 = c.2.2.2.2.1 := congrArg (fun z => z.2.1) ec
          have el3 : (ctlS (cK S w) w q (cX S w) c).2.2.2.2.2.2 = c.2.2.2.2.2 := congrArg (fun z => z.2.2) ec
          have hms := SkA.ms _ _ _ _ h14
          have wk : WK S' (cX S) (ctlS (cK S w) w q (cX S w) c).2 ((fcl (cK S w) q, L, n) :: tr) ms L' n' vs := by
            refine ⟨D', bc, b1, b2, by rw [b4]; exact b3, ?_, ?_, ?_, ?_, ?_, ?_, ?_, ?_, ?_, ?_, ?_, h15.of a4.2.2⟩
            · rw [el3, a4.1 123 (by decide)]; exact h4
            · rw [el3]; exact TdC.of _ (fun j _ => by rw [a4.2.1 122 (by decide)]) h5
            · rw [el3]; exact h6
            · rw [el1, a4.1 130 (by decide)]; exact h7
            · rw [el1, el3]; exact h8
            · rw [el2, a4.1 133 (by decide)]; exact h9
            · rw [a4.1 135 (by decide)]; exact h10
            · rw [el2]; exact h11
            · rw [el1, el2]; exact h12
            · rw [a4.2.2]; exact h13
            · rw [el1, el2]
              refine SkA.of _ _ _ _ (fun j _ => ⟨by rw [a4.2.1 127 (by decide)], by rw [a4.2.1 128 (by decide)], by rw [a4.2.1 129 (by decide)]⟩) (fun j _ => ⟨by rw [a4.2.1 131 (by decide)], by rw [a4.2.1 132 (by decide)]⟩) (fun j _ => by rw [a4.2.1 134 (by decide)]) (fun m hm => ⟨Nat.le_succ_of_le (hms m hm), ctxAt_cons (hms m hm), fun i => etv _ ?_⟩) h14
              have := TrR_ids tr L n (tr.length - m) h1.2.2.2.2.1 hL
              exact Nat.lt_of_lt_of_le (this.1 i) this.2
          refine ⟨S', 6, fun K => ?_, F, h15.of a4.2.2, ⟨n', b1.1⟩, fun z => absurd h6 (by rw [el3] at z; omega), fun _ => ⟨by rw [e6]; rfl, fun z => absurd z (by rw [e6]; decide), fun _ => ⟨_, ms, L', n', vs, wk, ⟨?_, by rw [el1]; exact g2, by rw [el1]; exact LLt_cons _ _ hms g3⟩, by show vs + (tr.length + 1) ≤ _; omega, Or.inr ⟨⟨?_, hL, b5, rfl, hms, Or.inl ⟨el1, rfl, _, rfl⟩⟩, etv⟩⟩⟩⟩
          · have a1' : fX6_arrive N S (nI w) (nI q) = some (6, S') := a1
            rw [bd2_ok a1', if_neg (by decide)]
          · rw [el1, b4]
            have lq : ∀ p, p < 3 → (if p = 0 then lab w 0 else if p = 1 then lab w 1 else lab w 2) = lab w p := by
              intro p hp
              have : p = 0 ∨ p = 1 ∨ p = 2 := by omega
              rcases this with z | z | z <;> subst z <;> rfl
            have := ctlS_lab (w := w) (x := cX S w) (c := c) (l0 := lab w 0) (l1 := lab w 1) (l2 := lab w 2) (ln := tr) (Te0 := (fcl (cK S w) q, L, n)) kc hq e6 (fun z => ⟨(nl.2.1 z).1, (nl.2.1 z).2.1⟩) (fun z => (nl.2.2.1 z).1) (fun z => (nl.2.2.2.1 z).1) (al c.2.2.2.1) (by rw [lq q q3, lw]; exact g1) rfl
            rw [lq _ (ctlS_p kc hq e6)] at this
            exact this
          · rw [h2]
            funext i
            exact (etv _ (hL i)).symm
        · rw [e4] at a1 a3 ⊢
          have e := a3 (by show ¬ (4 : Nat) = 6; decide)
          rw [e] at a1
          exact ⟨S, 4, ret4 a1, FrW.rf, h15, ⟨n, h1.1⟩, out4⟩
      · unfold isC at kc
        rw [if_neg (by omega), if_neg (by omega), if_neg (by omega)]
        refine ⟨S, 4, ret4 ?_, FrW.rf, h15, ⟨n, h1.1⟩, out4⟩
        unfold fX6_arrive
        rw [bd2_ok ix, bd2_ok kd, if_neg nk0, if_neg (fun e => k1 ((nI_eq (b := 1) (by omega) (by omega)).mp (e.trans (show (1 : Int32) = nI 1 from rfl)))), if_neg (fun e => kc (Or.inl ((nI_eq (b := 2) (by omega) (by omega)).mp (e.trans (show (2 : Int32) = nI 2 from rfl))))), if_neg (fun e => kc (Or.inr (Or.inl ((nI_eq (b := 3) (by omega) (by omega)).mp (e.trans (show (3 : Int32) = nI 3 from rfl)))))), if_neg (fun e => kc (Or.inr (Or.inr ((nI_eq (b := 4) (by omega) (by omega)).mp (e.trans (show (4 : Int32) = nI 4 from rfl))))))]
