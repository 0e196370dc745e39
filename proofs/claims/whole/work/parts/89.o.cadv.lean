/-! the class: its walk, and what it keeps to go back -/
abbrev XS : Type := Cf × List Te × List Nat × (Nat → Nat) × Nat × Nat
def PvS (S : St) (y x : XS) : Prop := PvX S y.1 y.2.1 y.2.2.1 y.2.2.2.1 y.2.2.2.2.1 y.2.2.2.2.2 x.1 x.2.1 x.2.2.1 x.2.2.2.1 x.2.2.2.2.1 x.2.2.2.2.2
def WKx (S : St) (X : Nat → Nat) (x : XS) : Prop := WK S X x.1 x.2.1 x.2.2.1 x.2.2.2.1 x.2.2.2.2.1 x.2.2.2.2.2
def LLs (lab : Nat → Nat → Nat) (x : XS) : Prop := LLx lab x.1 x.2.1 x.2.2.1 x.2.2.2.2.2
def HC (S : St) : XS → Nat → List XS → Prop
  | x, t, [] => x.1.2.1 ≠ 0 ∨ t = 0
  | x, t, y :: H => ∃ t1, t = t1 + 1 ∧ S.2.1 125 t1 = nI (4 * y.1.1 + y.1.2.1) ∧ (PvS S y x ∧ y.2.2.2.2.2 + y.2.1.length ≤ t1) ∧ HC S y t1 H
theorem HC.of {S S' : St} : ∀ (H : List XS) (x : XS) (t : Nat), (∀ j, j < t → S'.2.1 125 j = S.2.1 125 j) → (∀ k, k < x.2.2.2.2.1 → tv S' k = tv S k) → HC S x t H → HC S' x t H
  | [], _, _, _, _, h => h
  | y :: H, x, t, h1, h2, ⟨t1, e, a1, ⟨⟨b1, b2, b3, b4⟩, b5⟩, a3⟩ => by
    refine ⟨t1, e, by rw [h1 t1 (by omega)]; exact a1, ⟨⟨?_, b2, b3, b4⟩, b5⟩, HC.of H y t1 (fun j hj => h1 j (by omega)) (fun k hk => h2 k (by omega)) a3⟩
    rw [b1]
    funext i
    have := b2 i
    exact (h2 _ (by omega)).symm
def HW (G : Gr) : Nat → Cf → List XS → Prop
  | t, c, [] => wkTo G t aStart c
  | t, c, y :: H => wkTo G t aStart c ∧ ∃ t1, t = t1 + 1 ∧ HW G t1 y.1 H
theorem HW.hd {G : Gr} {t : Nat} {c : Cf} : ∀ {H : List XS}, HW G t c H → wkTo G t aStart c
  | [], h => h
  | _ :: _, h => h.1
def HL (lab : Nat → Nat → Nat) (x : XS) (H : List XS) : Prop := LLs lab x ∧ ∀ y ∈ H, LLs lab y
/-- the class's walk after t steps -/
def CW (S : St) (t : Nat) (x : XS) (H : List XS) (lab : Nat → Nat → Nat) : Prop := WKx S (cX S) x ∧ S.1 126 = nI t ∧ t ≤ 4000 ∧ x.2.2.2.2.2 + x.2.1.length ≤ t ∧ HC S x t H ∧ HW (Gc S) t x.1 H ∧ LbG 3002 (Gc S) lab ∧ HL lab x H
theorem SkA.X {S : St} {X X' L : Nat → Nat} {n : Nat} {tr : List Te} : ∀ (lat : List Lt) (ab : List Ab) (ms : List Nat) (bc : Nat), (∀ e ∈ ab, X' e.1 = X e.1) → SkA S X L n tr lat ab ms bc → SkA S X' L n tr lat ab ms bc
  | [], _, _, _, _, h => h
  | it :: r, ab, ms, bc, hX, ⟨m, ms', e1, e2, e3, e4, hc⟩ => by
    refine ⟨m, ms', e1, e2, e3, e4, ?_⟩
    rcases hc with ⟨c1, c2, v, cxb, ab', st, d1, d2, d3, d4, d5, d6, d7, d8⟩ | ⟨c1, c2, c3⟩ | ⟨c1, c2, c3, c4, c5, c6⟩
    · subst d1
      have eX : X' v = X v := hX (v, cxb) (List.mem_cons_self ..)
      exact Or.inl ⟨c1, c2, v, cxb, ab', st, rfl, by rw [eX]; exact d2, d3, d4, by rw [eX]; exact d5, by rw [eX]; exact d6, d7, SkA.X r ab' ms' st (fun e he => hX e (List.mem_cons_of_mem _ he)) d8⟩
    · exact Or.inr (Or.inl ⟨c1, c2, SkA.X r ab ms' bc hX c3⟩)
    · exact Or.inr (Or.inr ⟨c1, c2, c3, c4, c5, SkA.X r ab ms' bc hX c6⟩)
theorem WK.of {S S' : St} {X X' : Nat → Nat} {c : Cf} {tr : List Te} {ms : List Nat} {L : Nat → Nat} {n vs : Nat} {is as : List Nat} (h : WK S X c tr ms L n vs) (hf : FrW S S' is as) (hI : ∀ k ∈ WI, k ∉ is) (hA : ∀ k ∈ WA, k ∉ as) (ht : S'.2.2 = S.2.2) (hX : ∀ e ∈ c.2.2.2.2.1, X' e.1 = X e.1) : WK S' X' c tr ms L n vs ∧ tv S' = tv S := by
  have i : ∀ k, k ∈ WI → S'.1 k = S.1 k := fun k q => hf.1 k (hI k q)
  have a : ∀ k, k ∈ WA → S'.2.1 k = S.2.1 k := fun k q => hf.2.1 k (hA k q)
  have etv : tv S' = tv S := tv_fr hf ⟨hA 100 (by decide), hA 101 (by decide), hA 102 (by decide)⟩
  obtain ⟨D, bc, h1, h2, h3, h4, h5, h6, h7, h8, h9, h10, h11, h12, h13, h14, h15⟩ := h
  refine ⟨⟨D, bc, h1.fr hf ⟨hI 22 (by decide), hI 27 (by decide), hI 105 (by decide)⟩ ⟨hA 21 (by decide), hA 23 (by decide), hA 24 (by decide), hA 25 (by decide), hA 26 (by decide), hA 100 (by decide), hA 101 (by decide), hA 102 (by decide), hA 103 (by decide), hA 104 (by decide)⟩, by rw [etv]; exact h2, by rw [i 124 (by decide)]; exact h3, by rw [i 123 (by decide)]; exact h4, TdC.of _ (fun j _ => by rw [a 122 (by decide)]) h5, h6, by rw [i 130 (by decide)]; exact h7, h8, by rw [i 133 (by decide)]; exact h9, by rw [i 135 (by decide)]; exact h10, h11, h12, by rw [ht]; exact h13, SkA.X _ _ _ _ hX (SkA.of _ _ _ _ (fun j _ => ⟨by rw [a 127 (by decide)], by rw [a 128 (by decide)], by rw [a 129 (by decide)]⟩) (fun j _ => ⟨by rw [a 131 (by decide)], by rw [a 132 (by decide)]⟩) (fun j _ => by rw [a 134 (by decide)]) (fun m hm => ⟨SkA.ms _ _ _ _ h14 m hm, rfl, fun i => by rw [etv]⟩) h14), h15.of ht⟩, etv⟩
theorem wk_ok {n : Nat} {G : Gr} (hG : GVr n G) : ∀ (t : Nat) (c : Cf), wkTo G t aStart c → CQ (lv n G) c ∧ CfOk n G.1 c
  | 0, c, h => by
    have h : aStart = c := h
    rw [← h]; exact start_ok hG
  | t + 1, c, ⟨c1, h1, h2, h3⟩ => by
    obtain ⟨a1, a2⟩ := wk_ok hG t c1 h1
    have e : (gStep G c1).2 = c := congrArg Prod.snd h2
    have e6 : (gStep G c1).1 = 6 := congrArg Prod.fst h2
    have o := aStep_ok hG.1 a2 e6
    exact ⟨CQ_step (G := G) a1 (fun h => ⟨(hG.1 c1.1 c1.2.1 a1.1.1 a2.2.1).1, Or.inl h⟩) h2, by rw [← e]; exact o⟩
theorem X6_isMeeting {S : St} {N v p w q : Nat} (hO : COk S) (h : S.1 124 = nI (4 * v + p)) (hv : v < 3002) (hp : p < 3) (hw : w < 3002) (hq : q < 3) (k7 : cK S v < 7) : fX6_isMeeting N S (nI (4 * w + q)) = some ((if q = 0 ∧ p = 0 ∧ ¬ cK S v = 6 then 1 else 0), S) := by
  unfold fX6_isMeeting
  have a1 : (4 * v + p) % 4 = p := by omega
  have a2 : (4 * v + p) / 4 = v := by omega
  have a3 : (4 * w + q) % 4 = q := by omega
  rw [h, bdo_ok (wA (by omega)), a1]
  by_cases p0 : p = 0
  · rw [p0, if_pos (show nI 0 = (0 : Int32) from rfl)]
    have a2' : (4 * v + 0) / 4 = v := by omega
    rw [bdo_ok (nA (by omega)), a2', bd2_ok (X2_kindOf hO hv), kI_lt (by omega)]
    by_cases k6 : cK S v = 6
    · rw [k6, if_pos (by decide), if_neg (fun z => z.2.2 rfl)]
    · rw [if_neg (fun e => k6 ((nI_eq (b := 6) (by omega) (by omega)).mp (e.trans (show (6 : Int32) = nI 6 from rfl)))), bdo_ok (wA (by omega)), a3]
      by_cases q0 : q = 0
      · rw [q0, if_pos (show nI 0 = (0 : Int32) from rfl), if_pos ⟨rfl, rfl, k6⟩]
      · rw [if_neg (nI_ne (by omega) (by omega)), if_neg (fun z => q0 z.1)]
  · rw [if_neg (nI_ne (by omega) (by omega)), if_neg (fun z => p0 z.2.1)]
theorem GC.w {S S' : St} {is as : List Nat} (h : GC S) (hf : FrW S S' is as) (h1 : 44 ∉ is) (h2 : 40 ∉ as ∧ 41 ∉ as ∧ 42 ∉ as ∧ 43 ∉ as ∧ 45 ∉ as) : GC S' ∧ Gc S' = Gc S := by
  obtain ⟨a1, a2, a3, a4, a5⟩ := h2
  obtain ⟨e1, e2, e3, e4, e5⟩ := gc_same (hf.2.1 40 a1) (hf.2.1 41 a2) (hf.2.1 42 a3)
  refine ⟨?_, by unfold Gc; rw [e1, e2, e3, e4]⟩
  unfold GC COk SpC PopC
  rw [e1, e2, e5, hf.2.1 40 a1, hf.2.1 41 a2, hf.2.1 42 a3, hf.2.1 43 a4, hf.2.1 45 a5, hf.1 44 h1]
  exact h
theorem X6_adv {N : Nat} (hN : Big N) : ∀ (d : Nat) (S : St) (t : Nat) (x : XS) (H : List XS) (f : Nat) (lab : Nat → Nat → Nat), t + d = 4000 → d < f → GC S → GVr 3002 (Gc S) → CW S t x H lab →
    ∃ S' code, loopN (fun k x => fX6_advance_0s N k x) f S = some (code, S') ∧ FrW S S' (126 :: WI) (125 :: WA) ∧ RmC S' ∧ (∃ n', TrC S' n') ∧ code = nI (gWalk (Gc S) d x.1).1 ∧ ((gWalk (Gc S) d x.1).1 = 0 → S'.1 123 = nI (gWalk (Gc S) d x.1).2.2.2.2.2.2.length ∧ TdC S' (gWalk (Gc S) d x.1).2.2.2.2.2.2 ∧ (gWalk (Gc S) d x.1).2.2.2.2.2.2.length ≤ 4000) ∧ ((gWalk (Gc S) d x.1).1 = 5 → ∃ t' x' H', CW S' t' x' H' lab ∧ x'.1 = (gWalk (Gc S) d x.1).2 ∧ t' < 4000)
  | 0, S, t, x, H, f, lab, ht, hf, hG, hV, h => by
    obtain ⟨f, rfl⟩ : ∃ f', f = f' + 1 := ⟨f - 1, by omega⟩
    obtain ⟨⟨D, bc, w1⟩, w2, w3, w4⟩ := id h
    refine ⟨S, 3, ?_, FrW.rf, w1.2.2.2.2.2.2.2.2.2.2.2.2.2.2, ⟨_, w1.1.1⟩, rfl, fun z => absurd z (by show ¬ (3 : Nat) = 0; decide), fun z => absurd z (by show ¬ (3 : Nat) = 5; decide)⟩
    show fX6_advance_0s N _ S = _
    unfold fX6_advance_0s
    rw [w2, show (4000 : Int32) = nI 4000 from rfl, if_pos (nI_le (by omega) (by omega))]
  | d + 1, S, t, x, H, f, lab, ht, hf, hG, hV, h => by
    obtain ⟨f, rfl⟩ : ∃ f', f = f' + 1 := ⟨f - 1, by omega⟩
    obtain ⟨wk, w126, w3, w4, w5, w6, w7, w8⟩ := id h
    obtain ⟨c, tr, ms, L, n, vs⟩ := x
    have wk : WK S (cX S) c tr ms L n vs := wk
    have w4 : vs + tr.length ≤ t := w4
    have w6' : wkTo (Gc S) t aStart c := w6.hd
    have w8l : LLx lab c tr ms vs := w8.1
    obtain ⟨D, bc, h1, h2, h3, h4, h5, h6, hrest⟩ := id wk
    have hrm : RmC S := hrest.2.2.2.2.2.2.2.2
    obtain ⟨cq, ok⟩ := wk_ok hV t c w6'
    have hc : c.1 < 3002 := ok.1
    have hp : c.2.1 < nP (cK S c.1) := ok.2.1
    have np3 : ∀ k, nP k ≤ 3 := fun k => by unfold nP; split <;> (try split) <;> (try split) <;> omega
    have hp3 := np3 (cK S c.1)
    obtain ⟨w, ew⟩ : ∃ w, cV S c.1 c.2.1 = w := ⟨_, rfl⟩
    obtain ⟨q, eq⟩ : ∃ q, cP S c.1 c.2.1 = q := ⟨_, rfl⟩
    obtain ⟨v1, v2, -⟩ := hV.1 c.1 c.2.1 hc hp
    have hw : w < 3002 := by rw [← ew]; exact v1
    have hq : q < nP (cK S w) := by rw [← ew, ← eq]; exact v2
    have hq3 := np3 (cK S w)
    obtain ⟨Lp, eL⟩ : ∃ Lp, Lp = loopN (fun k x => fX6_advance_0s N k x) f := ⟨_, rfl⟩
    have ac : fX2_across N S (S.1 124) = some (nI (4 * w + q), S) := by rw [h3, X2_across hG.1 hc (by omega), ew, eq]
    have im := X6_isMeeting (N := N) (w := w) (q := q) hG.1 h3 hc (by omega) hw (by omega) (nP_7 (Nat.lt_of_le_of_lt (Nat.zero_le _) hp))
    show ∃ S' code, fX6_advance_0s N (loopN (fun k x => fX6_advance_0s N k x) f) S = some (code, S') ∧ _
    rw [← eL]
    show ∃ S' code, fX6_advance_0s N Lp S = some (code, S') ∧ _ ∧ _ ∧ _ ∧ code = nI (gWalk (Gc S) (d + 1) c).1 ∧ ((gWalk (Gc S) (d + 1) c).1 = 0 → S'.1 123 = nI (gWalk (Gc S) (d + 1) c).2.2.2.2.2.2.length ∧ TdC S' (gWalk (Gc S) (d + 1) c).2.2.2.2.2.2 ∧ (gWalk (Gc S) (d + 1) c).2.2.2.2.2.2.length ≤ 4000) ∧ ((gWalk (Gc S) (d + 1) c).1 = 5 → ∃ t' x' H', CW S' t' x' H' lab ∧ x'.1 = (gWalk (Gc S) (d + 1) c).2 ∧ t' < 4000)
    have op : fX6_advance_0s N Lp S = (bd2 (fX6_isMeeting N S (nI (4 * w + q))) fun v5 S7 => if v5 = 0 then ckx (S7.1 126) 4000 <| bnd (sA S7 125 (upd (S7.2.1 125) (S7.1 126 : Int32).toNatClampNeg (S7.1 124))) fun S10 => bnd (sI S10 126 ((S10.1 126 + (1 : Int32)))) fun S11 => bdo (fX7_nodeAt (nI (4 * w + q))) fun v12 => bdo (fX7_whichAt (nI (4 * w + q))) fun v14 => bd2 (fX6_arrive N S11 v12 v14) fun v16 S18 => if v16 = (7 : Int32) then bd2 (fX6_endTerm N S18) fun v20 S22 => fX6_advance_79 N Lp S22 v20 else fX6_advance_79 N Lp S18 v16 else some ((5 : Int32), S7)) := by
      unfold fX6_advance_0s
      rw [if_neg (fun z => absurd ((nI_leI (a := 4000) (by omega) (by omega)).mp (w126 ▸ z)) (by omega)), bd2_ok ac]
    rw [op, bd2_ok im, gWalk_s]
    by_cases n5 : q = 0 ∧ c.2.1 = 0 ∧ ¬ cK S c.1 = 6
    · have g5 : gStep (Gc S) c = (5, c) := by
        show aStep (cK S) (cX S) (cV S) (cP S) c = _
        unfold aStep
        rw [eq, if_pos n5]
      have e5 : (if 4000 < (gStep (Gc S) c).2.2.2.2.2.2.length then 3 else (gStep (Gc S) c).1) = 5 := by
        rw [g5]
        show (if 4000 < c.2.2.2.2.2.length then 3 else 5) = 5
        rw [if_neg (by omega)]
      rw [if_pos n5, e5, g5, if_neg (show ¬ (1 : Int32) = 0 by decide), if_neg (show ¬ (5 : Nat) = 6 by decide)]
      exact ⟨S, 5, rfl, FrW.rf, hrm, ⟨n, h1.1⟩, rfl, fun z => absurd z (by show ¬ (5 : Nat) = 0; decide), fun _ => ⟨t, (c, tr, ms, L, n, vs), H, h, rfl, by omega⟩⟩
    · rw [if_neg n5, if_pos rfl, w126, ckx_ok (vp_in_nI (by omega) (by omega)), bnd_eq, bnd_eq, nI_clamp (by omega), bdo_ok (nA (by omega)), bdo_ok (wA (by omega)), show (4 * w + q) / 4 = w by omega, show (4 * w + q) % 4 = q by omega]
      obtain ⟨S1, e1⟩ : ∃ z, z = sI (sA S 125 (upd (S.2.1 125) t (S.1 124))) 126 ((sA S 125 (upd (S.2.1 125) t (S.1 124))).1 126 + 1) := ⟨_, rfl⟩
      rw [← e1]
      have f1 : Fr S S1 [126] [125] := by rw [e1]; exact (Fr.A (by decide)).trans (Fr.I (by decide))
      have z126 : S1.1 126 = nI (t + 1) := by
        rw [e1]
        show S.1 126 + 1 = _
        rw [w126, nI_1]
      have z125 : S1.2.1 125 = upd (S.2.1 125) t (nI (4 * c.1 + c.2.1)) := by
        rw [e1, ← h3]; rfl
      obtain ⟨G1, G2⟩ := hG.w f1.w (by decide) (by decide)
      have x1 : cX S1 = cX S := congrArg (fun z => z.2.1) G2
      have k1 : cK S1 = cK S := congrArg (fun z => z.1) G2
      have v1' : cV S1 = cV S := congrArg (fun z => z.2.2.1) G2
      have p1 : cP S1 = cP S := congrArg (fun z => z.2.2.2) G2
      obtain ⟨wk1, tv1⟩ := wk.of (X' := cX S1) f1.w (by decide) (by decide) f1.2.2 (fun e _ => by rw [x1])
      obtain ⟨S2, code, a1, a2, a3, a4, a5⟩ := X6_step (N := N) (lab := lab) (w := w) (q := q) hN G1.1 wk1 hc (by rw [k1]; exact hp) (by rw [v1']; exact ew) (by rw [p1]; exact eq) hw (by rw [k1]; exact hq) (by rw [G2]; exact w7) w8l (by omega) (by rw [k1]; exact n5)
      rw [a1 (fun v S => fX6_advance_79 N Lp S v)]
      rw [G2] at a5
      have F2 : FrW S S2 (126 :: WI) (125 :: WA) := (f1.w.mono (by decide) (by decide)).trans (a2.mono (by decide) (by decide))
      obtain ⟨G3, G4⟩ := hG.w F2 (by decide) (by decide)
      obtain ⟨o1, o2⟩ := a5
      by_cases c4 : 4000 < (gStep (Gc S) c).2.2.2.2.2.2.length
      · rw [if_pos c4, if_neg (by decide)]
        have ec := o1 c4
        refine ⟨S2, 3, ?_, F2, a3, a4, rfl, fun z => absurd z (by show ¬ (3 : Nat) = 0; decide), fun z => absurd z (by show ¬ (3 : Nat) = 5; decide)⟩
        show fX6_advance_79 N Lp S2 code = _
        unfold fX6_advance_79
        rw [ec, if_neg (by decide)]
      · rw [if_neg c4]
        obtain ⟨ec, oc, od⟩ := o2 (by omega)
        have le6 := gStep_le (G := Gc S) (c := c)
        by_cases c6 : (gStep (Gc S) c).1 = 6
        · rw [if_pos c6]
          obtain ⟨tr', ms', L', n', vs', b1, b2, b3, b4⟩ := od c6
          have e6 : gStep (Gc S) c = (6, (gStep (Gc S) c).2) := Prod.ext c6 rfl
          have wt : wkTo (Gc S) (t + 1) aStart (gStep (Gc S) c).2 := ⟨c, w6', e6, by omega⟩
          have y126 : S2.1 126 = nI (t + 1) := by rw [a2.1 126 (by decide)]; exact z126
          have y125 : S2.2.1 125 = upd (S.2.1 125) t (nI (4 * c.1 + c.2.1)) := by rw [a2.2.1 125 (by decide)]; exact z125
          have b1' : WK S2 (cX S2) (gStep (Gc S) c).2 tr' ms' L' n' vs' := by
            have e : cX S2 = cX S1 := (congrArg (fun z => z.2.1) G4).trans x1.symm
            rw [e]; exact b1
          have cw : ∃ H', CW S2 (t + 1) ((gStep (Gc S) c).2, tr', ms', L', n', vs') H' lab := by
            rcases b4 with pz | ⟨pv, tvk⟩
            · exact ⟨[], b1', y126, by omega, by show vs' + tr'.length ≤ t + 1; omega, Or.inl pz, by rw [G4]; exact wt, by rw [G4]; exact w7, b2, fun y hy => (List.not_mem_nil hy).elim⟩
            · refine ⟨(c, tr, ms, L, n, vs) :: H, b1', y126, by omega, by show vs' + tr'.length ≤ t + 1; omega, ⟨t, rfl, ?_, ⟨pv, w4⟩, HC.of H _ _ (fun j hj => ?_) (fun k hk => ?_) w5⟩, by rw [G4]; exact ⟨wt, t, rfl, w6⟩, by rw [G4]; exact w7, b2, fun y hy => ?_⟩
              · rw [y125, upd_at, if_pos rfl]
              · rw [y125, upd_at, if_neg (by omega)]
              · have hk : k < n := hk
                rw [tvk k hk, tv1]
              · rcases List.mem_cons.mp hy with e | e
                · rw [e]; exact w8l
                · exact w8.2 y e
          obtain ⟨H', cw⟩ := cw
          obtain ⟨S', code', r1, r2, r3, r4, r5, r6, r7⟩ := X6_adv hN d S2 (t + 1) _ H' f lab (by omega) (by omega) G3 (by rw [G4]; exact hV) cw
          rw [G4] at r5 r6 r7
          refine ⟨S', code', ?_, F2.trans r2, r3, r4, r5, r6, r7⟩
          show fX6_advance_79 N Lp S2 code = _
          unfold fX6_advance_79
          rw [ec, c6, if_pos (by decide), eL]
          exact r1
        · rw [if_neg c6]
          refine ⟨S2, code, ?_, F2, a3, a4, ec, fun z => ⟨(oc z).1, (oc z).2, Nat.le_of_not_lt c4⟩, fun z => ?_⟩
          · show fX6_advance_79 N Lp S2 code = _
            unfold fX6_advance_79
            rw [ec, if_neg (fun e => c6 ((nI_eq (b := 6) (by omega) (by omega)).mp (e.trans (show (6 : Int32) = nI 6 from rfl))))]
          · have := (gStep_5 z).1
            have e : cP S c.1 c.2.1 = 0 ∧ c.2.1 = 0 ∧ ¬ cK S c.1 = 6 := this
            rw [eq] at e
            exact absurd e n5
