/-! the class: its walk begins; one step back -/
theorem X6_begin {S : St} {N n : Nat} {lab : Nat → Nat → Nat} (hN : Big N) (hG : GC S) (ht : TrC S n) (hr : RmC S) (hl : LbG 3002 (Gc S) lab) (hk : cK S 0 = 6) : ∃ S', fX6_begin N S = some S' ∧ Fr S S' (126 :: WI) WA ∧ CW S' 0 (aStart, [], [], (fun _ => 0), 1, 0) [] lab := by
  obtain ⟨S1, a1, a2, a3⟩ := X1_clear (N := N) hN ht
  obtain ⟨S2, e2⟩ : ∃ z, z = sI (sI (sI (sI (sI (sI S1 123 0) 126 0) 130 0) 133 0) 135 0) 124 (nI (4 * 0 + 0)) := ⟨_, rfl⟩
  have f2 : Fr S1 S2 [123, 124, 126, 130, 133, 135] [] := by
    rw [e2]
    exact (((((Fr.I (by decide)).trans (Fr.I (by decide))).trans (Fr.I (by decide))).trans (Fr.I (by decide))).trans (Fr.I (by decide))).trans (Fr.I (by decide))
  have F : Fr S S2 (126 :: WI) WA := (a2.mono (by decide) (by decide)).trans (f2.mono (by decide) (fun _ h => (List.not_mem_nil h).elim))
  obtain ⟨G1, G2⟩ := hG.of F (by decide) (by decide)
  refine ⟨S2, ?_, F, ⟨0, 0, a3.fr f2.w (by decide) (by decide), ?_, ?_, ?_, trivial, by show 0 ≤ 4000; omega, ?_, Nat.le_refl _, ?_, ?_, by omega, Nat.le_refl _, by omega, ⟨rfl, rfl, rfl⟩, hr.of F.2.2⟩, ?_, by omega, by show 0 + 0 ≤ 0; omega, Or.inr rfl, rfl, by rw [G2]; exact hl, ⟨?_, ?_, trivial⟩, fun y hy => (List.not_mem_nil hy).elim⟩
  · unfold fX6_begin
    have po : fX7_portOf (0 : Int32) (0 : Int32) = some (nI (4 * 0 + 0)) := pO 0 0
    rw [bdo_ok a1, bnd_eq, bnd_eq, bnd_eq, bnd_eq, bnd_eq, bdo_ok po, bnd_eq, ← e2]
  · rfl
  · rw [e2]; rfl
  · rw [e2]; rfl
  · rw [e2]; rfl
  · rw [e2]; rfl
  · rw [e2]; rfl
  · rw [e2]; rfl
  · show 0 + 0 = 0 + lab 0 0
    have := (hl.1 0 (by omega)).2.2.2.2 hk
    omega
  · exact Nat.le_refl _
theorem aGo_p : ∀ (lat : List Lt) (ab : List Ab) (td : List Nat), (aGo lat ab td).1 = 6 → (aGo lat ab td).2.2.1 = 2
  | [], _, _, h => absurd h (by show ¬ (0 : Nat) = 6; decide)
  | it :: r, ab, td, h => by
    have e0 : aGo (it :: r) ab td = if it.1 = 1 then aGo r ab.tail td else if it.1 = 2 then aGo r ab (41 :: td) else (6, (it.2.1, 2, it.2.2, (2, 0, (fun _ => 0)) :: r, ab, 32 :: td)) := rfl
    rw [e0] at h ⊢
    by_cases c1 : it.1 = 1
    · rw [if_pos c1] at h ⊢; exact aGo_p _ _ _ h
    · rw [if_neg c1] at h ⊢
      by_cases c2 : it.1 = 2
      · rw [if_pos c2] at h ⊢; exact aGo_p _ _ _ h
      · rw [if_neg c2]
theorem ctlS_w {k w q x : Nat} {c : Cf} (h6 : (ctlS k w q x c).1 = 6) : (ctlS k w q x c).2.1 = w := by
  unfold ctlS at h6 ⊢
  by_cases k2 : k = 2
  · rw [if_pos k2] at h6 ⊢
    unfold aFan at h6 ⊢
    by_cases c1 : 0 < q
    · rw [if_pos c1]
    · rw [if_neg c1] at h6 ⊢
      by_cases c2 : (dc (c.2.2.1 x)).1 = 1 ∨ (dc (c.2.2.1 x)).1 = 2
      · rw [if_pos c2]
      · rw [if_neg c2] at h6; exact absurd h6 (by show ¬ (4 : Nat) = 6; decide)
  · rw [if_neg k2] at h6 ⊢
    by_cases k3 : k = 3
    · rw [if_pos k3]
      unfold aCro
      by_cases c1 : q = 1
      · rw [if_pos c1]
      · rw [if_neg c1]
    · rw [if_neg k3] at h6 ⊢
      unfold aBra at h6 ⊢
      by_cases c1 : q = 1
      · rw [if_pos c1]
      · rw [if_neg c1] at h6 ⊢
        by_cases c2 : (dc (c.2.2.1 x)).1 = 3
        · rw [if_pos c2]
        · rw [if_neg c2] at h6; exact absurd h6 (by show ¬ (4 : Nat) = 6; decide)
/-- a step that left by port 0 -/
theorem back0 {G : Gr} {c1 c0 : Cf} (h : gStep G c1 = (6, c0)) (hp : c0.2.1 = 0) : (G.1 c0.1 = 1 ∧ c0.2.2.2 = ((0, c0.1, c1.2.2.1) :: c1.2.2.2.1, c1.2.2.2.2.1, 40 :: c1.2.2.2.2.2)) ∨ (isC (G.1 c0.1) ∧ c0.2.2.2 = c1.2.2.2) := by
  obtain ⟨w, ew⟩ : ∃ w, w = G.2.2.1 c1.1 c1.2.1 := ⟨_, rfl⟩
  obtain ⟨q, eq⟩ : ∃ q, q = G.2.2.2 c1.1 c1.2.1 := ⟨_, rfl⟩
  have e6 : (gStep G c1).1 = 6 := by rw [h]
  have e0 : (gStep G c1).2 = c0 := by rw [h]
  unfold gStep aStep at e6 e0
  by_cases m : G.2.2.2 c1.1 c1.2.1 = 0 ∧ c1.2.1 = 0 ∧ ¬ G.1 c1.1 = 6
  · rw [if_pos m] at e6
    exact absurd e6 (by show ¬ (5 : Nat) = 6; decide)
  · rw [if_neg m, ← ew, ← eq] at e6 e0
    by_cases k0 : G.1 w = 0
    · rw [if_pos k0] at e6 e0
      unfold aLam at e6 e0
      by_cases q2 : q = 2
      · rw [if_pos q2] at e6 e0
        cases e : fnd w (G.2.1 w) c1.2.2.1 c1.2.2.2.2.1 0 with
        | none => rw [e] at e6; exact absurd e6 (by show ¬ (4 : Nat) = 6; decide)
        | some k =>
          rw [e] at e6 e0
          have := aGo_p _ _ _ e6
          have e0 : (aGo c1.2.2.2.1 c1.2.2.2.2.1 (dig k ++ c1.2.2.2.2.2)).2 = c0 := e0
          rw [e0] at this
          omega
      · rw [if_neg q2] at e6 e0
        by_cases q1 : q = 1
        · rw [if_pos q1] at e6; exact absurd e6 (by show ¬ (4 : Nat) = 6; decide)
        · rw [if_neg q1] at e6 e0
          by_cases l : 4000 ≤ c1.2.2.2.2.2.length
          · rw [if_pos l] at e6; exact absurd e6 (by show ¬ (3 : Nat) = 6; decide)
          · rw [if_neg l] at e0
            rw [← e0] at hp
            exact absurd hp (by show ¬ (1 : Nat) = 0; decide)
    · rw [if_neg k0] at e6 e0
      by_cases k1 : G.1 w = 1
      · rw [if_pos k1] at e6 e0
        unfold aApp at e6 e0
        by_cases q1 : q = 1
        · rw [if_pos q1] at e6 e0
          by_cases l : 4000 ≤ c1.2.2.2.2.2.length
          · rw [if_pos l] at e6; exact absurd e6 (by show ¬ (3 : Nat) = 6; decide)
          · rw [if_neg l] at e0
            left
            rw [← e0]
            exact ⟨k1, rfl⟩
        · rw [if_neg q1] at e6; exact absurd e6 (by show ¬ (4 : Nat) = 6; decide)
      · rw [if_neg k1] at e6 e0
        by_cases kc : isC (G.1 w)
        · have el : (if G.1 w = 2 then aFan w q (G.2.1 w) c1 else if G.1 w = 3 then aCro w q (G.2.1 w) c1 else if G.1 w = 4 then aBra w q (G.2.1 w) c1 else (4, c1)) = ctlS (G.1 w) w q (G.2.1 w) c1 := by
            unfold ctlS
            rcases kc with e | e | e <;> rw [e] <;> rfl
          rw [el] at e6 e0
          right
          have a := ctlS_w e6
          rw [e0] at a
          rw [a]
          refine ⟨kc, ?_⟩
          rcases ctlS_46 (k := G.1 w) (w := w) (q := q) (x := G.2.1 w) (c := c1) with ⟨b1, b2⟩ | b
          · rw [← e0]; exact b2
          · rw [b] at e6; exact absurd e6 (by show ¬ (4 : Nat) = 6; decide)
        · unfold isC at kc
          rw [if_neg (by omega), if_neg (by omega), if_neg (by omega)] at e6
          exact absurd e6 (by show ¬ (4 : Nat) = 6; decide)
theorem wkTo_det {G : Gr} {c : Cf} : ∀ (t : Nat) (a b : Cf), wkTo G t c a → wkTo G t c b → a = b
  | 0, a, b, h1, h2 => by
    have h1 : c = a := h1
    have h2 : c = b := h2
    rw [← h1, ← h2]
  | t + 1, a, b, ⟨a1, h1, h2, _⟩, ⟨b1, g1, g2, _⟩ => by
    have e := wkTo_det t a1 b1 h1 g1
    rw [e, g2] at h2
    exact (congrArg Prod.snd h2).symm
theorem X6_back {S : St} {N t : Nat} {x : XS} {H : List XS} {lab : Nat → Nat → Nat} (hN : Big N) (hG : GC S) (hV : GVr 3002 (Gc S)) (h : CW S t x H lab) (h5 : gStep (Gc S) x.1 = (5, x.1)) :
    ∃ S' y H' t1, t = t1 + 1 ∧ fX6_stepBack N S = some S' ∧ Fr S S' (126 :: WI) WA ∧ H = y :: H' ∧ gStep (Gc S) y.1 = (6, x.1) ∧ CW S' t1 y H' lab := by
  obtain ⟨wk, w126, w3, w4, w5, w6, w7, w8⟩ := id h
  obtain ⟨m1, -⟩ := gStep_5 (G := Gc S) (c := x.1) (by rw [h5])
  obtain ⟨m1, m2, m3⟩ := m1
  have w6' := w6.hd
  cases H with
  | nil =>
    exfalso
    rcases w5 with e | e
    · exact e m2
    · subst e
      have e : aStart = x.1 := w6'
      rw [← e] at m3
      exact m3 hV.2.1
  | cons y H =>
    obtain ⟨t1, e1, a1, ⟨a2, a4⟩, a3⟩ := w5
    obtain ⟨b1, t2, e2, b2⟩ := w6
    have : t2 = t1 := by omega
    subst this
    subst e1
    obtain ⟨c1, d1, d2, d3⟩ := w6'
    have ec := wkTo_det _ _ _ d1 b2.hd
    subst ec
    obtain ⟨c0, tr0, ms0, L0, n0, vs0⟩ := x
    obtain ⟨c, tr, ms, L, n, vs⟩ := y
    have wk : WK S (cX S) c0 tr0 ms0 L0 n0 vs0 := wk
    obtain ⟨p1, p2, p3, p4, p5, p6⟩ := a2
    have p1 : c.2.2.1 = (fun i => tv S (L i)) := p1
    have p2 : ∀ i, L i < n := p2
    have p3 : n ≤ n0 := p3
    have p4 : vs = vs0 := p4
    have p5 : ∀ m ∈ ms, m ≤ tr.length := p5
    subst p4
    have w4 : vs + tr0.length ≤ t2 + 1 := w4
    have d2 : gStep (Gc S) c = (6, c0) := d2
    have m2 : c0.2.1 = 0 := m2
    obtain ⟨D, bc, h1, h2, h3, h4, h5', h6, h7, h8, h9, h10, h11, h12, h13, h14, h15⟩ := id wk
    obtain ⟨cq, ok⟩ := wk_ok hV _ _ b1
    have hc0 : c0.1 < 3002 := ok.1
    have kd : fX2_kindOf N S (nI c0.1) = some (nI (cK S c0.1), S) := by
      have k7 : cK S c0.1 < 7 := nP_7 (Nat.lt_of_le_of_lt (Nat.zero_le _) ok.2.1)
      rw [X2_kindOf hG.1 hc0, kI_lt (by omega)]
    have k7 : cK S c0.1 < 7 := nP_7 (Nat.lt_of_le_of_lt (Nat.zero_le _) ok.2.1)
    have op : fX6_stepBack N S = if nI (cK S c0.1) = (1 : Int32) then (if S.1 130 ≤ 0 then fX6_stepBack_81 N S else if S.1 123 ≤ 0 then fX6_stepBack_81 N S else bnd (sI S 130 ((S.1 130 - (1 : Int32)))) fun S11 => bnd (sI S11 123 ((S11.1 123 - (1 : Int32)))) fun S12 => fX6_stepBack_81 N S12) else bdo (fX1_undo N S) fun S15 => fX6_stepBack_81 N S15 := by
      unfold fX6_stepBack
      rw [w126, show (1 : Int32) = nI 1 from rfl, if_neg (nI_nlt (by omega) (by omega)), show (4000 : Int32) = nI 4000 from rfl, if_pos (nI_le (by omega) (by omega)), h3, bdo_ok (nA (by omega)), show (4 * c0.1 + c0.2.1) / 4 = c0.1 by omega, bd2_ok kd]
    -- the last of it
    have fin : ∀ S1 : St, S1.1 126 = nI (t2 + 1) → S1.2.1 125 t2 = nI (4 * c.1 + c.2.1) → ∃ S', fX6_stepBack_81 N S1 = some S' ∧ Fr S1 S' [124, 126] [] ∧ S'.1 126 = nI t2 ∧ S'.1 124 = nI (4 * c.1 + c.2.1) := by
      intro S1 z1 z2
      unfold fX6_stepBack_81
      rw [z1, bnd_eq, nI_sub1 (by omega), Nat.add_sub_cancel]
      obtain ⟨S2, e2⟩ : ∃ z, z = sI S1 126 (nI t2) := ⟨_, rfl⟩
      rw [← e2]
      have y1 : S2.1 126 = nI t2 := by rw [e2]; rfl
      have y2 : S2.2.1 125 t2 = nI (4 * c.1 + c.2.1) := by rw [e2]; exact z2
      rw [y1, ckx_ok (vp_in_nI (by omega) (by omega)), nI_clamp (by omega), y2, bnd_eq]
      exact ⟨_, rfl, by rw [e2]; exact (Fr.I (by decide)).trans (Fr.I (by decide)), y1, rfl⟩
    rcases back0 d2 m2 with ⟨k1, ed⟩ | ⟨kc, ed⟩
    · -- an application
      have k1 : cK S c0.1 = 1 := k1
      have l0 : c0.2.2.2.1 = (0, c0.1, c.2.2.1) :: c.2.2.2.1 := congrArg Prod.fst ed
      have l1 : c0.2.2.2.2.1 = c.2.2.2.2.1 := congrArg (fun z => z.2.1) ed
      have l2 : c0.2.2.2.2.2 = 40 :: c.2.2.2.2.2 := congrArg (fun z => z.2.2) ed
      have ll : c0.2.2.2.1.length = c.2.2.2.1.length + 1 := by rw [l0]; rfl
      have l3 : c0.2.2.2.2.2.length = c.2.2.2.2.2.length + 1 := by rw [l2]; rfl
      have p6 : ms0 = tr.length :: ms ∧ tr0 = tr ∧ L0 = L ∧ n0 = n := by
        rcases p6 with ⟨z, -⟩ | ⟨-, z2, z3, z4, z5⟩
        · have z : c0.2.2.2.1 = c.2.2.2.1 := z
          rw [z] at ll; omega
        · exact ⟨z2, z3, z4, z5⟩
      obtain ⟨q1, q2, q3, q4⟩ := p6
      subst q1 q2 q3 q4
      rw [l0, l1] at h14
      obtain ⟨m, ms', s1, s2, s3, s4, s5⟩ := h14
      have s6 : SkA S (cX S) L0 n0 tr0 c.2.2.2.1 c.2.2.2.2.1 ms bc := by
        rcases s5 with ⟨z, -⟩ | ⟨z, -⟩ | ⟨-, -, -, -, -, z⟩
        · exact absurd z (by show ¬ (0 : Nat) = 1; decide)
        · exact absurd z (by show ¬ (0 : Nat) = 2; decide)
        · have : ms' = ms := (List.cons.inj s1).2.symm
          rw [← this]; exact z
      rw [ll] at h7 h8 h12
      rw [l3] at h4 h6 h8
      obtain ⟨S1, e1⟩ : ∃ z, z = sI (sI S 130 (nI c.2.2.2.1.length)) 123 (nI c.2.2.2.2.2.length) := ⟨_, rfl⟩
      have f1 : Fr S S1 [123, 130] [] := by rw [e1]; exact (Fr.I (by decide)).trans (Fr.I (by decide))
      obtain ⟨S', r1, r2, r3, r4⟩ := fin S1 (by rw [f1.1 126 (by decide)]; exact w126) (by rw [f1.2.1 125 (fun h => List.not_mem_nil h)]; exact a1)
      have F : Fr S S' [123, 124, 126, 130] [] := (f1.mono (by decide) (fun _ h => h)).trans (r2.mono (by decide) (fun _ h => h))
      have etv : tv S' = tv S := tv_fr F.w (by decide)
      obtain ⟨G1, G2⟩ := hG.of F (by decide) (by decide)
      have x1 : cX S' = cX S := congrArg (fun z => z.2.1) G2
      refine ⟨S', (c, tr0, ms, L0, n0, vs), H, t2, rfl, ?_, F.mono (by decide) (fun _ h => (List.not_mem_nil h).elim), rfl, d2, ⟨D, bc, h1.fr F.w (by decide) (by decide), by rw [etv]; exact p1, r4, ?_, ?_, ?_, ?_, ?_, ?_, ?_, ?_, ?_, ?_, ?_, h15.of F.2.2⟩, r3, by omega, ?_, HC.of H _ _ (fun j hj => by rw [F.2.1 125 (fun h => List.not_mem_nil h)]) (fun k hk => by rw [etv]) a3, by rw [G2]; exact b2, by rw [G2]; exact w7, w8.2 _ (List.mem_cons_self ..), fun y hy => w8.2 y (List.mem_cons_of_mem _ hy)⟩
      · rw [op, k1, if_pos (by decide), h7, if_neg (nI_nle (by omega) (by omega)), h4, if_neg (nI_nle (by omega) (by omega)), bnd_eq, bnd_eq, nI_sub1 (by omega), Nat.add_sub_cancel]
        have : (sI S 130 (nI c.2.2.2.1.length)).1 123 = nI (c.2.2.2.2.2.length + 1) := h4
        rw [this, nI_sub1 (by omega), Nat.add_sub_cancel, ← e1]
        exact r1
      · rw [r2.1 123 (by decide), e1]; rfl
      · rw [l2] at h5'
        exact TdC.of _ (fun j _ => by rw [F.2.1 122 (fun h => List.not_mem_nil h)]) h5'.2
      · show c.2.2.2.2.2.length ≤ 4000; omega
      · rw [r2.1 130 (by decide), e1]; rfl
      · show c.2.2.2.1.length ≤ c.2.2.2.2.2.length; omega
      · rw [F.1 133 (by decide), ← l1]; exact h9
      · rw [F.1 135 (by decide)]; exact h10
      · rw [← l1]; exact h11
      · exact SkA.al _ _ _ _ s6
      · rw [F.2.2]; exact h13
      · rw [x1]
        exact SkA.of _ _ _ _ (fun j _ => by rw [F.2.1 127 (fun h => List.not_mem_nil h), F.2.1 128 (fun h => List.not_mem_nil h), F.2.1 129 (fun h => List.not_mem_nil h)]; exact ⟨rfl, rfl, rfl⟩) (fun j _ => by rw [F.2.1 131 (fun h => List.not_mem_nil h), F.2.1 132 (fun h => List.not_mem_nil h)]; exact ⟨rfl, rfl⟩) (fun j _ => by rw [F.2.1 134 (fun h => List.not_mem_nil h)]) (fun m hm => ⟨SkA.ms _ _ _ _ s6 m hm, rfl, fun i => by rw [etv]⟩) s6
      · exact a4
    · -- a control
      have l0 : c0.2.2.2.1 = c.2.2.2.1 := congrArg Prod.fst ed
      have l1 : c0.2.2.2.2.1 = c.2.2.2.2.1 := congrArg (fun z => z.2.1) ed
      have l2 : c0.2.2.2.2.2 = c.2.2.2.2.2 := congrArg (fun z => z.2.2) ed
      have kn : ¬ nI (cK S c0.1) = (1 : Int32) := fun e => by
        have := (nI_eq (b := 1) (by omega) (by omega)).mp (e.trans (show (1 : Int32) = nI 1 from rfl))
        have kc : isC (cK S c0.1) := kc
        unfold isC at kc
        omega
      have p6 : ms0 = ms ∧ ∃ f, tr0 = (f, L, n) :: tr := by
        rcases p6 with ⟨-, z2, z3⟩ | ⟨z, -⟩
        · exact ⟨z2, z3⟩
        · have z : c0.2.2.2.1.length = c.2.2.2.1.length + 1 := z
          rw [l0] at z; omega
      obtain ⟨q1, f, q2⟩ := p6
      subst q1 q2
      obtain ⟨S1, D1, u1, u2, u3, u4⟩ := X1_undo (N := N) hN h1
      have u3 : CX S1 D1 L n tr vs := u3
      obtain ⟨S', r1, r2, r3, r4⟩ := fin S1 (by rw [u2.1 126 (by decide)]; exact w126) (by rw [u2.2.1 125 (by decide)]; exact a1)
      have F : Fr S S' (124 :: 126 :: XI) XA := (u2.mono (by decide) (fun _ h => h)).trans (r2.mono (by decide) (fun _ h => (List.not_mem_nil h).elim))
      have u5 := u3.fr r2.w (by decide) (by decide)
      have etv : ∀ k, k < n → tv S' k = tv S k := fun k hk => by
        rw [tv_fr r2.w (by decide)]
        exact (tv_ext u3.1 h1.1 p3 (fun k hk => by obtain ⟨z1, z2, z3⟩ := u4 k (by omega); exact ⟨z1.symm, z2.symm, z3.symm⟩) k hk).symm
      obtain ⟨G1, G2⟩ := hG.of F (by decide) (by decide)
      have x1 : cX S' = cX S := congrArg (fun z => z.2.1) G2
      have hl : (f, L, n).2.1 = L := rfl
      refine ⟨S', (c, tr, ms0, L, n, vs), H, t2, rfl, ?_, F.mono (by decide) (by decide), rfl, d2, ⟨D1, bc, u5, ?_, r4, ?_, ?_, ?_, ?_, ?_, ?_, ?_, ?_, ?_, ?_, ?_, h15.of F.2.2⟩, r3, by omega, ?_, HC.of H _ _ (fun j hj => by rw [F.2.1 125 (by decide)]) (fun k hk => etv k hk) a3, by rw [G2]; exact b2, by rw [G2]; exact w7, w8.2 _ (List.mem_cons_self ..), fun y hy => w8.2 y (List.mem_cons_of_mem _ hy)⟩
      · rw [op, if_neg kn, bdo_ok u1]; exact r1
      · show c.2.2.1 = _
        rw [p1]
        funext i
        exact (etv _ (p2 i)).symm
      · rw [F.1 123 (by decide), ← l2]; exact h4
      · rw [← l2]; exact TdC.of _ (fun j _ => by rw [F.2.1 122 (by decide)]) h5'
      · rw [← l2]; exact h6
      · rw [F.1 130 (by decide), ← l0]; exact h7
      · rw [← l0, ← l2]; exact h8
      · rw [F.1 133 (by decide), ← l1]; exact h9
      · rw [F.1 135 (by decide)]; exact h10
      · rw [← l1]; exact h11
      · rw [← l0, ← l1]; exact h12
      · rw [F.2.2]; exact h13
      · rw [x1]
        rw [l0, l1] at h14
        refine SkA.of _ _ _ _ (fun j _ => by rw [F.2.1 127 (by decide), F.2.1 128 (by decide), F.2.1 129 (by decide)]; exact ⟨rfl, rfl, rfl⟩) (fun j _ => by rw [F.2.1 131 (by decide), F.2.1 132 (by decide)]; exact ⟨rfl, rfl⟩) (fun j _ => by rw [F.2.1 134 (by decide)]) (fun m hm => ?_) h14
        have ec : ctxAt L0 n0 ((f, L, n) :: tr) m = ctxAt L n tr m := ctxAt_cons (p5 m hm)
        refine ⟨p5 m hm, ec.symm, fun i => ?_⟩
        rw [ec]
        refine etv _ ?_
        have := TrR_ids tr L n (tr.length - m) u3.2.2.2.2.1 u3.2.1.2.2.2.2.1
        exact Nat.lt_of_lt_of_le (this.1 i) this.2
      · have w4 : vs + (tr.length + 1) ≤ t2 + 1 := w4
        show vs + tr.length ≤ t2
        omega
