/-! both programs read a text -/
theorem look_at {S M : St} {bs : Nat → Nat} {L N q : Nat} (hN : Big N) (h : TP S M bs L) (hq : q ≤ L) (hb : q < L → ¬ isB (bs q)) (h7 : M.1 7 = nI q) : fX8_look N M = some (if q < L then nI (bs q) else -1, M) := by
  have e : sk bs (L - q) q = q := by
    by_cases c : q < L
    · obtain ⟨d, ed⟩ : ∃ d, L - q = d + 1 := ⟨L - q - 1, by omega⟩
      rw [ed]
      show (if isB (bs q) then _ else q) = q
      rw [if_neg (hb c)]
    · rw [show L - q = 0 by omega]
      rfl
  rw [X8_look hN h hq h7, e, sI_self h7]
theorem T_111 {M : St} {N q : Nat} {y : Int32} (h8 : M.1 8 = 0) (h7 : M.1 7 = nI q) (k4 : St × Int32 × Int32 → Option (Int32 × St)) : fX8_term_111 N k4 M y 1 = k4 (sI (sI M 8 (nI 1)) 7 (nI q), y, 1) := by
  have bb : fX8_bad N M 1 (M.1 7) = some (sI (sI M 8 (nI 1)) 7 (nI q)) := by rw [h7]; exact X8_bad h8
  unfold fX8_term_111
  rw [bdo_ok bb]
  rfl
theorem T_tok {S M : St} {bs : Nat → Nat} {L N x p t q : Nat} {o : List Ent} (hN : Big N) (h : TP S M bs L) (hq : q < L) (nb : ¬ isB (bs q)) (hP : PSt S M o x p t q) : ∃ S' M' y, fX4_takeNext N S = some S' ∧ (∀ k4, fX8_term_4s N k4 M (TI p t) 1 = k4 (M', y, 1)) ∧ Fr S S' CI4 CA4 ∧ Fr M M' MI4 MA4 ∧ (PFt S' M' ∨ ∃ o' x' p' t' q', y = TI p' t' ∧ PSt S' M' o' x' p' t' q' ∧ q < q' ∧ q' ≤ L) := by
  obtain ⟨w, nm, bn, wd, xh, us, v, hn, hv⟩ := id hP
  obtain ⟨-, -, ⟨n3, n3'⟩, -, -, n6, ⟨n7, n7'⟩, -⟩ := id hn
  have hL := h.1
  have hb := (h.2.2.2.2 q hq).1
  have hpq : p ≤ q := hv.2.2.2.2.2.2.2
  have lk := look_at (N := N) hN h (show q ≤ L by omega) (fun _ => nb) n3'
  rw [if_pos hq] at lk
  have by' := C_byte (N := N) h (show q < 2000 by omega)
  rw [if_pos hq] at by'
  have eqk : ∀ k, k < 1000 → (nI (bs q) = nI k ↔ bs q = k) := fun k hk => nI_eq (by omega) (by omega)
  have opC : fX4_takeNext N S = if nI (bs q) = (92 : Int32) then (bdo (fX4_openLambda N S) fun S25 => some S25) else if nI (bs q) = (40 : Int32) then (bdo (fX4_openParenthesis N S) fun S22 => some S22) else if nI (bs q) = (41 : Int32) then (bdo (fX4_closeParenthesis N S) fun S19 => some S19) else bdo (fX4_isLetter (nI (bs q))) fun v10 => if v10 = 0 then (bnd (sI S 94 (1 : Int32)) fun S13 => some S13) else bdo (fX4_takeVariable N S) fun S16 => some S16 := by
    unfold fX4_takeNext
    rw [n3, bd2_ok by', bdo_ok (C_blank hb), if_neg nb, if_pos rfl]
  have opM : ∀ k4, fX8_term_4s N k4 M (TI p t) 1 = if nI (bs q) = (92 : Int32) then (if 0 ≤ TI p t then fX8_term_37 N k4 M (TI p t) 1 (nI (bs q)) else bdo (fX8_bind N M) fun S10 => fX8_term_214 N k4 S10 (TI p t) 1) else fX8_term_37 N k4 M (TI p t) 1 (nI (bs q)) := fun k4 => by
    unfold fX8_term_4s
    rw [if_neg (by decide), n7', if_pos rfl, bd2_ok lk]
  have tp : 0 ≤ TI p t ↔ p ≠ 0 := by
    unfold TI
    by_cases c : p = 0
    · rw [if_pos c]
      exact ⟨fun z => absurd z (by decide), fun z => absurd c z⟩
    · rw [if_neg c]
      have := hv.t c
      have : w ≤ 160 := by rcases hv.w with z | z <;> omega
      exact ⟨fun _ => c, fun _ => nI_pos' (by omega)⟩
  have tn : TI p t < 0 ↔ p = 0 := by
    unfold TI
    by_cases c : p = 0
    · rw [if_pos c]
      exact ⟨fun _ => c, fun _ => by decide⟩
    · rw [if_neg c]
      have := hv.t c
      have : w ≤ 160 := by rcases hv.w with z | z <;> omega
      exact ⟨fun z => absurd z (nI_pos (by omega)), fun z => absurd z c⟩
  have bad : fX4_takeNext N S = some (sI S 94 (nI 1)) → (∀ k4, fX8_term_4s N k4 M (TI p t) 1 = fX8_term_111 N k4 M (TI p t) 1) → ∃ S' M' y, fX4_takeNext N S = some S' ∧ (∀ k4, fX8_term_4s N k4 M (TI p t) 1 = k4 (M', y, 1)) ∧ Fr S S' CI4 CA4 ∧ Fr M M' MI4 MA4 ∧ (PFt S' M' ∨ ∃ o' x' p' t' q', y = TI p' t' ∧ PSt S' M' o' x' p' t' q' ∧ q < q' ∧ q' ≤ L) := fun a1 a2 =>
    ⟨_, _, TI p t, a1, fun k4 => by rw [a2, T_111 n7' n3'], Fr.I (by decide), (Fr.I (by decide)).trans (Fr.I (by decide)), Or.inl (PF_mk (f := 1) (q := q) (by omega) (by omega) (by omega) n3)⟩
  by_cases c92 : bs q = 92
  · rw [if_pos (show nI (bs q) = 92 by rw [c92]; rfl)] at opC
    by_cases p0 : p = 0
    · subst p0
      obtain ⟨S', M', a1, a2, a3, a4, a5⟩ := L_lam (N := N) hN h hq hP
      refine ⟨S', M', TI 0 t, by rw [opC, bdo_ok a1], fun k4 => ?_, a3, a4, ?_⟩
      · rw [opM, if_pos (show nI (bs q) = 92 by rw [c92]; rfl), if_neg (fun z => (tp.mp z) rfl), bdo_ok a2]
        rfl
      · rcases a5 with a5 | ⟨o', t', q', a5, a6, a7⟩
        · exact Or.inl a5
        · exact Or.inr ⟨o', x, 0, t', q', rfl, a5, a6, a7⟩
    · refine bad ?_ (fun k4 => ?_)
      · have : fX4_openLambda N S = some (sI S 94 (nI 1)) := by
          unfold fX4_openLambda
          rw [n6, if_neg (show ¬ nI p ≤ 0 from fun z => absurd ((nI_leI (b := 0) (by omega) (by omega)).mp z) (by omega)), bnd_eq]
          rfl
        rw [opC, bdo_ok this]
      · rw [opM, if_pos (show nI (bs q) = 92 by rw [c92]; rfl), if_pos (tp.mpr p0), c92]
        have il92 : fX8_isLetter (nI 92) = some 0 := by rw [M_letter_n (by omega), if_neg (by decide)]
        unfold fX8_term_37
        rw [bdo_ok il92, if_pos rfl, if_neg (show ¬ nI 92 = (40 : Int32) by decide), if_neg (fun z => p0 (tn.mp z)), if_neg (show ¬ nI 92 = (41 : Int32) by decide), if_neg (show ¬ nI 92 = (-1 : Int32) by decide)]
  · have n92 : ¬ nI (bs q) = (92 : Int32) := fun z => c92 ((eqk 92 (by omega)).mp z)
    rw [if_neg n92] at opC
    have opM : ∀ k4, fX8_term_4s N k4 M (TI p t) 1 = fX8_term_37 N k4 M (TI p t) 1 (nI (bs q)) := fun k4 => by
      rw [opM, if_neg n92]
    by_cases il : isL (bs q)
    · obtain ⟨S', M', y, a1, a2, a3, a4, a5⟩ := L_var (N := N) hN h hq il hP
      have n40 : ¬ nI (bs q) = (40 : Int32) := fun z => by
        have := (eqk 40 (by omega)).mp z
        unfold isL at il; omega
      have n41 : ¬ nI (bs q) = (41 : Int32) := fun z => by
        have := (eqk 41 (by omega)).mp z
        unfold isL at il; omega
      refine ⟨S', M', y, by rw [opC, if_neg n40, if_neg n41, bdo_ok (C_letter hb), if_pos il, if_neg (by decide), bdo_ok a1], fun k4 => by rw [opM, a2], a3, a4, ?_⟩
      rcases a5 with a5 | ⟨p', t', q', a5, a6, a7⟩
      · exact Or.inl a5
      · exact Or.inr ⟨o, x, p', t', q', a5, a6, a7⟩
    · have m37 : ∀ k4, fX8_term_37 N k4 M (TI p t) 1 (nI (bs q)) = if nI (bs q) = (40 : Int32) then (bdo (fX8_opens N M (0 : Int32) (TI p t)) fun S10 => bnd (-1 : Int32) fun z11 => fX8_term_214 N k4 S10 z11 1) else if TI p t < 0 then fX8_term_111 N k4 M (TI p t) 1 else if nI (bs q) = (41 : Int32) then fX8_term_123 N k4 M (TI p t) 1 (nI (bs q)) else if nI (bs q) = (-1 : Int32) then fX8_term_123 N k4 M (TI p t) 1 (nI (bs q)) else fX8_term_111 N k4 M (TI p t) 1 := fun k4 => by
        unfold fX8_term_37
        rw [bdo_ok (M_letter_n hb), if_neg il, if_pos rfl]
      by_cases c40 : bs q = 40
      · obtain ⟨S', M', a1, a2, a3, a4, a5⟩ := L_par (N := N) h hq hP
        refine ⟨S', M', -1, by rw [opC, if_pos (show nI (bs q) = 40 by rw [c40]; rfl), bdo_ok a1], fun k4 => ?_, a3, a4, ?_⟩
        · rw [opM, m37, if_pos (show nI (bs q) = 40 by rw [c40]; rfl), bdo_ok a2, bnd_eq]
          rfl
        · rcases a5 with a5 | ⟨o', x', a5⟩
          · exact Or.inl a5
          · exact Or.inr ⟨o', x', 0, 0, q + 1, rfl, a5, by omega, by omega⟩
      · have n40 : ¬ nI (bs q) = (40 : Int32) := fun z => c40 ((eqk 40 (by omega)).mp z)
        rw [if_neg n40] at opC
        by_cases c41 : bs q = 41
        · have y41 : nI (bs q) = (41 : Int32) := by rw [c41]; rfl
          rw [if_pos y41] at opC
          by_cases p0 : p = 0
          · refine bad ?_ (fun k4 => ?_)
            · have : fX4_closeParenthesis N S = some (sI S 94 (nI 1)) := by
                unfold fX4_closeParenthesis
                rw [n6, if_pos (show nI p = 0 by rw [p0]; rfl), bnd_eq]
                rfl
              rw [opC, bdo_ok this]
            · rw [opM, m37, if_neg n40, if_pos (tn.mpr p0)]
          · obtain ⟨S', M', y, a1, a2, a3, a4, a5⟩ := L_close (N := N) hN h hq p0 hP
            refine ⟨S', M', y, by rw [opC, bdo_ok a1], fun k4 => ?_, a3, a4, ?_⟩
            · rw [opM, m37, if_neg n40, if_neg (fun z => p0 (tn.mp z)), if_pos y41, y41, show TI p t = nI t by unfold TI; rw [if_neg p0]]
              exact a2 k4
            · rcases a5 with a5 | ⟨o', x', p', t', a5, a6⟩
              · exact Or.inl a5
              · exact Or.inr ⟨o', x', p', t', q + 1, a5, a6, by omega, by omega⟩
        · have n41 : ¬ nI (bs q) = (41 : Int32) := fun z => c41 ((eqk 41 (by omega)).mp z)
          have nm1 : ¬ nI (bs q) = (-1 : Int32) := fun z => nI_pos (show bs q < 2 ^ 31 by omega) (by rw [z]; decide)
          refine bad ?_ (fun k4 => ?_)
          · rw [opC, if_neg n41, bdo_ok (C_letter hb), if_neg il, if_pos rfl, bnd_eq]
            rfl
          · rw [opM, m37, if_neg n40, if_neg n41, if_neg nm1]
            split <;> rfl
/-- what both have at the end of a text -/
def PEnd (S M : St) (y : Int32) : Prop := PFt S M ∨ (S.1 94 = 0 ∧ M.1 8 = 0 ∧ ∃ w bn, TR S M w bn ∧ y = nI (w - 1))
theorem T_end {S M : St} {bs : Nat → Nat} {L N x p t : Nat} {o : List Ent} (hN : Big N) (h : TP S M bs L) (hP : PSt S M o x p t L) : ∃ S' M' y z, fX4_endText N S = some S' ∧ (∀ k4, fX8_term_4s N k4 M (TI p t) 1 = k4 (M', y, z)) ∧ Fr S S' CI4 CA4 ∧ Fr M M' MI4 MA4 ∧ (z = 0 ∨ PFt S' M') ∧ PEnd S' M' y := by
  have hbN := hN
  unfold Big at hbN
  obtain ⟨w, nm, bn, wd, xh, us, v, hn, hv⟩ := id hP
  obtain ⟨-, -, ⟨n3, n3'⟩, -, -, n6, ⟨n7, n7'⟩, -⟩ := id hn
  have hL := h.1
  have hl := hv.1
  have hpq : p ≤ L := hv.2.2.2.2.2.2.2
  have lk := look_at (N := N) hN h (Nat.le_refl _) (fun z => absurd z (by omega)) n3'
  rw [if_neg (by omega)] at lk
  have opM : ∀ k4, fX8_term_4s N k4 M (TI p t) 1 = if TI p t < 0 then fX8_term_111 N k4 M (TI p t) 1 else fX8_term_123 N k4 M (TI p t) 1 (-1) := fun k4 => by
    unfold fX8_term_4s
    rw [if_neg (by decide), n7', if_pos rfl, bd2_ok lk, if_neg (by decide)]
    unfold fX8_term_37
    have : fX8_isLetter (-1) = some 0 := C_letter_m
    rw [bdo_ok this, if_pos rfl, if_neg (show ¬ (-1 : Int32) = 40 by decide), if_neg (show ¬ (-1 : Int32) = 41 by decide), if_pos (show (-1 : Int32) = -1 from rfl)]
  by_cases p0 : p = 0
  · have t1 : TI p t = -1 := by unfold TI; rw [if_pos p0]
    have f := PF_mk (S := S) (M := M) (f := 1) (q := L) (by omega) (by omega) hL n3
    refine ⟨sI S 94 (nI 1), sI (sI M 8 (nI 1)) 7 (nI L), TI p t, 1, ?_, fun k4 => ?_, Fr.I (by decide), (Fr.I (by decide)).trans (Fr.I (by decide)), Or.inr f, Or.inl f⟩
    · unfold fX4_endText
      rw [n6, if_pos (show nI p = 0 by rw [p0]; rfl), bnd_eq]
      rfl
    · rw [opM, if_pos (by rw [t1]; decide), T_111 n7' n3']
  · obtain ⟨S1, M1, o1, t1, w1, wd1, us1, c1, c2, c3, c4, c5, c6, c7⟩ := J_close (N := N) p0 o S M t w wd us N N (by omega) (by omega) hn hv
    have k1 : fX4_closeLambdas N S = some S1 := c1
    have k2 : fX8_closed N M (nI t) = some (nI t1, M1) := c2
    have ti : TI p t = nI t := by unfold TI; rw [if_neg p0]
    have tl := hv.t p0
    have w160 : w ≤ 160 := by rcases hv.w with z | z <;> omega
    obtain ⟨⟨n1, n1'⟩, ⟨n2, n2'⟩, ⟨m3, m3'⟩, ⟨n4, n4'⟩, n5, m6, ⟨m7, m7'⟩, n8, n9, n10, n11⟩ := id c5
    have opC : fX4_endText N S = if S1.1 87 ≤ 0 then some S1 else some (sI S1 94 1) := by
      unfold fX4_endText
      rw [n6, if_neg (nI_ne (by omega) (by omega)), bdo_ok k1, bnd_eq]
    have opM : ∀ k4, fX8_term_4s N k4 M (TI p t) 1 = if M1.1 9 ≤ 0 then fX8_term_152 N k4 M1 (nI t1) 1 0 0 else fX8_term_152 N k4 M1 (nI t1) 1 1 0 := fun k4 => by
      rw [opM, ti, if_neg (nI_pos (by omega))]
      unfold fX8_term_123
      rw [bd2_ok k2]
      unfold fX8_term_141
      rw [if_neg (show ¬ (-1 : Int32) = 41 by decide), if_neg (show ¬ (-1 : Int32) = 41 by decide)]
    rcases c7 with c7 | ⟨a, r, c7⟩
    · subst c7
      have n2 : S1.1 87 = nI 0 := n2
      have n2' : M1.1 9 = nI 0 := n2'
      refine ⟨S1, M1, nI t1, 0, by rw [opC, n2, if_pos (show nI 0 ≤ 0 by decide)], fun k4 => ?_, c3, c4, Or.inl rfl, Or.inr ⟨m7, m7', w1, bn, ?_, ?_⟩⟩
      · rw [opM, n2', if_pos (show nI 0 ≤ 0 by decide)]
        unfold fX8_term_152
        rw [if_pos rfl, n2', if_pos (show nI 0 ≤ 0 by decide), bnd_eq]
        rfl
      · have wt : t1 < w1 := c6.t p0
        have es : SK [] x p t1 = [(x, [], t1)] := by unfold SK; rw [if_neg p0]; rfl
        have x0 : x = 0 := c6.2.2.1
        have w1l : w1 ≤ 158 := by
          rcases c6.w with z | z
          · exact z
          · exact absurd z.1 p0
        have r := c6.2.1
        rw [es, x0] at r
        have tw : t1 = w1 - 1 := by
          rcases r.par.1 (w1 - 1) (by omega) with ⟨it, q1, q2⟩ | ⟨q, q1, q2, -⟩
          · rw [List.mem_singleton.mp q1] at q2; exact q2
          · omega
        rw [tw] at r
        have nmv := c6.2.2.2.2.1
        have nm80 := c6.2.2.2.2.2.1
        have usb := c6.2.2.2.2.2.2.1
        exact ⟨wd1, xh, us1, v, n1, by omega, by omega, n9, n11, r, by omega, by omega⟩
      · have wt : t1 < w1 := c6.t p0
        have es : SK [] x p t1 = [(x, [], t1)] := by unfold SK; rw [if_neg p0]; rfl
        have r := c6.2.1
        rw [es] at r
        have tw : t1 = w1 - 1 := by
          rcases r.par.1 (w1 - 1) (by omega) with ⟨it, q1, q2⟩ | ⟨q, q1, q2, -⟩
          · rw [List.mem_singleton.mp q1] at q2; exact q2
          · omega
        rw [tw]
    · subst c7
      have n2 : S1.1 87 = nI (r.length + 1) := n2
      have n2' : M1.1 9 = nI (r.length + 1) := n2'
      have hl1 : r.length + 1 ≤ 40 := c6.1
      have np : ¬ nI (r.length + 1) ≤ 0 := fun q => absurd ((nI_leI (b := 0) (by omega) (by omega)).mp q) (by omega)
      have f := PF_mk (S := S1) (M := M1) (f := 1) (q := L) (by omega) (by omega) hL m3
      refine ⟨sI S1 94 (nI 1), sI (sI M1 8 (nI 1)) 7 (nI L), nI t1, 1, ?_, fun k4 => ?_, c3.trans (Fr.I (by decide)), (c4.trans (Fr.I (by decide))).trans (Fr.I (by decide)), Or.inr f, Or.inl f⟩
      · rw [opC, n2, if_neg np]; rfl
      · have bb : fX8_bad N M1 1 (M1.1 7) = some (sI (sI M1 8 (nI 1)) 7 (nI L)) := by rw [m3']; exact X8_bad m7'
        rw [opM, n2', if_neg np]
        unfold fX8_term_152
        rw [if_neg (by decide), bdo_ok bb]
        rfl
