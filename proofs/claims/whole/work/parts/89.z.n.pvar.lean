/-! both programs read: a variable; one token; the end -/
theorem PV.t {o : List Ent} {x p t w nm bn : Nat} {wd : Nat → Wd} {xh : Nat → Nat} {us : List Nat} {v q : Nat} (h : PV o x p t w nm bn wd xh us v q) (hp : p ≠ 0) : t < w := by
  have := h.2.1.len.2.2 (x, scope o, t) (by
    unfold SK
    rw [if_neg hp]
    exact List.mem_append_left _ (List.mem_singleton.mpr rfl))
  exact this.1
theorem TI_def {p t w : Nat} (hw : w < 2 ^ 31) (h : p ≠ 0 → t < w) : ∃ b, TI p t = TI p b ∧ b < 2 ^ 31 ∧ (p ≠ 0 → b = t) := by
  by_cases z : p = 0
  · exact ⟨0, by unfold TI; rw [if_pos z, if_pos z], by omega, fun q => absurd z q⟩
  · exact ⟨t, rfl, by have := h z; omega, fun _ => rfl⟩
theorem L_var {S M : St} {bs : Nat → Nat} {L N x p t q : Nat} {o : List Ent} (hN : Big N) (h : TP S M bs L) (hq : q < L) (il : isL (bs q)) (hP : PSt S M o x p t q) : ∃ S' M' y, fX4_takeVariable N S = some S' ∧ (∀ k4, fX8_term_37 N k4 M (TI p t) 1 (nI (bs q)) = k4 (M', y, 1)) ∧ Fr S S' CI4 CA4 ∧ Fr M M' MI4 MA4 ∧ (PFt S' M' ∨ ∃ p' t' q', y = TI p' t' ∧ PSt S' M' o x p' t' q' ∧ q < q' ∧ q' ≤ L) := by
  obtain ⟨w, nm, bn, wd, xh, us, v, hn, hv⟩ := hP
  obtain ⟨⟨n1, n1'⟩, ⟨n2, n2'⟩, ⟨n3, n3'⟩, ⟨n4, n4'⟩, n5, n6, ⟨n7, n7'⟩, n8, n9, n10, n11⟩ := id hn
  have hL := h.1
  have hl := hv.1
  have nm80 : nm ≤ 80 := hv.2.2.2.2.2.1
  have hpq : p ≤ q := hv.2.2.2.2.2.2.2
  have hb2 := (h.2.2.2.2 q hq).1
  have sz1 : 1 ≤ nsz bs L q := by unfold nsz; rw [if_pos ⟨hq, il⟩]; omega
  have szL : q + nsz bs L q ≤ L := by
    unfold nsz; rw [if_pos ⟨hq, il⟩]
    have := (dg_le (bs := bs) (L - (q + 1)) (q + 1)).1
    omega
  obtain ⟨R, M3, y1, y2, y3, y4, y5, y6, y7⟩ := X8_name (N := N) (x := 0) hN h n10 hl hq il n3' n7' n4' nm80 n8 (Or.inl rfl) (fun z e he => (hv.id z e he).2.2)
  have G3 : Fr M M3 MI4 MA4 := y2.mono (by decide) (by decide)
  have y1' : fX8_name N M 0 = some (R, M3) := y1
  have opM : ∀ k4, fX8_term_37 N k4 M (TI p t) 1 (nI (bs q)) = if M3.1 8 = 0 then bd2 (fX8_tree N M3 (0 : Int32) R (0 : Int32)) fun v16 S18 => bd2 (fX8_joined N S18 (TI p t) v16) fun v19 S21 => fX8_term_75 N k4 S21 1 v19 else fX8_term_75 N k4 M3 1 (TI p t) := fun k4 => by
    unfold fX8_term_37
    rw [bdo_ok (M_letter_n hb2), if_pos il, if_neg (by decide), bd2_ok y1']
  have flt : ∀ (f : Nat), 0 < f → f < 5 → M3.1 8 = nI f → ∀ k4, fX8_term_37 N k4 M (TI p t) 1 (nI (bs q)) = k4 (M3, TI p t, 1) := fun f f0 f5 e k4 => by
    rw [opM, e, if_neg (nI_ne f0 (by omega))]
    rfl
  have nsC := X4_nameSize (N := N) hN h (show q ≤ L by omega) n3
  have opC : fX4_takeVariable N S = if nI (nsz bs L q) ≤ (4 : Int32) then bd2 (fX4_nameOf N S (nI (nsz bs L q))) fun v5 S7 => bd2 (fX4_slotOf N S7 v5) fun v8 S10 => if v8 = (-1 : Int32) then (bnd (sI S10 94 (2 : Int32)) fun S27 => some S27) else bd2 (fX4_countName N S10) fun v12 S14 => bnd (sI S14 94 v12) fun S15 => if S15.1 94 = 0 then (bnd (sI S15 90 (S15.1 90 + nI (nsz bs L q))) fun S17 => bd2 (fX4_partIndex N S17) fun v18 S20 => bdo (fX4_addWord N S20 (0 : Int32) v18 v8) fun S23 => bdo (fX4_endPart N S23) fun S26 => some S26) else some S15 else bnd (sI S 94 (1 : Int32)) fun S28 => some S28 := by
    unfold fX4_takeVariable
    rw [bd2_ok nsC]
  by_cases s4 : nsz bs L q ≤ 4
  · rw [show (4 : Int32) = nI 4 from rfl, if_pos (nI_le s4 (by omega)), bd2_ok (X4_nameOf (N := N) hN h n3 szL)] at opC
    have ne0 : nI (nv bs q (nsz bs L q)) ≠ 0 := nv_ne (fun i hi => (h.2.2.2.2 (q + i) (by omega)).1) (by unfold isL at il; omega) sz1 s4
    have so := X4_slotOf (N := N) hN ne0 n10 hl n2
    rw [bd2_ok so] at opC
    cases e : lkE o (nI (nv bs q (nsz bs L q))) with
    | none =>
      rw [e] at opC
      obtain ⟨z1, z2⟩ := y5 s4 rfl e
      have opC : fX4_takeVariable N S = some (sI S 94 (nI 2)) := opC
      exact ⟨_, M3, _, opC, flt 2 (by omega) (by omega) z1, Fr.I (by decide), G3, Or.inl ⟨2, q, by omega, by omega, sI_at, z1, by rw [sI_ne (by decide)]; exact n3, z2, by omega⟩⟩
    | some en =>
      obtain ⟨i1, i2, i3⟩ := hv.id _ en e
      rw [e] at opC
      have ns1 : ¬ nI en.1 = (-1 : Int32) := fun z => nI_pos (show en.1 < 2 ^ 31 by omega) (by rw [z]; decide)
      have opC : fX4_takeVariable N S = if nI en.1 = (-1 : Int32) then (bnd (sI S 94 (2 : Int32)) fun S27 => some S27) else bd2 (fX4_countName N S) fun v12 S14 => bnd (sI S14 94 v12) fun S15 => if S15.1 94 = 0 then (bnd (sI S15 90 (S15.1 90 + nI (nsz bs L q))) fun S17 => bd2 (fX4_partIndex N S17) fun v18 S20 => bdo (fX4_addWord N S20 (0 : Int32) v18 (nI en.1)) fun S23 => bdo (fX4_endPart N S23) fun S26 => some S26) else some S15 := opC
      rw [if_neg ns1, bd2_ok (X4_countName n4 nm80), bnd_eq, sI_at] at opC
      by_cases c80 : nm = 80
      · obtain ⟨z1, z2⟩ := y6 s4 (Or.inr (by rw [e]; intro z; cases z)) c80
        rw [if_pos c80, if_neg (by decide)] at opC
        exact ⟨_, M3, _, opC, flt 4 (by omega) (by omega) z1, (Fr.I (by decide)).trans (Fr.I (by decide)), G3, Or.inl ⟨4, q, by omega, by omega, sI_at, z1, by rw [sI_ne (by decide), sI_ne (by decide)]; exact n3, z2, by omega⟩⟩
      · obtain ⟨z1, z2, -, z3⟩ := y7 s4 (Or.inr (by rw [e]; intro z; cases z)) (by omega)
        have z3 := z3 rfl en e
        subst z3
        rw [if_neg c80, if_pos rfl, bnd_eq, sI_ne (by decide), sI_ne (by decide), n3, nI_add] at opC
        obtain ⟨S4, es4⟩ : ∃ z, z = sI (sI (sI S 91 (nI (nm + 1))) 94 0) 90 (nI (q + nsz bs L q)) := ⟨_, rfl⟩
        have fs4 : Fr S S4 [90, 91, 94] [] := by
          rw [es4]
          exact ((Fr.I (by decide)).trans (Fr.I (by decide))).trans (Fr.I (by decide))
        have s92 : S4.1 92 = nI x := by rw [fs4.1 92 (by decide)]; exact n5
        have s93 : S4.1 93 = nI p := by rw [fs4.1 93 (by decide)]; exact n6
        have w160 : w ≤ 160 ∧ (p ≠ 0 → w ≤ 158) := by
          rcases hv.w with z | z
          · exact ⟨by omega, fun _ => z⟩
          · exact ⟨z.2, fun q => absurd z.1 q⟩
        rw [← es4, bd2_ok (X4_part (show p < 1000 by omega) s92 s93)] at opC
        obtain ⟨S5, M5, c1, c2, c3, c4, c5, c6, c7⟩ := J_add (N := N) (S := S4) (M := M3) (K := 0) (x := x + (if p = 0 then 0 else 1)) (a := en.2) (b := 0) (s := en.1) (sl := nI en.1) (wd := wd) (show w < 162 by omega) (by rw [fs4.1 83 (by decide)]; exact n1) (by rw [y2.1 6 (by decide)]; exact n1') (fun k hk => (n11 k hk).of fs4 y2 (by decide) (by decide)) (fun _ => rfl)
        have c1' : fX4_addWord N S4 0 (nI (x + (if p = 0 then 0 else 1))) (nI en.1) = some S5 := c1
        have c2' : fX8_tree N M3 0 (nI en.2) 0 = some (nI w, M5) := c2
        rw [bdo_ok c1'] at opC
        obtain ⟨b, hbt, hb31, hbe⟩ := TI_def (p := p) (t := t) (w := w) (by omega) hv.t
        obtain ⟨S6, M6, w6, wd6, t6, d1, d2, d3, d4, d5, d6, d7, d8, d9, d10⟩ := J_end (N := N) (S := S5) (M := M5) (x := x) (p := p) (w := w + 1) (a := b) (b := w) (wd := _) (by omega) (by omega) hb31 c5 c6 (by rw [c3.1 92 (by decide)]; exact s92) (by rw [c3.1 93 (by decide)]; exact s93) c7
        rw [bdo_ok d1] at opC
        have F6 : Fr S S6 CI4 CA4 := ((fs4.mono (by decide) (by decide)).trans (c3.mono (by decide) (by decide))).trans (d3.mono (by decide) (by decide))
        have G6 : Fr M M6 MI4 MA4 := (G3.trans (c4.mono (by decide) (by decide))).trans (d4.mono (by decide) (by decide))
        refine ⟨S6, M6, nI t6, opC, fun k4 => ?_, F6, G6, Or.inr ⟨p + 1, t6, q + nsz bs L q, by unfold TI; rw [if_neg (by omega)], ⟨w6, nm + 1, bn, wd6, xh, us, v + 1, ?_, ?_⟩, by omega, by omega⟩⟩
        · rw [opM, z1, if_pos rfl, bd2_ok c2', hbt, bd2_ok d2]
          rfl
        · refine ⟨⟨d5, d6⟩, ⟨?_, ?_⟩, ⟨?_, ?_⟩, ⟨?_, ?_⟩, ?_, d7, ⟨?_, ?_⟩, ?_, ?_, ((n10.fr fs4 y2 (by decide) (by decide)).fr c3 c4 (by decide) (by decide)).fr d3 d4 (by decide) (by decide), d8⟩
          · rw [d3.1 87 (by decide), c3.1 87 (by decide), fs4.1 87 (by decide)]; exact n2
          · rw [d4.1 9 (by decide), c4.1 9 (by decide), y2.1 9 (by decide)]; exact n2'
          · rw [d3.1 90 (by decide), c3.1 90 (by decide), es4, sI_at]
          · rw [d4.1 7 (by decide), c4.1 7 (by decide)]; exact z2
          · rw [d3.1 91 (by decide), c3.1 91 (by decide), es4, sI_ne (by decide), sI_ne (by decide), sI_at]
          · rw [d4.1 10 (by decide), c4.1 10 (by decide)]; exact y3
          · rw [d3.1 92 (by decide), c3.1 92 (by decide)]; exact s92
          · rw [d3.1 94 (by decide), c3.1 94 (by decide), es4, sI_ne (by decide), sI_at]
          · rw [d4.1 8 (by decide), c4.1 8 (by decide)]; exact z1
          · rw [d4.1 13 (by decide), c4.1 13 (by decide), y2.1 13 (by decide)]; exact n8
          · rw [d4.1 14 (by decide), c4.1 14 (by decide), y2.1 14 (by decide)]; exact n9
        · obtain ⟨u1, u2⟩ := PV_var hv (by omega) e
          by_cases z : p = 0
          · obtain ⟨v1, v2, v3⟩ := d9 z
            have r := u1 z
            rw [v1, v2, v3, if_pos z, z]
            exact r.q (by omega)
          · obtain ⟨v1, v2, v3⟩ := d10 z
            have r := u2 z
            rw [v1, v2, v3, if_neg z, hbe z]
            exact r.q (by omega)
  · obtain ⟨z1, z2⟩ := y4 (by omega)
    rw [show (4 : Int32) = nI 4 from rfl, if_neg (fun z => s4 ((nI_leI (by omega) (by omega)).mp z)), bnd_eq] at opC
    exact ⟨_, M3, _, opC, flt 1 (by omega) (by omega) z1, Fr.I (by decide), G3, Or.inl ⟨1, q, by omega, by omega, sI_at, z1, by rw [sI_ne (by decide)]; exact n3, z2, by omega⟩⟩
