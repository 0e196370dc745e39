theorem out_5 {K q : Nat} (h : q < nP K) (ho : ¬ outP K q) : K ≠ 5 := fun e => by
  rw [e] at h
  have h : q < 1 := h
  exact ho (Or.inr (Or.inr ⟨by omega, by omega⟩))
theorem B_lam {S M : St} {N n c bn : Nat} {top : Itm} {r : List Itm} {lab : Nat → Nat → Nat} {E : Nat → Nat → Nat → Prop} {tag : Nat → Nat → Nat × Nat} {xh be : Nat → Nat} {U : Nat → Prop} (hN : Big N) (h : BS S M n c bn (top :: r) lab E tag xh be U) (hn : n + 1 < 3000) (hc : c + 4 ≤ 12000) (hr : r.length < 43) {x s i t : Nat} {sc : Sc} (hx : top.1 = x) (hsc : top.2.1 = sc ++ [(s, i)]) (hxi : xh i = x) (hUi : ¬ U i) (ht : t < 300) (hti : ∀ it ∈ top :: r, it.2.2.1 ≠ t) (h30 : M.2.1 30 t = nI x) (h4 : M.2.1 4 t = nI i) (h5 : M.2.1 5 t = nI top.2.2.1) :
    ∃ S' M1 n' c' lab' E' tag' be' it, fX0_buildLambda N S (nI x) (nI s) = some S' ∧ fX8_ofBinder N M (nI t) = some (nI (3 * n), M1) ∧ FrB S S' ∧ Fr M (sA M1 31 (upd (M1.2.1 31) t (nI (3 * n)))) [21, 22, 28] [17, 18, 19, 27, 29, 31] ∧ BS S' (sA M1 31 (upd (M1.2.1 31) t (nI (3 * n)))) n' c' bn (it :: r) lab' E' tag' xh be' (fun j => U j ∨ j = i) ∧ n' + nms (it :: r) ≤ n + nms (top :: r) + 2 ∧ c' ≤ c + 2 ∧ it.1 = x ∧ it.2.1 = sc ∧ it.2.2.1 = t := by
  have hb := hN
  unfold Big at hb
  obtain ⟨h1, h2, h3, h14, hbn, hn1, k0, l0, e0, t0⟩ := h
  have h3 : S.1 3 = nI (r.length + 1) := h3
  obtain ⟨⟨a1, a2, a3, a4, a5, a6, a7, a8, a9⟩, h2r⟩ := id h2
  obtain ⟨p1, p2, p3, p4, p5, p6⟩ := a4
  have hsi := a1.2 (s, i) (by rw [hsc]; exact List.mem_append_right _ (List.mem_singleton.mpr rfl))
  have si : s < 40 := hsi.1
  have ii : i < bn := hsi.2
  have hxx : x ≤ 62 := by rw [← hx]; exact a2
  have nmi : ∀ j p, top.2.2.2.2 j = some p → p.1 < n := fun j p e => (a5 j p e).1
  -- the abstraction
  obtain ⟨S1, M1, b1, b2, b3, b4, b5, b6⟩ := BG_make (N := N) (be' := updN be i n) (U' := fun j => U j ∨ j = i) (k := 0) (y := x) (x := nI x) h1 (by omega) (by decide) (fun _ => rfl) (by omega) (fun p => if p = 2 then x + 1 else x) (fun p j => if p = 0 then top.2.2.2.2 j ≠ none ∧ j ≠ i else if p = 1 then top.2.2.2.2 j ≠ none else j = i) (fun j q => ⟨Or.inl q, by rw [updN_at, if_neg (fun z => hUi (by rw [← z]; exact q))]⟩) (fun G g1 g2 => by
    have g2 := g2 (by decide)
    refine ⟨?_, ?_⟩
    · unfold LbN
      rw [g1, g2]
      simp
    · unfold EnN
      rw [g1, g2]
      refine ⟨fun _ => ⟨i, Or.inr rfl, by rw [updN_at, if_pos rfl], hxi, fun j => by simp, fun j q => ?_, fun j q => ?_⟩, fun q => absurd q (by decide), fun q => absurd q (by unfold isC; omega), fun q => absurd q (by decide)⟩
      · simp at q ⊢
        by_cases z : j = i
        · exact Or.inl z
        · exact Or.inr ⟨q, z⟩
      · simp at q
        cases z : top.2.2.2.2 j with
        | none => exact absurd z q.1
        | some p => rw [← hx]; exact (a5 j p z).2.2.2.2.2.2.1)
  have c1 : ∀ v, v < n → cK S1 v = cK S v := fun v hv => by rw [b5, updN_at, if_neg (by omega)]
  have c1n : cK S1 n = 0 := by rw [b5, updN_at, if_pos rfl]
  have rpn : ¬ top.2.2.2.1.1 = n := by omega
  have drp : Dst (top :: r) top.2.2.2.1.1 top.2.2.2.1.2 := Or.inr ⟨top, List.mem_cons_self .., Or.inl rfl⟩
  -- its body
  obtain ⟨S2, M2, c2, d1, d2, d3, d4, d5, d6, d7, d8⟩ := BG_link (N := N) (a := n) (i := 1) (b := top.2.2.2.1.1) (j := top.2.2.2.1.2) b6 (by omega) (Or.inr ⟨rfl, by decide⟩) (Or.inl drp) (fun z => rpn z.1.symm) (by
      show (if n = n then (if (1 : Nat) = 2 then x + 1 else x) else lab n 1) = (if top.2.2.2.1.1 = n then _ else lab top.2.2.2.1.1 top.2.2.2.1.2)
      rw [if_pos rfl, if_neg (by decide), if_neg rpn, p4, hx]) (fun j => by
      show (if n = n then (fun j => if (1 : Nat) = 0 then top.2.2.2.2 j ≠ none ∧ j ≠ i else if (1 : Nat) = 1 then top.2.2.2.2 j ≠ none else j = i) else E n 1) j ↔ (if top.2.2.2.1.1 = n then _ else E top.2.2.2.1.1 top.2.2.2.1.2) j
      rw [if_pos rfl, if_neg rpn, if_neg (by decide), if_pos rfl]
      exact (p6 j).symm) (by
      rw [c1n, c1 _ p1]
      exact ⟨fun _ => p5, fun _ => Or.inl ⟨rfl, rfl⟩⟩)
  have c2c : c2 = c := d7 (by rw [c1n]; decide) (by rw [c1 _ p1]; exact out_5 p2 p5)
  rw [c2c] at d8
  have Fs2 : Fr S S2 [44, 48] [40, 41, 42, 45, 46, 47] := (b3.mono (by decide) (by decide)).trans (d3.mono (by decide) (by decide))
  have Fm2 : Fr M M2 [21, 22, 28] [17, 18, 19, 27] := (b4.mono (by decide) (by decide)).trans (d4.mono (by decide) (by decide))
  -- how the class and the reference come there
  have z10 : S1.2.2.1 r.length s = pI4 (top.2.2.2.2 i) := by
    rw [show S1.2.2.1 = S.2.2.1 by rw [b3.2.2], a7 s si, scI_in a1.1 (by rw [hsc]; exact List.mem_append_right _ (List.mem_singleton.mpr rfl))]
    rfl
  have zr : S1.2.1 1 r.length = nI (4 * top.2.2.2.1.1 + top.2.2.2.1.2) := by rw [b3.2.1 1 (by decide)]; exact a6
  have b1' : fX2_make N S 0 (nI x) = some (nI n, S1) := b1
  have b2' : fX8_node N M 0 (nI x) = some (nI n, M1) := b2
  have opC : fX0_buildLambda N S (nI x) (nI s) = if pI4 (top.2.2.2.2 i) = (-1 : Int32) then bd2 (fX2_make N S1 (5 : Int32) (-1 : Int32)) fun v12 S14 => bdo (fX7_portOf v12 (0 : Int32)) fun v15 => fX0_buildLambda_68 N S14 (nI s) (nI r.length) (nI n) v15 else fX0_buildLambda_68 N S1 (nI s) (nI r.length) (nI n) (pI4 (top.2.2.2.2 i)) := by
    unfold fX0_buildLambda
    rw [h3, show (1 : Int32) = nI 1 from rfl, if_neg (nI_nlt (by omega) (by omega)), if_neg (nI_pos (by omega)), show (40 : Int32) = nI 40 from rfl, if_pos (nI_lt si (by omega)), pk_sub (by omega), Nat.add_sub_cancel, bnd_eq, bd2_ok b1', ckx_ok (vp_in_nI (by omega) (by omega)), ckx_ok (vp_in_nI (by omega) (by omega)), bnd_eq, nI_clamp (by omega), nI_clamp (by omega), z10]
  have q1 : M1.2.1 5 t = nI top.2.2.1 := by rw [b4.2.1 5 (by decide)]; exact h5
  have q2 : M1.2.1 4 t = nI i := by rw [b4.2.1 4 (by decide)]; exact h4
  have q3 : M1.2.1 29 (80 * top.2.2.1 + i) = pI3 (top.2.2.2.2 i) := by rw [b4.2.1 29 (by decide)]; exact a9 i ii
  have q4 : M1.2.1 31 top.2.2.1 = nI (3 * top.2.2.2.1.1 + top.2.2.2.1.2) := by rw [b4.2.1 31 (by decide)]; exact a8
  have opM : fX8_ofBinder N M (nI t) = if 0 ≤ pI3 (top.2.2.2.2 i) then fX8_ofBinder_81 N M2 (nI t) (nI n) (nI (80 * top.2.2.1)) (nI (3 * n + 2)) (pI3 (top.2.2.2.2 i)) else bd2 (fX8_node N M2 (5 : Int32) (0 : Int32)) fun v16 S18 => fX8_ofBinder_81 N S18 (nI t) (nI n) (nI (80 * top.2.2.1)) (nI (3 * n + 2)) (((3 : Int32) * v16)) := by
    unfold fX8_ofBinder
    rw [ckx_ok (vp_in_nI (by omega) (by omega)), nI_clamp (show t < 2 ^ 31 by omega), h30, bd2_ok b2', ckx_ok (vp_in_nI (by omega) (by omega)), bnd_eq, q1, q2, show (80 : Int32) = nI 80 from rfl, pk_mul, nI_add, ckx_ok (vp_in_nI (by omega) (by omega)), ckx_ok (vp_in_nI (by omega) (by omega)), bnd_eq, nI_clamp (show 80 * top.2.2.1 + i < 2 ^ 31 by omega), q3, ckx_ok (vp_in_nI (by omega) (by omega)), ckx_ok (vp_in_nI (by omega) (by omega)), nI_clamp (show top.2.2.1 < 2 ^ 31 by omega), q4, show (3 : Int32) = nI 3 from rfl, pk_mul, show nI (3 * n) + (1 : Int32) = nI (3 * n + 1) from nI_1 _, show nI (3 * n) + (2 : Int32) = nI (3 * n + 2) from nI_add _ _, bdo_ok d2]
  -- what tells the ports apart
  have tgI : ∀ j p, top.2.2.2.2 j = some p → tag p.1 p.2 = (r.length, j + 1) := fun j p e => (a5 j p e).2.2.1
  have tgR : ∀ v k, Dst r v k → (tag v k).1 ≠ r.length ∧ v < n := fun v k q => by
    rcases q with ⟨y1, y2⟩ | ⟨it, y1, y2⟩
    · rw [y1, y2, t0]
      exact ⟨by show ¬ 1000 = r.length; omega, by omega⟩
    · have := StR.tag r h2r it y1 v k y2
      refine ⟨by omega, ?_⟩
      exact (h1.2.2.2.2.2.2.2.1 v k (Or.inr ⟨it, List.mem_cons_of_mem _ y1, y2⟩)).1
  have pk1 : fX7_portOf (nI n) 1 = some (nI (4 * n + 1)) := pO n 1
  have pk2 : fX7_portOf (nI n) 2 = some (nI (4 * n + 2)) := pO n 2
  have pk0 : fX7_portOf (nI n) 0 = some (nI (4 * n + 0)) := pO n 0
  cases fi : top.2.2.2.2 i with
  | some p =>
    have pn := nmi i p fi
    obtain ⟨m1, m2, m3, m4, m5, m6, m7, m8⟩ := a5 i p fi
    have np3 := nP_le (cK S p.1)
    have c2v : cK S2 = cK S1 := d5
    have pne : ¬ p.1 = n := by omega
    have prp : ¬ (p.1 = top.2.2.2.1.1 ∧ p.2 = top.2.2.2.1.2) := fun z => by
      rw [z.1, z.2, p3] at m3
      exact absurd (congrArg Prod.snd m3) (by show ¬ (0 : Nat) = i + 1; omega)
    obtain ⟨S3, M3, c3, g1, g2, g3, g4, g5, g6, g7, g8⟩ := BG_link (N := N) (a := n) (i := 2) (b := p.1) (j := p.2) d8 (by omega) ⟨Or.inr ⟨rfl, by decide⟩, fun z => absurd z.2 (by decide), fun z => rpn z.1.symm⟩ ⟨Or.inl (Or.inr ⟨top, List.mem_cons_self .., Or.inr ⟨i, fi⟩⟩), fun z => pne z.1, prp⟩ (fun z => pne z.1.symm) (by
        show (if n = n then (if (2 : Nat) = 2 then x + 1 else x) else lab n 2) = (if p.1 = n then _ else lab p.1 p.2)
        rw [if_pos rfl, if_pos rfl, if_neg pne, m4, hx]) (fun j => by
        show (if n = n then (fun j => if (2 : Nat) = 0 then top.2.2.2.2 j ≠ none ∧ j ≠ i else if (2 : Nat) = 1 then top.2.2.2.2 j ≠ none else j = i) else E n 2) j ↔ (if p.1 = n then _ else E p.1 p.2) j
        rw [if_pos rfl, if_neg pne, if_neg (by decide), if_neg (by decide)]
        exact (m6 j).symm) (by
        rw [c2v, c1n, c1 _ pn]
        exact ⟨fun z => absurd z (by unfold outP; omega), fun z => absurd m5.2 z⟩)
    have ck3 : cK S3 = cK S1 := by rw [g5, d5]
    obtain ⟨S', M', tag', it, u1, u2, u3, u4, u5, u6, u7, u8, u9⟩ := B_lam_fin (S := S) (M := M) (S3 := S3) (M3 := M3) (n := n) (n' := n + 1) hN h2 hx hsc hr hbn hn1 k0 l0 e0 t0 h3 h14 ht hti h4 (Nat.le_refl _) (by omega) g8 (by
        funext v k
        refine propext ⟨fun q => ?_, fun q => ?_⟩
        · obtain ⟨⟨q1, q2, q3⟩, q4, q5⟩ := q
          rcases q1 with (q1 | ⟨it, q1, q6⟩) | ⟨q1, q6⟩
          · exact Or.inl (Or.inl q1)
          · rcases List.mem_cons.mp q1 with y | y
            · subst y
              rcases q6 with q6 | ⟨j, q6⟩
              · exact absurd ⟨(congrArg Prod.fst q6).symm, (congrArg Prod.snd q6).symm⟩ q3
              · refine Or.inr (Or.inr ⟨j, fun z => q5 ?_, q6⟩)
                rw [z, fi] at q6
                have q6 := Option.some.inj q6
                exact ⟨(congrArg Prod.fst q6).symm, (congrArg Prod.snd q6).symm⟩
            · exact Or.inl (Or.inr ⟨it, y, q6⟩)
          · have q6 : k < 3 := q6
            have k0' : k = 0 := by
              refine Classical.byContradiction fun z => ?_
              have : k = 1 ∨ k = 2 := by omega
              rcases this with y | y
              · exact q2 ⟨q1, y⟩
              · exact q4 ⟨q1, y⟩
            exact Or.inr (Or.inl ⟨q1, k0'⟩)
        · rcases q with q | ⟨q1, q2⟩ | ⟨j, q1, q2⟩
          · obtain ⟨y1, y2⟩ := tgR v k q
            refine ⟨⟨Or.inl (by rw [Dst_cons]; exact Or.inl q), fun z => by omega, fun z => y1 (by rw [z.1, z.2, p3])⟩, fun z => by omega, fun z => y1 (by rw [z.1, z.2, m3])⟩
          · rw [q1, q2]
            exact ⟨⟨Or.inr ⟨rfl, by decide⟩, fun z => absurd z.2 (by decide), fun z => rpn z.1.symm⟩, fun z => absurd z.2 (by decide), fun z => pne z.1.symm⟩
          · have y1 := tgI j _ q2
            have y2 := nmi j _ q2
            have y1 : tag v k = (r.length, j + 1) := y1
            have y2 : v < n := y2
            refine ⟨⟨Or.inl (Or.inr ⟨top, List.mem_cons_self .., Or.inr ⟨j, q2⟩⟩), fun z => by omega, fun z => ?_⟩, fun z => by omega, fun z => ?_⟩
            · rw [z.1, z.2, p3] at y1
              exact absurd (congrArg Prod.snd y1) (by show ¬ (0 : Nat) = j + 1; omega)
            · rw [z.1, z.2, m3] at y1
              have : i + 1 = j + 1 := congrArg Prod.snd y1
              exact q1 (by omega)) ((Fs2.mono (fun _ h => h) (fun _ h => h)).trans (g3.mono (by decide) (by decide))) (Fm2.trans (g4.mono (by decide) (by decide))) (fun v hv => by
        have z : ¬ v = n := by omega
        refine ⟨by rw [ck3]; exact c1 v hv, ?_, ?_⟩
        · funext k; show (if v = n then _ else _) = _; rw [if_neg z]
        · funext k; show (if v = n then _ else _) = _; rw [if_neg z]) (by rw [ck3]; exact c1n) (by
        show (if n = n then (if (0 : Nat) = 2 then x + 1 else x) else lab n 0) = x
        rw [if_pos rfl, if_neg (by decide)]) (fun j => by
        show (if n = n then (fun j => if (0 : Nat) = 0 then top.2.2.2.2 j ≠ none ∧ j ≠ i else if (0 : Nat) = 1 then top.2.2.2.2 j ≠ none else j = i) else E n 0) j ↔ _
        rw [if_pos rfl, if_pos rfl])
    refine ⟨S', M', n + 1, c3, _, _, tag', _, it, ?_, ?_, u3, u4, u5, by omega, g6, u7, u8, u9⟩
    · have e4 : pI4 (top.2.2.2.2 i) = nI (4 * p.1 + p.2) := by rw [fi]; rfl
      rw [opC, e4, if_neg (fun z => by
        have : (nI (4 * p.1 + p.2)) = -1 := z
        exact absurd (this ▸ nI_pos (n := 4 * p.1 + p.2) (by omega)) (by decide))]
      unfold fX0_buildLambda_68
      rw [bdo_ok pk1, ckx_ok (vp_in_nI (by omega) (by omega)), nI_clamp (show r.length < 2 ^ 31 by omega), zr, bdo_ok d1, bdo_ok pk2, bdo_ok g1, bdo_ok pk0]
      rw [nI_clamp (show r.length < 2 ^ 31 by omega)] at u1
      exact u1
    · have e3 : pI3 (top.2.2.2.2 i) = nI (3 * p.1 + p.2) := by rw [fi]; rfl
      rw [opM, e3, if_pos (show (0 : Int32) ≤ nI (3 * p.1 + p.2) from nI_le (Nat.zero_le _) (by omega))]
      unfold fX8_ofBinder_81
      rw [bdo_ok g2, bnd_eq]
      exact u2
  | none =>
    obtain ⟨S3, M3, g1, g2, g3, g4, g5, g6⟩ := BG_make (N := N) (be' := updN be i n) (U' := fun j => U j ∨ j = i) (k := 5) (y := 0) (x := -1) d8 hn (by decide) (fun q => absurd q (by decide)) (by omega) (fun _ => x + 1) (fun _ j => j = i) (fun j q => ⟨q, rfl⟩) (fun G w1 w2 => by
      refine ⟨?_, ?_⟩
      · unfold LbN
        rw [w1]
        simp
      · unfold EnN
        rw [w1]
        refine ⟨fun q => absurd q (by decide), fun q => absurd q (by decide), fun q => absurd q (by unfold isC; omega), fun q => absurd q (by decide)⟩)
    have ck3 : ∀ v, v < n + 1 → cK S3 v = cK S1 v := fun v hv => by rw [g5, updN_at, if_neg (by omega), d5]
    have ck3e : cK S3 (n + 1) = 5 := by rw [g5, updN_at, if_pos rfl]
    obtain ⟨S4, M4, c4, f1, f2, f3, f4, f5, f6, f7, f8⟩ := BG_link (N := N) (a := n) (i := 2) (b := n + 1) (j := 0) g6 (by omega) (Or.inl ⟨Or.inr ⟨rfl, by decide⟩, fun z => absurd z.2 (by decide), fun z => rpn z.1.symm⟩) (Or.inr ⟨rfl, by decide⟩) (fun z => absurd z.1 (by omega)) (by
        show (if n = n + 1 then _ else if n = n then (if (2 : Nat) = 2 then x + 1 else x) else lab n 2) = (if n + 1 = n + 1 then x + 1 else _)
        rw [if_neg (by omega), if_pos rfl, if_pos rfl, if_pos rfl]) (fun j => by
        show (if n = n + 1 then _ else if n = n then (fun j => if (2 : Nat) = 0 then top.2.2.2.2 j ≠ none ∧ j ≠ i else if (2 : Nat) = 1 then top.2.2.2.2 j ≠ none else j = i) else E n 2) j ↔ (if n + 1 = n + 1 then (fun j => j = i) else _) j
        rw [if_neg (by omega), if_pos rfl, if_pos rfl, if_neg (by decide), if_neg (by decide)]) (by
        rw [ck3 n (by omega), c1n, ck3e]
        exact ⟨fun z => absurd z (by unfold outP; omega), fun z => absurd (Or.inr (Or.inr ⟨by omega, rfl⟩)) z⟩)
    have ck4 : ∀ v, v < n + 1 → cK S4 v = cK S1 v := fun v hv => by rw [f5]; exact ck3 v hv
    obtain ⟨S', M', tag', it, u1, u2, u3, u4, u5, u6, u7, u8, u9⟩ := B_lam_fin (S := S) (M := M) (S3 := S4) (M3 := M4) (n := n) (n' := n + 1 + 1) hN h2 hx hsc hr hbn hn1 k0 l0 e0 t0 h3 h14 ht hti h4 (by omega) (by omega) f8 (by
        funext v k
        refine propext ⟨fun q => ?_, fun q => ?_⟩
        · obtain ⟨q0, q4, q5⟩ := q
          rcases q0 with ⟨q1, q2, q3⟩ | ⟨q1, q6⟩
          · rcases q1 with (q1 | ⟨it, q1, q6⟩) | ⟨q1, q6⟩
            · exact Or.inl (Or.inl q1)
            · rcases List.mem_cons.mp q1 with y | y
              · subst y
                rcases q6 with q6 | ⟨j, q6⟩
                · exact absurd ⟨(congrArg Prod.fst q6).symm, (congrArg Prod.snd q6).symm⟩ q3
                · refine Or.inr (Or.inr ⟨j, fun z => ?_, q6⟩)
                  rw [z, fi] at q6
                  cases q6
              · exact Or.inl (Or.inr ⟨it, y, q6⟩)
            · have q6 : k < 3 := q6
              have k0' : k = 0 := by
                refine Classical.byContradiction fun z => ?_
                have : k = 1 ∨ k = 2 := by omega
                rcases this with y | y
                · exact q2 ⟨q1, y⟩
                · exact q4 ⟨q1, y⟩
              exact Or.inr (Or.inl ⟨q1, k0'⟩)
          · have q6 : k < 1 := q6
            exact absurd ⟨q1, by omega⟩ q5
        · rcases q with q | ⟨q1, q2⟩ | ⟨j, q1, q2⟩
          · obtain ⟨y1, y2⟩ := tgR v k q
            refine ⟨Or.inl ⟨Or.inl (by rw [Dst_cons]; exact Or.inl q), fun z => by omega, fun z => y1 (by rw [z.1, z.2, p3])⟩, fun z => by omega, fun z => by omega⟩
          · rw [q1, q2]
            exact ⟨Or.inl ⟨Or.inr ⟨rfl, by decide⟩, fun z => absurd z.2 (by decide), fun z => rpn z.1.symm⟩, fun z => absurd z.2 (by decide), fun z => absurd z.1 (by omega)⟩
          · have y1 := tgI j _ q2
            have y2 := nmi j _ q2
            have y1 : tag v k = (r.length, j + 1) := y1
            have y2 : v < n := y2
            refine ⟨Or.inl ⟨Or.inl (Or.inr ⟨top, List.mem_cons_self .., Or.inr ⟨j, q2⟩⟩), fun z => by omega, fun z => ?_⟩, fun z => by omega, fun z => by omega⟩
            rw [z.1, z.2, p3] at y1
            exact absurd (congrArg Prod.snd y1) (by show ¬ (0 : Nat) = j + 1; omega)) ((Fs2.trans (g3.mono (by decide) (by decide))).trans (f3.mono (by decide) (by decide))) ((Fm2.trans (g4.mono (by decide) (by decide))).trans (f4.mono (by decide) (by decide))) (fun v hv => by
        have z : ¬ v = n := by omega
        have z' : ¬ v = n + 1 := by omega
        refine ⟨by rw [ck4 v (by omega)]; exact c1 v hv, ?_, ?_⟩
        · funext k; show (if v = n + 1 then _ else if v = n then _ else _) = _; rw [if_neg z', if_neg z]
        · funext k; show (if v = n + 1 then _ else if v = n then _ else _) = _; rw [if_neg z', if_neg z]) (by rw [ck4 n (by omega)]; exact c1n) (by
        show (if n = n + 1 then _ else if n = n then (if (0 : Nat) = 2 then x + 1 else x) else lab n 0) = x
        rw [if_neg (by omega), if_pos rfl, if_neg (by decide)]) (fun j => by
        show (if n = n + 1 then _ else if n = n then (fun j => if (0 : Nat) = 0 then top.2.2.2.2 j ≠ none ∧ j ≠ i else if (0 : Nat) = 1 then top.2.2.2.2 j ≠ none else j = i) else E n 0) j ↔ _
        rw [if_neg (by omega), if_pos rfl, if_pos rfl])
    refine ⟨S', M', n + 1 + 1, c4, _, _, tag', _, it, ?_, ?_, u3, u4, u5, by omega, f6, u7, u8, u9⟩
    · have e4 : pI4 (top.2.2.2.2 i) = -1 := by rw [fi]; rfl
      rw [opC, e4, if_pos rfl]
      have np3 := nP_le (cK S top.2.2.2.1.1)
      -- the class makes the eraser before the wire
      have ok1 : COk S1 := b6.1.1
      have ka : S1.2.1 40 n ≠ 5 := by rw [(ok1.1 n (by omega)).1, c1n]; decide
      have kb : S1.2.1 40 top.2.2.2.1.1 ≠ 5 := by
        have k5 := out_5 p2 p5
        have k7 := nP_7 (Nat.lt_of_le_of_lt (Nat.zero_le _) p2)
        rw [(ok1.1 _ (by omega)).1, c1 _ p1, kI_lt k7]
        exact fun z => k5 ((nI_eq (b := 5) (by omega) (by omega)).mp z)
      have l1 := link_no (S := S1) (N := N) (a := n) (i := 1) (b := top.2.2.2.1.1) (j := top.2.2.2.1.2) (by omega) (by omega) (by omega) (by omega) ka kb
      have eS2 : S2 = lk42 S1 (4 * n + 1) (4 * top.2.2.2.1.1 + top.2.2.2.1.2) := by
        rw [d1] at l1
        exact Option.some.inj l1
      obtain ⟨-, -, -, -, ⟨-, s44, s43, -⟩, -⟩ := id b6
      obtain ⟨-, -, -, -, ⟨-, t44, t43, -⟩, -⟩ := id d8
      have mk1 := make_5 (S := S1) (N := N) (s := 3002 - (n + 1)) (v := n + 1) s44 (by omega) (by omega) (by rw [s43 _ (by omega)]; congr 1; omega) (by omega)
      have mk2 := make_5 (S := S2) (N := N) (s := 3002 - (n + 1)) (v := n + 1) t44 (by omega) (by omega) (by rw [t43 _ (by omega)]; congr 1; omega) (by omega)
      have eS3 : S3 = mk5 S2 (3002 - (n + 1)) (n + 1) := by
        rw [g1] at mk2
        exact congrArg Prod.snd (Option.some.inj mk2)
      have mk1' : fX2_make N S1 5 (-1) = some (nI (n + 1), mk5 S1 (3002 - (n + 1)) (n + 1)) := mk1
      have pe : fX7_portOf (nI (n + 1)) 0 = some (nI (4 * (n + 1) + 0)) := pO (n + 1) 0
      rw [bd2_ok mk1', bdo_ok pe]
      have k40 : ∀ v, v ≠ n + 1 → (mk5 S1 (3002 - (n + 1)) (n + 1)).2.1 40 v = S1.2.1 40 v := fun v hv => by
        show upd (S1.2.1 40) (n + 1) (nI 5) v = _
        rw [upd_at, if_neg hv]
      have l2 := link_no (S := mk5 S1 (3002 - (n + 1)) (n + 1)) (N := N) (a := n) (i := 1) (b := top.2.2.2.1.1) (j := top.2.2.2.1.2) (by omega) (by omega) (by omega) (by omega) (by rw [k40 _ (by omega)]; exact ka) (by rw [k40 _ (by omega)]; exact kb)
      rw [mk5_lk, ← eS2, ← eS3] at l2
      have zr' : (mk5 S1 (3002 - (n + 1)) (n + 1)).2.1 1 r.length = nI (4 * top.2.2.2.1.1 + top.2.2.2.1.2) := zr
      unfold fX0_buildLambda_68
      rw [bdo_ok pk1, ckx_ok (vp_in_nI (by omega) (by omega)), nI_clamp (show r.length < 2 ^ 31 by omega), zr', bdo_ok l2, bdo_ok pk2, bdo_ok f1, bdo_ok pk0]
      rw [nI_clamp (show r.length < 2 ^ 31 by omega)] at u1
      exact u1
    · have e3 : pI3 (top.2.2.2.2 i) = -1 := by rw [fi]; rfl
      have g2' : fX8_node N M2 5 0 = some (nI (n + 1), M3) := g2
      rw [opM, e3, if_neg (by decide), bd2_ok g2', show (3 : Int32) = nI 3 from rfl, pk_mul]
      have f2' : fX8_wire N M3 (nI (3 * n + 2)) (nI (3 * (n + 1))) = some M4 := f2
      unfold fX8_ofBinder_81
      rw [bdo_ok f2', bnd_eq]
      exact u2
