/-! both programs build: an application -/
theorem B_app {S M : St} {N n c bn : Nat} {top sn : Itm} {r : List Itm} {lab : Nat → Nat → Nat} {E : Nat → Nat → Nat → Prop} {tag : Nat → Nat → Nat × Nat} {xh be : Nat → Nat} {U : Nat → Prop} (hN : Big N) (h : BS S M n c bn (top :: sn :: r) lab E tag xh be U) (hc : c + 2 ≤ 12000) (hr : r.length + 1 < 43) {x t : Nat} {sc : Sc} (hn : n + nms (top :: sn :: r) + sc.length + 4 ≤ 3000) (hx1 : sn.1 = x) (hx2 : top.1 = x + 1) (hs1 : sn.2.1 = sc) (hs2 : top.2.1 = sc) (hxh : ∀ e ∈ sc, xh e.2 ≤ x) (ht : t < 300) (hti : ∀ it ∈ top :: sn :: r, it.2.2.1 ≠ t) (h30 : M.2.1 30 t = nI x) (h4 : M.2.1 4 t = nI sn.2.2.1) (h5 : M.2.1 5 t = nI top.2.2.1) :
    ∃ S' M1 n' lab' E' tag' it, fX0_buildApplication N S (nI x) = some S' ∧ fX8_ofApplied N M (nI t) = some (nI (3 * n + 1), M1) ∧ FrB S S' ∧ Fr M (sA M1 31 (upd (M1.2.1 31) t (nI (3 * n + 1)))) [21, 22, 28] [17, 18, 19, 27, 29, 31] ∧ BS S' (sA M1 31 (upd (M1.2.1 31) t (nI (3 * n + 1)))) n' c bn (it :: r) lab' E' tag' xh be U ∧ n' + nms (it :: r) ≤ n + nms (top :: sn :: r) + 1 + sc.length ∧ it.1 = x ∧ it.2.1 = sc ∧ it.2.2.1 = t := by
  have hb := hN
  unfold Big at hb
  obtain ⟨h1, h2, h3, h14, hbn, hn1, k0, l0, e0, t0⟩ := h
  have h3 : S.1 3 = nI (r.length + 2) := h3
  obtain ⟨⟨a1, a2, a3, a4, a5, a6, a7, a8, a9⟩, ⟨b1, b2, b3, b4, b5, b6, b7, b8, b9⟩, h2r⟩ := id h2
  obtain ⟨p1, p2, p3, p4, p5, p6⟩ := a4
  obtain ⟨q1, q2, q3, q4, q5, q6⟩ := b4
  have a6 : S.2.1 1 (r.length + 1) = nI (4 * top.2.2.2.1.1 + top.2.2.2.1.2) := a6
  have p3 : tag top.2.2.2.1.1 top.2.2.2.1.2 = (r.length + 1, 0) := p3
  have a5 : NmR (cK S) lab E tag xh n (r.length + 1) top.2.1 top.1 top.2.2.2.2 := a5
  have a7 : ∀ s, s < 40 → S.2.2.1 (r.length + 1) s = pI4 ((scI top.2.1 s).bind top.2.2.2.2) := a7
  rw [hs2, hx2] at a5
  rw [hs2] at a7
  rw [hs1, hx1] at b5
  rw [hs1] at b7
  have hxx : x ≤ 62 := by rw [← hx1]; exact b2
  have np3p := nP_le (cK S top.2.2.2.1.1)
  have np3q := nP_le (cK S sn.2.2.2.1.1)
  have n1 : nms (top :: sn :: r) = cfn top.2.2.2.2 sc + (cfn sn.2.2.2.2 sc + nms r) := by
    show cfn top.2.2.2.2 top.2.1 + (cfn sn.2.2.2.2 sn.2.1 + nms r) = _
    rw [hs1, hs2]
  -- the application
  obtain ⟨S1, M1, m1, m2, m3, m4, m5, m6⟩ := BG_make (N := N) (be' := be) (U' := U) (k := 1) (y := x) (x := nI x) h1 (by omega) (by decide) (fun _ => rfl) (by omega) (fun p => if p = 2 then x + 1 else x) (fun p j => if p = 0 then sn.2.2.2.2 j ≠ none else if p = 1 then sn.2.2.2.2 j ≠ none ∨ top.2.2.2.2 j ≠ none else top.2.2.2.2 j ≠ none) (fun j q => ⟨q, rfl⟩) (fun G g1 g2 => by
    have g2 := g2 (by decide)
    refine ⟨?_, ?_⟩
    · unfold LbN
      rw [g1, g2]
      simp
    · unfold EnN
      rw [g1, g2]
      refine ⟨fun q => absurd q (by decide), fun _ => ⟨fun j q => ?_, fun j q => ?_, fun j q => ?_⟩, fun q => absurd q (by unfold isC; omega), fun q => absurd q (by decide)⟩
      · simp at q ⊢
        exact Or.inl q
      · simp at q ⊢
        exact Or.inr q
      · simp at q
        rcases q with q | q
        · cases z : sn.2.2.2.2 j with
          | none => exact absurd z q
          | some p => exact (b5 j p z).2.2.2.2.2.2.1
        · cases z : top.2.2.2.2 j with
          | none => exact absurd z q
          | some p =>
            obtain ⟨s, hs⟩ := (a5 j p z).2.2.2.2.2.2.2
            exact hxh _ hs)
  have c1 : ∀ v, v < n → cK S1 v = cK S v := fun v hv => by rw [m5, updN_at, if_neg (by omega)]
  have c1n : cK S1 n = 1 := by rw [m5, updN_at, if_pos rfl]
  have pn : ¬ top.2.2.2.1.1 = n := by omega
  have qn : ¬ sn.2.2.2.1.1 = n := by omega
  have dp : Dst (top :: sn :: r) top.2.2.2.1.1 top.2.2.2.1.2 := Or.inr ⟨top, List.mem_cons_self .., Or.inl rfl⟩
  have dq : Dst (top :: sn :: r) sn.2.2.2.1.1 sn.2.2.2.1.2 := Or.inr ⟨sn, List.mem_cons_of_mem _ (List.mem_cons_self ..), Or.inl rfl⟩
  have pq : ¬ (top.2.2.2.1.1 = sn.2.2.2.1.1 ∧ top.2.2.2.1.2 = sn.2.2.2.1.2) := fun z => by
    rw [z.1, z.2, q3] at p3
    exact absurd (congrArg Prod.fst p3) (by show ¬ r.length = r.length + 1; omega)
  obtain ⟨S2, M2, c2, d1, d2, d3, d4, d5, d6, d7, d8⟩ := BG_link (N := N) (a := n) (i := 0) (b := sn.2.2.2.1.1) (j := sn.2.2.2.1.2) m6 (by omega) (Or.inr ⟨rfl, by decide⟩) (Or.inl dq) (fun z => qn z.1.symm) (by
      show (if n = n then (if (0 : Nat) = 2 then x + 1 else x) else lab n 0) = (if sn.2.2.2.1.1 = n then _ else lab sn.2.2.2.1.1 sn.2.2.2.1.2)
      rw [if_pos rfl, if_neg (by decide), if_neg qn, q4, hx1]) (fun j => by
      show (if n = n then (fun j => if (0 : Nat) = 0 then sn.2.2.2.2 j ≠ none else if (0 : Nat) = 1 then sn.2.2.2.2 j ≠ none ∨ top.2.2.2.2 j ≠ none else top.2.2.2.2 j ≠ none) else E n 0) j ↔ (if sn.2.2.2.1.1 = n then _ else E sn.2.2.2.1.1 sn.2.2.2.1.2) j
      rw [if_pos rfl, if_neg qn, if_pos rfl]
      exact (q6 j).symm) (by
      rw [c1n, c1 _ q1]
      exact ⟨fun _ => q5, fun _ => Or.inr (Or.inl ⟨rfl, by decide⟩)⟩)
  have c2c : c2 = c := d7 (by rw [c1n]; decide) (by rw [c1 _ q1]; exact out_5 q2 q5)
  rw [c2c] at d8
  obtain ⟨S3, M3, c3, g1, g2, g3, g4, g5, g6, g7, g8⟩ := BG_link (N := N) (a := n) (i := 2) (b := top.2.2.2.1.1) (j := top.2.2.2.1.2) d8 (by omega) ⟨Or.inr ⟨rfl, by decide⟩, fun z => absurd z.2 (by decide), fun z => qn z.1.symm⟩ ⟨Or.inl dp, fun z => pn z.1, pq⟩ (fun z => pn z.1.symm) (by
      show (if n = n then (if (2 : Nat) = 2 then x + 1 else x) else lab n 2) = (if top.2.2.2.1.1 = n then _ else lab top.2.2.2.1.1 top.2.2.2.1.2)
      rw [if_pos rfl, if_pos rfl, if_neg pn, p4, hx2]) (fun j => by
      show (if n = n then (fun j => if (2 : Nat) = 0 then sn.2.2.2.2 j ≠ none else if (2 : Nat) = 1 then sn.2.2.2.2 j ≠ none ∨ top.2.2.2.2 j ≠ none else top.2.2.2.2 j ≠ none) else E n 2) j ↔ (if top.2.2.2.1.1 = n then _ else E top.2.2.2.1.1 top.2.2.2.1.2) j
      rw [if_pos rfl, if_neg pn, if_neg (by decide), if_neg (by decide)]
      exact (p6 j).symm) (by
      rw [d5, c1n, c1 _ p1]
      exact ⟨fun _ => p5, fun _ => Or.inr (Or.inl ⟨rfl, by decide⟩)⟩)
  have c3c : c3 = c := g7 (by rw [d5, c1n]; decide) (by rw [d5, c1 _ p1]; exact out_5 p2 p5)
  rw [c3c] at g8
  have Fs3 : Fr S S3 [44, 48] [40, 41, 42, 45, 46, 47] := (m3.mono (by decide) (by decide)).trans ((d3.mono (by decide) (by decide)).trans (g3.mono (by decide) (by decide)))
  have Fm3 : Fr M M3 [21, 22, 28] [17, 18, 19, 27] := (m4.mono (by decide) (by decide)).trans ((d4.mono (by decide) (by decide)).trans (g4.mono (by decide) (by decide)))
  have k3 : ∀ v, v < n → cK S3 v = cK S v := fun v hv => by rw [g5, d5]; exact c1 v hv
  have k3n : cK S3 n = 1 := by rw [g5, d5]; exact c1n
  have tgR : ∀ v k, Dst r v k → (tag v k).1 ≠ r.length ∧ (tag v k).1 ≠ r.length + 1 ∧ v < n := fun v k q => by
    rcases q with ⟨y1, y2⟩ | ⟨it, y1, y2⟩
    · rw [y1, y2, t0]
      exact ⟨by show ¬ 1000 = r.length; omega, by show ¬ 1000 = r.length + 1; omega, by omega⟩
    · have := StR.tag r h2r it y1 v k y2
      refine ⟨by omega, by omega, ?_⟩
      exact (h1.2.2.2.2.2.2.2.1 v k (Or.inr ⟨it, List.mem_cons_of_mem _ (List.mem_cons_of_mem _ y1), y2⟩)).1
  have set3 : (fun v k => ((Dst (top :: sn :: r) v k ∨ (v = n ∧ k < nP 1)) ∧ ¬ (v = n ∧ k = 0) ∧ ¬ (v = sn.2.2.2.1.1 ∧ k = sn.2.2.2.1.2)) ∧ ¬ (v = n ∧ k = 2) ∧ ¬ (v = top.2.2.2.1.1 ∧ k = top.2.2.2.1.2)) = DL r n sn.2.2.2.2 top.2.2.2.2 := by
    funext v k
    refine propext ⟨fun ⟨⟨y1, y2, y3⟩, y4, y5⟩ => ?_, fun y => ?_⟩
    · rcases y1 with (y1 | ⟨it, y1, y6⟩) | ⟨y1, y6⟩
      · exact Or.inl (Or.inl y1)
      · rcases List.mem_cons.mp y1 with z | z
        · subst z
          rcases y6 with y6 | ⟨j, y6⟩
          · exact absurd ⟨(congrArg Prod.fst y6).symm, (congrArg Prod.snd y6).symm⟩ y5
          · exact Or.inr (Or.inr (Or.inr ⟨j, y6⟩))
        · rcases List.mem_cons.mp z with z | z
          · subst z
            rcases y6 with y6 | ⟨j, y6⟩
            · exact absurd ⟨(congrArg Prod.fst y6).symm, (congrArg Prod.snd y6).symm⟩ y3
            · exact Or.inr (Or.inr (Or.inl ⟨j, y6⟩))
          · exact Or.inl (Or.inr ⟨it, z, y6⟩)
      · have y6 : k < 3 := y6
        have : k = 1 := Classical.byContradiction fun z => by
          have : k = 0 ∨ k = 2 := by omega
          rcases this with u | u
          · exact y2 ⟨y1, u⟩
          · exact y4 ⟨y1, u⟩
        exact Or.inr (Or.inl ⟨y1, this⟩)
    · rcases y with y | ⟨y1, y2⟩ | ⟨j, y⟩ | ⟨j, y⟩
      · obtain ⟨z1, z2, z3⟩ := tgR v k y
        refine ⟨⟨Or.inl ?_, fun z => by omega, fun z => z1 (by rw [z.1, z.2, q3])⟩, fun z => by omega, fun z => z2 (by rw [z.1, z.2, p3])⟩
        rcases y with y | ⟨it, y1, y2⟩
        · exact Or.inl y
        · exact Or.inr ⟨it, List.mem_cons_of_mem _ (List.mem_cons_of_mem _ y1), y2⟩
      · rw [y1, y2]
        exact ⟨⟨Or.inr ⟨rfl, by decide⟩, fun z => absurd z.2 (by decide), fun z => qn z.1.symm⟩, fun z => absurd z.2 (by decide), fun z => pn z.1.symm⟩
      · have z1 := (b5 j _ y).2.2.1
        have z1 : tag v k = (r.length, j + 1) := z1
        have z2 : v < n := (b5 j _ y).1
        refine ⟨⟨Or.inl (Or.inr ⟨sn, List.mem_cons_of_mem _ (List.mem_cons_self ..), Or.inr ⟨j, y⟩⟩), fun z => by omega, fun z => ?_⟩, fun z => by omega, fun z => ?_⟩
        · rw [z.1, z.2, q3] at z1
          exact absurd (congrArg Prod.snd z1) (by show ¬ (0 : Nat) = j + 1; omega)
        · rw [z.1, z.2, p3] at z1
          exact absurd (congrArg Prod.fst z1) (by show ¬ r.length + 1 = r.length; omega)
      · have z1 := (a5 j _ y).2.2.1
        have z1 : tag v k = (r.length + 1, j + 1) := z1
        have z2 : v < n := (a5 j _ y).1
        refine ⟨⟨Or.inl (Or.inr ⟨top, List.mem_cons_self .., Or.inr ⟨j, y⟩⟩), fun z => by omega, fun z => ?_⟩, fun z => by omega, fun z => ?_⟩
        · rw [z.1, z.2, q3] at z1
          exact absurd (congrArg Prod.fst z1) (by show ¬ r.length = r.length + 1; omega)
        · rw [z.1, z.2, p3] at z1
          exact absurd (congrArg Prod.snd z1) (by show ¬ (0 : Nat) = j + 1; omega)
  rw [set3] at g8
  -- before the names
  obtain ⟨Sx, eSx⟩ : ∃ z, z = sA S3 1 (upd (S3.2.1 1) r.length (nI (4 * n + 1))) := ⟨_, rfl⟩
  have FSx : FrB S Sx := by
    rw [eSx]
    exact (Fs3.b (by decide) (by decide)).trans (Fr.b (is := []) (as := [1]) (Fr.A (by decide)) (by decide) (by decide))
  obtain ⟨B1, B2⟩ := g8.of (S' := Sx) (M' := M3) (fun k hk => by rw [eSx]; rfl) (fun k hk => by
    have : k ≠ 1 := fun z => by rw [z] at hk; exact absurd hk (by decide)
    rw [eSx]
    show (if k = 1 then _ else S3.2.1 k) = _
    rw [if_neg this]) (fun k hk => rfl) (fun k hk => rfl)
  have hA : AF bn r x t sn.2.2.1 top.2.2.1 sc xh := ⟨⟨by rw [← hs1]; exact b1.1, fun e he => by
    have := b1.2 e (by rw [hs1]; exact he)
    exact ⟨this.1, this.2, hxh e he⟩⟩, hxx, ht, b3, a3, hti sn (List.mem_cons_of_mem _ (List.mem_cons_self ..)), hti top (List.mem_cons_self ..), fun it hit => hti it (List.mem_cons_of_mem _ (List.mem_cons_of_mem _ hit)), hbn, hr⟩
  have kp : Keep n (cK S) (cK Sx) lab (fun v p => if v = n then (if p = 2 then x + 1 else x) else lab v p) E (fun v p => if v = n then (fun j => if p = 0 then sn.2.2.2.2 j ≠ none else if p = 1 then sn.2.2.2.2 j ≠ none ∨ top.2.2.2.2 j ≠ none else top.2.2.2.2 j ≠ none) else E v p) tag (fun v p => if v = n then (r.length, 0) else tag v p) := by
    intro v hv
    have z : ¬ v = n := by omega
    refine ⟨by rw [B2]; exact k3 v hv, ?_, ?_, ?_⟩ <;> (funext p; dsimp only; rw [if_neg z])
  have sx3 : Sx.2.2.1 = S.2.2.1 := by
    rw [eSx]
    show S3.2.2.1 = _
    rw [Fs3.2.2]
  have hL0 : AL Sx M3 (n + 1) c bn r x t sn.2.2.1 top.2.2.1 n sc sn.2.2.2.2 top.2.2.2.2 sn.2.2.2.2 top.2.2.2.2 0 (fun v p => if v = n then (if p = 2 then x + 1 else x) else lab v p) (fun v p => if v = n then (fun j => if p = 0 then sn.2.2.2.2 j ≠ none else if p = 1 then sn.2.2.2.2 j ≠ none ∨ top.2.2.2.2 j ≠ none else top.2.2.2.2 j ≠ none) else E v p) (fun v p => if v = n then (r.length, 0) else tag v p) xh be U := by
    refine ⟨B1, b5.of kp (by omega), a5.of kp (by omega), ⟨?_, fun s hs => ?_, fun s hs => ?_⟩, ⟨?_, ?_, ?_, fun i hi => ⟨?_, ?_⟩, fun i hi => absurd hi (by omega)⟩, ⟨fun i _ => ⟨rfl, rfl⟩, fun i hi => absurd hi (by omega)⟩, fun i => Iff.rfl, StR.of kp (by omega) r (fun j hj => ⟨?_, ?_⟩) (fun it hit => ⟨?_, fun j hj => ?_⟩) h2r, ⟨by omega, ?_, ?_, ?_, fun i => ?_⟩, ⟨?_, ?_, fun i => ?_, ?_⟩⟩
    · rw [eSx]
      show upd (S3.2.1 1) r.length (nI (4 * n + 1)) r.length = _
      rw [upd_at, if_pos rfl]
    · rw [sx3]; exact b7 s hs
    · rw [sx3]; exact a7 s hs
    · rw [Fm3.2.1 4 (by decide)]; exact h4
    · rw [Fm3.2.1 5 (by decide)]; exact h5
    · rw [Fm3.1 14 (by decide)]; exact h14
    · rw [Fm3.2.1 29 (by decide)]; exact b9 i hi
    · rw [Fm3.2.1 29 (by decide)]; exact a9 i hi
    · rw [eSx]
      show upd (S3.2.1 1) r.length (nI (4 * n + 1)) j = _
      rw [upd_at, if_neg (by omega), Fs3.2.1 1 (by decide)]
    · rw [sx3]
    · rw [Fm3.2.1 31 (by decide)]
    · rw [Fm3.2.1 29 (by decide)]
    · rw [B2]; exact k3n
    · dsimp only; rw [if_pos rfl, if_neg (by decide)]
    · dsimp only; rw [if_pos rfl]
    · dsimp only; rw [if_pos rfl, if_neg (by decide), if_pos rfl]
    · rw [B2]; rw [k3 0 (by omega)]; exact k0
    · dsimp only; rw [if_neg (by omega)]; exact l0
    · dsimp only; rw [if_neg (by omega)]; exact e0 i
    · dsimp only; rw [if_neg (by omega)]; exact t0
  -- the names
  obtain ⟨S', M', n', g', k', lab', E', tag', u1, u2, u3, u4, u5, u6⟩ := AP_loop (N := N) hA hc (show n < 3010 by omega) sc Sx M3 (n + 1) _ _ _ _ _ 0 0 N N hL0 (fun e he => ⟨he, Nat.zero_le _, Nat.zero_le _⟩) hA.1.1 (fun e he => Or.inl he) (by omega) (by omega) (by omega) (by omega) (by omega)
  obtain ⟨v1, v2, v3, ⟨v4, v5, v6⟩, ⟨v7, v8, v9, v10, v11⟩, ⟨v12, v13⟩, v14, v15, ⟨v16, v17, v18, v19, v20⟩, ⟨v21, v22, v23, v24⟩⟩ := u3
  have kn : ∀ i, k' i = none := fun i => by
    by_cases z : i < bn
    · exact v13 i z
    · cases e : k' i with
      | none => rfl
      | some p =>
        exfalso
        obtain ⟨s, hs⟩ := (v3 i p e).2.2.2.2.2.2.2
        have := (hA.1.2 _ hs).2.1
        exact z this
  have cp := cfn_none (f := k') sc (fun e _ => kn e.2)
  have m2' : fX8_node N M 1 (nI x) = some (nI n, M1) := m2
  have pk0 : fX7_portOf (nI n) 0 = some (nI (4 * n + 0)) := pO n 0
  have r1 : S1.2.1 1 r.length = nI (4 * sn.2.2.2.1.1 + sn.2.2.2.1.2) := by rw [m3.2.1 1 (by decide)]; exact b6
  have r2 : S2.2.1 1 (r.length + 1) = nI (4 * top.2.2.2.1.1 + top.2.2.2.1.2) := by rw [d3.2.1 1 (by decide), m3.2.1 1 (by decide)]; exact a6
  have s4 : M1.2.1 4 t = nI sn.2.2.1 := by rw [m4.2.1 4 (by decide)]; exact h4
  have s5 : M2.2.1 5 t = nI top.2.2.1 := by rw [d4.2.1 5 (by decide), m4.2.1 5 (by decide)]; exact h5
  have s31 : M1.2.1 31 sn.2.2.1 = nI (3 * sn.2.2.2.1.1 + sn.2.2.2.1.2) := by rw [m4.2.1 31 (by decide)]; exact b8
  have s32 : M2.2.1 31 top.2.2.1 = nI (3 * top.2.2.2.1.1 + top.2.2.2.1.2) := by rw [d4.2.1 31 (by decide), m4.2.1 31 (by decide)]; exact a8
  have d2' : fX8_wire N M1 (nI (3 * n)) (nI (3 * sn.2.2.2.1.1 + sn.2.2.2.1.2)) = some M2 := d2
  refine ⟨sI S' 3 (nI (r.length + 1)), M', n', lab', E', tag', (x, sc, t, (n, 1), g'), ?_, ?_, ?_, ?_, ?_, ?_, rfl, rfl, rfl⟩
  · unfold fX0_buildApplication
    rw [h3, show (2 : Int32) = nI 2 from rfl, if_pos (nI_le (by omega) (by omega)), show (1 : Int32) = nI 1 from rfl, pk_sub (by omega), pk_sub (by omega), show r.length + 2 - 1 = r.length + 1 by omega, show r.length + 2 - 2 = r.length by omega, bnd_eq, bnd_eq, bd2_ok m1, bdo_ok pk0, ckx_ok (vp_in_nI (by omega) (by omega)), nI_clamp (show r.length < 2 ^ 31 by omega), r1, bdo_ok d1, bdo_ok (pO n 2), ckx_ok (vp_in_nI (by omega) (by omega)), nI_clamp (show r.length + 1 < 2 ^ 31 by omega), r2, bdo_ok g1, bdo_ok (pO n 1), ckx_ok (vp_in_nI (by omega) (by omega)), bnd_eq, bnd_eq, ← eSx]
    exact u1
  · unfold fX8_ofApplied
    rw [ckx_ok (vp_in_nI (by omega) (by omega)), nI_clamp (show t < 2 ^ 31 by omega), h30, bnd_eq, bd2_ok m2', ckx_ok (vp_in_nI (by omega) (by omega)), s4, ckx_ok (vp_in_nI (by omega) (by omega)), nI_clamp (show sn.2.2.1 < 2 ^ 31 by omega), s31, show (3 : Int32) = nI 3 from rfl, pk_mul, bdo_ok d2', ckx_ok (vp_in_nI (by omega) (by omega)), s5, ckx_ok (vp_in_nI (by omega) (by omega)), nI_clamp (show top.2.2.1 < 2 ^ 31 by omega), s32, show nI (3 * n) + (2 : Int32) = nI (3 * n + 2) from nI_add _ _, bdo_ok g2, bnd_eq]
    exact u2
  · exact (FSx.trans u4).trans ⟨fun k hk => by
      show (if k = 3 then _ else S'.1 k) = _
      rw [if_neg (fun z => hk (by rw [z]; decide))], fun _ _ => rfl, rfl⟩
  · exact ((Fm3.mono (by decide) (by decide)).trans (u5.mono (by decide) (by decide))).trans (Fr.A (by decide))
  · obtain ⟨z1, z2⟩ := v1.of (S' := sI S' 3 (nI (r.length + 1))) (M' := sA M' 31 (upd (M'.2.1 31) t (nI (3 * n + 1)))) (fun k hk => by
      have : k ≠ 3 := fun z => by rw [z] at hk; exact absurd hk (by decide)
      show (if k = 3 then _ else S'.1 k) = _
      rw [if_neg this]) (fun k hk => rfl) (fun k hk => rfl) (fun k hk => by
      have : k ≠ 31 := fun z => by rw [z] at hk; exact absurd hk (by decide)
      show (if k = 31 then _ else M'.2.1 k) = _
      rw [if_neg this])
    have eD : DL r n g' k' = Dst ((x, sc, t, (n, 1), g') :: r) := by
      rw [Dst_cons]
      funext v k
      refine propext ⟨fun y => ?_, fun y => ?_⟩
      · rcases y with y | ⟨y1, y2⟩ | y | ⟨j, y⟩
        · exact Or.inl y
        · exact Or.inr (Or.inl (by rw [y1, y2]))
        · exact Or.inr (Or.inr y)
        · rw [kn j] at y; cases y
      · rcases y with y | y | y
        · exact Or.inl y
        · exact Or.inr (Or.inl ⟨(congrArg Prod.fst y).symm, (congrArg Prod.snd y).symm⟩)
        · exact Or.inr (Or.inr (Or.inl y))
    rw [eD] at z1
    refine ⟨z1, ⟨⟨⟨hA.1.1, fun e he => ⟨(hA.1.2 e he).1, (hA.1.2 e he).2.1⟩⟩, hxx, ht, ⟨v16, ?_, v19, v18, ?_, fun i => ?_⟩, v2, v4, v5, ?_, fun i hi => ?_⟩, StR.of (S := S') (M := M') (S' := sI S' 3 (nI (r.length + 1))) (M' := sA M' 31 (upd (M'.2.1 31) t (nI (3 * n + 1)))) (fun v hv => ⟨rfl, rfl, rfl, rfl⟩) (Nat.le_refl _) r (fun j hj => ⟨rfl, rfl⟩) (fun it hit => ⟨?_, fun j hj => rfl⟩) v15⟩, ?_, v9, hbn, by omega, v21, v22, v23, v24⟩
    · show 1 < nP (cK S' n)
      rw [v17]; decide
    · show ¬ outP (cK S' n) 1
      rw [v17]; unfold outP; omega
    · show E' n 1 i ↔ g' i ≠ none
      rw [v20 i, ← v14 i, kn i]
      exact ⟨fun q => q.elim id (fun q => absurd rfl q), Or.inl⟩
    · show upd (M'.2.1 31) t (nI (3 * n + 1)) t = _
      rw [upd_at, if_pos rfl]
    · show M'.2.1 29 (80 * t + i) = _
      exact v11 i hi
    · have := hti it (List.mem_cons_of_mem _ (List.mem_cons_of_mem _ hit))
      show upd (M'.2.1 31) t (nI (3 * n + 1)) it.2.2.1 = _
      rw [upd_at, if_neg this]
    · rw [sI_at]; rfl
  · show n' + (cfn g' sc + nms r) ≤ _
    rw [n1]
    omega
