/-! both programs build: a name -/
def FrB (S S' : St) : Prop := (∀ k, k ∉ [3, 44, 48] → S'.1 k = S.1 k) ∧ (∀ k, k ∉ [1, 40, 41, 42, 43, 45, 46, 47] → S'.2.1 k = S.2.1 k) ∧ S'.2.2.2 = S.2.2.2
theorem FrB.rf {S : St} : FrB S S := ⟨fun _ _ => rfl, fun _ _ => rfl, rfl⟩
theorem FrB.trans {S S1 S2 : St} (h : FrB S S1) (g : FrB S1 S2) : FrB S S2 := ⟨fun k hk => (g.1 k hk).trans (h.1 k hk), fun k hk => (g.2.1 k hk).trans (h.2.1 k hk), g.2.2.trans h.2.2⟩
theorem Fr.b {S S' : St} {is as : List Nat} (h : Fr S S' is as) (h1 : ∀ k ∈ is, k ∈ [3, 44, 48]) (h2 : ∀ k ∈ as, k ∈ [1, 40, 41, 42, 43, 45, 46, 47]) : FrB S S' := ⟨fun k hk => h.1 k (fun q => hk (h1 k q)), fun k hk => h.2.1 k (fun q => hk (h2 k q)), by rw [h.2.2]⟩
theorem FrB.F {S : St} {i : Nat} {f : Nat → Int32} : FrB S (sF S i f) := ⟨fun _ _ => rfl, fun _ _ => rfl, rfl⟩
theorem sF_3 (S : St) (i j : Nat) (f : Nat → Int32) : (sF S i f).2.2.1 j = if j = i then f else S.2.2.1 j := rfl
theorem sF_sF (S : St) (i : Nat) (f g : Nat → Int32) : sF (sF S i f) i g = sF S i g := by
  unfold sF updF
  simp only [Prod.mk.injEq, true_and, and_true]
  funext j
  by_cases c : j = i
  · rw [if_pos c, if_pos c]
  · rw [if_neg c, if_neg c, if_neg c]
theorem BN_loop {N h v s : Nat} (hh : h < 43) : ∀ (d k : Nat) (S : St) (f : Nat), k + d = 40 → d < f → S.1 3 = nI h → ∃ R : Nat → Int32, (∀ s, k ≤ s → s < 40 → R s = -1) ∧ (∀ s, s < k → R s = S.2.2.1 h s) ∧ loopN (fun k x => fX0_buildName_33s N k x.1 x.2.1 x.2.2.1 x.2.2.2) f (S, nI s, nI v, nI k) = fX0_buildName_33s N (fun _ => none) (sF S h R) (nI s) (nI v) (nI 40)
  | 0, k, S, f, hk, hf, h3 => by
    obtain ⟨f, rfl⟩ : ∃ f', f = f' + 1 := ⟨f - 1, by omega⟩
    refine ⟨S.2.2.1 h, fun s q1 q2 => by omega, fun _ _ => rfl, ?_⟩
    have e : sF S h (S.2.2.1 h) = S := by
      unfold sF updF
      obtain ⟨a, b, c, d⟩ := S
      simp only [Prod.mk.injEq, true_and, and_true]
      funext j
      by_cases z : j = h
      · rw [if_pos z, z]
      · rw [if_neg z]
    rw [e]
    show fX0_buildName_33s N _ S (nI s) (nI v) (nI k) = _
    rw [show k = 40 by omega]
    unfold fX0_buildName_33s
    rw [show (40 : Int32) = nI 40 from rfl, if_pos (nI_le (Nat.le_refl _) (by omega)), if_pos (nI_le (Nat.le_refl _) (by omega))]
  | d + 1, k, S, f, hk, hf, h3 => by
    obtain ⟨f, rfl⟩ : ∃ f', f = f' + 1 := ⟨f - 1, by omega⟩
    obtain ⟨R, r1, r2, r3⟩ := BN_loop hh d (k + 1) (sF S h (upd (S.2.2.1 h) k (-1))) f (by omega) (by omega) h3
    refine ⟨R, fun s q1 q2 => ?_, fun s q1 => ?_, ?_⟩
    · by_cases c : s = k
      · rw [r2 s (by omega), sF_3, if_pos rfl, upd_at, if_pos c]
      · exact r1 s (by omega) q2
    · rw [r2 s (by omega), sF_3, if_pos rfl, upd_at, if_neg (by omega)]
    · rw [sF_sF] at r3
      rw [← r3]
      obtain ⟨L, eL⟩ : ∃ L, L = loopN (fun k x => fX0_buildName_33s N k x.1 x.2.1 x.2.2.1 x.2.2.2) f := ⟨_, rfl⟩
      show fX0_buildName_33s N (loopN (fun k x => fX0_buildName_33s N k x.1 x.2.1 x.2.2.1 x.2.2.2) f) S (nI s) (nI v) (nI k) = _
      rw [← eL]
      unfold fX0_buildName_33s
      rw [show (40 : Int32) = nI 40 from rfl, if_neg (fun q => absurd ((nI_leI (by omega) (by omega)).mp q) (by omega)), h3, ckx_ok (vp_in_nI (by omega) (by omega)), ckx_ok (vp_in_nI (by omega) (by omega)), bnd_eq, bnd_eq, nI_clamp (by omega), nI_clamp (by omega), nI_1]
theorem OV_loop {N t v i bn : Nat} (ht : t < 300) (hb : bn ≤ 80) (hv : v < 3010) : ∀ (d k : Nat) (M : St) (f : Nat), k + d = bn → d < f → M.1 14 = nI bn → M.2.1 4 t = nI i → i < bn → ∃ M', loopN (fun k x => fX8_ofVariable_14s N k x.1 x.2.1 x.2.2.1 x.2.2.2) f (M, nI t, nI v, nI k) = some (nI (3 * v + 1), M') ∧ Fr M M' [] [29] ∧ (∀ j, k ≤ j → j < bn → M'.2.1 29 (80 * t + j) = if j = i then nI (3 * v) else -1) ∧ (∀ q, q < 80 * t + k ∨ 80 * t + bn ≤ q → M'.2.1 29 q = M.2.1 29 q)
  | 0, k, M, f, hk, hf, h14, h4, hi => by
    obtain ⟨f, rfl⟩ : ∃ f', f = f' + 1 := ⟨f - 1, by omega⟩
    refine ⟨M, ?_, Fr.rf, fun j q1 q2 => by omega, fun _ _ => rfl⟩
    show fX8_ofVariable_14s N _ M (nI t) (nI v) (nI k) = _
    unfold fX8_ofVariable_14s
    rw [h14, if_pos (nI_le (by omega) (by omega)), show (3 : Int32) = nI 3 from rfl, pk_mul, nI_1]
  | d + 1, k, M, f, hk, hf, h14, h4, hi => by
    obtain ⟨f, rfl⟩ : ∃ f', f = f' + 1 := ⟨f - 1, by omega⟩
    obtain ⟨M1, e1⟩ : ∃ z, z = sA M 29 (upd (M.2.1 29) (80 * t + k) (if k = i then nI (3 * v) else -1)) := ⟨_, rfl⟩
    have f1 : Fr M M1 [] [29] := by rw [e1]; exact Fr.A (by decide)
    have w1 : M1.2.1 29 = upd (M.2.1 29) (80 * t + k) (if k = i then nI (3 * v) else -1) := by rw [e1]; rfl
    obtain ⟨M', a1, a2, a3, a4⟩ := OV_loop ht hb hv d (k + 1) M1 f (by omega) (by omega) (by rw [f1.1 14 (by decide)]; exact h14) (by rw [f1.2.1 4 (by decide)]; exact h4) hi
    refine ⟨M', ?_, f1.trans a2, fun j q1 q2 => ?_, fun q hq => ?_⟩
    · obtain ⟨L, eL⟩ : ∃ L, L = loopN (fun k x => fX8_ofVariable_14s N k x.1 x.2.1 x.2.2.1 x.2.2.2) f := ⟨_, rfl⟩
      show fX8_ofVariable_14s N (loopN (fun k x => fX8_ofVariable_14s N k x.1 x.2.1 x.2.2.1 x.2.2.2) f) M (nI t) (nI v) (nI k) = _
      rw [← eL] at a1 ⊢
      have fin : ∀ y2 : Int32, y2 = (if k = i then nI (3 * v) else -1) → fX8_ofVariable_49 N L M (nI t) (nI v) (nI k) (nI (80 * t + k)) y2 = some (nI (3 * v + 1), M') := by
        intro y2 ey
        unfold fX8_ofVariable_49
        rw [ckx_ok (vp_in_nI (by omega) (by omega)), bnd_eq, bnd_eq, nI_clamp (by omega), ey, ← e1, nI_1]
        exact a1
      unfold fX8_ofVariable_14s
      rw [h14, if_neg (fun q => absurd ((nI_leI (by omega) (by omega)).mp q) (by omega)), ckx_ok (vp_in_nI (by omega) (by omega)), nI_clamp (by omega), h4, show (80 : Int32) = nI 80 from rfl, pk_mul, nI_add, show (3 : Int32) = nI 3 from rfl, pk_mul]
      by_cases c : k = i
      · rw [if_pos (by rw [c])]
        exact fin _ (by rw [if_pos c])
      · rw [if_neg (fun q => c ((nI_eq (by omega) (by omega)).mp q))]
        exact fin _ (by rw [if_neg c])
    · by_cases c : j = k
      · rw [a4 _ (Or.inl (by omega)), w1, upd_at, if_pos (by rw [c]), c]
      · exact a3 j (by omega) q2
    · rw [a4 q (by omega), w1, upd_at, if_neg (by omega)]
theorem Dst_cons {it : Itm} {st : List Itm} : Dst (it :: st) = fun v k => Dst st v k ∨ Ip it v k := by
  funext v k
  refine propext ⟨fun h => ?_, fun h => ?_⟩
  · rcases h with h | ⟨a, ha, hp⟩
    · exact Or.inl (Or.inl h)
    · rcases List.mem_cons.mp ha with q | q
      · rw [q] at hp; exact Or.inr hp
      · exact Or.inl (Or.inr ⟨a, q, hp⟩)
  · rcases h with (h | ⟨a, ha, hp⟩) | h
    · exact Or.inl h
    · exact Or.inr ⟨a, List.mem_cons_of_mem _ ha, hp⟩
    · exact Or.inr ⟨it, List.mem_cons_self .., h⟩
theorem cfn_none {f : Nat → Option Pt} : ∀ (sc : Sc), (∀ e ∈ sc, f e.2 = none) → cfn f sc = 0
  | [], _ => rfl
  | e :: r, h => by
    show (if (f e.2).isSome = true then 1 else 0) + cfn f r = 0
    rw [h e (List.mem_cons_self ..), cfn_none r (fun x hx => h x (List.mem_cons_of_mem _ hx))]
    rfl
theorem cfn_one {i : Nat} {p : Pt} : ∀ (sc : Sc), ScO sc → cfn (fun k => if k = i then some p else none) sc ≤ 1
  | [], _ => Nat.zero_le _
  | e :: r, h => by
    obtain ⟨h1, h2⟩ := List.pairwise_cons.mp h
    show (if ((if e.2 = i then some p else none : Option Pt)).isSome = true then 1 else 0) + cfn (fun k => if k = i then some p else none) r ≤ 1
    by_cases c : e.2 = i
    · rw [cfn_none r (fun x hx => by
        have := (h1 x hx).2
        show (if x.2 = i then some p else none) = none
        rw [if_neg (by omega)])]
      rw [if_pos c]
      exact Nat.le_refl _
    · rw [if_neg c]
      have := cfn_one (i := i) (p := p) r h2
      show (0 : Nat) + _ ≤ 1
      omega
theorem B_name {S M : St} {N n c bn : Nat} {st : List Itm} {lab : Nat → Nat → Nat} {E : Nat → Nat → Nat → Prop} {tag : Nat → Nat → Nat × Nat} {xh be : Nat → Nat} {U : Nat → Prop} (hN : Big N) (h : BS S M n c bn st lab E tag xh be U) (hn : n < 3000) (hst : st.length < 43) {x s i t : Nat} {sc : Sc} (hx : x ≤ 62) (hsc : ScO sc ∧ ∀ e ∈ sc, e.1 < 40 ∧ e.2 < bn) (hm : (s, i) ∈ sc) (hxi : xh i ≤ x) (ht : t < 300) (hti : ∀ it ∈ st, it.2.2.1 ≠ t) (h30 : M.2.1 30 t = nI x) (h4 : M.2.1 4 t = nI i) :
    ∃ S' M1 lab' E' tag' it, fX0_buildName N S (nI x) (nI s) = some S' ∧ fX8_ofVariable N M (nI t) = some (nI (3 * n + 1), M1) ∧ FrB S S' ∧ Fr M (sA M1 31 (upd (M1.2.1 31) t (nI (3 * n + 1)))) [21, 22, 28] [17, 18, 19, 27, 29, 31] ∧ BS S' (sA M1 31 (upd (M1.2.1 31) t (nI (3 * n + 1)))) (n + 1) c bn (it :: st) lab' E' tag' xh be U ∧ nms (it :: st) ≤ nms st + 1 ∧ it.1 = x ∧ it.2.1 = sc ∧ it.2.2.1 = t := by
  have hb := hN
  unfold Big at hb
  obtain ⟨h1, h2, h3, h14, hbn, hn1, k0, l0, e0, t0⟩ := h
  obtain ⟨si, ii⟩ := hsc.2 _ hm
  have si : s < 40 := si
  have ii : i < bn := ii
  obtain ⟨S1, M1, a1, a2, a3, a4, a5, a6⟩ := BG_make (N := N) (be' := be) (U' := U) (k := 3) (y := x) (x := nI x) h1 hn (by decide) (fun _ => rfl) (by omega) (fun p => if p = 0 then x + 1 else x) (fun _ t => t = i) (fun i q => ⟨q, rfl⟩) (fun G g1 g2 => by
    have g2 := g2 (by decide)
    refine ⟨?_, ?_⟩
    · unfold LbN
      rw [g1, g2]
      simp
    · unfold EnN
      rw [g1, g2]
      refine ⟨fun q => absurd q (by decide), fun q => absurd q (by decide), fun _ => ⟨i, fun k j => ?_, hxi⟩, fun q => absurd q (by decide)⟩
      simp)
  -- the class goes on
  have h31 : S1.1 3 = nI st.length := by rw [a3.1 3 (by decide)]; exact h3
  obtain ⟨R, r1, r2, r3⟩ := BN_loop (N := N) (v := n) (s := s) hst 40 0 S1 N (by omega) (by omega) h31
  obtain ⟨S2, e2⟩ : ∃ z, z = sI (sF (sA (sF S1 st.length R) 1 (upd (S1.2.1 1) st.length (nI (4 * n + 1)))) st.length (upd R s (nI (4 * n + 0)))) 3 (nI (st.length + 1)) := ⟨_, rfl⟩
  have run : fX0_buildName N S (nI x) (nI s) = some S2 := by
    unfold fX0_buildName
    have a1' : fX2_make N S 3 (nI x) = some (nI n, S1) := a1
    rw [h3, show (43 : Int32) = nI 43 from rfl, if_neg (fun q => absurd ((nI_leI (by omega) (by omega)).mp q) (by omega)), if_neg (nI_pos (by omega)), show (40 : Int32) = nI 40 from rfl, if_pos (nI_lt si (by omega)), bd2_ok a1', bnd_eq]
    show loopN (fun k x => fX0_buildName_33s N k x.1 x.2.1 x.2.2.1 x.2.2.2) N (S1, nI s, nI n, nI 0) = _
    rw [r3]
    unfold fX0_buildName_33s
    have p1 : fX7_portOf (nI n) 1 = some (nI (4 * n + 1)) := pO n 1
    have p0 : fX7_portOf (nI n) 0 = some (nI (4 * n + 0)) := pO n 0
    have z3 : (sF S1 st.length R).1 3 = nI st.length := h31
    rw [show (40 : Int32) = nI 40 from rfl, if_pos (nI_le (Nat.le_refl _) (by omega)), bdo_ok p1, z3, ckx_ok (vp_in_nI (by omega) (by omega)), bnd_eq, nI_clamp (by omega)]
    have z5 : (sA (sF S1 st.length R) 1 (upd ((sF S1 st.length R).2.1 1) st.length (nI (4 * n + 1)))).1 3 = nI st.length := h31
    rw [z5, ckx_ok (vp_in_nI (by omega) (by omega)), bdo_ok p0, ckx_ok (vp_in_nI (by omega) (by omega)), bnd_eq, bnd_eq, nI_clamp (by omega), nI_clamp (by omega)]
    have z6 : (sF (sA (sF S1 st.length R) 1 (upd ((sF S1 st.length R).2.1 1) st.length (nI (4 * n + 1)))) st.length (upd ((sA (sF S1 st.length R) 1 (upd ((sF S1 st.length R).2.1 1) st.length (nI (4 * n + 1)))).2.2.1 st.length) s (nI (4 * n + 0)))).1 3 + 1 = nI (st.length + 1) := by
      show S1.1 3 + 1 = _
      rw [h31, nI_1]
    have z7 : (sA (sF S1 st.length R) 1 (upd ((sF S1 st.length R).2.1 1) st.length (nI (4 * n + 1)))).2.2.1 st.length = R := by
      show (if st.length = st.length then R else S1.2.2.1 st.length) = R
      rw [if_pos rfl]
    rw [z6, z7, e2]
    rfl
  -- the reference goes on
  obtain ⟨M2, b1, b2, b3, b4⟩ := OV_loop (N := N) (t := t) (v := n) (i := i) ht hbn (by omega) bn 0 M1 N (by omega) (by omega) (by rw [a4.1 14 (by decide)]; exact h14) (by rw [a4.2.1 4 (by decide)]; exact h4) ii
  have run2 : fX8_ofVariable N M (nI t) = some (nI (3 * n + 1), M2) := by
    unfold fX8_ofVariable
    have a2' : fX8_node N M 3 (nI x) = some (nI n, M1) := a2
    rw [ckx_ok (vp_in_nI (by omega) (by omega)), nI_clamp (by omega), h30, bd2_ok a2', bnd_eq]
    exact b1
  have F2 : FrB S S2 := by
    refine (a3.b (by decide) (by decide)).trans ?_
    rw [e2]
    exact ((FrB.F.trans ((Fr.A (is := []) (as := [1]) (by decide)).b (by decide) (by decide))).trans FrB.F).trans ((Fr.I (is := [3]) (as := []) (by decide)).b (by decide) (by decide))
  have FM : Fr M (sA M2 31 (upd (M2.2.1 31) t (nI (3 * n + 1)))) [21, 22, 28] [17, 18, 19, 27, 29, 31] := ((a4.mono (by decide) (by decide)).trans (b2.mono (by decide) (by decide))).trans (Fr.A (by decide))
  have w1 : S2.2.1 1 = upd (S.2.1 1) st.length (nI (4 * n + 1)) := by rw [e2]; show upd (S1.2.1 1) _ _ = _; rw [a3.2.1 1 (by decide)]
  have wF : ∀ j, S2.2.2.1 j = if j = st.length then upd R s (nI (4 * n + 0)) else S.2.2.1 j := by
    intro j
    rw [e2]
    show (if j = st.length then upd R s (nI (4 * n + 0)) else (if j = st.length then R else S1.2.2.1 j)) = _
    by_cases z : j = st.length
    · rw [if_pos z, if_pos z]
    · rw [if_neg z, if_neg z, if_neg z, show S1.2.2.1 = S.2.2.1 by rw [a3.2.2]]
  obtain ⟨g1, g2⟩ := a6.of (S' := S2) (M' := sA M2 31 (upd (M2.2.1 31) t (nI (3 * n + 1)))) (fun k hk => by
      have : k = 44 ∨ k = 48 := by simpa using hk
      rw [e2]
      rcases this with z | z <;> subst z <;> rfl) (fun k hk => by
      have : k ≠ 1 := fun z => by rw [z] at hk; exact absurd hk (by decide)
      rw [e2]
      show (if k = 1 then _ else S1.2.1 k) = _
      rw [if_neg this]) (fun k hk => by
      show M2.1 k = M1.1 k
      exact b2.1 k (fun h => List.not_mem_nil h)) (fun k hk => by
      have : k ≠ 31 ∧ k ≠ 29 := ⟨fun z => by rw [z] at hk; exact absurd hk (by decide), fun z => by rw [z] at hk; exact absurd hk (by decide)⟩
      show (if k = 31 then _ else M2.2.1 k) = _
      rw [if_neg this.1]
      exact b2.2.1 k (fun h => this.2 (List.mem_singleton.mp h)))
  have ck : cK S2 = updN (cK S) n 3 := by rw [g2, a5]
  have ed : (fun v p => Dst st v p ∨ (v = n ∧ p < nP 3)) = Dst ((x, sc, t, ((n, 1) : Pt), fun k => if k = i then some ((n, 0) : Pt) else none) :: st) := by
    rw [Dst_cons]
    funext v p
    refine propext ⟨fun q => q.imp id (fun q => ?_), fun q => q.imp id (fun q => ?_)⟩
    · obtain ⟨q1, q2⟩ := q
      have q2 : p < 2 := q2
      have : p = 0 ∨ p = 1 := by omega
      rcases this with z | z
      · exact Or.inr ⟨i, by show (if i = i then some ((n, 0) : Pt) else none) = some (v, p); rw [if_pos rfl, q1, z]⟩
      · exact Or.inl (by show ((n, 1) : Pt) = (v, p); rw [q1, z])
    · rcases q with q | ⟨j, q⟩
      · have q : ((n, 1) : Pt) = (v, p) := q
        have z2 : 1 = p := congrArg Prod.snd q
        exact ⟨(congrArg Prod.fst q).symm, by rw [← z2]; decide⟩
      · have q : (if j = i then some ((n, 0) : Pt) else none) = some (v, p) := q
        by_cases z : j = i
        · rw [if_pos z] at q
          have q := Option.some.inj q
          have z2 : 0 = p := congrArg Prod.snd q
          exact ⟨(congrArg Prod.fst q).symm, by rw [← z2]; decide⟩
        · rw [if_neg z] at q; cases q
  rw [ed] at g1
  have kp : Keep n (cK S) (cK S2) lab (fun v p => if v = n then (fun p => if p = 0 then x + 1 else x) p else lab v p) E (fun v p => if v = n then (fun _ t => t = i) p else E v p) tag (fun v p => if v = n then (if p = 0 then (st.length, i + 1) else (st.length, 0)) else tag v p) := by
    intro v hv
    have z : ¬ v = n := by omega
    refine ⟨by rw [ck, updN_at, if_neg z], ?_, ?_, ?_⟩
    · funext p; show (if v = n then _ else _) = _; rw [if_neg z]
    · funext p; show (if v = n then _ else _) = _; rw [if_neg z]
    · funext p; show (if v = n then _ else _) = _; rw [if_neg z]
  have ckn : cK S2 n = 3 := by rw [ck, updN_at, if_pos rfl]
  refine ⟨S2, M2, _, _, fun v p => if v = n then (if p = 0 then (st.length, i + 1) else (st.length, 0)) else tag v p, (x, sc, t, ((n, 1) : Pt), fun k => if k = i then some ((n, 0) : Pt) else none), run, run2, F2, FM, ⟨g1, ⟨⟨hsc, hx, ht, ⟨by show n < n + 1; omega, by show 1 < nP (cK S2 n); rw [ckn]; decide, ?_, ?_, ?_, ?_⟩, ?_, ?_, ?_, ?_, ?_⟩, StR.of kp (by omega) st (fun j hj => ?_) (fun it hit => ?_) h2⟩, by rw [e2]; rfl, by rw [FM.1 14 (by decide)]; exact h14, hbn, by omega, ?_, ?_, ?_, ?_⟩, ?_, rfl, rfl, rfl⟩
  · show (if n = n then (if (1 : Nat) = 0 then (st.length, i + 1) else (st.length, 0)) else tag n 1) = _
    rw [if_pos rfl, if_neg (by decide)]
  · show (if n = n then (if (1 : Nat) = 0 then x + 1 else x) else lab n 1) = x
    rw [if_pos rfl, if_neg (by decide)]
  · show ¬ outP (cK S2 n) 1
    rw [ckn]; unfold outP; omega
  · intro j
    show (if n = n then (fun _ t => t = i) (1 : Nat) else E n 1) j ↔ (if j = i then some ((n, 0) : Pt) else none) ≠ none
    rw [if_pos rfl]
    by_cases z : j = i
    · rw [if_pos z]; exact ⟨fun _ => by simp, fun _ => z⟩
    · rw [if_neg z]; exact ⟨fun q => absurd q z, fun q => absurd rfl q⟩
  · intro j p e
    have e : (if j = i then some ((n, 0) : Pt) else none) = some p := e
    by_cases z : j = i
    · rw [if_pos z] at e
      have e := Option.some.inj e
      rw [← e, z]
      refine ⟨by show n < n + 1; omega, by show 0 < nP (cK S2 n); rw [ckn]; decide, ?_, ?_, ?_, fun t => ?_, hxi, s, hm⟩
      · show (if n = n then (if (0 : Nat) = 0 then (st.length, i + 1) else (st.length, 0)) else tag n 0) = _
        rw [if_pos rfl, if_pos rfl]
      · show (if n = n then (if (0 : Nat) = 0 then x + 1 else x) else lab n 0) = x + 1
        rw [if_pos rfl, if_pos rfl]
      · show isC (cK S2 n) ∧ outP (cK S2 n) 0
        rw [ckn]; unfold outP isC; omega
      · show (if n = n then (fun _ t => t = i) (0 : Nat) else E n 0) t ↔ t = i
        rw [if_pos rfl]
    · rw [if_neg z] at e; cases e
  · show S2.2.1 1 st.length = nI (4 * n + 1)
    rw [w1, upd_at, if_pos rfl]
  · intro s' hs'
    show S2.2.2.1 st.length s' = pI4 ((scI sc s').bind (fun k => if k = i then some ((n, 0) : Pt) else none))
    rw [wF, if_pos rfl, upd_at]
    by_cases z : s' = s
    · rw [if_pos z, z, scI_in hsc.1 hm]
      show nI (4 * n + 0) = pI4 (if i = i then some ((n, 0) : Pt) else none)
      rw [if_pos rfl]; rfl
    · rw [if_neg z, r1 s' (by omega) hs']
      cases q : scI sc s' with
      | none => rfl
      | some j =>
        have ji : j ≠ i := fun y => by
          have := hsc.1.uniq _ (scI_some q) _ hm (Or.inr y)
          exact z (congrArg Prod.fst this)
        show (-1 : Int32) = pI4 (if j = i then some ((n, 0) : Pt) else none)
        rw [if_neg ji]; rfl
  · show upd (M2.2.1 31) t (nI (3 * n + 1)) t = nI (3 * n + 1)
    rw [upd_at, if_pos rfl]
  · intro j hj
    show M2.2.1 29 (80 * t + j) = pI3 (if j = i then some ((n, 0) : Pt) else none)
    rw [b3 j (by omega) hj]
    by_cases z : j = i
    · rw [if_pos z, if_pos z]; rfl
    · rw [if_neg z, if_neg z]; rfl
  · rw [w1, upd_at, if_neg (by omega), wF, if_neg (by omega)]
    exact ⟨rfl, rfl⟩
  · have := hti it hit
    refine ⟨?_, fun j hj => ?_⟩
    · show upd (M2.2.1 31) t (nI (3 * n + 1)) it.2.2.1 = _
      rw [upd_at, if_neg this, b2.2.1 31 (by decide), a4.2.1 31 (by decide)]
    · show M2.2.1 29 (80 * it.2.2.1 + j) = _
      rw [b4 _ (by omega), a4.2.1 29 (by decide)]
  · rw [ck, updN_at, if_neg (by omega)]; exact k0
  · show (if (0 : Nat) = n then _ else lab 0 0) = 0
    rw [if_neg (by omega)]; exact l0
  · intro j
    show ¬ (if (0 : Nat) = n then _ else E 0 0) j
    rw [if_neg (by omega)]; exact e0 j
  · show (if (0 : Nat) = n then _ else tag 0 0) = _
    rw [if_neg (by omega)]; exact t0
  · show cfn (fun k => if k = i then some ((n, 0) : Pt) else none) sc + nms st ≤ nms st + 1
    have := cfn_one (i := i) (p := (n, 0)) sc hsc.1
    omega
