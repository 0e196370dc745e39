/-! the class: passing, whole -/
def morc (S : St) (c u : Nat) : Nat := nP (cK S u) - 1 + (if cK S c = 2 then 2 else 1)
theorem X3_passR {S0 S4 : St} {N c u s : Nat} {o : Nat → Nat} {x7 : Int32} (hN : Big N) (hP : PHc S0 c u) (hx7 : cK S0 c = 2 → x7 = nI (o 2)) (h : CC S0 S4 c u o (fun _ => 0) 1 s) (hA : cntA 3002 (cK S4) + (nP (cK S0 u) - 1) ≤ 3002) :
    ∃ S' s' lk, fX3_pass_113 N (S4, nI c, nI u, nI (cK S0 u), nI (cK S0 c), nI (nP (cK S0 c) - 1), nI (o 1), x7, 1) = some S' ∧ Fr S0 S' [44, 48, 63] [40, 41, 42, 43, 45, 46, 47] ∧ GC S' ∧ RcR S' s' ∧ PX 3002 (Gc S0) c u o lk (Gc S') ∧ (∀ v, v < 3002 → cK S' v = 5 → cK S0 v = 5) ∧ (∀ e, e < 3002 → cK S0 e = 5 → (cV S0 e 0 = c ∨ cV S0 e 0 = u) → Rc S' e) ∧ cntA 3002 (cK S') + 2 = cntA 3002 (cK S4) + (nP (cK S0 u) - 1) ∧ cntL 3002 (cK S') + 2 = cntL 3002 (cK S4) + (nP (cK S0 u) - 1) ∧ S'.1 63 = S0.1 63 + 1 := by
  obtain ⟨hV, hcu, hc, hu, hc3, hu3, ne⟩ := id hP
  have hb := hN
  unfold Big at hb
  have n3 := nP_le (cK S0 u)
  have c5 : cK S0 c < 5 := by rcases hc with e | e | e <;> omega
  have lc : lv 3002 (Gc S0) c := ⟨hc3, Or.inl c5⟩
  have lu : lv 3002 (Gc S0) u := ⟨hu3, Or.inl hu⟩
  have n0 : 0 < nP (cK S0 u) := lv_p lu
  obtain ⟨S1, lk, s1, e1, i1, cA1, cL1⟩ := X3_passC (N := N) hP hx7 (nP (cK S0 u) - 1) 1 N s S4 (fun _ => 0) (by omega) (by omega) (by decide) h hA
  obtain ⟨j1, j2, j3, j6, j7, j8, j9, j10, j11, j12⟩ := i1
  have hF : FRS 3002 (Gc S0) c u o lk := j6
  have old : ∀ w, cK S0 w < 7 → (∀ a, auxC (cK S0 c) a → w ≠ o a) ∧ (∀ j, 0 < j → j < nP (cK S0 u) → w ≠ lk j) := fun w w7 => ⟨fun a ha q => by have := (j6.1 a ha).2; rw [← q] at this; omega, fun j j0 hj q => by have := (j6.2.1 j j0 hj).2; rw [← q] at this; omega⟩
  have hK1 : ∀ w, cK S0 w < 7 → cK S1 w = cK S0 w := fun w w7 => (j9 w (old w w7).1 (old w w7).2).1
  obtain ⟨S5, f1, f2, f3, f4, f5⟩ := X2_discard (N := N) j1 hc3 (by rw [hK1 c (by omega)]; omega)
  obtain ⟨S6, q1, q2, q3, q4, q5⟩ := X2_discard (N := N) f3 hu3 (by rw [f4, updN_at, if_neg (fun z => ne z.symm), hK1 u (by omega)]; omega)
  obtain ⟨S7, e7⟩ : ∃ z, z = sI S6 63 (S6.1 63 + 1) := ⟨_, rfl⟩
  have f7 : Fr S6 S7 [63] [] := by rw [e7]; exact Fr.I (by decide)
  obtain ⟨g7, m7⟩ := q3.of f7 (by decide) (by decide)
  have fr := f2.trans q2
  have k6 : cK S7 = updN (updN (cK S1) c 7) u 7 := by
    have : cK S7 = cK S6 := congrArg Prod.fst m7
    rw [this, q4, f4]
  have x6 : ∀ w, cX S7 w = cX S1 w := fun w => by
    have : cX S7 = cX S6 := congrArg (fun G : Gr => G.2.1) m7
    rw [this]; unfold cX; rw [fr.2.1 41 (by decide)]
  have w6 : ∀ p : Pt, wf S7 p = wf S1 p := fun p => by
    unfold wf cV cP cW
    rw [f7.2.1 42 (by decide), fr.2.1 42 (by decide)]
  -- the renaming is whole
  have rs : ∀ v k, kpt 3002 (Gc S0) c u v k → rho (nwS c o lk) (DS S0 c u (nP (cK S0 u))) (v, k) = stn c u o lk (v, k) := by
    intro v k hv
    have hk : k < nP (cK S0 v) := hv.2.1
    by_cases c1 : v = c
    · subst c1
      rw [rho_y (Or.inl ⟨rfl, aux_of hc (fun q => hv.2.2.1 ⟨rfl, q⟩) hk⟩), stn_c]
      show (nwS v o lk v k, 0) = _
      unfold nwS; rw [if_pos rfl]
    · by_cases c2 : v = u
      · subst c2
        rw [rho_y (Or.inr ⟨rfl, Nat.pos_of_ne_zero (fun q => hv.2.2.2 ⟨rfl, q⟩), hk⟩), stn_u ne]
        show (nwS c o lk v k, 0) = _
        unfold nwS; rw [if_neg c1]
      · rw [rho_n (fun q => by
          rcases q with ⟨z, -⟩ | ⟨z, -⟩
          · exact c1 z
          · exact c2 z), stn_o c1 c2]
  have co : ∀ a, auxC (cK S0 c) a → o a ≠ c ∧ o a ≠ u := fun a ha => ⟨fun q => (old c (by omega)).1 a ha q.symm, fun q => (old u (by omega)).1 a ha q.symm⟩
  have cl : ∀ j, 0 < j → j < nP (cK S0 u) → lk j ≠ c ∧ lk j ≠ u := fun j j0 hj => ⟨fun q => (old c (by omega)).2 j j0 hj q.symm, fun q => (old u (by omega)).2 j j0 hj q.symm⟩
  have kc : cK S7 c = 7 := by rw [k6, updN_at, if_neg ne, updN_at, if_pos rfl]
  have ku : cK S7 u = 7 := by rw [k6, updN_at, if_pos rfl]
  have ko : ∀ a, auxC (cK S0 c) a → cK S7 (o a) = cK S0 u ∧ cX S7 (o a) = sh (cK S0 c) (cX S0 u) := fun a ha => by
    rw [k6, updN_at, if_neg (co a ha).2, updN_at, if_neg (co a ha).1, x6]
    exact j7 a ha
  have kl : ∀ j, 0 < j → j < nP (cK S0 u) → cK S7 (lk j) = cK S0 c ∧ cX S7 (lk j) = cX S0 c := fun j j0 hj => by
    rw [k6, updN_at, if_neg (cl j j0 hj).2, updN_at, if_neg (cl j j0 hj).1, x6]
    exact j8 j j0 hj
  have kw : ∀ w, w < 3002 → w ≠ c → w ≠ u → (∀ a, auxC (cK S0 c) a → w ≠ o a) → (∀ j, 0 < j → j < nP (cK S0 u) → w ≠ lk j) → cK S7 w = cK S0 w ∧ cX S7 w = cX S0 w := fun w _ wc wu wo wl => by
    rw [k6, updN_at, if_neg wu, updN_at, if_neg wc, x6]
    exact j9 w wo wl
  have RcE : Rc S7 = Rc S1 := (Rc.of (f7.2.1 47 (by decide))).trans (Rc.of (fr.2.1 47 (by decide)))
  refine ⟨S7, s1, lk, ?_, ?_, g7, (j2.of (fr.1 48 (by decide)) (fr.2.1 46 (by decide)) (fr.2.1 47 (by decide))).of (f7.1 48 (by decide)) (f7.2.1 46 (by decide)) (f7.2.1 47 (by decide)), PX_mk hc lc lu ne hF kc ku ko kl kw (fun v k hv => ?_) (fun a k ha k0 hk => ?_), PX.no5 (G := Gc S0) (G' := Gc S7) lc lu kc ku (fun a ha => (ko a ha).1) (fun j j0 hj => (kl j j0 hj).1) (fun w h1 h2 h3 h4 h5 => (kw w h1 h2 h3 h4 h5).1), fun e he h5 hin => ?_, ?_, ?_, ?_⟩
  · have e1' : fX3_pass_113 N (S4, nI c, nI u, nI (cK S0 u), nI (cK S0 c), nI (nP (cK S0 c) - 1), nI (o 1), x7, 1) = (bdo (fX2_discard N S1 (nI c)) fun S6 => bdo (fX2_discard N S6 (nI u)) fun S9 => bnd (sI S9 63 (S9.1 63 + 1)) fun S10 => some S10) := e1
    rw [e1', bdo_ok f1, bdo_ok q1, bnd_eq, ← e7]
  · exact ((j3.mono (by decide) (by decide)).trans (fr.mono (by decide) (by decide))).trans (f7.mono (by decide) (fun _ h => (List.not_mem_nil h).elim))
  · have hr := j11 v k hv
    rw [rs v k hv] at hr
    have hw := (kpt.w hV hcu hv).1
    have hr2 : rho (nwS c o lk) (DS S0 c u (nP (cK S0 u))) (wf S0 (v, k)) = stn c u o lk (wf S0 (v, k)) := rs _ _ hw
    rw [hr2] at hr
    show wf S7 (stn c u o lk (v, k)) = stn c u o lk (wf S0 (v, k))
    rw [w6]
    exact hr
  · obtain ⟨b1, b2⟩ := j10 a k ha k0 hk
    rw [← w6] at b1 b2
    exact ⟨⟨congrArg Prod.fst b1, congrArg Prod.snd b1⟩, ⟨congrArg Prod.fst b2, congrArg Prod.snd b2⟩⟩
  · rw [RcE]
    have hk : kpt 3002 (Gc S0) c u e 0 := ⟨he, by show 0 < nP (cK S0 e); rw [h5]; decide, fun q => by rw [q.1] at h5; omega, fun q => by rw [q.1] at h5; omega⟩
    obtain ⟨hw, -, -⟩ := kpt.w hV hcu hk
    have hw : kpt 3002 (Gc S0) c u (cV S0 e 0) (cP S0 e 0) := hw
    refine j12 e he h5 ?_
    rcases hin with q | q
    · rw [q] at hw ⊢
      exact Or.inl ⟨rfl, aux_of hc (fun z => hw.2.2.1 ⟨rfl, z⟩) hw.2.1⟩
    · rw [q] at hw ⊢
      exact Or.inr ⟨rfl, Nat.pos_of_ne_zero (fun z => hw.2.2.2 ⟨rfl, z⟩), hw.2.1⟩
  · have : cK S7 = cK S6 := congrArg Prod.fst m7
    rw [this]
    omega
  · have a1 := cntL_free hc3 (K := cK S1) (by rw [hK1 c (by omega)]; exact c5)
    have a2 := cntL_free hu3 (K := updN (cK S1) c 7) (by rw [updN_at, if_neg (fun q => ne q.symm), hK1 u (by omega)]; exact hu)
    rw [k6]
    omega
  · rw [e7]
    show S6.1 63 + 1 = _
    rw [fr.1 63 (by decide), j3.1 63 (by decide)]
theorem X3_passedIndex {S : St} {N c u : Nat} (hG : COk S) (hc3 : c < 3002) (hu3 : u < 3002) (hc : isC (cK S c)) (hu : cK S u < 5) (hx : 0 < cX S u) : fX3_passedIndex N S (nI c) (nI u) = some (nI (sh (cK S c) (cX S u)), S) := by
  unfold fX3_passedIndex
  have c7 : cK S c < 7 := by rcases hc with e | e | e <;> omega
  rw [bd2_ok (X2_indexOf hG hu3 hu), bd2_ok (X2_kindOf hG hc3), kI_lt c7]
  rcases sh_cases hc (cX S u) with ⟨e1, e2⟩ | ⟨e1, e2⟩ | ⟨e1, e2⟩
  · rw [e2, e1, if_neg (by decide), if_neg (by decide)]
  · rw [e2, e1, if_pos (by decide), nI_sub1 hx]
  · rw [e2, e1, if_neg (by decide), if_pos (by decide), nI_1]
theorem X3_pass {S : St} {N c u s : Nat} (hN : Big N) (hG : GC S) (hP : PHc S c u) (hij : cX S c < cX S u) (h63 : sh (cK S c) (cX S u) ≤ 63) (hR : RcR S s) (hA : cntA 3002 (cK S) + morc S c u ≤ 3002) :
    ∃ S' s' o lk, fX3_pass N S (nI c) (nI u) = some S' ∧ Fr S S' [44, 48, 63] [40, 41, 42, 43, 45, 46, 47] ∧ GC S' ∧ RcR S' s' ∧ PX 3002 (Gc S) c u o lk (Gc S') ∧ (∀ v, v < 3002 → cK S' v = 5 → cK S v = 5) ∧ (∀ e, e < 3002 → cK S e = 5 → (cV S e 0 = c ∨ cV S e 0 = u) → Rc S' e) ∧ cntA 3002 (cK S') + 2 = cntA 3002 (cK S) + morc S c u ∧ cntL 3002 (cK S') + 2 = cntL 3002 (cK S) + morc S c u ∧ S'.1 63 = S.1 63 + 1 := by
  obtain ⟨hV, hcu, hc, hu, hc3, hu3, ne⟩ := id hP
  have c5 : cK S c < 5 := by rcases hc with e | e | e <;> omega
  have hm : morc S c u = nP (cK S u) - 1 + (if cK S c = 2 then 2 else 1) := rfl
  have n3 := nP_le (cK S u)
  have n3c := nP_le (cK S c)
  have n0 : 0 < nP (cK S u) := lv_p (n := 3002) (G := Gc S) (v := u) ⟨hu3, Or.inl hu⟩
  have h1m : 1 ≤ (if cK S c = 2 then 2 else 1) := by
    by_cases z : cK S c = 2
    · rw [if_pos z]; decide
    · rw [if_neg z]; decide
  have nP2 : nP (cK S c) - 1 = 2 ↔ cK S c = 2 := by
    rcases hc with e | e | e <;> rw [e] <;> decide
  obtain ⟨I, eI⟩ : ∃ I, I = sh (cK S c) (cX S u) := ⟨_, rfl⟩
  have pi : fX3_passedIndex N S (nI c) (nI u) = some (nI I, S) := by rw [eI]; exact X3_passedIndex hG.1 hc3 hu3 hc hu (by omega)
  rw [← eI] at h63
  obtain ⟨x1, S5, e5, v1, v7, f5, g5, k5, y5, y5', c5'⟩ := X2_make (N := N) (k := cK S u) (x := nI I) hG (by omega) (by omega) (fun _ => ⟨_, rfl, h63⟩)
  have xI : ∀ {S' : St} {v : Nat}, GC S' → v < 3002 → cK S' v < 5 → nI I = nI (cX S' v) → cX S' v = I := fun g hv hk e => by
    have hb := ((g.1.1 _ hv).2.2 hk).2
    exact ((nI_eq (by omega) (by omega)).mp e).symm
  have x5I : cX S5 x1 = I := xI g5 v1 (by rw [k5, updN_at, if_pos rfl]; exact hu) (y5' hu)
  have uc1 : u ≠ x1 := fun q => by rw [← q] at v7; omega
  have cc1 : c ≠ x1 := fun q => by rw [← q] at v7; omega
  have w5 : ∀ p : Pt, wf S5 p = wf S p := fun p => by unfold wf cV cP cW; rw [f5.2.1 42 (by decide)]
  have kt1 : kpt 3002 (Gc S) c u c 1 := ⟨hc3, by show 1 < nP (cK S c); rcases hc with e | e | e <;> rw [e] <;> decide, fun q => absurd q.2 (by decide), fun q => ne q.1⟩
  have F0 : FD2 S (fun _ _ => 0) (fun _ _ => False) := ⟨fun _ _ h => h.elim, fun _ _ _ _ h => h.elim⟩
  have rid : ∀ p : Pt, rho (fun _ _ => 0) (fun _ _ => False) p = p := fun p => rho_n id
  -- an eraser at port k of c
  have erc : ∀ {S1 S2 : St} {D : Nat → Nat → Prop} {k : Nat}, (∀ e, cK S e = 5 → cK S1 e = 5) → (∀ v j, D v j → v = c) → ((¬ D (cV S c k) (cP S c k)) → cK S1 (cV S c k) = 5 → Rc S2 (cV S c k)) → ∀ e, e < 3002 → cK S e = 5 → cV S e 0 = c → cP S e 0 = k → Rc S2 e := by
    intro S1 S2 D k hk hd hr e he h5 e1 e2
    obtain ⟨-, -, g3, g4, -⟩ := hV.1 e 0 he (by show 0 < nP (cK S e); rw [h5]; decide)
    have g3 : cV S (cV S e 0) (cP S e 0) = e := g3
    rw [e1, e2] at g3
    rw [g3] at hr
    exact hr (fun q => by have := hd _ _ q; rw [this] at h5; omega) (hk e h5)
  by_cases c2 : cK S c = 2
  · rw [if_pos c2] at hm
    have pi5 : fX3_passedIndex N S5 (nI c) (nI u) = some (nI I, S5) := by
      have kc : cK S5 c = cK S c := by rw [k5, updN_at, if_neg cc1]
      have ku : cK S5 u = cK S u := by rw [k5, updN_at, if_neg uc1]
      have xu : cX S5 u = cX S u := y5 u uc1
      have := X3_passedIndex (N := N) g5.1 hc3 hu3 (by rw [kc]; exact hc) (by rw [ku]; exact hu) (by rw [xu]; omega)
      rw [kc, xu, ← eI] at this
      exact this
    obtain ⟨x2, S6, e6, w1, w7, f6, g6, k6, y6, y6', c6'⟩ := X2_make (N := N) (k := cK S u) (x := nI I) g5 (by omega) (by omega) (fun _ => ⟨_, rfl, h63⟩)
    have x12 : x2 ≠ x1 := fun q => by
      rw [q, k5, updN_at, if_pos rfl] at w7
      omega
    have w70 : cK S x2 = 7 := by rw [k5, updN_at, if_neg x12] at w7; exact w7
    have x6I : cX S6 x2 = I := xI g6 w1 (by rw [k6, updN_at, if_pos rfl]; exact hu) (y6' hu)
    have w6 : ∀ p : Pt, wf S6 p = wf S p := fun p => by rw [← w5]; unfold wf cV cP cW; rw [f6.2.1 42 (by decide)]
    have kk6 : cK S6 = updN (updN (cK S) x1 (cK S u)) x2 (cK S u) := by rw [k6, k5]
    have F6 : Fr S S6 [44, 48] [40, 41, 42, 45, 46, 47] := (f5.mono (by decide) (by decide)).trans (f6.mono (by decide) (by decide))
    have r6 : RcR S6 s := (hR.of (f5.1 48 (by decide)) (f5.2.1 46 (by decide)) (f5.2.1 47 (by decide))).of (f6.1 48 (by decide)) (f6.2.1 46 (by decide)) (f6.2.1 47 (by decide))
    have i6 : RhoI S S6 c u (fun _ _ => 0) (fun _ _ => False) := fun v k _ => by rw [rid, rid, w6]
    have kt2 : kpt 3002 (Gc S) c u c 2 := ⟨hc3, by show 2 < nP (cK S c); rw [c2]; decide, fun q => absurd q.2 (by decide), fun q => ne q.1⟩
    obtain ⟨S7, s7, a1, a2, a3, a4, a5, a6, a7, a8, a9, a10⟩ := X3_rep (N := N) (z := x1) hV hcu F0 g6 r6 i6 kt1 id v1 v7 (fun _ _ h => h.elim)
    obtain ⟨S8, s8, b1, b2, b3, b4, b5, b6, b7, b8, b9, b10⟩ := X3_rep (N := N) (z := x2) hV hcu a8 a3 a4 a7 kt2 (fun q => by
      rcases q with q | q
      · exact q
      · exact absurd q.2 (by decide)) w1 w70 (fun v k hd => by
      have hd := hd.resolve_left id
      rw [if_pos hd]
      exact x12)
    have k8 : cK S8 = cK S6 := by funext w; unfold cK; rw [b2.2.1 40 (by decide), a2.2.1 40 (by decide)]
    have k7 : cK S7 = cK S6 := by funext w; unfold cK; rw [a2.2.1 40 (by decide)]
    have x8 : ∀ w, cX S8 w = cX S6 w := fun w => by unfold cX; rw [b2.2.1 41 (by decide), a2.2.1 41 (by decide)]
    have a12 : ∀ a, auxC (cK S c) a → a = 1 ∨ a = 2 := fun a ha => ha.imp id (fun q => q.2)
    have k56 : ∀ e, cK S e = 5 → cK S6 e = 5 := fun e h5 => by
      have n1 : e ≠ x1 := fun q => by rw [q, v7] at h5; omega
      have n2 : e ≠ x2 := fun q => by rw [q, w70] at h5; omega
      rw [kk6, updN_at, if_neg n2, updN_at, if_neg n1]; exact h5
    have ci : CC S S8 c u (fun a => if a = 1 then x1 else x2) (fun _ => 0) 1 s8 := by
      refine ⟨b3, b4, (F6.trans (a2.mono (by decide) (by decide))).trans (b2.mono (by decide) (by decide)), ⟨fun a ha => ?_, fun j j0 j1 => by omega, fun a j _ j0 j1 => by omega, fun a b ha hb e => ?_, fun i j i0 i1 => by omega⟩, fun a ha => ?_, fun j j0 j1 => by omega, fun w wo _ => ?_, fun a j _ j0 j1 => by omega, ?_, fun e he h5 hd => ?_⟩
      · rcases a12 a ha with q | q
        · subst q; exact ⟨v1, v7⟩
        · subst q; exact ⟨w1, w70⟩
      · rcases a12 a ha with q | q
        · rcases a12 b hb with z | z
          · omega
          · subst q z
            exact absurd (show x1 = x2 from e).symm x12
        · rcases a12 b hb with z | z
          · subst q z
            exact absurd (show x2 = x1 from e) x12
          · omega
      · rw [k8, x8, kk6]
        rcases a12 a ha with q | q
        · subst q
          show updN (updN (cK S) x1 (cK S u)) x2 (cK S u) x1 = _ ∧ cX S6 x1 = _
          rw [updN_at, if_neg (fun z => x12 z.symm), updN_at, if_pos rfl, y6 x1 (fun z => x12 z.symm), x5I, eI]
          exact ⟨rfl, rfl⟩
        · subst q
          show updN (updN (cK S) x1 (cK S u)) x2 (cK S u) x2 = _ ∧ cX S6 x2 = _
          rw [updN_at, if_pos rfl, x6I, eI]
          exact ⟨rfl, rfl⟩
      · have n1 : w ≠ x1 := wo 1 (Or.inl rfl)
        have n2 : w ≠ x2 := wo 2 (Or.inr ⟨c2, rfl⟩)
        rw [k8, x8, kk6, updN_at, if_neg n2, updN_at, if_neg n1, y6 w n2, y5 w n1]
        exact ⟨rfl, rfl⟩
      · refine b7.congr (fun v j => ?_) (fun v j hd => ?_)
        · unfold DS
          constructor
          · rintro ((q | q) | q)
            · exact q.elim
            · exact Or.inl ⟨q.1, Or.inl q.2⟩
            · exact Or.inl ⟨q.1, Or.inr ⟨c2, q.2⟩⟩
          · rintro (⟨q, ha⟩ | ⟨-, j0, j1⟩)
            · rcases ha with z | z
              · exact Or.inl (Or.inr ⟨q, z⟩)
              · exact Or.inr ⟨q, z.2⟩
            · omega
        · unfold nwS
          rcases hd with (q | q) | q
          · exact q.elim
          · have z : ¬ (v = c ∧ j = 2) := fun y => by omega
            rw [if_neg z, if_pos q, if_pos q.1]
            exact (if_pos q.2).symm
          · rw [if_pos q, if_pos q.1]
            exact (if_neg (by omega)).symm
      · rcases hd with ⟨q, ha⟩ | ⟨-, j0, j1⟩
        · rcases a12 _ ha with z | z
          · exact b6 _ (erc (S1 := S6) (D := fun _ _ => False) k56 (fun v j h => h.elim) a10 e he h5 q z)
          · exact erc (S1 := S7) (D := fun v k => False ∨ (v = c ∧ k = 1)) (fun e h5 => by rw [k7]; exact k56 e h5) (fun v j h => (h.resolve_left id).1) b10 e he h5 q z
        · omega
    have cA4 : cntA 3002 (cK S8) = cntA 3002 (cK S) + 2 := by rw [k8]; omega
    have cL4 : cntL 3002 (cK S8) = cntL 3002 (cK S) + 2 := by
      rw [k8, kk6, cntL_new w1 (by rw [updN_at, if_neg x12]; exact w70) hu, cntL_new v1 v7 hu]
    obtain ⟨S', s', lk, r1, r2, r3, r4, r6', r7, r8, r9, r10, r11⟩ := X3_passR (N := N) (x7 := nI x2) hN hP (fun _ => rfl) ci (by omega)
    refine ⟨S', s', _, lk, ?_, r2, r3, r4, r6', r7, r8, by omega, by omega, r11⟩
    unfold fX3_pass
    rw [bd2_ok (X2_kindOf hG.1 hu3), bd2_ok (X2_kindOf hG.1 hc3), bdo_ok (oP _ c5), bd2_ok pi, kI_lt (show cK S u < 7 by omega), kI_lt (show cK S c < 7 by omega), bd2_ok e5, if_pos (by rw [nP2.mpr c2]; rfl), bd2_ok pi5, bd2_ok e6]
    unfold fX3_pass_66
    rw [show (1 : Int32) = nI 1 from rfl, bdo_ok (pO c 1), show (0 : Int32) = nI 0 from rfl, bdo_ok (pO x1 0), bdo_ok a1, if_pos (by rw [nP2.mpr c2]; rfl), show (2 : Int32) = nI 2 from rfl, bdo_ok (pO c 2), bdo_ok (pO x2 0), bdo_ok b1]
    unfold fX3_pass_110
    rw [bnd_eq]
    exact r1
  · rw [if_neg c2] at hm
    have r5 : RcR S5 s := hR.of (f5.1 48 (by decide)) (f5.2.1 46 (by decide)) (f5.2.1 47 (by decide))
    have i5 : RhoI S S5 c u (fun _ _ => 0) (fun _ _ => False) := fun v k _ => by rw [rid, rid, w5]
    obtain ⟨S7, s7, a1, a2, a3, a4, a5, a6, a7, a8, a9, a10⟩ := X3_rep (N := N) (z := x1) hV hcu F0 g5 r5 i5 kt1 id v1 v7 (fun _ _ h => h.elim)
    have k7 : cK S7 = cK S5 := by funext w; unfold cK; rw [a2.2.1 40 (by decide)]
    have x7 : ∀ w, cX S7 w = cX S5 w := fun w => by unfold cX; rw [a2.2.1 41 (by decide)]
    have a12 : ∀ a, auxC (cK S c) a → a = 1 := fun a ha => ha.resolve_right (fun q => c2 q.1)
    have k55 : ∀ e, cK S e = 5 → cK S5 e = 5 := fun e h5 => by
      have n1 : e ≠ x1 := fun q => by rw [q, v7] at h5; omega
      rw [k5, updN_at, if_neg n1]; exact h5
    have ci : CC S S7 c u (fun _ => x1) (fun _ => 0) 1 s7 := by
      refine ⟨a3, a4, (f5.mono (by decide) (by decide)).trans (a2.mono (by decide) (by decide)), ⟨fun a ha => ⟨v1, v7⟩, fun j j0 j1 => by omega, fun a j _ j0 j1 => by omega, fun a b ha hb e => by rw [a12 a ha, a12 b hb], fun i j i0 i1 => by omega⟩, fun a ha => ?_, fun j j0 j1 => by omega, fun w wo _ => ?_, fun a j _ j0 j1 => by omega, ?_, fun e he h5 hd => ?_⟩
      · rw [k7, x7, k5, updN_at, if_pos rfl, x5I, eI]
        exact ⟨rfl, rfl⟩
      · have n1 : w ≠ x1 := wo 1 (Or.inl rfl)
        rw [k7, x7, k5, updN_at, if_neg n1, y5 w n1]
        exact ⟨rfl, rfl⟩
      · refine a7.congr (fun v j => ?_) (fun v j hd => ?_)
        · unfold DS
          constructor
          · rintro (q | q)
            · exact q.elim
            · exact Or.inl ⟨q.1, Or.inl q.2⟩
          · rintro (⟨q, ha⟩ | ⟨-, j0, j1⟩)
            · exact Or.inr ⟨q, a12 _ ha⟩
            · omega
        · unfold nwS
          have q := hd.resolve_left id
          rw [if_pos q, if_pos q.1]
      · rcases hd with ⟨q, ha⟩ | ⟨-, j0, j1⟩
        · exact erc (S1 := S5) (D := fun _ _ => False) k55 (fun v j h => h.elim) a10 e he h5 q (a12 _ ha)
        · omega
    have cA4 : cntA 3002 (cK S7) = cntA 3002 (cK S) + 1 := by rw [k7]; omega
    have cL4 : cntL 3002 (cK S7) = cntL 3002 (cK S) + 1 := by rw [k7, k5, cntL_new v1 v7 hu]
    obtain ⟨S', s', lk, r1, r2, r3, r4, r6', r7, r8, r9, r10, r11⟩ := X3_passR (N := N) (x7 := -1) hN hP (fun q => absurd q c2) ci (by omega)
    refine ⟨S', s', _, lk, ?_, r2, r3, r4, r6', r7, r8, by omega, by omega, r11⟩
    have n22 : ¬ nI (nP (cK S c) - 1) = (2 : Int32) := fun q => c2 (nP2.mp ((nI_eq (by omega) (by omega)).mp (q.trans (show (2 : Int32) = nI 2 from rfl))))
    unfold fX3_pass
    rw [bd2_ok (X2_kindOf hG.1 hu3), bd2_ok (X2_kindOf hG.1 hc3), bdo_ok (oP _ c5), bd2_ok pi, kI_lt (show cK S u < 7 by omega), kI_lt (show cK S c < 7 by omega), bd2_ok e5, if_neg n22]
    unfold fX3_pass_66
    rw [show (1 : Int32) = nI 1 from rfl, bdo_ok (pO c 1), show (0 : Int32) = nI 0 from rfl, bdo_ok (pO x1 0), bdo_ok a1, if_neg n22]
    unfold fX3_pass_110
    rw [bnd_eq]
    exact r1
