/-! the class: one passes the other -/
theorem RhoI.congr {S0 S : St} {c u : Nat} {nw nw' : Nat → Nat → Nat} {D D' : Nat → Nat → Prop} (h : RhoI S0 S c u nw D) (hD : ∀ v k, D v k ↔ D' v k) (hn : ∀ v k, D v k → nw v k = nw' v k) : RhoI S0 S c u nw' D' := by
  have e : ∀ p : Pt, rho nw' D' p = rho nw D p := by
    intro p
    by_cases q : D p.1 p.2
    · rw [rho_y q, rho_y ((hD _ _).mp q), hn _ _ q]
    · rw [rho_n q, rho_n (fun z => q ((hD _ _).mpr z))]
  intro v k hv
  rw [e, e]
  exact h v k hv
def nwS (c : Nat) (o y : Nat → Nat) (v j : Nat) : Nat := if v = c then o j else y j
def DS (S0 : St) (c u k v j : Nat) : Prop := (v = c ∧ auxC (cK S0 c) j) ∨ (v = u ∧ 0 < j ∧ j < k)
/-- what is given of the two -/
def PHc (S : St) (c u : Nat) : Prop := GVr 3002 (Gc S) ∧ (cV S c 0 = u ∧ cP S c 0 = 0 ∧ cV S u 0 = c ∧ cP S u 0 = 0) ∧ isC (cK S c) ∧ cK S u < 5 ∧ c < 3002 ∧ u < 3002 ∧ c ≠ u
def CC (S0 S : St) (c u : Nat) (o y : Nat → Nat) (k s : Nat) : Prop := GC S ∧ RcR S s ∧ Fr S0 S [44, 48] [40, 41, 42, 45, 46, 47] ∧
  ((∀ a, auxC (cK S0 c) a → o a < 3002 ∧ cK S0 (o a) = 7) ∧ (∀ j, 0 < j → j < k → y j < 3002 ∧ cK S0 (y j) = 7) ∧ (∀ a j, auxC (cK S0 c) a → 0 < j → j < k → o a ≠ y j) ∧ (∀ a b, auxC (cK S0 c) a → auxC (cK S0 c) b → o a = o b → a = b) ∧ (∀ i j, 0 < i → i < k → 0 < j → j < k → y i = y j → i = j)) ∧
  (∀ a, auxC (cK S0 c) a → cK S (o a) = cK S0 u ∧ cX S (o a) = sh (cK S0 c) (cX S0 u)) ∧ (∀ j, 0 < j → j < k → cK S (y j) = cK S0 c ∧ cX S (y j) = cX S0 c) ∧
  (∀ w, (∀ a, auxC (cK S0 c) a → w ≠ o a) → (∀ j, 0 < j → j < k → w ≠ y j) → cK S w = cK S0 w ∧ cX S w = cX S0 w) ∧
  (∀ a j, auxC (cK S0 c) a → 0 < j → j < k → wf S (o a, j) = (y j, a) ∧ wf S (y j, a) = (o a, j)) ∧
  RhoI S0 S c u (nwS c o y) (DS S0 c u k) ∧ (∀ e, e < 3002 → cK S0 e = 5 → DS S0 c u k (cV S0 e 0) (cP S0 e 0) → Rc S e)
theorem CC_F2 {S0 : St} {c u k : Nat} {o y : Nat → Nat} (ne : c ≠ u) (h : (∀ a, auxC (cK S0 c) a → o a < 3002 ∧ cK S0 (o a) = 7) ∧ (∀ j, 0 < j → j < k → y j < 3002 ∧ cK S0 (y j) = 7) ∧ (∀ a j, auxC (cK S0 c) a → 0 < j → j < k → o a ≠ y j) ∧ (∀ a b, auxC (cK S0 c) a → auxC (cK S0 c) b → o a = o b → a = b) ∧ (∀ i j, 0 < i → i < k → 0 < j → j < k → y i = y j → i = j)) : FD2 S0 (nwS c o y) (DS S0 c u k) := by
  obtain ⟨q1, q2, q3, q4, q5⟩ := h
  have nc : ∀ j, nwS c o y c j = o j := fun j => if_pos rfl
  have nu : ∀ j, nwS c o y u j = y j := fun j => if_neg (fun e => ne e.symm)
  refine ⟨fun v j hd => ?_, fun v i w j h1 h2 e => ?_⟩
  · rcases hd with ⟨e, ha⟩ | ⟨e, j0, jk⟩
    · rw [e, nc]; exact q1 j ha
    · rw [e, nu]; exact q2 j j0 jk
  · rcases h1 with ⟨e1, a1⟩ | ⟨e1, i0, ik⟩
    · rcases h2 with ⟨e2, a2⟩ | ⟨e2, j0, jk⟩
      · rw [e1, e2, nc, nc] at e
        exact ⟨e1.trans e2.symm, q4 i j a1 a2 e⟩
      · rw [e1, e2, nc, nu] at e
        exact absurd e (q3 i j a1 j0 jk)
    · rcases h2 with ⟨e2, a2⟩ | ⟨e2, j0, jk⟩
      · rw [e1, e2, nu, nc] at e
        exact absurd e.symm (q3 j i a2 i0 ik)
      · rw [e1, e2, nu, nu] at e
        exact ⟨e1.trans e2.symm, q5 i j i0 ik j0 jk e⟩
/-- an inner wire -/
theorem lk_wf {S S' : St} {a i b j : Nat} (h : ∀ v k, k < 4 → cV S' v k = (if v = b ∧ k = j then a else if v = a ∧ k = i then b else cV S v k) ∧ cP S' v k = (if v = b ∧ k = j then i else if v = a ∧ k = i then j else cP S v k)) (hj : j < 4) (hi : i < 4) (ne : a ≠ b) : wf S' (a, i) = (b, j) ∧ wf S' (b, j) = (a, i) ∧ ∀ p : Pt, p.2 < 4 → p ≠ (a, i) → p ≠ (b, j) → wf S' p = wf S p := by
  refine ⟨?_, ?_, fun p hp n1 n2 => ?_⟩
  · obtain ⟨q1, q2⟩ := h a i hi
    rw [if_neg (fun e => ne e.1), if_pos ⟨rfl, rfl⟩] at q1 q2
    exact Prod.ext q1 q2
  · obtain ⟨q1, q2⟩ := h b j hj
    rw [if_pos ⟨rfl, rfl⟩] at q1 q2
    exact Prod.ext q1 q2
  · obtain ⟨q1, q2⟩ := h p.1 p.2 hp
    rw [if_neg (fun e => n2 (Prod.ext e.1 e.2)), if_neg (fun e => n1 (Prod.ext e.1 e.2))] at q1 q2
    exact Prod.ext q1 q2
theorem CC_fin {S0 S Sf : St} {c u k s s' v : Nat} {o y : Nat → Nat} (ne : c ≠ u) (k3 : k < 3) (k0 : 0 < k) (h : CC S0 S c u o y k s) (v1 : v < 3002) (vo : ∀ a, auxC (cK S0 c) a → v ≠ o a) (vy : ∀ j, 0 < j → j < k → v ≠ y j) (v70 : cK S0 v = 7) (g : GC Sf) (r : RcR Sf s') (fr : Fr S0 Sf [44, 48] [40, 41, 42, 45, 46, 47]) (kf : cK Sf = updN (cK S) v (cK S0 c)) (xf : ∀ w, w ≠ v → cX Sf w = cX S w) (xv : cX Sf v = cX S0 c) (mono : ∀ z, Rc S z → Rc Sf z)
    (W1 : ∀ a, auxC (cK S0 c) a → wf Sf (o a, k) = (v, a) ∧ wf Sf (v, a) = (o a, k)) (W2 : ∀ p : Pt, p.2 < 4 → p.2 ≠ 0 → cK S0 p.1 = 7 → p.1 ≠ v → (∀ a, auxC (cK S0 c) a → p ≠ (o a, k)) → wf Sf p = wf S p)
    (R1 : RhoI S0 Sf c u (fun x j => if x = u ∧ j = k then v else nwS c o y x j) (fun x j => DS S0 c u k x j ∨ (x = u ∧ j = k))) (hE : ∀ e, e < 3002 → cK S0 e = 5 → cV S0 e 0 = u → cP S0 e 0 = k → Rc Sf e) : CC S0 Sf c u o (updN y k v) (k + 1) s' := by
  obtain ⟨h1, h2, h3, ⟨q1, q2, q3, q4, q5⟩, h6, h7, h8, h9, h10, h11⟩ := h
  have yk : updN y k v k = v := by rw [updN_at, if_pos rfl]
  have yj : ∀ j, j ≠ k → updN y k v j = y j := fun j hj => by rw [updN_at, if_neg hj]
  have a2 : ∀ a, auxC (cK S0 c) a → 0 < a ∧ a < 3 := fun a ha => by rcases ha with e | e <;> omega
  have dS : ∀ x j, DS S0 c u (k + 1) x j ↔ DS S0 c u k x j ∨ (x = u ∧ j = k) := by
    intro x j
    unfold DS
    constructor
    · rintro (e | ⟨e1, e2, e3⟩)
      · exact Or.inl (Or.inl e)
      · by_cases z : j = k
        · exact Or.inr ⟨e1, z⟩
        · exact Or.inl (Or.inr ⟨e1, e2, by omega⟩)
    · rintro ((e | ⟨e1, e2, e3⟩) | ⟨e1, e2⟩)
      · exact Or.inl e
      · exact Or.inr ⟨e1, e2, by omega⟩
      · exact Or.inr ⟨e1, by omega, by omega⟩
  refine ⟨g, r, fr, ⟨q1, fun j j0 hj => ?_, fun a j ha j0 hj => ?_, q4, fun i j i0 hi j0 hj e => ?_⟩, fun a ha => ?_, fun j j0 hj => ?_, fun w wo wy => ?_, fun a j ha j0 hj => ?_, ?_, fun e he h5 hd => ?_⟩
  · by_cases e : j = k
    · rw [e, yk]; exact ⟨v1, v70⟩
    · rw [yj j e]; exact q2 j j0 (by omega)
  · by_cases e : j = k
    · rw [e, yk]; exact fun q => vo a ha q.symm
    · rw [yj j e]; exact q3 a j ha j0 (by omega)
  · by_cases e1 : i = k
    · by_cases e2 : j = k
      · omega
      · rw [e1, yk, yj j e2] at e
        exact absurd e (vy j j0 (by omega))
    · by_cases e2 : j = k
      · rw [e2, yk, yj i e1] at e
        exact absurd e.symm (vy i i0 (by omega))
      · rw [yj i e1, yj j e2] at e
        exact q5 i j i0 (by omega) j0 (by omega) e
  · have n := vo a ha
    rw [kf, updN_at, if_neg (fun q => n q.symm), xf _ (fun q => n q.symm)]
    exact h6 a ha
  · by_cases e : j = k
    · rw [e, yk, kf, updN_at, if_pos rfl]
      exact ⟨rfl, xv⟩
    · have n := vy j j0 (by omega)
      rw [yj j e, kf, updN_at, if_neg (fun q => n q.symm), xf _ (fun q => n q.symm)]
      exact h7 j j0 (by omega)
  · have wv : w ≠ v := by
      have := wy k k0 (by omega)
      rw [yk] at this
      exact this
    rw [kf, updN_at, if_neg wv, xf w wv]
    exact h8 w wo (fun j j0 hj => by
      have := wy j j0 (by omega)
      rw [yj j (by omega)] at this
      exact this)
  · by_cases e : j = k
    · rw [e, yk]
      exact W1 a ha
    · have nv := vy j j0 (by omega)
      have hj2 : j < k := by omega
      obtain ⟨b1, b2⟩ := h9 a j ha j0 hj2
      rw [yj j e, W2 (o a, j) (by show j < 4; omega) (by show j ≠ 0; omega) (q1 a ha).2 (fun q => vo a ha q.symm) (fun b hb q => e (congrArg Prod.snd q)), W2 (y j, a) (by show a < 4; have := a2 a ha; omega) (by show a ≠ 0; have := a2 a ha; omega) (q2 j j0 hj2).2 (fun q => nv q.symm) (fun b hb q => q3 b j hb j0 hj2 (congrArg Prod.fst q).symm)]
      exact ⟨b1, b2⟩
  · refine R1.congr (fun x j => (dS x j).symm) (fun x j hd => ?_)
    unfold nwS
    by_cases z : x = u ∧ j = k
    · rw [if_pos z, if_neg (fun q => ne (q.symm.trans z.1)), z.2, yk]
    · rw [if_neg z]
      by_cases xc : x = c
      · rw [if_pos xc, if_pos xc]
      · rw [if_neg xc, if_neg xc]
        have hd := hd.resolve_right z
        rcases hd with ⟨e, -⟩ | ⟨e1, e2, e3⟩
        · exact absurd e xc
        · rw [yj j (by omega)]
  · rcases (dS _ _).mp hd with q | q
    · exact mono _ (h11 e he h5 q)
    · exact hE e he h5 q.1 q.2
theorem X3_passC {S0 : St} {N c u : Nat} {o : Nat → Nat} {x7 : Int32} (hP : PHc S0 c u) (hx7 : cK S0 c = 2 → x7 = nI (o 2)) : ∀ (d k f s : Nat) (S : St) (y : Nat → Nat), k + d = nP (cK S0 u) → d < f → 0 < k → CC S0 S c u o y k s → cntA 3002 (cK S) + d ≤ 3002 →
    ∃ S1 y1 s1, loopN (fun k x => fX3_pass_113s N k x.1 x.2.1 x.2.2.1 x.2.2.2.1 x.2.2.2.2.1 x.2.2.2.2.2.1 x.2.2.2.2.2.2.1 x.2.2.2.2.2.2.2.1 x.2.2.2.2.2.2.2.2) f (S, nI c, nI u, nI (cK S0 u), nI (cK S0 c), nI (nP (cK S0 c) - 1), nI (o 1), x7, nI k) = (bdo (fX2_discard N S1 (nI c)) fun S6 => bdo (fX2_discard N S6 (nI u)) fun S9 => bnd (sI S9 63 (S9.1 63 + 1)) fun S10 => some S10) ∧ CC S0 S1 c u o y1 (nP (cK S0 u)) s1 ∧ cntA 3002 (cK S1) = cntA 3002 (cK S) + d ∧ cntL 3002 (cK S1) = cntL 3002 (cK S) + d := by
  obtain ⟨hV, hcu, hc, hu, hc3, hu3, ne⟩ := hP
  intro d
  have n3 := nP_le (cK S0 u)
  have c5 : cK S0 c < 5 := by rcases hc with e | e | e <;> omega
  have n0 : 0 < nP (cK S0 u) := lv_p (n := 3002) (G := Gc S0) (v := u) ⟨hu3, Or.inl hu⟩
  have ou : fX7_otherPorts (nI (cK S0 u)) = some (nI (nP (cK S0 u) - 1)) := by rw [← kI_lt (show cK S0 u < 7 by omega)]; exact oP _ hu
  induction d with
  | zero =>
    intro k f s S y hk hf k0 h hA
    obtain ⟨f, rfl⟩ : ∃ f', f = f' + 1 := ⟨f - 1, by omega⟩
    have hk : k = nP (cK S0 u) := by omega
    refine ⟨S, y, s, ?_, by rw [← hk]; exact h, by rw [Nat.add_zero], by rw [Nat.add_zero]⟩
    show fX3_pass_113s N _ S (nI c) (nI u) (nI (cK S0 u)) (nI (cK S0 c)) (nI (nP (cK S0 c) - 1)) (nI (o 1)) x7 (nI k) = _
    unfold fX3_pass_113s
    rw [bdo_ok ou, if_pos (nI_lt (by omega) (by omega))]
  | succ d ih =>
    intro k f s S y hk hf k0 h hA
    obtain ⟨f, rfl⟩ : ∃ f', f = f' + 1 := ⟨f - 1, by omega⟩
    have h0 := h
    obtain ⟨h1, h2, h3, ⟨q1, q2, q3, q4, q5⟩, h6, h7, h8, h9, h10, h11⟩ := h
    have hF := CC_F2 ne h0.2.2.2.1
    have k3 : k < 3 := by omega
    have a1 : auxC (cK S0 c) 1 := Or.inl rfl
    have cn : (∀ a, auxC (cK S0 c) a → c ≠ o a) ∧ (∀ j, 0 < j → j < k → c ≠ y j) := ⟨fun a ha q => by have := (q1 a ha).2; rw [← q] at this; omega, fun j j0 hj q => by have := (q2 j j0 hj).2; rw [← q] at this; omega⟩
    obtain ⟨kc, xc⟩ := h8 c cn.1 cn.2
    have ix : fX2_indexOf N S (nI c) = some (nI (cX S0 c), S) := by rw [X2_indexOf h1.1 hc3 (by rw [kc]; exact c5), xc]
    have xl : cX S0 c ≤ 63 := by rw [← xc]; exact ((h1.1.1 c hc3).2.2 (by rw [kc]; exact c5)).2
    obtain ⟨v, S8, e8, v1, v7, f8, g8, kk8, xx8, xv8, c8⟩ := X2_make (N := N) (k := cK S0 c) (x := nI (cX S0 c)) h1 (by omega) (by omega) (fun _ => ⟨_, rfl, xl⟩)
    have xv8 : cX S8 v = cX S0 c := by
      have hb := ((g8.1.1 v v1).2.2 (by rw [kk8, updN_at, if_pos rfl]; exact c5)).2
      exact ((nI_eq (by omega) (by omega)).mp (xv8 c5)).symm
    have vo : ∀ a, auxC (cK S0 c) a → v ≠ o a := fun a ha q => by
      have := (h6 a ha).1
      rw [← q, v7] at this; omega
    have vy : ∀ j, 0 < j → j < k → v ≠ y j := fun j j0 hj q => by
      have := (h7 j j0 hj).1
      rw [← q, v7] at this; omega
    have v70 : cK S0 v = 7 := by rw [← (h8 v vo vy).1]; exact v7
    have w8 : ∀ p : Pt, wf S8 p = wf S p := fun p => by
      unfold wf cV cP cW
      rw [f8.2.1 42 (by decide)]
    have r8 : RcR S8 s := h2.of (f8.1 48 (by decide)) (f8.2.1 46 (by decide)) (f8.2.1 47 (by decide))
    have rc8 : Rc S8 = Rc S := Rc.of (f8.2.1 47 (by decide))
    have ht : kpt 3002 (Gc S0) c u u k := ⟨hu3, by show k < nP (cK S0 u); omega, fun q => ne q.1.symm, fun q => by omega⟩
    have nD : ¬ DS S0 c u k u k := fun q => by
      rcases q with ⟨e, -⟩ | ⟨-, -, e⟩
      · exact ne e.symm
      · omega
    obtain ⟨S9, s9, t1, t2, t3, t4, t5, t6, t7, t8, t9, t10⟩ := X3_rep (N := N) (z := v) hV hcu hF g8 r8 (h10.keep hF (fun p _ _ => w8 p)) ht nD v1 v70 (fun x j hd => by
      rcases hd with ⟨e, ha⟩ | ⟨e, j0, jk⟩
      · unfold nwS; rw [if_pos e]; exact vo j ha
      · unfold nwS; rw [if_neg (fun q => ne (q.symm.trans e)), ]; exact vy j j0 jk)
    have k9 : cK S9 = updN (cK S) v (cK S0 c) := by
      rw [← kk8]; funext w; unfold cK; rw [t2.2.1 40 (by decide)]
    have x9 : ∀ w, cX S9 w = cX S8 w := fun w => by unfold cX; rw [t2.2.1 41 (by decide)]
    have ko : ∀ a, auxC (cK S0 c) a → cK S9 (o a) = cK S0 u := fun a ha => by rw [k9, updN_at, if_neg (fun q => vo a ha q.symm)]; exact (h6 a ha).1
    have kv : cK S9 v = cK S0 c := by rw [k9, updN_at, if_pos rfl]
    obtain ⟨S11, s11, l1, l2, l3, l4, l5, l6, l6', l7, -, -⟩ := X2_link (N := N) (a := o 1) (i := k) (b := v) (j := 1) t3 t4 (q1 1 a1).1 (by omega) v1 (by decide)
    obtain ⟨i1, i2, i3⟩ := lk_wf l4 (by decide) (by omega) (fun q => vo 1 a1 q.symm)
    have k11 : cK S11 = cK S9 := by funext w; unfold cK; rw [l2.2.1 40 (by decide)]
    have x11 : ∀ w, cX S11 w = cX S8 w := fun w => by rw [← x9]; unfold cX; rw [l2.2.1 41 (by decide)]
    have F11 : Fr S0 S11 [44, 48] [40, 41, 42, 45, 46, 47] := ((h3.trans (f8.mono (by decide) (by decide))).trans (t2.mono (by decide) (by decide))).trans (l2.mono (by decide) (by decide))
    have cA9 : cntA 3002 (cK S9) = cntA 3002 (cK S) + 1 := by rw [k9, ← kk8]; exact c8
    have cL9 : cntL 3002 (cK S9) = cntL 3002 (cK S) + 1 := by rw [k9]; exact cntL_new v1 v7 c5
    -- an eraser at port k of u
    have er9 : ∀ e, e < 3002 → cK S0 e = 5 → cV S0 e 0 = u → cP S0 e 0 = k → Rc S9 e := by
      intro e he h5 e1 e2
      obtain ⟨-, -, g3, g4, -⟩ := hV.1 e 0 he (by show 0 < nP (cK S0 e); rw [h5]; decide)
      have g3 : cV S0 (cV S0 e 0) (cP S0 e 0) = e := g3
      have g4 : cP S0 (cV S0 e 0) (cP S0 e 0) = 0 := g4
      rw [e1, e2] at g3 g4
      have eo : (∀ a, auxC (cK S0 c) a → e ≠ o a) ∧ (∀ j, 0 < j → j < k → e ≠ y j) := ⟨fun a ha q => by have := (q1 a ha).2; rw [← q] at this; omega, fun j j0 hj q => by have := (q2 j j0 hj).2; rw [← q] at this; omega⟩
      have ev : e ≠ v := fun q => by rw [← q] at v70; omega
      rw [g3, g4] at t10
      refine t10 (fun q => ?_) ?_
      · rcases q with ⟨z, -⟩ | ⟨z, -⟩
        · rw [z] at h5; omega
        · rw [z] at h5; omega
      · rw [kk8, updN_at, if_neg ev, (h8 e eo.1 eo.2).1]; exact h5
    have run : ∀ K : St → Option St, (bd2 (fX2_indexOf N S (nI c)) fun v11 S13 => bd2 (fX2_make N S13 (nI (cK S0 c)) v11) fun v14 S16 => bdo (fX7_portOf (nI u) (nI k)) fun v17 => bdo (fX7_portOf v14 (0 : Int32)) fun v19 => bdo (fX2_replace N S16 v17 v19) fun S23 => bdo (fX7_portOf (nI (o 1)) (nI k)) fun v24 => bdo (fX7_portOf v14 (1 : Int32)) fun v26 => bdo (fX2_link N S23 v24 v26) fun S30 => if nI (nP (cK S0 c) - 1) = (2 : Int32) then bdo (fX7_portOf x7 (nI k)) fun v32 => bdo (fX7_portOf v14 (2 : Int32)) fun v34 => bdo (fX2_link N S30 v32 v34) fun S38 => K S38 else K S30) = if nI (nP (cK S0 c) - 1) = (2 : Int32) then bdo (fX7_portOf x7 (nI k)) fun v32 => bdo (fX7_portOf (nI v) (2 : Int32)) fun v34 => bdo (fX2_link N S11 v32 v34) fun S38 => K S38 else K S11 := by
      intro K
      rw [bd2_ok ix, bd2_ok e8, bdo_ok (pO u k), show (0 : Int32) = nI 0 from rfl, bdo_ok (pO v 0), bdo_ok t1, bdo_ok (pO (o 1) k), show (1 : Int32) = nI 1 from rfl, bdo_ok (pO v 1), bdo_ok l1]
    obtain ⟨L, eL⟩ : ∃ L, L = loopN (fun k x => fX3_pass_113s N k x.1 x.2.1 x.2.2.1 x.2.2.2.1 x.2.2.2.2.1 x.2.2.2.2.2.1 x.2.2.2.2.2.2.1 x.2.2.2.2.2.2.2.1 x.2.2.2.2.2.2.2.2) f := ⟨_, rfl⟩
    have fin : ∀ S2 s2, CC S0 S2 c u o (updN y k v) (k + 1) s2 → cntA 3002 (cK S2) = cntA 3002 (cK S) + 1 → cntL 3002 (cK S2) = cntL 3002 (cK S) + 1 → (if nI (nP (cK S0 c) - 1) = (2 : Int32) then bdo (fX7_portOf x7 (nI k)) fun v32 => bdo (fX7_portOf (nI v) (2 : Int32)) fun v34 => bdo (fX2_link N S11 v32 v34) fun S38 => fX3_pass_206 N L S38 (nI c) (nI u) (nI (cK S0 u)) (nI (cK S0 c)) (nI (nP (cK S0 c) - 1)) (nI (o 1)) x7 (nI k) else fX3_pass_206 N L S11 (nI c) (nI u) (nI (cK S0 u)) (nI (cK S0 c)) (nI (nP (cK S0 c) - 1)) (nI (o 1)) x7 (nI k)) = fX3_pass_206 N L S2 (nI c) (nI u) (nI (cK S0 u)) (nI (cK S0 c)) (nI (nP (cK S0 c) - 1)) (nI (o 1)) x7 (nI k) → ∃ S1 y1 s1, loopN (fun k x => fX3_pass_113s N k x.1 x.2.1 x.2.2.1 x.2.2.2.1 x.2.2.2.2.1 x.2.2.2.2.2.1 x.2.2.2.2.2.2.1 x.2.2.2.2.2.2.2.1 x.2.2.2.2.2.2.2.2) (f + 1) (S, nI c, nI u, nI (cK S0 u), nI (cK S0 c), nI (nP (cK S0 c) - 1), nI (o 1), x7, nI k) = (bdo (fX2_discard N S1 (nI c)) fun S6 => bdo (fX2_discard N S6 (nI u)) fun S9 => bnd (sI S9 63 (S9.1 63 + 1)) fun S10 => some S10) ∧ CC S0 S1 c u o y1 (nP (cK S0 u)) s1 ∧ cntA 3002 (cK S1) = cntA 3002 (cK S) + (d + 1) ∧ cntL 3002 (cK S1) = cntL 3002 (cK S) + (d + 1) := by
      intro S2 s2 j1 j2 j3 e
      obtain ⟨S1, y1, s1, b1, b2, b3, b4⟩ := ih (k + 1) f s2 S2 (updN y k v) (by omega) (by omega) (by omega) j1 (by omega)
      refine ⟨S1, y1, s1, ?_, b2, by omega, by omega⟩
      rw [← b1]
      show fX3_pass_113s N (loopN (fun k x => fX3_pass_113s N k x.1 x.2.1 x.2.2.1 x.2.2.2.1 x.2.2.2.2.1 x.2.2.2.2.2.1 x.2.2.2.2.2.2.1 x.2.2.2.2.2.2.2.1 x.2.2.2.2.2.2.2.2) f) S (nI c) (nI u) (nI (cK S0 u)) (nI (cK S0 c)) (nI (nP (cK S0 c) - 1)) (nI (o 1)) x7 (nI k) = _
      rw [← eL]
      unfold fX3_pass_113s
      rw [bdo_ok ou, if_neg (nI_nlt (by omega) (by omega)), run, e]
      unfold fX3_pass_206
      rw [bnd_eq, nI_1]
    have nP2 : nP (cK S0 c) - 1 = 2 ↔ cK S0 c = 2 := by
      rcases hc with e | e | e <;> rw [e] <;> decide
    have n3c := nP_le (cK S0 c)
    -- wires of the ports that are no inner ones
    have v4 : ∀ p : Pt, (p.2 = 0 ∨ cK S0 p.1 < 7) → ∀ (x j : Nat), cK S0 x = 7 → j ≠ 0 → p ≠ (x, j) := fun p hp x j x7' j0 q => by
      rcases hp with z | z
      · rw [q] at z; exact j0 z
      · rw [q] at z; have z : cK S0 x < 7 := z; omega
    by_cases c2 : cK S0 c = 2
    · have a2 : auxC (cK S0 c) 2 := Or.inr ⟨c2, rfl⟩
      have o12 : o 1 ≠ o 2 := fun q => absurd (q4 1 2 a1 a2 q) (by decide)
      obtain ⟨S15, s15, m1, m2, m3, m4, m5, m6, m6', m7, -, -⟩ := X2_link (N := N) (a := o 2) (i := k) (b := v) (j := 2) l3 l5 (q1 2 a2).1 (by omega) v1 (by decide)
      obtain ⟨j1, j2, j3⟩ := lk_wf m4 (by decide) (by omega) (fun q => vo 2 a2 q.symm)
      have k15 : cK S15 = cK S11 := by funext w; unfold cK; rw [m2.2.1 40 (by decide)]
      have x15 : ∀ w, cX S15 w = cX S8 w := fun w => by rw [← x11]; unfold cX; rw [m2.2.1 41 (by decide)]
      refine fin S15 s15 (CC_fin ne k3 k0 h0 v1 vo vy v70 m3 m5 (F11.trans (m2.mono (by decide) (by decide))) (by rw [k15, k11]; exact k9) (fun w hw => by rw [x15]; exact xx8 w hw) (by rw [x15]; exact xv8) (fun z hz => m7 z (l7 z (t6 z (by rw [rc8]; exact hz)))) (fun a ha => ?_) (fun p p4 p0 p7 pv po => ?_) ?_ (fun e he h5 e1 e2 => m7 _ (l7 _ (er9 e he h5 e1 e2)))) (by rw [k15, k11]; exact cA9) (by rw [k15, k11]; exact cL9) ?_
      · rcases ha with e | e
        · subst e
          rw [j3 (o 1, k) (by show k < 4; omega) (fun q => o12 (congrArg Prod.fst q)) (fun q => vo 1 a1 (congrArg Prod.fst q).symm), j3 (v, 1) (by show 1 < 4; decide) (fun q => vo 2 a2 (congrArg Prod.fst q)) (fun q => absurd (congrArg Prod.snd q) (by show ¬ (1 : Nat) = 2; decide))]
          exact ⟨i1, i2⟩
        · have e := e.2
          subst e
          exact ⟨j1, j2⟩
      · rw [j3 p p4 (po 2 a2) (fun q => pv (congrArg Prod.fst q)), i3 p p4 (po 1 a1) (fun q => pv (congrArg Prod.fst q)), t9 p p4 p0 p7, w8]
      · refine (t7.keep t8 (fun p p4 hp => i3 p p4 (v4 p hp _ _ (q1 1 a1).2 (by omega)) (v4 p hp _ _ v70 (by decide)))).keep t8 (fun p p4 hp => j3 p p4 (v4 p hp _ _ (q1 2 a2).2 (by omega)) (v4 p hp _ _ v70 (by decide)))
      · rw [if_pos (by rw [nP2.mpr c2]; rfl), hx7 c2, bdo_ok (pO (o 2) k), show (2 : Int32) = nI 2 from rfl, bdo_ok (pO v 2), bdo_ok m1]
    · refine fin S11 s11 (CC_fin ne k3 k0 h0 v1 vo vy v70 l3 l5 F11 (by rw [k11]; exact k9) (fun w hw => by rw [x11]; exact xx8 w hw) (by rw [x11]; exact xv8) (fun z hz => l7 z (t6 z (by rw [rc8]; exact hz))) (fun a ha => ?_) (fun p p4 p0 p7 pv po => ?_) ?_ (fun e he h5 e1 e2 => l7 _ (er9 e he h5 e1 e2))) (by rw [k11]; exact cA9) (by rw [k11]; exact cL9) ?_
      · have e : a = 1 := ha.resolve_right (fun q => c2 q.1)
        subst e
        exact ⟨i1, i2⟩
      · rw [i3 p p4 (po 1 a1) (fun q => pv (congrArg Prod.fst q)), t9 p p4 p0 p7, w8]
      · exact t7.keep t8 (fun p p4 hp => i3 p p4 (v4 p hp _ _ (q1 1 a1).2 (by omega)) (v4 p hp _ _ v70 (by decide)))
      · rw [if_neg (fun q => c2 (nP2.mp ((nI_eq (by omega) (by omega)).mp (q.trans (show (2 : Int32) = nI 2 from rfl)))))]
