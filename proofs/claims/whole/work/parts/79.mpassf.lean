/-! the reference: passing, whole -/
def BaseP (S0 : St) (c u v j : Nat) : Prop := v ≠ c ∧ v ≠ u ∧ gV S0 v j ≠ c ∧ gV S0 v j ≠ u
def DnD (S0 : St) (c u k v j : Nat) : Prop := BaseP S0 c u v j ∨ ∃ i, 0 < i ∧ i < k ∧ ((v = c ∧ j = i) ∨ (v = gV S0 c i ∧ j = gP S0 c i))
def DnE (S0 : St) (c u k v j : Nat) : Prop := DnD S0 c u (nP (gK S0 c)) v j ∨ ∃ i, 0 < i ∧ i < k ∧ ((v = u ∧ j = i) ∨ (v = gV S0 u i ∧ j = gP S0 u i))
theorem DI.mono {S0 S1 S : St} {c u s : Nat} {o lk : Nat → Nat} {Dn Dn' : Nat → Nat → Prop} (h : DI S0 S1 S c u o lk Dn s) (hd : ∀ v k, Dn' v k → Dn v k) : DI S0 S1 S c u o lk Dn' s := by
  obtain ⟨h1, h2, h3, h4, h5, h6, h7⟩ := h
  exact ⟨h1, h2, h3, h4, h5, fun v k hv q => h6 v k hv (hd v k q), fun e he h5 hin q => h7 e he h5 hin (hd e 0 q)⟩
/-- what is given of the two -/
def PH (S : St) (c u : Nat) : Prop := GVr 3010 (Gm S) ∧ (gV S c 0 = u ∧ gP S c 0 = 0 ∧ gV S u 0 = c ∧ gP S u 0 = 0) ∧ isC (gK S c) ∧ gK S u < 5 ∧ c < 3010 ∧ u < 3010 ∧ c ≠ u
/-- the instead row, and who passes whom -/
def IH (S0 S1 : St) (c u : Nat) (o lk : Nat → Nat) : Prop := S1.1 32 = nI c ∧ S1.1 33 = nI u ∧ (∀ a, auxC (gK S0 c) a → S1.2.1 34 a = nI (3 * o a)) ∧ (∀ j, 0 < j → j < nP (gK S0 u) → S1.2.1 34 (3 + j) = nI (3 * lk j)) ∧ (∀ w, gK S0 w < 7 → gK S1 w = gK S0 w)
theorem X8_passE {S0 S1 : St} {N c u : Nat} {o lk : Nat → Nat} (hP : PH S0 c u) (hF : FRS 3010 (Gm S0) c u o lk) (hI : IH S0 S1 c u o lk) : ∀ (d k f s : Nat) (S : St), k + d = nP (gK S0 u) → d < f → 0 < k → DI S0 S1 S c u o lk (DnE S0 c u k) s → s + 2 * d ≤ 12000 → ∃ S2 s2, loopN (fun k x => fX8_pass_241s N k x.1 x.2.1 x.2.2.1 x.2.2.2.1 x.2.2.2.2) f (S, nI c, nI u, nI (nP (gK S0 u)), nI k) = (bdo (fX8_free N S2 (nI c)) fun S4 => bdo (fX8_free N S4 (nI u)) fun S7 => some S7) ∧ DI S0 S1 S2 c u o lk (DnE S0 c u (nP (gK S0 u))) s2 ∧ s2 ≤ s + 2 * d := by
  obtain ⟨hV, hcu, hc, hu, hc3, hu3, ne⟩ := hP
  obtain ⟨h32, h33, hi1, hi2, hK1⟩ := hI
  intro d
  have n3 := nP_le (gK S0 u)
  induction d with
  | zero =>
    intro k f s S hk hf k0 h hs
    obtain ⟨f, rfl⟩ : ∃ f', f = f' + 1 := ⟨f - 1, by omega⟩
    have hk : k = nP (gK S0 u) := by omega
    refine ⟨S, s, ?_, by rw [← hk]; exact h, by omega⟩
    show fX8_pass_241s N _ S (nI c) (nI u) _ (nI k) = _
    unfold fX8_pass_241s
    rw [if_pos (nI_le (by omega) (by omega))]
  | succ d ih =>
    intro k f s S hk hf k0 h hs
    obtain ⟨f, rfl⟩ : ∃ f', f = f' + 1 := ⟨f - 1, by omega⟩
    have ht : kpt 3010 (Gm S0) c u u k := ⟨hu3, by show k < nP (gK S0 u); omega, fun q => ne q.1.symm, fun q => by omega⟩
    obtain ⟨S', s', a1, a2, a3⟩ := X8_pw (N := N) hV hcu hc hu hF hK1 ht (Or.inr rfl) h (by omega)
    have a2 : DI S0 S1 S' c u o lk (DnE S0 c u (k + 1)) s' := a2.mono (fun v j q => by
      rcases q with q | ⟨i, i0, i1, q⟩
      · exact Or.inl (Or.inl q)
      · by_cases e : i = k
        · subst e
          exact Or.inr q
        · exact Or.inl (Or.inr ⟨i, i0, by omega, q⟩))
    obtain ⟨S2, s2, b1, b2, b3⟩ := ih (k + 1) f s' S' (by omega) (by omega) (by omega) a2 (by omega)
    refine ⟨S2, s2, ?_, b2, by omega⟩
    rw [← b1]
    obtain ⟨h1, h2, h3, h4, h5, h6, h7⟩ := h
    obtain ⟨p1, p2⟩ := h1.1.2 (3 * u + k) (by omega)
    have ew : gW S (3 * u + k) = 3 * gV S0 u k + gP S0 u k := by rw [← pw3, (h4 k (by omega)).2.1, (h4 k (by omega)).2.2]
    have es := X8_stands (S0 := S0) (S := S) (N := N) (o := o) (lk := lk) (by rw [h3.1 32 (by decide)]; exact h32) (by rw [h3.1 33 (by decide)]; exact h33) hc3 hu3 hc ne (fun a ha => by rw [h3.2.1 34 (by decide)]; exact hi1 a ha) (fun j j0 hj => by rw [h3.2.1 34 (by decide)]; exact hi2 j j0 hj) (kpt.w hV hcu ht).1
    obtain ⟨L, eL⟩ : ∃ L, L = loopN (fun k x => fX8_pass_241s N k x.1 x.2.1 x.2.2.1 x.2.2.2.1 x.2.2.2.2) f := ⟨_, rfl⟩
    show fX8_pass_241s N (loopN (fun k x => fX8_pass_241s N k x.1 x.2.1 x.2.2.1 x.2.2.2.1 x.2.2.2.2) f) S (nI c) (nI u) (nI (nP (gK S0 u))) (nI k) = _
    rw [← eL]
    unfold fX8_pass_241s
    rw [if_neg (fun q => absurd ((nI_leI (by omega) (by omega)).mp q) (by omega)), nI_p3, ckx_ok (vp_in_nI (by omega) (by omega)), nI_m3, nI_add, ckx_ok (vp_in_nI (by omega) (by omega)), nI_clamp (by omega), nI_clamp (by omega), p1, ew]
    have es' : fX8_stands N S (nI (3 * gV S0 u k + gP S0 u k)) = some (nI (3 * (stn c u o lk (gV S0 u k, gP S0 u k)).1 + (stn c u o lk (gV S0 u k, gP S0 u k)).2), S) := es
    rw [bd2_ok es', h3.2.1 34 (by decide), hi2 k k0 (by omega)]
    rw [stn_u ne] at a1
    have a1 : fX8_wire N S (nI (3 * lk k)) (nI (3 * (stn c u o lk (gV S0 u k, gP S0 u k)).1 + (stn c u o lk (gV S0 u k, gP S0 u k)).2)) = some S' := a1
    rw [bdo_ok a1, bnd_eq, nI_1]
theorem X8_passD {S0 S1 : St} {N c u : Nat} {o lk : Nat → Nat} (hP : PH S0 c u) (hF : FRS 3010 (Gm S0) c u o lk) (hI : IH S0 S1 c u o lk) : ∀ (d k f s : Nat) (S : St), k + d = nP (gK S0 c) → d < f → 0 < k → DI S0 S1 S c u o lk (DnD S0 c u k) s → s + 2 * d ≤ 12000 → ∃ S2 s2, loopN (fun k x => fX8_pass_197s N k x.1 x.2.1 x.2.2.1 x.2.2.2.1 x.2.2.2.2.1 x.2.2.2.2.2) f (S, nI c, nI u, nI (gK S0 c), nI (nP (gK S0 u)), nI k) = fX8_pass_241 N (S2, nI c, nI u, nI (nP (gK S0 u)), nI 1) ∧ DI S0 S1 S2 c u o lk (DnD S0 c u (nP (gK S0 c))) s2 ∧ s2 ≤ s + 2 * d := by
  obtain ⟨hV, hcu, hc, hu, hc3, hu3, ne⟩ := hP
  obtain ⟨h32, h33, hi1, hi2, hK1⟩ := hI
  intro d
  have n3 := nP_le (gK S0 c)
  have pc : fX8_ports (nI (gK S0 c)) = some (nI (nP (gK S0 c))) := by
    have : ∀ k, k < 7 → fX8_ports (nI k) = some (nI (nP k)) := by decide +kernel
    exact this _ (by rcases hc with e | e | e <;> omega)
  induction d with
  | zero =>
    intro k f s S hk hf k0 h hs
    obtain ⟨f, rfl⟩ : ∃ f', f = f' + 1 := ⟨f - 1, by omega⟩
    have hk : k = nP (gK S0 c) := by omega
    refine ⟨S, s, ?_, by rw [← hk]; exact h, by omega⟩
    show fX8_pass_197s N _ S (nI c) (nI u) (nI (gK S0 c)) _ (nI k) = _
    unfold fX8_pass_197s
    rw [bdo_ok pc, if_pos (nI_le (by omega) (by omega)), bnd_eq]
    rfl
  | succ d ih =>
    intro k f s S hk hf k0 h hs
    obtain ⟨f, rfl⟩ : ∃ f', f = f' + 1 := ⟨f - 1, by omega⟩
    have ht : kpt 3010 (Gm S0) c u c k := ⟨hc3, by show k < nP (gK S0 c); omega, fun q => by omega, fun q => ne q.1⟩
    obtain ⟨S', s', a1, a2, a3⟩ := X8_pw (N := N) hV hcu hc hu hF hK1 ht (Or.inl rfl) h (by omega)
    have a2 : DI S0 S1 S' c u o lk (DnD S0 c u (k + 1)) s' := a2.mono (fun v j q => by
      rcases q with q | ⟨i, i0, i1, q⟩
      · exact Or.inl (Or.inl q)
      · by_cases e : i = k
        · subst e
          exact Or.inr q
        · exact Or.inl (Or.inr ⟨i, i0, by omega, q⟩))
    obtain ⟨S2, s2, b1, b2, b3⟩ := ih (k + 1) f s' S' (by omega) (by omega) (by omega) a2 (by omega)
    refine ⟨S2, s2, ?_, b2, by omega⟩
    rw [← b1]
    obtain ⟨h1, h2, h3, h4, h5, h6, h7⟩ := h
    obtain ⟨p1, p2⟩ := h1.1.2 (3 * c + k) (by omega)
    have ew : gW S (3 * c + k) = 3 * gV S0 c k + gP S0 c k := by rw [← pw3, (h4 k (by omega)).1.1, (h4 k (by omega)).1.2]
    have es := X8_stands (S0 := S0) (S := S) (N := N) (o := o) (lk := lk) (by rw [h3.1 32 (by decide)]; exact h32) (by rw [h3.1 33 (by decide)]; exact h33) hc3 hu3 hc ne (fun a ha => by rw [h3.2.1 34 (by decide)]; exact hi1 a ha) (fun j j0 hj => by rw [h3.2.1 34 (by decide)]; exact hi2 j j0 hj) (kpt.w hV hcu ht).1
    obtain ⟨L, eL⟩ : ∃ L, L = loopN (fun k x => fX8_pass_197s N k x.1 x.2.1 x.2.2.1 x.2.2.2.1 x.2.2.2.2.1 x.2.2.2.2.2) f := ⟨_, rfl⟩
    show fX8_pass_197s N (loopN (fun k x => fX8_pass_197s N k x.1 x.2.1 x.2.2.1 x.2.2.2.1 x.2.2.2.2.1 x.2.2.2.2.2) f) S (nI c) (nI u) (nI (gK S0 c)) (nI (nP (gK S0 u))) (nI k) = _
    rw [← eL]
    unfold fX8_pass_197s
    rw [bdo_ok pc, if_neg (fun q => absurd ((nI_leI (by omega) (by omega)).mp q) (by omega)), ckx_ok (vp_in_nI (by omega) (by omega)), nI_m3, nI_add, ckx_ok (vp_in_nI (by omega) (by omega)), nI_clamp (by omega), nI_clamp (by omega), p1, ew]
    have es' : fX8_stands N S (nI (3 * gV S0 c k + gP S0 c k)) = some (nI (3 * (stn c u o lk (gV S0 c k, gP S0 c k)).1 + (stn c u o lk (gV S0 c k, gP S0 c k)).2), S) := es
    rw [bd2_ok es', h3.2.1 34 (by decide), hi1 k (aux_of hc (by omega) (by omega))]
    rw [stn_c] at a1
    have a1 : fX8_wire N S (nI (3 * o k)) (nI (3 * (stn c u o lk (gV S0 c k, gP S0 c k)).1 + (stn c u o lk (gV S0 c k, gP S0 c k)).2)) = some S' := a1
    rw [bdo_ok a1, bnd_eq, nI_1]
/-- how many more -/
def mor (S : St) (c u : Nat) : Nat := nP (gK S u) - 1 + (if gK S c = 2 then 2 else 1)
/-- from the new nodes on -/
theorem X8_passR {S0 S4 : St} {N c u s : Nat} {o : Nat → Nat} {x7 : Int32} (hN : Big N) (hP : PH S0 c u) (h32 : S0.1 32 = nI c) (h33 : S0.1 33 = nI u) (hx7 : gK S0 c = 2 → x7 = nI (o 2)) (h : CI S0 S4 c u o (fun _ => 0) 1 s) (hs : s + 12 ≤ 12000) (hA : cntA 3010 (gK S4) + (nP (gK S0 u) - 1) ≤ 3010) :
    ∃ S' s' lk, fX8_pass_116 N (S4, nI c, nI u, nI (gK S0 c), nI (nP (gK S0 u)), nI (o 1), x7, 1) = some S' ∧ Fr S0 S' [21, 22, 28] [17, 18, 19, 20, 27, 34] ∧ GM S' ∧ RsR S' s' ∧ s' ≤ s + 8 ∧ PX 3010 (Gm S0) c u o lk (Gm S') ∧ (∀ v, v < 3010 → gK S' v = 5 → gK S0 v = 5) ∧ (∀ e, e < 3010 → gK S0 e = 5 → (gV S0 e 0 = c ∨ gV S0 e 0 = u) → Rm S' e) ∧ cntA 3010 (gK S') + 2 = cntA 3010 (gK S4) + (nP (gK S0 u) - 1) ∧ cntL 3010 (gK S') + 2 = cntL 3010 (gK S4) + (nP (gK S0 u) - 1) := by
  obtain ⟨hV, hcu, hc, hu, hc3, hu3, ne⟩ := id hP
  have hb := hN
  unfold Big at hb
  have n3 := nP_le (gK S0 u)
  have n3c := nP_le (gK S0 c)
  have c5 : gK S0 c < 5 := by rcases hc with e | e | e <;> omega
  have lc : lv 3010 (Gm S0) c := ⟨hc3, Or.inl c5⟩
  have lu : lv 3010 (Gm S0) u := ⟨hu3, Or.inl hu⟩
  have n0 : 0 < nP (gK S0 u) := lv_p lu
  have n0c : 0 < nP (gK S0 c) := lv_p lc
  obtain ⟨S1, lk, e1, i1, cA1, cL1⟩ := X8_passC (N := N) hc hc3 hu hx7 (by omega) (nP (gK S0 u) - 1) 1 N S4 (fun _ => 0) (by omega) (by omega) (by decide) h hA
  obtain ⟨j1, j2, j3, j4, j5, j6, j7, j8, j9, j10⟩ := i1
  have hF : FRS 3010 (Gm S0) c u o lk := j6
  have old : ∀ w, gK S0 w < 7 → (∀ a, auxC (gK S0 c) a → w ≠ o a) ∧ (∀ j, 0 < j → j < nP (gK S0 u) → w ≠ lk j) := fun w w7 => ⟨fun a ha q => by have := (j6.1 a ha).2; rw [← q] at this; omega, fun j j0 hj q => by have := (j6.2.1 j j0 hj).2; rw [← q] at this; omega⟩
  have hK1 : ∀ w, gK S0 w < 7 → gK S1 w = gK S0 w := fun w w7 => (j9 w (old w w7).1 (old w w7).2).1
  have hI : IH S0 S1 c u o lk := ⟨by rw [j3.1 32 (by decide)]; exact h32, by rw [j3.1 33 (by decide)]; exact h33, j4, j5, hK1⟩
  have d0 : DI S0 S1 S1 c u o lk (DnD S0 c u 1) s := by
    refine ⟨j1, j2, Fr.rf, fun k hk => ⟨(j9 c (old c (by omega)).1 (old c (by omega)).2).2.2 k hk, (j9 u (old u (by omega)).1 (old u (by omega)).2).2.2 k hk⟩, j10, fun v k hv hd => ?_, fun e he h5 hin hd => ?_⟩
    · rcases hd with ⟨b1, b2, b3, b4⟩ | ⟨i, i0, i1, -⟩
      · rw [stn_o b1 b2, stn_o b3 b4]
        have k' : k < nP (gK S0 v) := hv.2.1
        have v7 := nP_7 (Nat.lt_of_le_of_lt (Nat.zero_le _) k')
        have := (j9 v (old v v7).1 (old v v7).2).2.2 k (Nat.lt_of_lt_of_le k' (nP_le _))
        show (gV S1 v k, gP S1 v k) = _
        rw [this.1, this.2]
      · omega
    · rcases hd with ⟨b1, b2, b3, b4⟩ | ⟨i, i0, i1, -⟩
      · exact (hin.elim b3 b4).elim
      · omega
  obtain ⟨S2, s2, e2, d2, l2⟩ := X8_passD (N := N) hP hF hI (nP (gK S0 c) - 1) 1 N s S1 (by omega) (by omega) (by decide) d0 (by omega)
  obtain ⟨S3, s3, e3, d3, l3⟩ := X8_passE (N := N) hP hF hI (nP (gK S0 u) - 1) 1 N s2 S2 (by omega) (by omega) (by decide) (d2.mono (fun v k q => by
    rcases q with q | ⟨i, i0, i1, -⟩
    · exact q
    · omega)) (by omega)
  obtain ⟨g1, g2, g3, g4, g5, g6, g7⟩ := d3
  have k3 : gK S3 = gK S1 := by funext w; unfold gK; rw [g3.2.1 17 (by decide)]
  have x3 : gX S3 = gX S1 := by funext w; unfold gX; rw [g3.2.1 18 (by decide)]
  obtain ⟨S5, f1, f2, f3, f4, f5⟩ := X8_free (N := N) g1 hc3 (by rw [k3, hK1 c (by omega)]; omega)
  obtain ⟨S6, q1, q2, q3, q4, q5⟩ := X8_free (N := N) f3 hu3 (by rw [f4, updN_at, if_neg (fun z => ne z.symm), k3, hK1 u (by omega)]; omega)
  have fr := f2.trans q2
  have k6 : gK S6 = updN (updN (gK S1) c 7) u 7 := by rw [q4, f4, k3]
  have x6 : gX S6 = gX S1 := by
    rw [← x3]; funext w; unfold gX; rw [fr.2.1 18 (by decide)]
  have w6 : ∀ w k, gV S6 w k = gV S3 w k ∧ gP S6 w k = gP S3 w k := fun w k => by
    unfold gV gP gW
    rw [fr.2.1 19 (by decide)]
    exact ⟨rfl, rfl⟩
  have all : ∀ v k, kpt 3010 (Gm S0) c u v k → DnE S0 c u (nP (gK S0 u)) v k := by
    intro v k hv
    obtain ⟨hw, iw1, iw2⟩ := kpt.w hV hcu hv
    have hw : kpt 3010 (Gm S0) c u (gV S0 v k) (gP S0 v k) := hw
    have iw1 : gV S0 (gV S0 v k) (gP S0 v k) = v := iw1
    have iw2 : gP S0 (gV S0 v k) (gP S0 v k) = k := iw2
    by_cases c1 : v = c
    · subst c1
      exact Or.inl (Or.inr ⟨k, Nat.pos_of_ne_zero (fun q => hv.2.2.1 ⟨rfl, q⟩), hv.2.1, Or.inl ⟨rfl, rfl⟩⟩)
    · by_cases c2 : v = u
      · subst c2
        exact Or.inr ⟨k, Nat.pos_of_ne_zero (fun q => hv.2.2.2 ⟨rfl, q⟩), hv.2.1, Or.inl ⟨rfl, rfl⟩⟩
      · by_cases c3 : gV S0 v k = c
        · rw [c3] at iw1 iw2 hw
          exact Or.inl (Or.inr ⟨gP S0 v k, Nat.pos_of_ne_zero (fun q => hw.2.2.1 ⟨rfl, q⟩), hw.2.1, Or.inr ⟨iw1.symm, iw2.symm⟩⟩)
        · by_cases c4 : gV S0 v k = u
          · rw [c4] at iw1 iw2 hw
            exact Or.inr ⟨gP S0 v k, Nat.pos_of_ne_zero (fun q => hw.2.2.2 ⟨rfl, q⟩), hw.2.1, Or.inr ⟨iw1.symm, iw2.symm⟩⟩
          · exact Or.inl (Or.inl ⟨c1, c2, c3, c4⟩)
  have co : ∀ a, auxC (gK S0 c) a → o a ≠ c ∧ o a ≠ u := fun a ha => ⟨fun q => (old c (by omega)).1 a ha q.symm, fun q => (old u (by omega)).1 a ha q.symm⟩
  have cl : ∀ j, 0 < j → j < nP (gK S0 u) → lk j ≠ c ∧ lk j ≠ u := fun j j0 hj => ⟨fun q => (old c (by omega)).2 j j0 hj q.symm, fun q => (old u (by omega)).2 j j0 hj q.symm⟩
  have kc : gK S6 c = 7 := by rw [k6, updN_at, if_neg ne, updN_at, if_pos rfl]
  have ku : gK S6 u = 7 := by rw [k6, updN_at, if_pos rfl]
  have ko : ∀ a, auxC (gK S0 c) a → gK S6 (o a) = gK S0 u ∧ gX S6 (o a) = sh (gK S0 c) (gX S0 u) := fun a ha => by
    rw [k6, updN_at, if_neg (co a ha).2, updN_at, if_neg (co a ha).1, x6]
    exact j7 a ha
  have kl : ∀ j, 0 < j → j < nP (gK S0 u) → gK S6 (lk j) = gK S0 c ∧ gX S6 (lk j) = gX S0 c := fun j j0 hj => by
    rw [k6, updN_at, if_neg (cl j j0 hj).2, updN_at, if_neg (cl j j0 hj).1, x6]
    exact j8 j j0 hj
  have kw : ∀ w, w < 3010 → w ≠ c → w ≠ u → (∀ a, auxC (gK S0 c) a → w ≠ o a) → (∀ j, 0 < j → j < nP (gK S0 u) → w ≠ lk j) → gK S6 w = gK S0 w ∧ gX S6 w = gX S0 w := fun w _ wc wu wo wl => by
    rw [k6, updN_at, if_neg wu, updN_at, if_neg wc, x6]
    exact ⟨(j9 w wo wl).1, (j9 w wo wl).2.1⟩
  have RmE : Rm S6 = Rm S3 := Rm.of (fr.1 28 (by decide)) (fr.2.1 27 (by decide))
  refine ⟨S6, s3, lk, ?_, ?_, q3, g2.of (fr.1 28 (by decide)) (fr.2.1 27 (by decide)), by omega, PX_mk hc lc lu ne hF kc ku ko kl kw (fun v k hv => ?_) (fun a k ha k0 hk => ?_), PX.no5 (G := Gm S0) (G' := Gm S6) lc lu kc ku (fun a ha => (ko a ha).1) (fun j j0 hj => (kl j j0 hj).1) (fun w h1 h2 h3 h4 h5 => (kw w h1 h2 h3 h4 h5).1), fun e he h5 hin => ?_, ?_, ?_⟩
  · have e1' : fX8_pass_116 N (S4, nI c, nI u, nI (gK S0 c), nI (nP (gK S0 u)), nI (o 1), x7, 1) = fX8_pass_197 N (S1, nI c, nI u, nI (gK S0 c), nI (nP (gK S0 u)), 1) := e1
    have e2' : fX8_pass_197 N (S1, nI c, nI u, nI (gK S0 c), nI (nP (gK S0 u)), 1) = fX8_pass_241 N (S2, nI c, nI u, nI (nP (gK S0 u)), nI 1) := e2
    have e3' : fX8_pass_241 N (S2, nI c, nI u, nI (nP (gK S0 u)), nI 1) = (bdo (fX8_free N S3 (nI c)) fun S4 => bdo (fX8_free N S4 (nI u)) fun S7 => some S7) := e3
    rw [e1', e2', e3', bdo_ok f1, bdo_ok q1]
  · exact ((j3.mono (by decide) (by decide)).trans (g3.mono (by decide) (by decide))).trans (fr.mono (by decide) (by decide))
  · show (gV S6 _ _, gP S6 _ _) = _
    rw [(w6 _ _).1, (w6 _ _).2]
    exact g6 v k hv (all v k hv)
  · show (gV S6 _ _ = _ ∧ gP S6 _ _ = _) ∧ (gV S6 _ _ = _ ∧ gP S6 _ _ = _)
    rw [(w6 _ _).1, (w6 _ _).2, (w6 _ _).1, (w6 _ _).2]
    exact g5 a k ha k0 hk
  · rw [RmE]
    exact g7 e he h5 hin (all e 0 ⟨he, by show 0 < nP (gK S0 e); rw [h5]; decide, fun q => by rw [q.1] at h5; omega, fun q => by rw [q.1] at h5; omega⟩)
  · rw [k3] at f5
    omega
  · have a1 := cntL_free hc3 (K := gK S1) (by rw [hK1 c (by omega)]; exact c5)
    have a2 := cntL_free hu3 (K := updN (gK S1) c 7) (by rw [updN_at, if_neg (fun q => ne q.symm), hK1 u (by omega)]; exact hu)
    rw [k6]
    omega
theorem sh_i {d x : Nat} (hd : isC d) (hx : 0 < x) : (if nI d = 3 then nI x + (-1) else if nI d = 4 then nI x + 1 else nI x + 0) = nI (sh d x) := by
  unfold sh
  rcases hd with e | e | e
  · rw [e, if_neg (by decide), if_neg (by decide), if_pos rfl]
    exact nI_add x 0
  · rw [e, if_pos (by decide), if_neg (by decide), if_pos rfl]
    obtain ⟨m, rfl⟩ : ∃ m, x = m + 1 := ⟨x - 1, by omega⟩
    exact pk_m1 m
  · rw [e, if_neg (by decide), if_pos (by decide), if_neg (by decide), if_neg (by decide)]
    exact nI_1 x
theorem X8_pass {S : St} {N c u s : Nat} (hN : Big N) (hG : GM S) (hP : PH S c u) (h32 : S.1 32 = nI c) (h33 : S.1 33 = nI u) (hij : gX S c < gX S u) (h63 : sh (gK S c) (gX S u) ≤ 63) (hR : RsR S s) (hs : s + 12 ≤ 12000) (hA : cntA 3010 (gK S) + mor S c u ≤ 3010) :
    ∃ S' s' o lk, fX8_pass N S = some S' ∧ Fr S S' [21, 22, 28] [17, 18, 19, 20, 27, 34] ∧ GM S' ∧ RsR S' s' ∧ s' ≤ s + 8 ∧ PX 3010 (Gm S) c u o lk (Gm S') ∧ (∀ v, v < 3010 → gK S' v = 5 → gK S v = 5) ∧ (∀ e, e < 3010 → gK S e = 5 → (gV S e 0 = c ∨ gV S e 0 = u) → Rm S' e) ∧ cntA 3010 (gK S') + 2 = cntA 3010 (gK S) + mor S c u ∧ cntL 3010 (gK S') + 2 = cntL 3010 (gK S) + mor S c u := by
  obtain ⟨hV, hcu, hc, hu, hc3, hu3, ne⟩ := id hP
  obtain ⟨kc1, kc2, kc3, kc4⟩ := hG.1.1 c hc3
  obtain ⟨ku1, ku2, ku3, ku4⟩ := hG.1.1 u hu3
  have c5 : gK S c < 5 := by rcases hc with e | e | e <;> omega
  have hm : mor S c u = nP (gK S u) - 1 + (if gK S c = 2 then 2 else 1) := rfl
  have n3 := nP_le (gK S u)
  have n0 : 0 < nP (gK S u) := lv_p (n := 3010) (G := Gm S) (v := u) ⟨hu3, Or.inl hu⟩
  have h1m : 1 ≤ (if gK S c = 2 then 2 else 1) := by
    by_cases z : gK S c = 2
    · rw [if_pos z]; decide
    · rw [if_neg z]; decide
  have top : fX8_pass N S = fX8_pass_53 N S (nI c) (nI u) (nI (gK S c)) (nI (nP (gK S u))) (nI (gX S u)) (if nI (gK S c) = 3 then -1 else if nI (gK S c) = 4 then 1 else 0) := by
    unfold fX8_pass
    rw [h32, h33, bnd_eq, bnd_eq, ckx_ok (vp_in_nI (by omega) (by omega)), bnd_eq, nI_clamp (show c < 2 ^ 31 by omega), kc1, ckx_ok (vp_in_nI (by omega) (by omega)), nI_clamp (show u < 2 ^ 31 by omega), bdo_ok (X8_ports hG.1 hu3 (by omega)), ckx_ok (vp_in_nI (by omega) (by omega)), ku3]
    by_cases z3 : nI (gK S c) = 3
    · rw [if_pos z3, if_pos z3]
    · rw [if_neg z3, if_neg z3]
      by_cases z4 : nI (gK S c) = 4
      · rw [if_pos z4, if_pos z4]
      · rw [if_neg z4, if_neg z4]
  have idx : nI (gX S u) + (if nI (gK S c) = 3 then -1 else if nI (gK S c) = 4 then 1 else 0) = nI (sh (gK S c) (gX S u)) := by
    rw [← sh_i hc (show 0 < gX S u by omega)]
    by_cases z3 : nI (gK S c) = 3
    · rw [if_pos z3, if_pos z3]
    · rw [if_neg z3, if_neg z3]
      by_cases z4 : nI (gK S c) = 4
      · rw [if_pos z4, if_pos z4]
      · rw [if_neg z4, if_neg z4]
  obtain ⟨x1, S5, e5, v1, v7, f5, g5, k5, y5, c5'⟩ := X8_node (N := N) (k := gK S u) (x := sh (gK S c) (gX S u)) hG (by omega) (by omega) h63
  have uc1 : u ≠ x1 := fun q => by rw [← q] at v7; omega
  by_cases c2 : gK S c = 2
  · rw [if_pos c2] at hm
    obtain ⟨x2, S6, e6, w1, w7, f6, g6, k6, y6, c6'⟩ := X8_node (N := N) (k := gK S u) (x := sh (gK S c) (gX S u)) g5 (by omega) (by omega) h63
    have x12 : x2 ≠ x1 := fun q => by
      rw [q, k5, updN_at, if_pos rfl] at w7
      omega
    have w70 : gK S x2 = 7 := by rw [k5, updN_at, if_neg x12] at w7; exact w7
    obtain ⟨S4, e4⟩ : ∃ z, z = sA (sA S6 34 (upd (S6.2.1 34) 1 (nI (3 * x1)))) 34 (upd (upd (S6.2.1 34) 1 (nI (3 * x1))) 2 (nI (3 * x2))) := ⟨_, rfl⟩
    have f4 : Fr S6 S4 [] [34] := by rw [e4]; exact (Fr.A (by decide)).trans (Fr.A (by decide))
    obtain ⟨g4, m4⟩ := g6.of f4 (by decide) (by decide)
    have k4 : gK S4 = updN (updN (gK S) x1 (gK S u)) x2 (gK S u) := by
      have : gK S4 = gK S6 := congrArg Prod.fst m4
      rw [this, k6, k5]
    have y4 : gX S4 = updN (updN (gX S) x1 (sh (gK S c) (gX S u))) x2 (sh (gK S c) (gX S u)) := by
      have : gX S4 = gX S6 := congrArg (fun G : Gr => G.2.1) m4
      rw [this, y6, y5]
    have w4 : ∀ w k, gV S4 w k = gV S w k ∧ gP S4 w k = gP S w k := fun w k => by
      unfold gV gP gW
      rw [f4.2.1 19 (by decide), f6.2.1 19 (by decide), f5.2.1 19 (by decide)]
      exact ⟨rfl, rfl⟩
    have z34 : S4.2.1 34 = upd (upd (S6.2.1 34) 1 (nI (3 * x1))) 2 (nI (3 * x2)) := by rw [e4]; rfl
    have fr : Fr S S4 [21, 22, 28] [17, 18, 19, 27, 34] := ((f5.mono (by decide) (by decide)).trans (f6.mono (by decide) (by decide))).trans (f4.mono (fun _ h => (List.not_mem_nil h).elim) (by decide))
    have o1 : (fun a => if a = 1 then x1 else x2) 1 = x1 := rfl
    have o2 : (fun a => if a = 1 then x1 else x2) 2 = x2 := rfl
    have a12 : ∀ a, auxC (gK S c) a → a = 1 ∨ a = 2 := fun a ha => ha.imp id (fun q => q.2)
    have ci : CI S S4 c u (fun a => if a = 1 then x1 else x2) (fun _ => 0) 1 s := by
      refine ⟨g4, ((hR.of (f5.1 28 (by decide)) (f5.2.1 27 (by decide))).of (f6.1 28 (by decide)) (f6.2.1 27 (by decide))).of (f4.1 28 (by decide)) (f4.2.1 27 (by decide)), fr, fun a ha => ?_, fun j j0 j1 => by omega, ⟨fun a ha => ?_, fun j j0 j1 => by omega, fun a j _ j0 j1 => by omega, fun a b ha hb e => ?_, fun i j i0 i1 => by omega⟩, fun a ha => ?_, fun j j0 j1 => by omega, fun w wo _ => ?_, fun a j _ j0 j1 => by omega⟩
      · rw [z34]
        rcases a12 a ha with q | q
        · subst q; rfl
        · subst q; rfl
      · rcases a12 a ha with q | q
        · subst q; exact ⟨v1, v7⟩
        · subst q; exact ⟨w1, w70⟩
      · rcases a12 a ha with q | q
        · rcases a12 b hb with z | z
          · omega
          · subst q z
            exact absurd (show x1 = x2 from e).symm x12
        · rcases a12 b hb with z | z
          · subst q z
            exact absurd (show x2 = x1 from e) x12
          · omega
      · rw [k4, y4]
        rcases a12 a ha with q | q
        · subst q
          rw [o1, updN_at, if_neg (fun z => x12 z.symm), updN_at, if_pos rfl, updN_at, if_neg (fun z => x12 z.symm), updN_at, if_pos rfl]
          exact ⟨rfl, rfl⟩
        · subst q
          rw [o2, updN_at, if_pos rfl, updN_at, if_pos rfl]
          exact ⟨rfl, rfl⟩
      · have n1 : w ≠ x1 := wo 1 (Or.inl rfl)
        have n2 : w ≠ x2 := wo 2 (Or.inr ⟨c2, rfl⟩)
        rw [k4, y4, updN_at, if_neg n2, updN_at, if_neg n1, updN_at, if_neg n2, updN_at, if_neg n1]
        exact ⟨rfl, rfl, fun j _ => w4 w j⟩
    have cA4 : cntA 3010 (gK S4) = cntA 3010 (gK S) + 2 := by
      have : gK S4 = gK S6 := congrArg Prod.fst m4
      rw [this]; omega
    have cL4 : cntL 3010 (gK S4) = cntL 3010 (gK S) + 2 := by
      rw [k4, cntL_new w1 (by rw [updN_at, if_neg x12]; exact w70) hu, cntL_new v1 v7 hu]
    obtain ⟨S', s', lk, r1, r2, r3, r4, r5, r6, r7, r8, r9, r10⟩ := X8_passR (N := N) (x7 := nI x2) hN hP h32 h33 (fun _ => rfl) ci hs (by omega)
    refine ⟨S', s', _, lk, ?_, r2, r3, r4, r5, r6, r7, r8, by omega, by omega⟩
    rw [top]
    unfold fX8_pass_53
    rw [bnd_eq, idx, ckx_ok (vp_in_nI (by omega) (by omega)), nI_clamp (by omega), ku1, bd2_ok e5, if_pos (by rw [c2]; rfl), ckx_ok (vp_in_nI (by omega) (by omega)), show S5.2.1 17 u = nI (gK S u) by
      rw [(g5.1.1 u hu3).1, k5, updN_at, if_neg uc1], bd2_ok e6]
    unfold fX8_pass_91
    rw [ckx_ok (show vp_in (1 : Int32) 6 from vp_in_nI (n := 1) (N := 6) (by decide) (by decide)), bnd_eq, ckx_ok (show vp_in (2 : Int32) 6 from vp_in_nI (n := 2) (N := 6) (by decide) (by decide)), bnd_eq, bnd_eq, nI_m3, nI_m3]
    have e4' : S4 = sA (sA S6 34 (upd (S6.2.1 34) (1 : Int32).toNatClampNeg (nI (3 * x1)))) 34 (upd ((sA S6 34 (upd (S6.2.1 34) (1 : Int32).toNatClampNeg (nI (3 * x1)))).2.1 34) (2 : Int32).toNatClampNeg (nI (3 * x2))) := e4
    rw [← e4']
    exact r1
  · rw [if_neg c2] at hm
    obtain ⟨S4, e4⟩ : ∃ z, z = sA (sA S5 34 (upd (S5.2.1 34) 1 (nI (3 * x1)))) 34 (upd (upd (S5.2.1 34) 1 (nI (3 * x1))) 2 ((3 : Int32) * (-1))) := ⟨_, rfl⟩
    have f4 : Fr S5 S4 [] [34] := by rw [e4]; exact (Fr.A (by decide)).trans (Fr.A (by decide))
    obtain ⟨g4, m4⟩ := g5.of f4 (by decide) (by decide)
    have k4 : gK S4 = updN (gK S) x1 (gK S u) := by
      have : gK S4 = gK S5 := congrArg Prod.fst m4
      rw [this, k5]
    have y4 : gX S4 = updN (gX S) x1 (sh (gK S c) (gX S u)) := by
      have : gX S4 = gX S5 := congrArg (fun G : Gr => G.2.1) m4
      rw [this, y5]
    have w4 : ∀ w k, gV S4 w k = gV S w k ∧ gP S4 w k = gP S w k := fun w k => by
      unfold gV gP gW
      rw [f4.2.1 19 (by decide), f5.2.1 19 (by decide)]
      exact ⟨rfl, rfl⟩
    have z34 : S4.2.1 34 = upd (upd (S5.2.1 34) 1 (nI (3 * x1))) 2 ((3 : Int32) * (-1)) := by rw [e4]; rfl
    have fr : Fr S S4 [21, 22, 28] [17, 18, 19, 27, 34] := (f5.mono (by decide) (by decide)).trans (f4.mono (fun _ h => (List.not_mem_nil h).elim) (by decide))
    have a12 : ∀ a, auxC (gK S c) a → a = 1 := fun a ha => ha.resolve_right (fun q => c2 q.1)
    have ci : CI S S4 c u (fun _ => x1) (fun _ => 0) 1 s := by
      refine ⟨g4, (hR.of (f5.1 28 (by decide)) (f5.2.1 27 (by decide))).of (f4.1 28 (by decide)) (f4.2.1 27 (by decide)), fr, fun a ha => ?_, fun j j0 j1 => by omega, ⟨fun a ha => ⟨v1, v7⟩, fun j j0 j1 => by omega, fun a j _ j0 j1 => by omega, fun a b ha hb e => by rw [a12 a ha, a12 b hb], fun i j i0 i1 => by omega⟩, fun a ha => ?_, fun j j0 j1 => by omega, fun w wo _ => ?_, fun a j _ j0 j1 => by omega⟩
      · rw [z34, a12 a ha]
        rfl
      · rw [k4, y4, updN_at, if_pos rfl, updN_at, if_pos rfl]
        exact ⟨rfl, rfl⟩
      · have n1 : w ≠ x1 := wo 1 (Or.inl rfl)
        rw [k4, y4, updN_at, if_neg n1, updN_at, if_neg n1]
        exact ⟨rfl, rfl, fun j _ => w4 w j⟩
    have cA4 : cntA 3010 (gK S4) = cntA 3010 (gK S) + 1 := by
      have : gK S4 = gK S5 := congrArg Prod.fst m4
      rw [this]; omega
    have cL4 : cntL 3010 (gK S4) = cntL 3010 (gK S) + 1 := by
      rw [k4, cntL_new v1 v7 hu]
    obtain ⟨S', s', lk, r1, r2, r3, r4, r5, r6, r7, r8, r9, r10⟩ := X8_passR (N := N) (x7 := -1) hN hP h32 h33 (fun q => absurd q c2) ci hs (by omega)
    refine ⟨S', s', _, lk, ?_, r2, r3, r4, r5, r6, r7, r8, by omega, by omega⟩
    rw [top]
    unfold fX8_pass_53
    rw [bnd_eq, idx, ckx_ok (vp_in_nI (by omega) (by omega)), nI_clamp (by omega), ku1, bd2_ok e5, if_neg (fun q => c2 ((nI_eq (by omega) (by omega)).mp (q.trans (show (2 : Int32) = nI 2 from rfl))))]
    unfold fX8_pass_91
    rw [ckx_ok (show vp_in (1 : Int32) 6 from vp_in_nI (n := 1) (N := 6) (by decide) (by decide)), bnd_eq, ckx_ok (show vp_in (2 : Int32) 6 from vp_in_nI (n := 2) (N := 6) (by decide) (by decide)), bnd_eq, bnd_eq, nI_m3]
    have e4' : S4 = sA (sA S5 34 (upd (S5.2.1 34) (1 : Int32).toNatClampNeg (nI (3 * x1)))) 34 (upd ((sA S5 34 (upd (S5.2.1 34) (1 : Int32).toNatClampNeg (nI (3 * x1)))).2.1 34) (2 : Int32).toNatClampNeg ((3 : Int32) * (-1))) := e4
    rw [← e4']
    exact r1
