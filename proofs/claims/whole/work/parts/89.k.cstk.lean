/-! the class: stages and binders -/
def SkA (S : St) (X : Nat → Nat) (L : Nat → Nat) (n : Nat) (tr : List Te) : List Lt → List Ab → List Nat → Nat → Prop
  | [], ab, ms, bc => ab = [] ∧ ms = [] ∧ bc = 0
  | it :: r, ab, ms, bc => ∃ m ms', ms = m :: ms' ∧ m ≤ tr.length ∧ (∀ m2 ∈ ms', m2 ≤ m) ∧ S.2.1 129 r.length = nI m ∧
      ((it.1 = 1 ∧ S.2.1 127 r.length = nI 0 ∧ ∃ v cxb ab' st, ab = (v, cxb) :: ab' ∧ (v < 3002 ∧ X v ≤ 63) ∧ S.2.1 131 ab'.length = nI v ∧ S.2.1 132 ab'.length = nI st ∧ bc = st + X v ∧ (∀ i, i < X v → S.2.1 134 (st + i) = nI ((ctxAt L n tr m).1 i)) ∧ cxb = (fun i => tv S ((ctxAt L n tr m).1 i)) ∧ SkA S X L n tr r ab' ms' st) ∨
       (it.1 = 2 ∧ S.2.1 127 r.length = nI 2 ∧ SkA S X L n tr r ab ms' bc) ∨
       (it.1 = 0 ∧ S.2.1 127 r.length = nI 1 ∧ it.2.1 < 3002 ∧ S.2.1 128 r.length = nI it.2.1 ∧ it.2.2 = (fun i => tv S ((ctxAt L n tr m).1 i)) ∧ SkA S X L n tr r ab ms' bc))
theorem SkA.of {S S' : St} {X L L' : Nat → Nat} {n n' : Nat} {tr tr' : List Te} : ∀ (lat : List Lt) (ab : List Ab) (ms : List Nat) (bc : Nat), (∀ j, j < lat.length → S'.2.1 127 j = S.2.1 127 j ∧ S'.2.1 128 j = S.2.1 128 j ∧ S'.2.1 129 j = S.2.1 129 j) → (∀ j, j < ab.length → S'.2.1 131 j = S.2.1 131 j ∧ S'.2.1 132 j = S.2.1 132 j) → (∀ j, j < bc → S'.2.1 134 j = S.2.1 134 j) → (∀ m ∈ ms, m ≤ tr'.length ∧ ctxAt L' n' tr' m = ctxAt L n tr m ∧ ∀ i, tv S' ((ctxAt L n tr m).1 i) = tv S ((ctxAt L n tr m).1 i)) → SkA S X L n tr lat ab ms bc → SkA S' X L' n' tr' lat ab ms bc
  | [], _, _, _, _, _, _, _, h => h
  | it :: r, ab, ms, bc, h1, h2, h3, h4, ⟨m, ms', e1, e2, e3, e4, hc⟩ => by
    obtain ⟨a1, a2, a3⟩ := h1 r.length (by show r.length < r.length + 1; omega)
    obtain ⟨b1, b2, b3⟩ := h4 m (by rw [e1]; exact List.mem_cons_self ..)
    have h4' : ∀ m ∈ ms', m ≤ tr'.length ∧ ctxAt L' n' tr' m = ctxAt L n tr m ∧ ∀ i, tv S' ((ctxAt L n tr m).1 i) = tv S ((ctxAt L n tr m).1 i) := fun m2 hm => h4 m2 (by rw [e1]; exact List.mem_cons_of_mem _ hm)
    have h1' : ∀ j, j < r.length → S'.2.1 127 j = S.2.1 127 j ∧ S'.2.1 128 j = S.2.1 128 j ∧ S'.2.1 129 j = S.2.1 129 j := fun j hj => h1 j (by show j < r.length + 1; omega)
    have ef : (fun i => tv S' ((ctxAt L' n' tr' m).1 i)) = (fun i => tv S ((ctxAt L n tr m).1 i)) := by
      funext i; rw [b2, b3 i]
    refine ⟨m, ms', e1, b1, e3, by rw [a3]; exact e4, ?_⟩
    rcases hc with ⟨c1, c2, v, cxb, ab', st, d1, d2, d3, d4, d5, d6, d7, d8⟩ | ⟨c1, c2, c3⟩ | ⟨c1, c2, c3, c4, c5, c6⟩
    · left
      have hl : ab.length = ab'.length + 1 := by rw [d1]; rfl
      obtain ⟨g1, g2⟩ := h2 ab'.length (by omega)
      refine ⟨c1, by rw [a1]; exact c2, v, cxb, ab', st, d1, d2, by rw [g1]; exact d3, by rw [g2]; exact d4, d5, fun i hi => by rw [h3 _ (by omega), b2]; exact d6 i hi, by rw [ef]; exact d7, SkA.of r ab' ms' st h1' (fun j hj => h2 j (by omega)) (fun j hj => h3 j (by omega)) h4' d8⟩
    · exact Or.inr (Or.inl ⟨c1, by rw [a1]; exact c2, SkA.of r ab ms' bc h1' h2 h3 h4' c3⟩)
    · exact Or.inr (Or.inr ⟨c1, by rw [a1]; exact c2, c3, by rw [a2]; exact c4, by rw [ef]; exact c5, SkA.of r ab ms' bc h1' h2 h3 h4' c6⟩)
theorem SkA.ms {S : St} {X L : Nat → Nat} {n : Nat} {tr : List Te} : ∀ (lat : List Lt) (ab : List Ab) (ms : List Nat) (bc : Nat), SkA S X L n tr lat ab ms bc → ∀ m ∈ ms, m ≤ tr.length
  | [], _, _, _, h, m, hm => by rw [h.2.1] at hm; exact (List.not_mem_nil hm).elim
  | it :: r, ab, ms, bc, ⟨m0, ms', e1, e2, e3, _⟩, m, hm => by
    rw [e1] at hm
    rcases List.mem_cons.mp hm with q | q
    · omega
    · have := e3 m q; omega
theorem SkA_bc {S : St} {X L : Nat → Nat} {n : Nat} {tr : List Te} : ∀ (lat : List Lt) (ab : List Ab) (ms : List Nat) (bc : Nat), SkA S X L n tr lat ab ms bc → bc ≤ 63 * ab.length
  | [], _, _, _, h => by rw [h.2.2]; exact Nat.zero_le _
  | it :: r, ab, ms, bc, ⟨m, ms', _, _, _, _, hc⟩ => by
    rcases hc with ⟨c1, c2, v, cxb, ab', st, d1, d2, d3, d4, d5, d6, d7, d8⟩ | ⟨c1, c2, c3⟩ | ⟨c1, c2, c3, c4, c5, c6⟩
    · have := SkA_bc r ab' ms' st d8
      have hl : ab.length = ab'.length + 1 := by rw [d1]; rfl
      omega
    · exact SkA_bc r ab ms' bc c3
    · exact SkA_bc r ab ms' bc c6
/-- the ids that the stages speak of are trees that are there -/
theorem SkA.ab {S : St} {X L : Nat → Nat} {n : Nat} {tr : List Te} (hT : TrR S L n tr) (hL : ∀ i, L i < n) : ∀ (lat : List Lt) (ab : List Ab) (ms : List Nat) (bc : Nat), bc ≤ S.2.2.2.2.1 → SkA S X L n tr lat ab ms bc → AbC S X n ab
  | [], ab, _, _, _, h => by rw [h.1]; trivial
  | it :: r, ab, ms, bc, hb, ⟨m, ms', e1, e2, e3, e4, hc⟩ => by
    obtain ⟨t1, t2⟩ := TrR_ids tr L n (tr.length - m) hT hL
    rcases hc with ⟨c1, c2, v, cxb, ab', st, d1, d2, d3, d4, d5, d6, d7, d8⟩ | ⟨c1, c2, c3⟩ | ⟨c1, c2, c3, c4, c5, c6⟩
    · rw [d1]
      refine ⟨⟨d2.1, d3, st, (ctxAt L n tr m).1, d4, by show st + X v ≤ _; omega, fun i hi => ⟨d6 i hi, ?_, ?_⟩⟩, SkA.ab hT hL r ab' ms' st (by omega) d8⟩
      · have := t1 i
        unfold ctxAt
        omega
      · show _ = cxb i
        rw [d7]
    · exact SkA.ab hT hL r ab ms' bc hb c3
    · exact SkA.ab hT hL r ab ms' bc hb c6
/-- a state of the class's walk -/
def WK (S : St) (X : Nat → Nat) (c : Cf) (tr : List Te) (ms : List Nat) (L : Nat → Nat) (n vs : Nat) : Prop := ∃ D bc, CX S D L n tr vs ∧ c.2.2.1 = (fun i => tv S (L i)) ∧ S.1 124 = nI (4 * c.1 + c.2.1) ∧ S.1 123 = nI c.2.2.2.2.2.length ∧ TdC S c.2.2.2.2.2 ∧ c.2.2.2.2.2.length ≤ 4000 ∧ S.1 130 = nI c.2.2.2.1.length ∧ c.2.2.2.1.length ≤ c.2.2.2.2.2.length ∧ S.1 133 = nI c.2.2.2.2.1.length ∧ S.1 135 = nI bc ∧ bc ≤ 63 * c.2.2.2.2.1.length ∧ c.2.2.2.2.1.length ≤ c.2.2.2.1.length ∧ bc ≤ S.2.2.2.2.1 ∧ SkA S X L n tr c.2.2.2.1 c.2.2.2.2.1 ms bc ∧ RmC S
abbrev WI : List Nat := [22, 27, 105, 123, 124, 130, 133, 135]
abbrev WA : List Nat := [21, 23, 24, 25, 26, 100, 101, 102, 103, 104, 122, 127, 128, 129, 131, 132, 134]
theorem X6_push {S : St} {N t w f : Nat} {tr : List Te} (h130 : S.1 130 = nI t) (h27 : S.1 27 = nI tr.length) (ht : t < 4000) : ∃ S', fX6_push N S (nI f) (nI w) = some S' ∧ Fr S S' [130] [127, 128, 129] ∧ S'.1 130 = nI (t + 1) ∧ S'.2.1 127 t = nI f ∧ S'.2.1 128 t = nI w ∧ S'.2.1 129 t = nI tr.length ∧ (∀ j, j < t → S'.2.1 127 j = S.2.1 127 j ∧ S'.2.1 128 j = S.2.1 128 j ∧ S'.2.1 129 j = S.2.1 129 j) := by
  unfold fX6_push
  rw [h130, show (4000 : Int32) = nI 4000 from rfl, if_neg (fun q => absurd ((nI_leI (by omega) (by omega)).mp q) (by omega)), ckx_ok (vp_in_nI (by omega) (by omega)), bnd_eq, nI_clamp (by omega)]
  obtain ⟨S3, e3⟩ : ∃ z, z = sA S 127 (upd (S.2.1 127) t (nI f)) := ⟨_, rfl⟩
  rw [← e3]
  have z3 : S3.1 130 = nI t := by rw [e3]; exact h130
  rw [z3, ckx_ok (vp_in_nI (by omega) (by omega)), bnd_eq, nI_clamp (by omega)]
  obtain ⟨S5, e5⟩ : ∃ z, z = sA S3 128 (upd (S3.2.1 128) t (nI w)) := ⟨_, rfl⟩
  rw [← e5]
  have z5 : S5.1 130 = nI t := by rw [e5]; exact z3
  have ch : fX1_changes N S5 = some (nI tr.length, S5) := by
    unfold fX1_changes
    have : S5.1 27 = nI tr.length := by rw [e5, e3]; exact h27
    rw [this]
  rw [bd2_ok ch, z5, ckx_ok (vp_in_nI (by omega) (by omega)), bnd_eq, bnd_eq, nI_clamp (by omega)]
  obtain ⟨S11, e11⟩ : ∃ z, z = sI (sA S5 129 (upd (S5.2.1 129) t (nI tr.length))) 130 ((sA S5 129 (upd (S5.2.1 129) t (nI tr.length))).1 130 + 1) := ⟨_, rfl⟩
  rw [← e11]
  have w1 : S11.2.1 127 = upd (S.2.1 127) t (nI f) := by rw [e11, e5, e3]; rfl
  have w2 : S11.2.1 128 = upd (S.2.1 128) t (nI w) := by rw [e11, e5, e3]; rfl
  have w3 : S11.2.1 129 = upd (S.2.1 129) t (nI tr.length) := by rw [e11, e5, e3]; rfl
  refine ⟨S11, rfl, by rw [e11, e5, e3]; exact (((Fr.A (by decide)).trans (Fr.A (by decide))).trans (Fr.A (by decide))).trans (Fr.I (by decide)), ?_, by rw [w1, upd_at, if_pos rfl], by rw [w2, upd_at, if_pos rfl], by rw [w3, upd_at, if_pos rfl], fun j hj => ?_⟩
  · rw [e11]
    show S5.1 130 + 1 = _
    rw [z5, nI_1]
  · rw [w1, w2, w3, upd_at, upd_at, upd_at, if_neg (by omega), if_neg (by omega), if_neg (by omega)]
    exact ⟨rfl, rfl, rfl⟩
/-- into an application by port 1 -/
theorem X6_app {S : St} {N w : Nat} {X : Nat → Nat} {c : Cf} {tr : List Te} {ms : List Nat} {L : Nat → Nat} {n vs : Nat} (h : WK S X c tr ms L n vs) (hw : w < 3002) : (4000 ≤ c.2.2.2.2.2.length → fX6_readApplication N S (nI w) = some (3, S)) ∧ (c.2.2.2.2.2.length < 4000 → ∃ S', fX6_readApplication N S (nI w) = some (6, S') ∧ FrW S S' WI WA ∧ tv S' = tv S ∧ WK S' X (w, 0, c.2.2.1, (0, w, c.2.2.1) :: c.2.2.2.1, c.2.2.2.2.1, 40 :: c.2.2.2.2.2) tr (tr.length :: ms) L n vs) := by
  obtain ⟨D, bc, h1, h2, h3, h4, h5, h6, h7, h8, h9, h10, h11, h12, h13, h14, h15⟩ := h
  obtain ⟨t1, t2⟩ := X6_tell (N := N) (c := 40) h4 h5 (by decide) h6
  refine ⟨fun c1 => ?_, fun c1 => ?_⟩
  · unfold fX6_readApplication
    have : fX6_tell N S 40 = some (0, S) := t2 c1
    rw [bd2_ok this, if_pos rfl]
  · obtain ⟨S1, a1, a2, a3, a4⟩ := t1 c1
    obtain ⟨S2, b1, b2, b3, b4, b5, b6, b7⟩ := X6_push (N := N) (w := w) (f := 1) (tr := tr) (t := c.2.2.2.1.length) (by rw [a2.1 130 (by decide)]; exact h7) (by rw [a2.1 27 (by decide)]; exact h1.2.2.1) (by omega)
    have f3 : Fr S2 (sI S2 124 (nI (4 * w + 0))) [124] [] := Fr.I (by decide)
    have F : FrW S (sI S2 124 (nI (4 * w + 0))) [123, 124, 130] [122, 127, 128, 129] := ((a2.w.mono (by decide) (by decide)).trans (b2.w.mono (by decide) (by decide))).trans (f3.w.mono (by decide) (fun _ h => (List.not_mem_nil h).elim))
    have etv : tv (sI S2 124 (nI (4 * w + 0))) = tv S := tv_fr F (by decide)
    have tail : (sI S2 124 (nI (4 * w + 0))).2.2 = S.2.2 := by rw [f3.2.2, b2.2.2, a2.2.2]
    refine ⟨_, ?_, F.mono (by decide) (by decide), etv, D, bc, h1.fr F (by decide) (by decide), by rw [etv]; exact h2, rfl, ?_, ?_, ?_, ?_, ?_, by rw [F.1 133 (by decide)]; exact h9, by rw [F.1 135 (by decide)]; exact h10, h11, ?_, by rw [tail]; exact h13, ⟨tr.length, ms, rfl, Nat.le_refl _, SkA.ms _ _ _ _ h14, ?_, Or.inr (Or.inr ⟨rfl, ?_, hw, ?_, ?_, SkA.of _ _ _ _ (fun j hj => ?_) (fun j _ => ⟨by rw [F.2.1 131 (by decide)], by rw [F.2.1 132 (by decide)]⟩) (fun j _ => by rw [F.2.1 134 (by decide)]) (fun m hm => ⟨SkA.ms _ _ _ _ h14 m hm, rfl, fun i => by rw [etv]⟩) h14⟩)⟩, h15.of tail⟩
    · unfold fX6_readApplication
      have a1' : fX6_tell N S 40 = some (1, S1) := a1
      have b1' : fX6_push N S1 1 (nI w) = some S2 := b1
      have lb : fX6_leaveBy N S2 (nI w) 0 = some (6, sI S2 124 (nI (4 * w + 0))) := X6_leaveBy
      rw [bd2_ok a1', if_neg (by decide), bdo_ok b1', bd2_ok lb]
    · rw [f3.1 123 (by decide), b2.1 123 (by decide)]; exact a3
    · exact TdC.of _ (fun j _ => by rw [f3.2.1 122 (by decide), b2.2.1 122 (by decide)]) a4
    · show c.2.2.2.2.2.length + 1 ≤ 4000; omega
    · rw [f3.1 130 (by decide)]; exact b3
    · show c.2.2.2.1.length + 1 ≤ c.2.2.2.2.2.length + 1; omega
    · show c.2.2.2.2.1.length ≤ c.2.2.2.1.length + 1; omega
    · rw [f3.2.1 129 (by decide)]; exact b6
    · rw [f3.2.1 127 (by decide)]; exact b4
    · rw [f3.2.1 128 (by decide)]; exact b5
    · rw [ctxAt_top, etv]; exact h2
    · obtain ⟨g1, g2, g3⟩ := b7 j hj
      rw [f3.2.1 127 (by decide), f3.2.1 128 (by decide), f3.2.1 129 (by decide), g1, g2, g3, a2.2.1 127 (by decide), a2.2.1 128 (by decide), a2.2.1 129 (by decide)]
      exact ⟨rfl, rfl, rfl⟩
/-- into an abstraction by port 0 -/
theorem X6_abs {S : St} {N w : Nat} {X : Nat → Nat} {c : Cf} {tr : List Te} {ms : List Nat} {L : Nat → Nat} {n vs : Nat} (hN : Big N) (hO : COk S) (hX : X w = cX S w) (k0 : cK S w = 0) (h : WK S X c tr ms L n vs) (hw : w < 3002) : (4000 ≤ c.2.2.2.2.2.length → fX6_readAbstraction N S (nI w) = some (3, S)) ∧ (c.2.2.2.2.2.length < 4000 → ∃ S', fX6_readAbstraction N S (nI w) = some (6, S') ∧ FrW S S' WI WA ∧ WK S' X (w, 1, c.2.2.1, (1, 0, (fun _ => 0)) :: c.2.2.2.1, (w, c.2.2.1) :: c.2.2.2.2.1, 92 :: c.2.2.2.2.2) tr (tr.length :: ms) L n vs) := by
  obtain ⟨D, bc, h1, h2, h3, h4, h5, h6, h7, h8, h9, h10, h11, h12, h13, h14, h15⟩ := h
  obtain ⟨t1, t2⟩ := X6_tell (N := N) (c := 92) h4 h5 (by decide) h6
  refine ⟨fun c1 => ?_, fun c1 => ?_⟩
  · unfold fX6_readAbstraction
    have : fX6_tell N S 92 = some (0, S) := t2 c1
    rw [bd2_ok this, if_pos rfl]
  · obtain ⟨S1, a1, a2, a3, a4⟩ := t1 c1
    have x63 : X w ≤ 63 := by rw [hX]; exact ((hO.1 w hw).2.2 (by omega)).2
    obtain ⟨b, eb⟩ : ∃ b, b = c.2.2.2.2.1.length := ⟨_, rfl⟩
    rw [← eb] at h9 h11 h12
    have z133 : S1.1 133 = nI b := by rw [a2.1 133 (by decide)]; exact h9
    have z135 : S1.1 135 = nI bc := by rw [a2.1 135 (by decide)]; exact h10
    obtain ⟨S7, e7⟩ : ∃ z, z = sA S1 131 (upd (S1.2.1 131) b (nI w)) := ⟨_, rfl⟩
    obtain ⟨S9, e9⟩ : ∃ z, z = sA S7 132 (upd (S7.2.1 132) b (nI bc)) := ⟨_, rfl⟩
    obtain ⟨S10, e10⟩ : ∃ z, z = sI S9 133 (nI (b + 1)) := ⟨_, rfl⟩
    have f10 : Fr S1 S10 [133] [131, 132] := by rw [e10, e9, e7]; exact ((Fr.A (by decide)).trans (Fr.A (by decide))).trans (Fr.I (by decide))
    have w131 : S10.2.1 131 = upd (S1.2.1 131) b (nI w) := by rw [e10, e9, e7]; rfl
    have w132 : S10.2.1 132 = upd (S1.2.1 132) b (nI bc) := by rw [e10, e9, e7]; rfl
    have F10 : FrW S S10 [123, 133] [122, 131, 132] := (a2.w.mono (by decide) (by decide)).trans (f10.w.mono (by decide) (by decide))
    have ix : fX2_indexOf N S10 (nI w) = some (nI (X w), S10) := by
      have o10 : COk S10 := by
        have g := gc_same (S := S) (S' := S10) (F10.2.1 40 (by decide)) (F10.2.1 41 (by decide)) (F10.2.1 42 (by decide))
        unfold COk
        rw [g.1, g.2.1, g.2.2.2.2, F10.2.1 40 (by decide), F10.2.1 41 (by decide), F10.2.1 42 (by decide)]
        exact hO
      have k10 : cK S10 = cK S := by funext v; unfold cK; rw [F10.2.1 40 (by decide)]
      have x10 : cX S10 = cX S := by funext v; unfold cX; rw [F10.2.1 41 (by decide)]
      rw [X2_indexOf o10 hw (by rw [k10]; omega), x10, hX]
    have tail10 : S10.2.2 = S.2.2 := by rw [f10.2.2, a2.2.2]
    obtain ⟨S16, g1, g2, g3, g4, g5, g6, g7, g8⟩ := X6_keepLevels (S := S10) (N := N) (bc := bc) (k := X w) hN x63 (h1.2.1.of (F10.1 22 (by decide)) (F10.2.1 21 (by decide))) (by rw [f10.1 135 (by decide)]; exact z135) (by omega) (by rw [tail10]; exact h13) (h15.of tail10)
    obtain ⟨S19, b1, b2, b3, b4, b5, b6, b7⟩ := X6_push (S := S16) (N := N) (w := w) (f := 0) (tr := tr) (t := c.2.2.2.1.length) (by rw [g2.1 130 (by decide), F10.1 130 (by decide)]; exact h7) (by rw [g2.1 27 (by decide), F10.1 27 (by decide)]; exact h1.2.2.1) (by omega)
    have f3 : Fr S19 (sI S19 124 (nI (4 * w + 1))) [124] [] := Fr.I (by decide)
    have F : FrW S (sI S19 124 (nI (4 * w + 1))) [123, 124, 130, 133, 135] [122, 127, 128, 129, 131, 132, 134] := (((F10.mono (by decide) (by decide)).trans (g2.mono (by decide) (by decide))).trans (b2.w.mono (by decide) (by decide))).trans (f3.w.mono (by decide) (fun _ h => (List.not_mem_nil h).elim))
    have etv : tv (sI S19 124 (nI (4 * w + 1))) = tv S := tv_fr F (by decide)
    have tail : (sI S19 124 (nI (4 * w + 1))).2.2 = S16.2.2 := by rw [f3.2.2, b2.2.2]
    have v131 : (sI S19 124 (nI (4 * w + 1))).2.1 131 = upd (S.2.1 131) b (nI w) := by rw [f3.2.1 131 (by decide), b2.2.1 131 (by decide), g2.2.1 131 (by decide), w131, a2.2.1 131 (by decide)]
    have v132 : (sI S19 124 (nI (4 * w + 1))).2.1 132 = upd (S.2.1 132) b (nI bc) := by rw [f3.2.1 132 (by decide), b2.2.1 132 (by decide), g2.2.1 132 (by decide), w132, a2.2.1 132 (by decide)]
    have v134 : (sI S19 124 (nI (4 * w + 1))).2.1 134 = S16.2.1 134 := by rw [f3.2.1 134 (by decide), b2.2.1 134 (by decide)]
    refine ⟨_, ?_, F.mono (by decide) (by decide), D, bc + X w, h1.fr F (by decide) (by decide), by rw [etv]; exact h2, rfl, ?_, ?_, ?_, ?_, ?_, ?_, ?_, ?_, ?_, by rw [tail]; exact g6, ⟨tr.length, ms, rfl, Nat.le_refl _, SkA.ms _ _ _ _ h14, ?_, Or.inl ⟨rfl, ?_, w, c.2.2.1, c.2.2.2.2.1, bc, rfl, ⟨hw, x63⟩, ?_, ?_, rfl, fun i hi => ?_, ?_, SkA.of _ _ _ _ (fun j hj => ?_) (fun j hj => ?_) (fun j hj => ?_) (fun m hm => ⟨SkA.ms _ _ _ _ h14 m hm, rfl, fun i => by rw [etv]⟩) h14⟩⟩, g8.of tail⟩
    · unfold fX6_readAbstraction
      have a1' : fX6_tell N S 92 = some (1, S1) := a1
      have b1' : fX6_push N S16 0 (nI w) = some S19 := b1
      have lb : fX6_leaveBy N S19 (nI w) 1 = some (6, sI S19 124 (nI (4 * w + 1))) := X6_leaveBy
      rw [bd2_ok a1', if_neg (by decide), z133, show (4000 : Int32) = nI 4000 from rfl, if_pos (nI_lt (by omega) (by omega)), ckx_ok (vp_in_nI (by omega) (by omega)), bnd_eq, nI_clamp (by omega), ← e7]
      have y133 : S7.1 133 = nI b := by rw [e7]; exact z133
      have y135 : S7.1 135 = nI bc := by rw [e7]; exact z135
      rw [y133, y135, ckx_ok (vp_in_nI (by omega) (by omega)), bnd_eq, nI_clamp (by omega), ← e9, bnd_eq]
      have x133 : S9.1 133 = nI b := by rw [e9]; exact y133
      rw [x133, nI_1, ← e10, bd2_ok ix, bdo_ok g1, bdo_ok b1', bd2_ok lb]
    · rw [f3.1 123 (by decide), b2.1 123 (by decide), g2.1 123 (by decide), f10.1 123 (by decide)]; exact a3
    · exact TdC.of _ (fun j _ => by rw [f3.2.1 122 (by decide), b2.2.1 122 (by decide), g2.2.1 122 (by decide), f10.2.1 122 (by decide)]) a4
    · show c.2.2.2.2.2.length + 1 ≤ 4000; omega
    · rw [f3.1 130 (by decide)]; exact b3
    · show c.2.2.2.1.length + 1 ≤ c.2.2.2.2.2.length + 1; omega
    · rw [f3.1 133 (by decide), b2.1 133 (by decide), g2.1 133 (by decide), e10]
      show nI (b + 1) = nI (c.2.2.2.2.1.length + 1)
      rw [eb]
    · rw [f3.1 135 (by decide), b2.1 135 (by decide)]; exact g3
    · show bc + X w ≤ 63 * (c.2.2.2.2.1.length + 1)
      omega
    · show c.2.2.2.2.1.length + 1 ≤ c.2.2.2.1.length + 1; omega
    · rw [f3.2.1 129 (by decide)]; exact b6
    · rw [f3.2.1 127 (by decide)]; exact b4
    · rw [v131, ← eb, upd_at, if_pos rfl]
    · rw [v132, ← eb, upd_at, if_pos rfl]
    · rw [v134, ctxAt_top]; exact g5 i hi
    · rw [ctxAt_top, etv]; exact h2
    · obtain ⟨q1, q2, q3⟩ := b7 j hj
      rw [f3.2.1 127 (by decide), f3.2.1 128 (by decide), f3.2.1 129 (by decide), q1, q2, q3, g2.2.1 127 (by decide), g2.2.1 128 (by decide), g2.2.1 129 (by decide), F10.2.1 127 (by decide), F10.2.1 128 (by decide), F10.2.1 129 (by decide)]
      exact ⟨rfl, rfl, rfl⟩
    · rw [v131, v132, upd_at, upd_at, if_neg (by omega), if_neg (by omega)]
      exact ⟨rfl, rfl⟩
    · rw [v134, g4 j hj, F10.2.1 134 (by decide)]
