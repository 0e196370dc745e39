/-! the class: ports that are replaced -/
noncomputable def rho (nw : Nat → Nat → Nat) (D : Nat → Nat → Prop) (p : Pt) : Pt := @ite _ (D p.1 p.2) (Classical.propDecidable _) (nw p.1 p.2, 0) p
theorem rho_y {nw : Nat → Nat → Nat} {D : Nat → Nat → Prop} {p : Pt} (h : D p.1 p.2) : rho nw D p = (nw p.1 p.2, 0) := by
  unfold rho
  rw [if_pos h]
theorem rho_n {nw : Nat → Nat → Nat} {D : Nat → Nat → Prop} {p : Pt} (h : ¬ D p.1 p.2) : rho nw D p = p := by
  unfold rho
  rw [if_neg h]
/-- the new nodes for ports in D -/
def FD2 (S0 : St) (nw : Nat → Nat → Nat) (D : Nat → Nat → Prop) : Prop := (∀ v k, D v k → nw v k < 3002 ∧ cK S0 (nw v k) = 7) ∧ (∀ v k w j, D v k → D w j → nw v k = nw w j → v = w ∧ k = j)
def RhoI (S0 S : St) (c u : Nat) (nw : Nat → Nat → Nat) (D : Nat → Nat → Prop) : Prop := ∀ v k, kpt 3002 (Gc S0) c u v k → wf S (rho nw D (v, k)) = rho nw D (wf S0 (v, k))
theorem rho_cls {S0 : St} {c u : Nat} {nw : Nat → Nat → Nat} {D : Nat → Nat → Prop} (hF : FD2 S0 nw D) {v k : Nat} (h : kpt 3002 (Gc S0) c u v k) : (rho nw D (v, k)).1 < 3002 ∧ (rho nw D (v, k)).2 < 3 ∧ ((D v k ∧ (rho nw D (v, k)).2 = 0 ∧ cK S0 (rho nw D (v, k)).1 = 7) ∨ (¬ D v k ∧ rho nw D (v, k) = (v, k) ∧ cK S0 v < 7)) := by
  have hk : k < nP (cK S0 v) := h.2.1
  have v7 := nP_7 (Nat.lt_of_le_of_lt (Nat.zero_le _) hk)
  by_cases c : D v k
  · rw [rho_y c]
    exact ⟨(hF.1 v k c).1, by show 0 < 3; decide, Or.inl ⟨c, rfl, (hF.1 v k c).2⟩⟩
  · rw [rho_n c]
    exact ⟨h.1, Nat.lt_of_lt_of_le hk (nP_le _), Or.inr ⟨c, rfl, v7⟩⟩
theorem rho_inj {S0 : St} {c u : Nat} {nw : Nat → Nat → Nat} {D : Nat → Nat → Prop} (hF : FD2 S0 nw D) {v k w j : Nat} (hv : kpt 3002 (Gc S0) c u v k) (hw : kpt 3002 (Gc S0) c u w j) (e : rho nw D (v, k) = rho nw D (w, j)) : v = w ∧ k = j := by
  have v7 := nP_7 (Nat.lt_of_le_of_lt (Nat.zero_le _) (show k < nP (cK S0 v) from hv.2.1))
  have w7 := nP_7 (Nat.lt_of_le_of_lt (Nat.zero_le _) (show j < nP (cK S0 w) from hw.2.1))
  by_cases c : D v k
  · rw [rho_y c] at e
    by_cases d : D w j
    · rw [rho_y d] at e
      exact hF.2 v k w j c d (congrArg Prod.fst e)
    · rw [rho_n d] at e
      have : nw v k = w := congrArg Prod.fst e
      have q := (hF.1 v k c).2
      rw [this] at q; omega
  · rw [rho_n c] at e
    by_cases d : D w j
    · rw [rho_y d] at e
      have : v = nw w j := congrArg Prod.fst e
      have q := (hF.1 w j d).2
      rw [← this] at q; omega
    · rw [rho_n d] at e
      exact ⟨congrArg Prod.fst e, congrArg Prod.snd e⟩
/-- a port t of c or u is replaced by port 0 of z -/
theorem X3_rep {S0 S : St} {N c u s t1 t2 z : Nat} {nw : Nat → Nat → Nat} {D : Nat → Nat → Prop} (hV : GVr 3002 (Gc S0)) (hcu : cV S0 c 0 = u ∧ cP S0 c 0 = 0 ∧ cV S0 u 0 = c ∧ cP S0 u 0 = 0) (hF : FD2 S0 nw D) (hG : GC S) (hR : RcR S s) (hI : RhoI S0 S c u nw D) (ht : kpt 3002 (Gc S0) c u t1 t2) (hD : ¬ D t1 t2) (hz : z < 3002) (z7 : cK S0 z = 7) (zn : ∀ v k, D v k → z ≠ nw v k) :
    ∃ S' s', fX2_replace N S (nI (4 * t1 + t2)) (nI (4 * z + 0)) = some S' ∧ Fr S S' [48] [42, 46, 47] ∧ GC S' ∧ RcR S' s' ∧ s' ≤ s + 2 ∧ (∀ y, Rc S y → Rc S' y) ∧ RhoI S0 S' c u (fun v k => if v = t1 ∧ k = t2 then z else nw v k) (fun v k => D v k ∨ (v = t1 ∧ k = t2)) ∧ FD2 S0 (fun v k => if v = t1 ∧ k = t2 then z else nw v k) (fun v k => D v k ∨ (v = t1 ∧ k = t2)) ∧ (∀ p : Pt, p.2 < 4 → p.2 ≠ 0 → cK S0 p.1 = 7 → wf S' p = wf S p) ∧ ((¬ D (cV S0 t1 t2) (cP S0 t1 t2)) → cK S (cV S0 t1 t2) = 5 → Rc S' (cV S0 t1 t2)) := by
  obtain ⟨hw, iw1, iw2⟩ := kpt.w hV hcu ht
  have hw : kpt 3002 (Gc S0) c u (cV S0 t1 t2) (cP S0 t1 t2) := hw
  have iw1 : cV S0 (cV S0 t1 t2) (cP S0 t1 t2) = t1 := iw1
  have iw2 : cP S0 (cV S0 t1 t2) (cP S0 t1 t2) = t2 := iw2
  obtain ⟨b1, b2, b3⟩ := rho_cls hF hw
  have t4 : t2 < 4 := Nat.lt_of_lt_of_le (show t2 < nP (cK S0 t1) from ht.2.1) (Nat.le_trans (nP_le _) (by decide))
  -- what is at t now
  have et : wf S (t1, t2) = rho nw D (wf S0 (t1, t2)) := by
    have := hI t1 t2 ht
    rw [rho_n hD] at this
    exact this
  obtain ⟨x, ex⟩ : ∃ x, x = rho nw D (wf S0 (t1, t2)) := ⟨_, rfl⟩
  have b1 : x.1 < 3002 := by rw [ex]; exact b1
  have b2 : x.2 < 3 := by rw [ex]; exact b2
  have xz : x ≠ (z, 0) := by
    intro q
    rcases b3 with ⟨c1, -, -⟩ | ⟨c1, c2, c3⟩
    · have : x = (nw (cV S0 t1 t2) (cP S0 t1 t2), 0) := by rw [ex]; exact rho_y c1
      rw [this] at q
      exact zn _ _ c1 (congrArg Prod.fst q).symm
    · have : x = (cV S0 t1 t2, cP S0 t1 t2) := by rw [ex]; exact c2
      rw [this] at q
      have q1 : cV S0 t1 t2 = z := congrArg Prod.fst q
      rw [q1] at c3; omega
  obtain ⟨S', s', l1, l2, l3, l4, l5, l6, -, l7, -, l9⟩ := X2_link (N := N) (a := z) (i := 0) (b := x.1) (j := x.2) hG hR hz (by decide) b1 (by omega)
  have W : ∀ p : Pt, p.2 < 4 → wf S' p = if p = x then (z, 0) else if p = (z, 0) then x else wf S p := by
    intro p hp
    obtain ⟨q1, q2⟩ := l4 p.1 p.2 hp
    unfold wf
    by_cases c1 : p = x
    · rw [if_pos c1]
      rw [if_pos (by rw [c1]; exact ⟨rfl, rfl⟩)] at q1 q2
      rw [q1, q2]
    · rw [if_neg c1]
      rw [if_neg (fun e => c1 (Prod.ext e.1 e.2))] at q1 q2
      by_cases c2 : p = (z, 0)
      · rw [if_pos c2]
        rw [if_pos (by rw [c2]; exact ⟨rfl, rfl⟩)] at q1 q2
        rw [q1, q2]
      · rw [if_neg c2]
        rw [if_neg (fun e => c2 (Prod.ext e.1 e.2))] at q1 q2
        rw [q1, q2]
  -- the new renaming
  have rt : rho (fun v k => if v = t1 ∧ k = t2 then z else nw v k) (fun v k => D v k ∨ (v = t1 ∧ k = t2)) (t1, t2) = (z, 0) := by
    rw [rho_y (Or.inr ⟨rfl, rfl⟩)]
    show ((if t1 = t1 ∧ t2 = t2 then z else nw t1 t2), 0) = _
    rw [if_pos ⟨rfl, rfl⟩]
  have ro : ∀ p : Pt, p ≠ (t1, t2) → rho (fun v k => if v = t1 ∧ k = t2 then z else nw v k) (fun v k => D v k ∨ (v = t1 ∧ k = t2)) p = rho nw D p := by
    intro p hp
    have np : ¬ (p.1 = t1 ∧ p.2 = t2) := fun q => hp (Prod.ext q.1 q.2)
    by_cases c : D p.1 p.2
    · rw [rho_y (Or.inl c), rho_y c]
      show ((if p.1 = t1 ∧ p.2 = t2 then z else nw p.1 p.2), 0) = _
      rw [if_neg np]
    · rw [rho_n (fun q => q.elim c np), rho_n c]
  have hF' : FD2 S0 (fun v k => if v = t1 ∧ k = t2 then z else nw v k) (fun v k => D v k ∨ (v = t1 ∧ k = t2)) := by
    refine ⟨fun v k hd => ?_, fun v k w j h1 h2 e => ?_⟩
    · dsimp only
      by_cases q : v = t1 ∧ k = t2
      · rw [if_pos q]; exact ⟨hz, z7⟩
      · rw [if_neg q]; exact hF.1 v k (hd.resolve_right q)
    · dsimp only at e
      by_cases q : v = t1 ∧ k = t2
      · by_cases y : w = t1 ∧ j = t2
        · exact ⟨q.1.trans y.1.symm, q.2.trans y.2.symm⟩
        · rw [if_pos q, if_neg y] at e
          exact absurd e (zn w j (h2.resolve_right y))
      · by_cases y : w = t1 ∧ j = t2
        · rw [if_neg q, if_pos y] at e
          exact absurd e.symm (zn v k (h1.resolve_right q))
        · rw [if_neg q, if_neg y] at e
          exact hF.2 v k w j (h1.resolve_right q) (h2.resolve_right y) e
  refine ⟨S', s', ?_, l2, l3, l5, l6, l7, fun v k hv => ?_, hF', fun p p4 p0 p7 => ?_, fun nd k5 => ?_⟩
  · unfold fX2_replace
    have e4 : fX2_across N S (nI (4 * t1 + t2)) = some (nI (4 * x.1 + x.2), S) := by
      rw [X2_across hG.1 ht.1 t4]
      have : wf S (t1, t2) = x := et.trans ex.symm
      have h1 : cV S t1 t2 = x.1 := congrArg Prod.fst this
      have h2 : cP S t1 t2 = x.2 := congrArg Prod.snd this
      rw [h1, h2]
    rw [bd2_ok e4, bdo_ok l1]
  · obtain ⟨p1, p2, p3⟩ := rho_cls hF hv
    by_cases c1 : (v, k) = (t1, t2)
    · have c1' := c1
      rw [c1, rt, W _ (by show 0 < 4; decide), if_neg (fun q => xz q.symm), if_pos rfl]
      rw [ro _ (fun q => by
        have q1 : cV S0 t1 t2 = t1 := congrArg Prod.fst q
        have q2 : cP S0 t1 t2 = t2 := congrArg Prod.snd q
        exact (hV.1 t1 t2 ht.1 ht.2.1).2.2.2.2 ⟨q1, q2⟩)]
      exact ex
    · rw [ro _ c1]
      by_cases c2 : (v, k) = wf S0 (t1, t2)
      · have wv : wf S0 (v, k) = (t1, t2) := by rw [c2]; exact Prod.ext iw1 iw2
        rw [wv, rt, c2, ← ex, W _ (by omega), if_pos rfl]
      · have wv : wf S0 (v, k) ≠ (t1, t2) := fun q => c2 (by
          obtain ⟨-, -, g3, g4, -⟩ := hV.1 v k hv.1 hv.2.1
          have q1 : cV S0 v k = t1 := congrArg Prod.fst q
          have q2 : cP S0 v k = t2 := congrArg Prod.snd q
          have g3 : cV S0 (cV S0 v k) (cP S0 v k) = v := g3
          have g4 : cP S0 (cV S0 v k) (cP S0 v k) = k := g4
          rw [q1, q2] at g3 g4
          exact Prod.ext g3.symm g4.symm)
        rw [ro _ wv, W _ (by omega), if_neg (fun q => c2 ?_), if_neg (fun q => ?_)]
        · exact hI v k hv
        · rcases p3 with ⟨d1, -, -⟩ | ⟨-, d2, d3⟩
          · rw [rho_y d1] at q
            exact zn v k d1 (congrArg Prod.fst q).symm
          · rw [d2] at q
            have q1 : v = z := congrArg Prod.fst q
            rw [q1] at d3; omega
        · rw [ex] at q
          obtain ⟨y1, y2⟩ := rho_inj hF hv hw q
          exact Prod.ext y1 y2
  · rw [W p p4, if_neg (fun q => ?_), if_neg (fun q => p0 (congrArg Prod.snd q))]
    rcases b3 with ⟨c1, c2, -⟩ | ⟨-, c2, c3⟩
    · have : x.2 = 0 := by rw [ex]; exact c2
      rw [q] at p0; exact p0 this
    · have : x.1 = cV S0 t1 t2 := by rw [ex]; exact congrArg Prod.fst c2
      rw [q, this] at p7; omega
  · have : x = (cV S0 t1 t2, cP S0 t1 t2) := by rw [ex]; exact rho_n nd
    have e1 : x.1 = cV S0 t1 t2 := by rw [this]
    rw [e1] at l9
    exact l9 k5
/-- what isn't one of those ports may change -/
theorem RhoI.keep {S0 S S' : St} {c u : Nat} {nw : Nat → Nat → Nat} {D : Nat → Nat → Prop} (hF : FD2 S0 nw D) (h : RhoI S0 S c u nw D) (hw : ∀ p : Pt, p.2 < 4 → (p.2 = 0 ∨ cK S0 p.1 < 7) → wf S' p = wf S p) : RhoI S0 S' c u nw D := by
  intro v k hv
  obtain ⟨p1, p2, p3⟩ := rho_cls hF hv
  rw [hw _ (by omega) ?_]
  · exact h v k hv
  · rcases p3 with ⟨-, d2, -⟩ | ⟨-, d2, d3⟩
    · exact Or.inl d2
    · right
      rw [d2]; exact d3
