/-! levels of wires -/
def LbN (G : Gr) (L : Nat → Nat → Nat) (v : Nat) : Prop :=
  (G.1 v = 0 ∨ G.1 v = 1 → L v 0 = G.2.1 v ∧ L v 1 = G.2.1 v ∧ L v 2 = G.2.1 v + 1) ∧
  (G.1 v = 2 → L v 1 = L v 0 ∧ L v 2 = L v 0 ∧ G.2.1 v + 1 ≤ L v 0) ∧
  (G.1 v = 3 → L v 0 = L v 1 + 1 ∧ G.2.1 v ≤ L v 1) ∧
  (G.1 v = 4 → L v 1 = L v 0 + 1 ∧ G.2.1 v + 1 ≤ L v 0) ∧
  (G.1 v = 6 → L v 0 = 0)
def LbG (n : Nat) (G : Gr) (L : Nat → Nat → Nat) : Prop := (∀ v, v < n → LbN G L v) ∧ ∀ v k, v < n → k < nP (G.1 v) → L (G.2.2.1 v k) (G.2.2.2 v k) = L v k
def LB (n : Nat) (G : Gr) : Prop := ∃ L, LbG n G L
/-- from port 0 of a control to another -/
theorem LbN.aux {G : Gr} {L : Nat → Nat → Nat} {c a : Nat} (h : LbN G L c) (hc : isC (G.1 c)) (ha : auxC (G.1 c) a) : (G.1 c = 2 → L c a = L c 0) ∧ (G.1 c = 3 → L c 0 = L c a + 1) ∧ (G.1 c = 4 → L c a = L c 0 + 1) ∧ G.2.1 c + 1 ≤ L c 0 := by
  obtain ⟨-, h2, h3, h4, -⟩ := h
  refine ⟨fun e => ?_, fun e => ?_, fun e => ?_, ?_⟩
  · rcases ha with q | q
    · rw [q]; exact (h2 e).1
    · rw [q.2]; exact (h2 e).2.1
  · have : a = 1 := ha.resolve_right (fun q => by omega)
    rw [this]; exact (h3 e).1
  · have : a = 1 := ha.resolve_right (fun q => by omega)
    rw [this]; exact (h4 e).1
  · rcases hc with e | e | e
    · exact (h2 e).2.2
    · have := h3 e; omega
    · exact (h4 e).2
theorem LB_join {n : Nat} {G G' : Gr} {L : Nat → Nat → Nat} {l r : Nat} (hJ : JH n G l r) (hX : JX n G l r G') (hm : mOf G l r < 2) (h : LbG n G L) : LbG n G' L := by
  obtain ⟨hN, hW⟩ := h
  obtain ⟨hG, hl, hr, hlr, hw, hn, hp⟩ := id hJ
  obtain ⟨mx, mk⟩ := mOf_lt hm
  -- the two have the same at the same ports
  have w0 : L l 0 = L r 0 := by
    have := hW l 0 hl hp
    rw [hw.1, hw.2.1] at this
    exact this.symm
  have eq : ∀ q, q < nP (G.1 l) → L l q = L r q := by
    intro q hq
    have nl := hN l hl
    have nr := hN r hr
    rcases mk with (⟨a, b⟩ | ⟨a, b⟩) | ⟨a, b⟩
    · have e1 := nl.1 (Or.inl a)
      have e2 := nr.1 (Or.inr b)
      rw [a] at hq
      have hq : q < 3 := hq
      have : q = 0 ∨ q = 1 ∨ q = 2 := by omega
      rcases this with z | z | z <;> subst z <;> omega
    · have e1 := nl.1 (Or.inr a)
      have e2 := nr.1 (Or.inl b)
      rw [a] at hq
      have hq : q < 3 := hq
      have : q = 0 ∨ q = 1 ∨ q = 2 := by omega
      rcases this with z | z | z <;> subst z <;> omega
    · by_cases q0 : q = 0
      · rw [q0]; exact w0
      · have ha := aux_of a q0 hq
        have a1 := nl.aux a ha
        have a2 := nr.aux (by rw [← b]; exact a) (by rw [← b]; exact ha)
        rcases a with e | e | e
        · have := a1.1 e; have := a2.1 (by omega); omega
        · have := a1.2.1 e; have := a2.2.1 (by omega); omega
        · have := a1.2.2.1 e; have := a2.2.2.1 (by omega); omega
  have bn : ∀ (f : Nat) (p : Nat × Nat), p.1 < n → p.2 < nP (G.1 p.1) → L (bnc G l r f p).1 (bnc G l r f p).2 = L p.1 p.2 := by
    intro f
    induction f with
    | zero => intro p _ _; rfl
    | succ f ih =>
      intro p h1 h2
      have e1 : bnc G l r (f + 1) p = if p.1 = l then bnc G l r f (G.2.2.1 r p.2, G.2.2.2 r p.2) else if p.1 = r then bnc G l r f (G.2.2.1 l p.2, G.2.2.2 l p.2) else p := rfl
      rw [e1]
      by_cases c1 : p.1 = l
      · rw [if_pos c1]
        rw [c1] at h2
        have h2r : p.2 < nP (G.1 r) := by rw [← hn]; exact h2
        obtain ⟨g1, g2, -⟩ := hG.1 r p.2 hr h2r
        rw [ih _ g1 g2, hW r p.2 hr h2r, c1, eq _ h2]
      · rw [if_neg c1]
        by_cases c2 : p.1 = r
        · rw [if_pos c2]
          rw [c2] at h2
          have h2l : p.2 < nP (G.1 l) := by rw [hn]; exact h2
          obtain ⟨g1, g2, -⟩ := hG.1 l p.2 hl h2l
          rw [ih _ g1 g2, hW l p.2 hl h2l, c2, eq _ h2l]
        · rw [if_neg c2]
  refine ⟨fun v hv => ?_, fun v k hv hk => ?_⟩
  · by_cases vl : v = l
    · unfold LbN; rw [vl, hX.2.1]
      exact ⟨fun q => by omega, fun q => by omega, fun q => by omega, fun q => by omega, fun q => by omega⟩
    · by_cases vr : v = r
      · unfold LbN; rw [vr, hX.2.2]
        exact ⟨fun q => by omega, fun q => by omega, fun q => by omega, fun q => by omega, fun q => by omega⟩
      · obtain ⟨a1, a2, -⟩ := hX.1 v hv vl vr
        have := hN v hv
        unfold LbN at this ⊢
        rw [a1, a2]
        exact this
  · have v7 := nP_7 (Nat.lt_of_le_of_lt (Nat.zero_le _) hk)
    have vl : v ≠ l := fun e => by rw [e, hX.2.1] at v7; omega
    have vr : v ≠ r := fun e => by rw [e, hX.2.2] at v7; omega
    obtain ⟨a1, -, a3⟩ := hX.1 v hv vl vr
    rw [a1] at hk
    have e := (a3 k hk).1
    have e1 : G'.2.2.1 v k = (bnc G l r 5 (G.2.2.1 v k, G.2.2.2 v k)).1 := congrArg Prod.fst e
    have e2 : G'.2.2.2 v k = (bnc G l r 5 (G.2.2.1 v k, G.2.2.2 v k)).2 := congrArg Prod.snd e
    obtain ⟨g1, g2, -⟩ := hG.1 v k hv hk
    rw [e1, e2, bn 5 _ g1 g2]
    exact hW v k hv hk
theorem LB_erase {n : Nat} {G G' : Gr} (hG : GVr n G) (hG' : GVr n G') (hE : ESp n G G') {L : Nat → Nat → Nat} (h : LbG n G L) : ∃ L', LbG n G' L' ∧ ∀ v k, G'.1 v ≠ 5 → L' v k = L v k := by
  obtain ⟨hN, hW⟩ := h
  refine ⟨fun v k => if G'.1 v = 5 then L (G'.2.2.1 v 0) (G'.2.2.2 v 0) else L v k, ⟨fun v hv => ?_, fun v k hv hk => ?_⟩, fun v k h5 => if_neg h5⟩
  · by_cases k5 : G'.1 v = 5
    · unfold LbN; rw [k5]
      exact ⟨fun q => by omega, fun q => by omega, fun q => by omega, fun q => by omega, fun q => by omega⟩
    · by_cases lvv : G'.1 v < 5 ∨ G'.1 v = 6
      · have s := hE.2.1 v hv lvv
        obtain ⟨a1, a2, -⟩ := hE.1 v s
        have := hN v hv
        unfold LbN at this ⊢
        dsimp only
        rw [if_neg k5, if_neg k5, if_neg k5, a1, a2]
        exact this
      · unfold LbN
        exact ⟨fun q => by omega, fun q => by omega, fun q => by omega, fun q => by omega, fun q => by omega⟩
  · have v7 := nP_7 (Nat.lt_of_le_of_lt (Nat.zero_le _) hk)
    obtain ⟨g1, g2, g3, g4, -⟩ := hG'.1 v k hv hk
    dsimp only
    by_cases k5 : G'.1 v = 5
    · rw [if_pos k5]
      have k0 : k = 0 := by rw [k5] at hk; have : k < 1 := hk; omega
      subst k0
      rw [if_neg (hE.2.2 v hv k5)]
    · rw [if_neg k5]
      have s := hE.2.1 v hv (by omega)
      obtain ⟨a1, -, a3⟩ := hE.1 v s
      by_cases w5 : G'.1 (G'.2.2.1 v k) = 5
      · rw [if_pos w5]
        have q0 : G'.2.2.2 v k = 0 := by rw [w5] at g2; have : G'.2.2.2 v k < 1 := g2; omega
        rw [q0] at g3 g4
        rw [g3, g4]
      · rw [if_neg w5]
        rw [a1] at hk
        obtain ⟨b1, b2⟩ := a3 k hk
        have ne : ¬ ern G (ES n G) v k := fun q => w5 (b1 q)
        rw [(b2 ne).1, (b2 ne).2]
        exact hW v k hv hk
noncomputable def LPs (G : Gr) (c u : Nat) (o lk : Nat → Nat) (L : Nat → Nat → Nat) (v k : Nat) : Nat :=
  @dite _ (∃ a, auxC (G.1 c) a ∧ v = o a) (Classical.propDecidable _) (fun h => L u k + L c (Classical.choose h) - L c 0) (fun _ => @dite _ (∃ j, (0 < j ∧ j < nP (G.1 u)) ∧ v = lk j) (Classical.propDecidable _) (fun h => L u (Classical.choose h) + L c k - L c 0) (fun _ => L v k))
theorem LPs_o {n : Nat} {G G' : Gr} {c u : Nat} {o lk : Nat → Nat} {L : Nat → Nat → Nat} (h : PX n G c u o lk G') {a : Nat} (ha : auxC (G.1 c) a) (k : Nat) : LPs G c u o lk L (o a) k = L u k + L c a - L c 0 := by
  have e : ∃ b, auxC (G.1 c) b ∧ o a = o b := ⟨a, ha, rfl⟩
  unfold LPs
  rw [dif_pos e]
  have s := Classical.choose_spec e
  rw [← h.2.2.2.2.1 _ _ ha s.1 s.2]
theorem LPs_l {n : Nat} {G G' : Gr} {c u : Nat} {o lk : Nat → Nat} {L : Nat → Nat → Nat} (h : PX n G c u o lk G') {j : Nat} (h0 : 0 < j) (hj : j < nP (G.1 u)) (k : Nat) : LPs G c u o lk L (lk j) k = L u j + L c k - L c 0 := by
  have e : ∃ i, (0 < i ∧ i < nP (G.1 u)) ∧ lk j = lk i := ⟨j, ⟨h0, hj⟩, rfl⟩
  have n1 : ¬ ∃ a, auxC (G.1 c) a ∧ lk j = o a := fun ⟨a, ha, e⟩ => h.2.2.2.1 a j ha h0 hj e.symm
  unfold LPs
  rw [dif_neg n1, dif_pos e]
  have s := Classical.choose_spec e
  rw [← h.2.2.2.2.2.1 _ _ h0 hj s.1.1 s.1.2 s.2]
theorem LPs_v {n : Nat} {G G' : Gr} {c u : Nat} {o lk : Nat → Nat} {L : Nat → Nat → Nat} (h : PX n G c u o lk G') {v : Nat} (hv : G.1 v ≠ 7) (k : Nat) : LPs G c u o lk L v k = L v k := by
  have n1 : ¬ ∃ a, auxC (G.1 c) a ∧ v = o a := fun ⟨a, ha, e⟩ => hv (by rw [e]; exact (h.2.1 a ha).2)
  have n2 : ¬ ∃ k, (0 < k ∧ k < nP (G.1 u)) ∧ v = lk k := fun ⟨k, hk, e⟩ => hv (by rw [e]; exact (h.2.2.1 k hk.1 hk.2).2)
  unfold LPs
  rw [dif_neg n1, dif_neg n2]
theorem LB_pass {n : Nat} {G G' : Gr} {c u : Nat} {o lk : Nat → Nat} (hG : GVr n G) (hcu : G.2.2.1 c 0 = u ∧ G.2.2.2 c 0 = 0 ∧ G.2.2.1 u 0 = c ∧ G.2.2.2 u 0 = 0) (hc : isC (G.1 c)) (lc : lv n G c) (lu : lv n G u) (hu : G.1 u < 5) (ne : c ≠ u) (hij : G.2.1 c < G.2.1 u) (hX : PX n G c u o lk G') (h5 : ∀ v, v < n → G'.1 v = 5 → G.1 v = 5) {L : Nat → Nat → Nat} (h : LbG n G L) : ∃ L', LbG n G' L' ∧ ∀ v k, G.1 v ≠ 7 → L' v k = L v k := by
  obtain ⟨hN, hW⟩ := h
  obtain ⟨hP, n1, n2, n3, n4, n5, n6, n7, n8⟩ := id hX
  have nc := hN c lc.1
  have nu := hN u lu.1
  have w0 : L u 0 = L c 0 := by
    have := hW c 0 lc.1 (lv_p lc)
    rw [hcu.1, hcu.2.1] at this
    exact this
  have ax := fun a (ha : auxC (G.1 c) a) => nc.aux hc ha
  -- each port of u is above c
  have up : ∀ k, k < nP (G.1 u) → G.2.1 c + 1 ≤ L u k ∧ 1 ≤ L u k := by
    intro k hk
    have : G.2.1 u ≤ L u k := by
      have cs : G.1 u = 0 ∨ G.1 u = 1 ∨ G.1 u = 2 ∨ G.1 u = 3 ∨ G.1 u = 4 := by omega
      rcases cs with e | e | e | e | e
      · rw [e] at hk
        have hk : k < 3 := hk
        have := nu.1 (Or.inl e)
        have : k = 0 ∨ k = 1 ∨ k = 2 := by omega
        rcases this with z | z | z <;> subst z <;> omega
      · rw [e] at hk
        have hk : k < 3 := hk
        have := nu.1 (Or.inr e)
        have : k = 0 ∨ k = 1 ∨ k = 2 := by omega
        rcases this with z | z | z <;> subst z <;> omega
      · rw [e] at hk
        have hk : k < 3 := hk
        have := nu.2.1 e
        have : k = 0 ∨ k = 1 ∨ k = 2 := by omega
        rcases this with z | z | z <;> subst z <;> omega
      · rw [e] at hk
        have hk : k < 2 := hk
        have := nu.2.2.1 e
        have : k = 0 ∨ k = 1 := by omega
        rcases this with z | z <;> subst z <;> omega
      · rw [e] at hk
        have hk : k < 2 := hk
        have := nu.2.2.2.1 e
        have : k = 0 ∨ k = 1 := by omega
        rcases this with z | z <;> subst z <;> omega
    omega
  -- labels through stn
  have stl : ∀ v k, v < n → k < nP (G.1 v) → ¬ (v = c ∧ k = 0) → ¬ (v = u ∧ k = 0) → LPs G c u o lk L (stn c u o lk (v, k)).1 (stn c u o lk (v, k)).2 = L v k := by
    intro v k hv hk m1 m2
    by_cases c1 : v = c
    · subst c1
      have ha := aux_of hc (fun q => m1 ⟨rfl, q⟩) hk
      rw [stn_c, LPs_o hX ha, w0]
      omega
    · by_cases c2 : v = u
      · subst c2
        rw [stn_u ne]
        show LPs G c v o lk L (lk k) 0 = L v k
        rw [LPs_l hX (Nat.pos_of_ne_zero (fun q => m2 ⟨rfl, q⟩)) hk]
        omega
      · rw [stn_o c1 c2]
        exact LPs_v hX (show G.1 v ≠ 7 by have := nP_7 (Nat.lt_of_le_of_lt (Nat.zero_le _) hk); omega) k
  -- a kept port's new wire
  have via : ∀ v k, v < n → k < nP (G.1 v) → ¬ (v = c ∧ k = 0) → ¬ (v = u ∧ k = 0) → LPs G c u o lk L (stn c u o lk (G.2.2.1 v k, G.2.2.2 v k)).1 (stn c u o lk (G.2.2.1 v k, G.2.2.2 v k)).2 = L v k := by
    intro v k hv hk m1 m2
    obtain ⟨⟨g1, g2, g3, g4⟩, -, -⟩ := kpt.w hG hcu ⟨hv, hk, m1, m2⟩
    rw [stl _ _ g1 g2 g3 g4]
    exact hW v k hv hk
  refine ⟨LPs G c u o lk L, ⟨fun v hv => ?_, fun v k hv hk => ?_⟩, fun v k h7 => LPs_v hX h7 k⟩
  · by_cases v5 : G'.1 v < 5 ∨ G'.1 v = 6
    · rcases n8 v ⟨hv, v5⟩ with ⟨p1, p2, p3⟩ | ⟨a, ha, e⟩ | ⟨j, j0, hj, e⟩
      · obtain ⟨a1, a2, -⟩ := hP.1 v hv p2 p3 (lv_p p1)
        have := hN v hv
        unfold LbN at this ⊢
        rw [a1, a2, LPs_v hX (lv_7 p1), LPs_v hX (lv_7 p1), LPs_v hX (lv_7 p1)]
        exact this
      · subst e
        obtain ⟨a1, a2, -⟩ := hP.2.1 a ha
        obtain ⟨x1, x2, x3, x4⟩ := ax a ha
        have u0 := up 0 (lv_p lu)
        unfold LbN at nu ⊢
        rw [a1, a2, LPs_o hX ha, LPs_o hX ha, LPs_o hX ha]
        have shc := sh_cases hc (G.2.1 u)
        obtain ⟨y1, y2, y3, y4, y5⟩ := nu
        have dl : (G.1 c = 2 ∧ L c a = L c 0) ∨ (G.1 c = 3 ∧ L c 0 = L c a + 1) ∨ (G.1 c = 4 ∧ L c a = L c 0 + 1) := by
          rcases hc with e | e | e
          · exact Or.inl ⟨e, x1 e⟩
          · exact Or.inr (Or.inl ⟨e, x2 e⟩)
          · exact Or.inr (Or.inr ⟨e, x3 e⟩)
        refine ⟨fun q => ?_, fun q => ?_, fun q => ?_, fun q => ?_, fun q => by omega⟩
        · have := y1 q; omega
        · have := y2 q; omega
        · have := y3 q; omega
        · have := y4 q; omega
      · subst e
        obtain ⟨a1, a2, -⟩ := hP.2.2 j j0 hj
        have u0 := up j hj
        unfold LbN at nc ⊢
        rw [a1, a2, LPs_l hX j0 hj, LPs_l hX j0 hj, LPs_l hX j0 hj]
        obtain ⟨y1, y2, y3, y4, y5⟩ := nc
        refine ⟨fun q => ?_, fun q => ?_, fun q => ?_, fun q => ?_, fun q => by rcases hc with e | e | e <;> omega⟩
        · rcases hc with e | e | e <;> omega
        · have := y2 q; omega
        · have := y3 q; omega
        · have := y4 q; omega
    · unfold LbN
      exact ⟨fun q => by omega, fun q => by omega, fun q => by omega, fun q => by omega, fun q => by omega⟩
  · have v7 := nP_7 (Nat.lt_of_le_of_lt (Nat.zero_le _) hk)
    have oldv : ∀ (hxc : v ≠ c) (hxu : v ≠ u) (_ : 0 < nP (G.1 v)), LPs G c u o lk L (G'.2.2.1 v k) (G'.2.2.2 v k) = LPs G c u o lk L v k := by
      intro hxc hxu h0
      obtain ⟨a1, -, a3⟩ := hP.1 v hv hxc hxu h0
      rw [a1] at hk
      have e := a3 k hk
      have e1 : G'.2.2.1 v k = (stn c u o lk (G.2.2.1 v k, G.2.2.2 v k)).1 := congrArg Prod.fst e
      have e2 : G'.2.2.2 v k = (stn c u o lk (G.2.2.1 v k, G.2.2.2 v k)).2 := congrArg Prod.snd e
      rw [e1, e2, via v k hv hk (fun q => hxc q.1) (fun q => hxu q.1), LPs_v hX (by have := nP_7 h0; omega)]
    by_cases x5 : G'.1 v = 5
    · have g5 := h5 v hv x5
      exact oldv (fun q => lv_5 lc (by rw [← q]; exact g5)) (fun q => lv_5 lu (by rw [← q]; exact g5)) (by rw [g5]; decide)
    · rcases n8 v ⟨hv, by omega⟩ with ⟨p1, p2, p3⟩ | ⟨a, ha, e⟩ | ⟨j, j0, hj, e⟩
      · exact oldv p2 p3 (lv_p p1)
      · subst e
        obtain ⟨a1, a2, a3, a4⟩ := hP.2.1 a ha
        rw [a1] at hk
        by_cases k0 : k = 0
        · subst k0
          have e1 : G'.2.2.1 (o a) 0 = (stn c u o lk (G.2.2.1 c a, G.2.2.2 c a)).1 := congrArg Prod.fst a3
          have e2 : G'.2.2.2 (o a) 0 = (stn c u o lk (G.2.2.1 c a, G.2.2.2 c a)).2 := congrArg Prod.snd a3
          rw [e1, e2, via c a lc.1 (auxC_lt hc ha).1 (fun q => (auxC_lt hc ha).2 q.2) (fun q => ne q.1), LPs_o hX ha, w0]
          omega
        · have kp := Nat.pos_of_ne_zero k0
          obtain ⟨b1, b2⟩ := a4 k kp hk
          rw [b1, b2, LPs_l hX kp hk, LPs_o hX ha]
      · subst e
        obtain ⟨a1, a2, a3, a4⟩ := hP.2.2 j j0 hj
        rw [a1] at hk
        by_cases k0 : k = 0
        · subst k0
          have e1 : G'.2.2.1 (lk j) 0 = (stn c u o lk (G.2.2.1 u j, G.2.2.2 u j)).1 := congrArg Prod.fst a3
          have e2 : G'.2.2.2 (lk j) 0 = (stn c u o lk (G.2.2.1 u j, G.2.2.2 u j)).2 := congrArg Prod.snd a3
          rw [e1, e2, via u j lu.1 hj (fun q => ne q.1.symm) (fun q => by omega), LPs_l hX j0 hj]
          omega
        · have ha := aux_of hc k0 hk
          obtain ⟨b1, b2⟩ := a4 k ha
          rw [b1, b2, LPs_o hX ha, LPs_l hX j0 hj]
