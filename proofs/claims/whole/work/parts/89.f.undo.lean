/-! the class's context: changes taken back -/
theorem X1_undo {S : St} {N D n vs : Nat} {L : Nat → Nat} {e : Te} {r : List Te} (hN : Big N) (h : CX S D L n (e :: r) vs) : ∃ S' D', fX1_undo N S = some S' ∧ Fr S S' XI XA ∧ CX S' D' e.2.1 e.2.2 r vs ∧ TExt S S' n := by
  have hroom := h.room
  obtain ⟨h1, h2, h3, h4, ⟨⟨x, old, a1, a2, a3, a4, a5, a6, a7, a8, a9, a10, a11, a12, a13⟩, hr⟩, h6, ⟨h7a, h7⟩, h8⟩ := h
  have hb := hN
  unfold Big at hb
  have hdb := DB_le h7
  have hlen : (e :: r).length = r.length + 1 := rfl
  rw [hlen] at h3 h4 h8
  obtain ⟨f, L0, n0⟩ := e
  dsimp only at a1 a2 a3 a4 a5 a6 a7 a8 a9 a10 a11 a12 a13 hr ⊢
  rw [dT_c, aT_c] at h6 h7a
  have hL := h2.2.2.2.2.1
  have hn4 := h1.2.2.1
  unfold fX1_undo
  rw [h3, show (1 : Int32) = nI 1 from rfl, if_neg (nI_nlt (by omega) (by omega)), show (4000 : Int32) = nI 4000 from rfl, if_pos (nI_le (by omega) (by omega)), bnd_eq, pk_sub (by omega), Nat.add_sub_cancel]
  obtain ⟨S3, e3⟩ : ∃ z, z = sI S 27 (nI r.length) := ⟨_, rfl⟩
  rw [← e3]
  have f3 : Fr S S3 [27] [] := by rw [e3]; exact Fr.I (by decide)
  have z27 : S3.1 27 = nI r.length := by rw [e3]; rfl
  have x2 : S3.2 = S.2 := by rw [e3]; rfl
  have c3 : CtR S3 D L n := h2.of (f3.1 22 (by decide)) (by rw [x2])
  have t3 : TrC S3 n := h1.fr f3 (by decide) (by decide)
  rw [z27, ckx_ok (vp_in_nI (by omega) (by omega)), bnd_eq, nI_clamp (by omega), ckx_ok (vp_in_nI (by omega) (by omega)), bnd_eq, ckx_ok (vp_in_nI (by omega) (by omega)), x2, a3, a5, a1]
  -- the cut
  have fin : ∀ (S2 : St) (D' : Nat), Fr S3 S2 [22] [21] → CtR S2 D' L0 n → D' + dT r ≤ 64 + vs + aT r → ∃ S' D', fX1_undo_155 N S2 = some S' ∧ Fr S S' XI XA ∧ CX S' D' L0 n0 r vs ∧ TExt S S' n := by
    intro S2 D' f2 c2 hD
    have t2 : TrC S2 n := t3.fr f2 (by decide) (by decide)
    obtain ⟨S', q1, q2, q3⟩ := X5_cut (N := N) (m := n0) a8 (n - n0) S2 n N (by omega) (by omega) t2
    have y27 : S2.1 27 = nI r.length := by rw [f2.1 27 (by decide)]; exact z27
    have y26 : S2.2.1 26 r.length = nI n0 := by rw [f2.2.1 26 (by decide), x2]; exact a7
    have ext : TExt S S' n := ((TExt.fr f3 (by decide)).trans (TExt.fr f2 (by decide))).trans (TExt.fr q2 (by decide))
    refine ⟨S', D', ?_, ((f3.mono (by decide) (fun _ h => (List.not_mem_nil h).elim)).trans (f2.mono (by decide) (by decide))).trans (q2.mono (by decide) (by decide)), ⟨q3, ?_, by rw [q2.1 27 (by decide)]; exact y27, by omega, TrR.of r L0 n0 (fun j hj => ?_) (fun k hk => (ext k (by omega)).2.2) a11 hr, hD, h7, a10⟩, ext⟩
    · unfold fX1_undo_155
      rw [y27, ckx_ok (vp_in_nI (by omega) (by omega)), nI_clamp (by omega), y26]
      have q1' : fX5_cut N S2 (nI n0) = some S' := q1
      rw [bdo_ok q1']
    · have c := c2.of (q2.1 22 (by decide)) (q2.2.1 21 (by decide))
      exact ⟨c.1, c.2.1, c.2.2.1, c.2.2.2.1, a11, by omega⟩
    · rw [q2.2.1 23 (by decide), q2.2.1 24 (by decide), q2.2.1 25 (by decide), q2.2.1 26 (by decide), f2.2.1 23 (by decide), f2.2.1 24 (by decide), f2.2.1 25 (by decide), f2.2.1 26 (by decide), x2]
      exact ⟨rfl, rfl, rfl, rfl⟩
  have oldn : old < n := by rw [a6]; have := a11 x; omega
  have cf : f = 0 ∨ f = 1 ∨ f = 2 ∨ f = 3 ∨ f = 4 := by omega
  rcases cf with rfl | rfl | rfl | rfl | rfl
  · rw [if_neg (by decide), if_pos (by decide)] at h6 h7a
    rw [if_pos (show nI 0 = (0 : Int32) from rfl)]
    obtain ⟨S2, D', q1, q2, q3, q4, q5⟩ := X1_delete (N := N) (x := x) c3 (by omega)
    rw [bdo_ok q1]
    have el : cDel L x = L0 := a13
    rw [el] at q3
    refine fin S2 D' q2 q3 ?_
    by_cases c : x < D
    · have := q4 c; omega
    · have := q5 (by omega); omega
  · rw [if_pos (by decide), if_neg (by decide)] at h6 h7a
    rw [if_neg (show ¬ nI 1 = (0 : Int32) by decide), if_pos (show nI 1 = nI 1 from rfl)]
    obtain ⟨S2, D', q1, q2, q3, q4, -⟩ := X1_insert (N := N) (x := x) (t := old) hN c3 (by omega) (by omega) oldn
    rw [bdo_ok q1]
    have el : cIns L x old = L0 := a13
    rw [el] at q3
    exact fin S2 D' q2 q3 (by omega)
  · rw [if_pos (by decide), if_neg (by decide)] at h6 h7a
    rw [if_neg (show ¬ nI 2 = (0 : Int32) by decide), if_neg (show ¬ nI 2 = nI 1 by decide), if_pos (show nI 2 = (2 : Int32) from rfl), bd2_ok (X1_level c3 (by omega))]
    obtain ⟨r1, r2⟩ := a12 rfl
    obtain ⟨-, -, rg⟩ := X5_form (N := N) t3 (hL x)
    have tb3 : tB S3 (L x) = L0 (x + 1) := by
      rw [((TExt.fr (n := n) f3 (by decide)) (L x) (hL x)).2.2]; exact r1
    rw [if_neg (by omega), tb3] at rg
    rw [bd2_ok rg, nI_add]
    have l0n : L0 (x + 1) < n := by have := a11 (x + 1); omega
    obtain ⟨S4, D4, q1, q2, q3, q4, -⟩ := X1_insert (N := N) (x := x + 1) (t := L0 (x + 1)) hN c3 (by omega) (by omega) l0n
    rw [bdo_ok q1]
    obtain ⟨S5, D', w1, w2, w3, w4, -, -⟩ := X1_set (N := N) (x := x) (t := old) hN q3 (by omega) oldn
    rw [bdo_ok w1]
    have el : cSet (cIns L (x + 1) (L0 (x + 1))) x old = L0 := a13
    rw [el] at w3
    exact fin S5 D' (q2.trans w2) w3 (by omega)
  · rw [if_neg (by decide), if_pos (by decide)] at h6 h7a
    rw [if_neg (show ¬ nI 3 = (0 : Int32) by decide), if_neg (show ¬ nI 3 = nI 1 by decide), if_neg (show ¬ nI 3 = (2 : Int32) by decide), if_pos (show nI 3 = (3 : Int32) from rfl)]
    obtain ⟨S4, D4, q1, q2, q3, q4, q5, -⟩ := X1_set (N := N) (x := x) (t := old) hN c3 (by omega) oldn
    rw [bdo_ok q1, nI_add]
    obtain ⟨S5, D', w1, w2, w3, w4, w5⟩ := X1_delete (N := N) (x := x + 1) q3 (by omega)
    rw [bdo_ok w1]
    have el : cDel (cSet L x old) (x + 1) = L0 := a13
    rw [el] at w3
    refine fin S5 D' (q2.trans w2) w3 ?_
    by_cases c : x + 1 < D4
    · have := w4 c; omega
    · have := w5 (by omega); omega
  · rw [if_neg (by decide), if_neg (by decide)] at h6 h7a
    rw [if_neg (show ¬ nI 4 = (0 : Int32) by decide), if_neg (show ¬ nI 4 = nI 1 by decide), if_neg (show ¬ nI 4 = (2 : Int32) by decide), if_neg (show ¬ nI 4 = (3 : Int32) by decide)]
    obtain ⟨S4, D', q1, q2, q3, q4, -, -⟩ := X1_set (N := N) (x := x) (t := old) hN c3 (by omega) oldn
    rw [bdo_ok q1]
    have el : cSet L x old = L0 := a13
    rw [el] at q3
    exact fin S4 D' q2 q3 (by omega)
/-- so many changes back -/
def stAt : (Nat → Nat) → Nat → List Te → Nat → (Nat → Nat) × Nat
  | L, n, _, 0 => (L, n)
  | L, n, [], _ + 1 => (L, n)
  | _, _, e :: r, k + 1 => stAt e.2.1 e.2.2 r k
theorem stAt_le {S : St} : ∀ (tr : List Te) (L : Nat → Nat) (n k : Nat), TrR S L n tr → (stAt L n tr k).2 ≤ n
  | _, _, _, 0, _ => Nat.le_refl _
  | [], _, _, _ + 1, _ => Nat.le_refl _
  | e :: r, L, n, k + 1, ⟨⟨_, _, _, _, _, _, _, _, _, _, h9, _⟩, hr⟩ => Nat.le_trans (stAt_le r e.2.1 e.2.2 k hr) h9
theorem X1_undoTo {N vs : Nat} (hN : Big N) : ∀ (k : Nat) (S : St) (D n f : Nat) (L : Nat → Nat) (tr : List Te), k ≤ tr.length → k < f → CX S D L n tr vs → ∃ S' D', loopN (fun k x => fX1_undoTo_7s N k x.1 x.2) f (S, nI k) = some S' ∧ Fr S S' XI XA ∧ CX S' D' (stAt L n tr k).1 (stAt L n tr k).2 (tr.drop k) vs ∧ TExt S S' (stAt L n tr k).2
  | 0, S, D, n, f, L, tr, _, hf, h => by
    obtain ⟨f, rfl⟩ : ∃ f', f = f' + 1 := ⟨f - 1, by omega⟩
    refine ⟨S, D, ?_, Fr.rf, h, fun _ _ => ⟨rfl, rfl, rfl⟩⟩
    show fX1_undoTo_7s N _ S (nI 0) = _
    unfold fX1_undoTo_7s
    rw [if_pos (by decide)]
  | k + 1, S, D, n, f, L, [], hk, _, _ => absurd hk (by show ¬ k + 1 ≤ 0; omega)
  | k + 1, S, D, n, f, L, e :: r, hk, hf, h => by
    obtain ⟨f, rfl⟩ : ∃ f', f = f' + 1 := ⟨f - 1, by omega⟩
    have hk' : k + 1 ≤ r.length + 1 := hk
    have h4 : vs + (r.length + 1) ≤ 4000 := h.2.2.2.1
    obtain ⟨S1, D1, q1, q2, q3, q4⟩ := X1_undo (N := N) hN h
    obtain ⟨S', D', w1, w2, w3, w4⟩ := X1_undoTo hN k S1 D1 e.2.2 f e.2.1 r (by omega) (by omega) q3
    have le1 : (stAt e.2.1 e.2.2 r k).2 ≤ e.2.2 := stAt_le r _ _ k q3.2.2.2.2.1
    have le2 : e.2.2 ≤ n := by
      obtain ⟨_, _, _, _, ⟨⟨_, _, _, _, _, _, _, _, _, _, h9, _⟩, _⟩, _⟩ := h
      exact h9
    refine ⟨S', D', ?_, q2.trans w2, w3, fun j hj => ?_⟩
    · obtain ⟨Lp, eL⟩ : ∃ Lp, Lp = loopN (fun k x => fX1_undoTo_7s N k x.1 x.2) f := ⟨_, rfl⟩
      show fX1_undoTo_7s N (loopN (fun k x => fX1_undoTo_7s N k x.1 x.2) f) S (nI (k + 1)) = _
      rw [← eL]
      unfold fX1_undoTo_7s
      rw [if_neg (nI_nle (by omega) (by omega)), bdo_ok q1, bnd_eq, pk_m1, eL]
      exact w1
    · have hj : j < (stAt e.2.1 e.2.2 r k).2 := hj
      obtain ⟨b1, b2, b3⟩ := w4 j hj
      obtain ⟨d1, d2, d3⟩ := q4 j (by omega)
      exact ⟨b1.trans d1, b2.trans d2, b3.trans d3⟩
theorem X1_undoM {S : St} {N D n vs m : Nat} {L : Nat → Nat} {tr : List Te} (hN : Big N) (h : CX S D L n tr vs) (hm : m ≤ tr.length) : ∃ S' D', fX1_undoTo N S (nI m) = some S' ∧ Fr S S' XI XA ∧ CX S' D' (stAt L n tr (tr.length - m)).1 (stAt L n tr (tr.length - m)).2 (tr.drop (tr.length - m)) vs ∧ TExt S S' (stAt L n tr (tr.length - m)).2 := by
  have hb := hN
  unfold Big at hb
  have h4 := h.2.2.2.1
  obtain ⟨S', D', q1, q2⟩ := X1_undoTo (vs := vs) hN (tr.length - m) S D n N L tr (by omega) (by omega) h
  refine ⟨S', D', ?_, q2⟩
  unfold fX1_undoTo
  rw [h.2.2.1, bnd_eq, pk_sub hm]
  exact q1
theorem X1_clear {S : St} {N n : Nat} (hN : Big N) (h : TrC S n) : ∃ S', fX1_clear N S = some S' ∧ Fr S S' XI XA ∧ CX S' 0 (fun _ => 0) 1 [] 0 := by
  have hb := hN
  unfold Big at hb
  have h3 := h.2.2.1
  have h2 := h.2.1
  unfold fX1_clear
  rw [bnd_eq, bnd_eq]
  obtain ⟨S2, e2⟩ : ∃ z, z = sI (sI S 22 0) 27 0 := ⟨_, rfl⟩
  rw [← e2]
  have f2 : Fr S S2 [22, 27] [] := by rw [e2]; exact (Fr.I (by decide)).trans (Fr.I (by decide))
  obtain ⟨S', q1, q2, q3⟩ := X5_cut (N := N) (m := 1) (Nat.le_refl _) (n - 1) S2 n N (by omega) (by omega) (h.fr f2 (by decide) (by decide))
  have q1' : fX5_cut N S2 1 = some S' := q1
  rw [bdo_ok q1']
  refine ⟨S', rfl, (f2.mono (by decide) (fun _ h => (List.not_mem_nil h).elim)).trans (q2.mono (by decide) (by decide)), q3, ⟨?_, by decide, fun i hi => absurd hi (Nat.not_lt_zero _), fun _ _ => rfl, fun _ => Nat.zero_lt_one, by decide⟩, ?_, by decide, trivial, by decide, trivial, by decide⟩
  · rw [q2.1 22 (by decide), e2]
    rfl
  · rw [q2.1 27 (by decide), e2]
    rfl
