/-! the reference: run -/
theorem aLam_n5 {v q x : Nat} {c : Cf} : (aLam v q x c).1 ≠ 5 := by
  unfold aLam
  by_cases q2 : q = 2
  · rw [if_pos q2]
    cases e : fnd v x c.2.2.1 c.2.2.2.2.1 0 with
    | none => exact Nat.ne_of_beq_eq_false rfl
    | some k =>
      rcases aGo_le c.2.2.2.1 c.2.2.2.2.1 (dig k ++ c.2.2.2.2.2) with h | h
      · show (aGo c.2.2.2.1 c.2.2.2.2.1 (dig k ++ c.2.2.2.2.2)).1 ≠ 5
        omega
      · show (aGo c.2.2.2.1 c.2.2.2.2.1 (dig k ++ c.2.2.2.2.2)).1 ≠ 5
        omega
  · rw [if_neg q2]
    by_cases q1 : q = 1
    · rw [if_pos q1]; exact Nat.ne_of_beq_eq_false rfl
    · rw [if_neg q1]
      by_cases t : 4000 ≤ c.2.2.2.2.2.length
      · rw [if_pos t]; exact Nat.ne_of_beq_eq_false rfl
      · rw [if_neg t]; exact Nat.ne_of_beq_eq_false rfl
theorem aApp_n5 {v q : Nat} {c : Cf} : (aApp v q c).1 ≠ 5 := by
  unfold aApp
  by_cases q1 : q = 1
  · rw [if_pos q1]
    by_cases t : 4000 ≤ c.2.2.2.2.2.length
    · rw [if_pos t]; exact Nat.ne_of_beq_eq_false rfl
    · rw [if_neg t]; exact Nat.ne_of_beq_eq_false rfl
  · rw [if_neg q1]; exact Nat.ne_of_beq_eq_false rfl
theorem aFan_n5 {v q x : Nat} {c : Cf} : (aFan v q x c).1 ≠ 5 := by
  unfold aFan
  by_cases q1 : 0 < q
  · rw [if_pos q1]; exact Nat.ne_of_beq_eq_false rfl
  · rw [if_neg q1]
    by_cases t : (dc (c.2.2.1 x)).1 = 1 ∨ (dc (c.2.2.1 x)).1 = 2
    · rw [if_pos t]; exact Nat.ne_of_beq_eq_false rfl
    · rw [if_neg t]; exact Nat.ne_of_beq_eq_false rfl
theorem aCro_n5 {v q x : Nat} {c : Cf} : (aCro v q x c).1 ≠ 5 := by
  unfold aCro
  by_cases q1 : q = 1
  · rw [if_pos q1]; exact Nat.ne_of_beq_eq_false rfl
  · rw [if_neg q1]; exact Nat.ne_of_beq_eq_false rfl
theorem aBra_n5 {v q x : Nat} {c : Cf} : (aBra v q x c).1 ≠ 5 := by
  unfold aBra
  by_cases q1 : q = 1
  · rw [if_pos q1]; exact Nat.ne_of_beq_eq_false rfl
  · rw [if_neg q1]
    by_cases t : (dc (c.2.2.1 x)).1 = 3
    · rw [if_pos t]; exact Nat.ne_of_beq_eq_false rfl
    · rw [if_neg t]; exact Nat.ne_of_beq_eq_false rfl
theorem gStep_5 {G : Gr} {c : Cf} (h : (gStep G c).1 = 5) : (G.2.2.2 c.1 c.2.1 = 0 ∧ c.2.1 = 0 ∧ ¬ G.1 c.1 = 6) ∧ gStep G c = (5, c) := by
  by_cases m : G.2.2.2 c.1 c.2.1 = 0 ∧ c.2.1 = 0 ∧ ¬ G.1 c.1 = 6
  · exact ⟨m, aStep_5 m⟩
  · exfalso
    unfold gStep aStep at h
    rw [if_neg m] at h
    by_cases k0 : G.1 (G.2.2.1 c.1 c.2.1) = 0
    · rw [if_pos k0] at h; exact aLam_n5 h
    · rw [if_neg k0] at h
      by_cases k1 : G.1 (G.2.2.1 c.1 c.2.1) = 1
      · rw [if_pos k1] at h; exact aApp_n5 h
      · rw [if_neg k1] at h
        by_cases k2 : G.1 (G.2.2.1 c.1 c.2.1) = 2
        · rw [if_pos k2] at h; exact aFan_n5 h
        · rw [if_neg k2] at h
          by_cases k3 : G.1 (G.2.2.1 c.1 c.2.1) = 3
          · rw [if_pos k3] at h; exact aCro_n5 h
          · rw [if_neg k3] at h
            by_cases k4 : G.1 (G.2.2.1 c.1 c.2.1) = 4
            · rw [if_pos k4] at h; exact aBra_n5 h
            · rw [if_neg k4] at h; exact absurd h (Nat.ne_of_beq_eq_false rfl)
theorem wkTo_cons {G : Gr} {c c1 : Cf} (h : gStep G c = (6, c1)) (hl : c1.2.2.2.2.2.length ≤ 4000) : ∀ (j : Nat) (c2 : Cf), wkTo G j c1 c2 → wkTo G (j + 1) c c2
  | 0, c2, e => by
    have e : c1 = c2 := e
    subst e
    exact ⟨c, rfl, h, hl⟩
  | j + 1, c2, ⟨c3, h1, h2, h3⟩ => ⟨c3, wkTo_cons h hl j c3 h1, h2, h3⟩
theorem gWalk_5 {n : Nat} {G : Gr} (hG : GVr n G) : ∀ (m : Nat) (c : Cf), CQ (lv n G) c → CfOk n G.1 c → (gWalk G m c).1 = 5 → CQ (lv n G) (gWalk G m c).2 ∧ gStep G (gWalk G m c).2 = (5, (gWalk G m c).2) ∧ ∃ j, j < m ∧ wkTo G j c (gWalk G m c).2
  | 0, c, _, _, h => absurd h (Nat.ne_of_beq_eq_false rfl)
  | m + 1, c, hc, ho, h => by
    rw [gWalk_s] at h ⊢
    by_cases t : (if 4000 < (gStep G c).2.2.2.2.2.2.length then 3 else (gStep G c).1) = 6
    · rw [if_pos t] at h ⊢
      have h6 : (gStep G c).1 = 6 ∧ (gStep G c).2.2.2.2.2.2.length ≤ 4000 := by
        by_cases t2 : 4000 < (gStep G c).2.2.2.2.2.2.length
        · rw [if_pos t2] at t; exact absurd t (by decide)
        · rw [if_neg t2] at t; exact ⟨t, by omega⟩
      have e6 : gStep G c = (6, (gStep G c).2) := Prod.ext h6.1 rfl
      obtain ⟨a1, a2, j, j1, j2⟩ := gWalk_5 hG m _ (CQ_step (G := G) hc (fun h => ⟨(hG.1 c.1 c.2.1 hc.1.1 ho.2.1).1, Or.inl h⟩) e6) (aStep_ok hG.1 ho h6.1) h
      exact ⟨a1, a2, j + 1, by omega, wkTo_cons e6 h6.2 j _ j2⟩
    · rw [if_neg t] at h ⊢
      have h5 : (gStep G c).1 = 5 := by
        have h : (if 4000 < (gStep G c).2.2.2.2.2.2.length then 3 else (gStep G c).1) = 5 := h
        by_cases t2 : 4000 < (gStep G c).2.2.2.2.2.2.length
        · rw [if_pos t2] at h; exact absurd h (by decide)
        · rw [if_neg t2] at h; exact h
      have e5 := (gStep_5 h5).2
      have e : (gStep G c).2 = c := congrArg Prod.snd e5
      show CQ (lv n G) (gStep G c).2 ∧ gStep G (gStep G c).2 = (5, (gStep G c).2) ∧ ∃ j, j < m + 1 ∧ wkTo G j c (gStep G c).2
      rw [e]
      exact ⟨hc, e5, 0, by omega, rfl⟩
theorem start_ok {n : Nat} {G : Gr} (hG : GVr n G) : CQ (lv n G) aStart ∧ CfOk n G.1 aStart := by
  have hk : G.1 0 = 6 := hG.2.1
  exact ⟨⟨⟨hG.2.2, Or.inr hk⟩, (fun _ h => (List.not_mem_nil h).elim), (fun _ h => (List.not_mem_nil h).elim)⟩, ⟨hG.2.2, by show 0 < nP (G.1 0); rw [hk]; decide, (fun _ h => (List.not_mem_nil h).elim)⟩⟩
theorem gStep_le {G : Gr} {c : Cf} : (gStep G c).1 ≤ 6 := by
  unfold gStep aStep
  by_cases m : G.2.2.2 c.1 c.2.1 = 0 ∧ c.2.1 = 0 ∧ ¬ G.1 c.1 = 6
  · rw [if_pos m]; exact Nat.le_of_ble_eq_true rfl
  · rw [if_neg m]
    unfold aLam aApp aFan aCro aBra
    split
    · split
      · split
        · exact Nat.le_of_ble_eq_true rfl
        · rcases aGo_le c.2.2.2.1 c.2.2.2.2.1 (dig _ ++ c.2.2.2.2.2) with h | h <;> rw [h] <;> decide
      · split
        · exact Nat.le_of_ble_eq_true rfl
        · split <;> exact Nat.le_of_ble_eq_true rfl
    · split
      · split
        · split <;> exact Nat.le_of_ble_eq_true rfl
        · exact Nat.le_of_ble_eq_true rfl
      · split
        · split
          · exact Nat.le_of_ble_eq_true rfl
          · split <;> exact Nat.le_of_ble_eq_true rfl
        · split
          · split <;> exact Nat.le_of_ble_eq_true rfl
          · split
            · split
              · exact Nat.le_of_ble_eq_true rfl
              · split <;> exact Nat.le_of_ble_eq_true rfl
            · exact Nat.le_of_ble_eq_true rfl
theorem gWalk_le (G : Gr) : ∀ (m : Nat) (c : Cf), (gWalk G m c).1 ≤ 6
  | 0, c => by show 3 ≤ 6; decide
  | m + 1, c => by
    rw [gWalk_s]
    by_cases t : (if 4000 < (gStep G c).2.2.2.2.2.2.length then 3 else (gStep G c).1) = 6
    · rw [if_pos t]; exact gWalk_le G m _
    · rw [if_neg t]
      show (if 4000 < (gStep G c).2.2.2.2.2.2.length then 3 else (gStep G c).1) ≤ 6
      have := gStep_le (G := G) (c := c)
      by_cases t2 : 4000 < (gStep G c).2.2.2.2.2.2.length
      · rw [if_pos t2]; decide
      · rw [if_neg t2]; exact this
/-- the two that a walk comes to -/
theorem meet_at {n : Nat} {G : Gr} (hG : GVr n G) (hC : Cov n G (fun _ => False)) {m : Nat} (h : (gWalk G m aStart).1 = 5) : ∃ l r j, (gWalk G m aStart).2.1 = l ∧ (gWalk G m aStart).2.2.1 = 0 ∧ G.2.2.1 l 0 = r ∧ j < m ∧ wkTo G j aStart (gWalk G m aStart).2 ∧ gStep G (gWalk G m aStart).2 = (5, (gWalk G m aStart).2) ∧ l < n ∧ r < n ∧ G.1 l < 5 ∧ (G.1 r < 5 ∨ G.1 r = 6) ∧ l ≠ r ∧ (G.2.2.1 l 0 = r ∧ G.2.2.2 l 0 = 0 ∧ G.2.2.1 r 0 = l ∧ G.2.2.2 r 0 = 0) := by
  obtain ⟨s1, s2⟩ := start_ok hG
  obtain ⟨a1, a2, j, a3, a4⟩ := gWalk_5 hG m aStart s1 s2 h
  obtain ⟨⟨b1, b2, b3⟩, -⟩ := gStep_5 (congrArg Prod.fst a2)
  obtain ⟨c, ec⟩ : ∃ c, c = (gWalk G m aStart).2 := ⟨_, rfl⟩
  rw [← ec] at a1 a2 a4 b1 b2 b3 ⊢
  rw [b2] at b1
  have kl : G.1 c.1 < 5 := by
    rcases a1.1.2 with q | q
    · exact q
    · exact absurd q b3
  obtain ⟨g1, g2, g3, g4, g5⟩ := hG.1 c.1 0 a1.1.1 (lv_p a1.1)
  rw [b1] at g2 g3 g4 g5
  have r7 := nP_7 (Nat.lt_of_le_of_lt (Nat.zero_le _) g2)
  have r5 : G.1 (G.2.2.1 c.1 0) ≠ 5 := fun q => hC.1 c.1 a1.1.1 kl q
  exact ⟨c.1, _, j, rfl, b2, rfl, a3, a4, a2, a1.1.1, g1, kl, by omega, fun q => g5 ⟨q.symm, rfl⟩, rfl, b1, g3, g4⟩
theorem MGd.of {S S' : St} {is as : List Nat} (h : MGd S) (hf : Fr S S' is as) (h1 : 21 ∉ is ∧ 22 ∉ is ∧ 28 ∉ is) (h2 : 17 ∉ as ∧ 18 ∉ as ∧ 19 ∉ as ∧ 20 ∉ as ∧ 27 ∉ as) : MGd S' ∧ Gm S' = Gm S := by
  obtain ⟨g1, g2, g3, g4, g5, g6⟩ := h
  obtain ⟨a, b⟩ := g1.of hf ⟨h1.1, h1.2.1⟩ ⟨h2.1, h2.2.1, h2.2.2.1, h2.2.2.2.1⟩
  have k : gK S' = gK S := congrArg Prod.fst b
  refine ⟨⟨a, by rw [b]; exact g2, by rw [b]; exact g3, by rw [b]; exact g4, g5.of (hf.1 28 h1.2.2) (hf.2.1 27 h2.2.2.2.2), by rw [k]; exact g6⟩, b⟩
/-- what run gives from a walk on, with so much fuel left -/
def RM (N : Nat) (S : St) (left : Nat) (R : Int32 × St) : Prop := ∀ n, left + 2 ≤ n → (bd2 (fX8_walk N S) fun v S6 => loopN (fun k x => fX8_run_41s N k x.1 x.2.1 x.2.2) n (S6, nI left, v)) = some R
abbrev FI2 : List Nat := [32, 33, 40, 43, 46, 47, 48, 49, 50, 51, 54, 57]
theorem MGd.gs {S : St} (h : MGd S) : GS S ∧ gK S 0 = 6 := ⟨⟨h.1.1, h.2.1.1⟩, h.2.1.2.1⟩
theorem RM_stop {S : St} {N left : Nat} (hN : Big N) (h : MGd S) (hw : (gWalk (Gm S) 4000 aStart).1 ≠ 5) : ∃ S', RM N S left (nI (gWalk (Gm S) 4000 aStart).1, S') ∧ Fr S S' FI2 FA ∧ S'.1 47 = (if (gWalk (Gm S) 4000 aStart).1 = 0 then nI (gWalk (Gm S) 4000 aStart).2.2.2.2.2.2.length else 0) ∧ TdR S' (gWalk (Gm S) 4000 aStart).2.2.2.2.2.2 ∧ (gWalk (Gm S) 4000 aStart).1 ≤ 6 := by
  obtain ⟨g, k6⟩ := h.gs
  obtain ⟨S6, e1, e2, e3, e4, e5⟩ := X8_walk (N := N) hN g k6
  have ew : sWalk S 4000 aStart = gWalk (Gm S) 4000 aStart := rfl
  rw [ew] at e1 e3 e4 e5
  have b6 : (gWalk (Gm S) 4000 aStart).1 ≤ 6 := gWalk_le _ _ _
  obtain ⟨S7, e7⟩ : ∃ z, z = sI S6 47 (if (gWalk (Gm S) 4000 aStart).1 = 0 then nI (gWalk (Gm S) 4000 aStart).2.2.2.2.2.2.length else 0) := ⟨_, rfl⟩
  have f7 : Fr S6 S7 [47] [] := by rw [e7]; exact Fr.I (by decide)
  refine ⟨S7, fun n hn => ?_, (e2.mono (by decide) (fun _ h => h)).trans (f7.mono (by decide) (fun _ h => (List.not_mem_nil h).elim)), by rw [e7]; rfl, TdR.of _ (fun j _ => by rw [f7.2.1 45 (by decide)]) e4, b6⟩
  obtain ⟨n, rfl⟩ : ∃ n', n = n' + 1 := ⟨n - 1, by omega⟩
  rw [bd2_ok e1]
  show fX8_run_41s N _ S6 (nI left) (nI (gWalk (Gm S) 4000 aStart).1) = _
  unfold fX8_run_41s
  rw [if_neg (fun q => hw ((nI_eq (by omega) (by omega)).mp (q.trans (show (5 : Int32) = nI 5 from rfl))))]
  by_cases c : (gWalk (Gm S) 4000 aStart).1 = 0
  · rw [if_pos c] at e7
    rw [if_pos (by rw [c]; rfl), bnd_eq, e3, ← e7]
  · rw [if_neg c] at e7
    rw [if_neg (fun q => c ((nI_eq (by omega) (by omega)).mp (q.trans (show (0 : Int32) = nI 0 from rfl)))), bnd_eq, ← e7]
/-- behind a walk that comes to two: what they can do -/
theorem RM_meet {S : St} {N : Nat} (hN : Big N) (h : MGd S) (hw : (gWalk (Gm S) 4000 aStart).1 = 5) {l r : Nat} (el : (gWalk (Gm S) 4000 aStart).2.1 = l) (ep : (gWalk (Gm S) 4000 aStart).2.2.1 = 0) (er : gV S l 0 = r) (hl : l < 3010) (hr : r < 3010) (kl : gK S l < 5) (kr : gK S r < 5) (ne : l ≠ r) (hcu : gV S l 0 = r ∧ gP S l 0 = 0 ∧ gV S r 0 = l ∧ gP S r 0 = 0) :
    (∃ S', RM N S 0 (1, S') ∧ Fr S S' FI2 FA ∧ S'.1 47 = 0) ∧
    (mOf (Gm S) l r = 3 → ∀ left, 0 < left → left ≤ 100000 → ∃ S', RM N S left (4, S') ∧ Fr S S' FI2 FA ∧ S'.1 47 = 0) ∧
    (mOf (Gm S) l r = 2 → tgt S (loN (Gm S) l r) (hiN (Gm S) l r) → ∀ left, 0 < left → left ≤ 100000 → ∃ S', RM N S left (2, S') ∧ Fr S S' FI2 FA ∧ S'.1 47 = 0) ∧
    (∀ a, S.1 26 = nI a → mOf (Gm S) l r ≠ 3 → (mOf (Gm S) l r = 2 → ¬ tgt S (loN (Gm S) l r) (hiN (Gm S) l r)) →
      ∃ S' G1, (∀ left R, 0 < left → left ≤ 100000 → RM N S' (left - 1) R → RM N S left R) ∧ MtR 3010 (Gm S) l r G1 ∧ GVr 3010 G1 ∧ ESp 3010 G1 (Gm S') ∧ MGd S' ∧ (∃ b, S'.1 26 = nI b ∧ b + cntL 3010 (gK S') = a + cntL 3010 G1.1) ∧ cntL 3010 G1.1 + 2 = cntL 3010 (gK S) + (if mOf (Gm S) l r = 2 then mor S (loN (Gm S) l r) (hiN (Gm S) l r) else 0) ∧
        S'.1 23 = S.1 23 + (if mOf (Gm S) l r = 0 then 1 else 0) ∧ S'.1 24 = S.1 24 + (if mOf (Gm S) l r = 1 then 1 else 0) ∧ S'.1 25 = S.1 25 + (if mOf (Gm S) l r = 2 then 1 else 0) ∧ Fr S S' ([21, 22, 23, 24, 25, 26, 28] ++ FI2) ([17, 18, 19, 20, 27, 34] ++ FA)) := by
  obtain ⟨g, k6⟩ := h.gs
  obtain ⟨S6, e1, e2, e3, e4, e5⟩ := X8_walk (N := N) hN g k6
  have ew : sWalk S 4000 aStart = gWalk (Gm S) 4000 aStart := rfl
  rw [ew] at e1 e3 e4 e5
  obtain ⟨z50, z51⟩ := e5 hw
  rw [el, ep] at z51
  rw [el] at z50
  rw [er] at z51
  obtain ⟨h6, m6⟩ := h.of e2 (by decide) (by decide)
  have k66 : gK S6 = gK S := congrArg Prod.fst m6
  obtain ⟨S8, d1, d2, d3⟩ := X8_meetingOf (S := S6) (N := N) h6.1.1 hl hr (by rw [k66]; exact kl) (by rw [k66]; exact kr)
  rw [m6] at d1 d3
  obtain ⟨h8, m8⟩ := h6.of d2 (by decide) (by decide)
  have m8' : Gm S8 = Gm S := m8.trans m6
  have k8 : gK S8 = gK S := congrArg Prod.fst m8'
  have x8 : gX S8 = gX S := congrArg (fun G : Gr => G.2.1) m8'
  have mle : mOf (Gm S) l r ≤ 3 := mOf_le
  have F8 : Fr S S8 FI2 FA := (e2.mono (by decide) (fun _ h => h)).trans (d2.mono (by decide) (fun _ h => (List.not_mem_nil h).elim))
  have tg : ∀ c u, tgt S8 c u ↔ tgt S c u := fun c u => by unfold tgt mor; rw [k8, x8]
  -- a stop behind the two
  have stp : ∀ (S9 : St) (x : Nat) (m : Nat), x ≤ 4 → x ≠ 0 → loopN (fun k x => fX8_run_41s N k x.1 x.2.1 x.2.2) (m + 1) (S9, nI 0, nI x) = some (nI x, sI S9 47 0) ∧ ∀ left, loopN (fun k x => fX8_run_41s N k x.1 x.2.1 x.2.2) (m + 1) (S9, nI left, nI x) = some (nI x, sI S9 47 0) := by
    intro S9 x m hx h0
    have : ∀ left, loopN (fun k x => fX8_run_41s N k x.1 x.2.1 x.2.2) (m + 1) (S9, nI left, nI x) = some (nI x, sI S9 47 0) := by
      intro left
      show fX8_run_41s N _ S9 (nI left) (nI x) = _
      unfold fX8_run_41s
      rw [if_neg (fun q => by
        have := (nI_eq (by omega) (by omega)).mp (q.trans (show (5 : Int32) = nI 5 from rfl))
        omega), if_neg (fun q => h0 ((nI_eq (by omega) (by omega)).mp (q.trans (show (0 : Int32) = nI 0 from rfl)))), bnd_eq]
    exact ⟨this 0, this⟩
  have stF : ∀ S9, Fr S S9 FI2 FA → Fr S (sI S9 47 0) FI2 FA := fun S9 hf => hf.trans (Fr.I (by decide))
  -- from the walk into the choice
  have go : ∀ left n, 0 < left → left ≤ 100000 → left + 2 ≤ n + 1 → (bd2 (fX8_walk N S) fun v S6 => loopN (fun k x => fX8_run_41s N k x.1 x.2.1 x.2.2) (n + 1) (S6, nI left, v)) = fX8_run_66 N (loopN (fun k x => fX8_run_41s N k x.1 x.2.1 x.2.2) n) S8 (nI left) (nI (mOf (Gm S) l r)) := by
    intro left n h0 h1 h2
    rw [bd2_ok e1, hw]
    show fX8_run_41s N (loopN (fun k x => fX8_run_41s N k x.1 x.2.1 x.2.2) n) S6 (nI left) (nI 5) = _
    obtain ⟨L, eL⟩ : ∃ L, L = loopN (fun k x => fX8_run_41s N k x.1 x.2.1 x.2.2) n := ⟨_, rfl⟩
    rw [← eL]
    unfold fX8_run_41s
    rw [if_pos (by decide), if_neg (nI_nle h0 (by omega)), z50, z51, bd2_ok d1]
  refine ⟨?_, fun m3 left h0 h1 => ?_, fun m2 ht left h0 h1 => ?_, fun a h26 m3 m2 => ?_⟩
  · refine ⟨sI S6 47 0, fun n hn => ?_, stF S6 (e2.mono (by decide) (fun _ h => h)), rfl⟩
    obtain ⟨n, rfl⟩ : ∃ n', n = n' + 2 := ⟨n - 2, by omega⟩
    rw [bd2_ok e1, hw]
    show fX8_run_41s N (loopN (fun k x => fX8_run_41s N k x.1 x.2.1 x.2.2) (n + 1)) S6 (nI 0) (nI 5) = _
    obtain ⟨L, eL⟩ : ∃ L, L = loopN (fun k x => fX8_run_41s N k x.1 x.2.1 x.2.2) (n + 1) := ⟨_, rfl⟩
    rw [← eL]
    unfold fX8_run_41s
    rw [if_pos (by decide), if_pos (by decide)]
    unfold fX8_run_66
    rw [if_neg (by decide), bnd_eq]
    unfold fX8_run_129
    rw [eL]
    exact (stp S6 1 n (by decide) (by decide)).1
  · refine ⟨sI S8 47 0, fun n hn => ?_, stF S8 F8, rfl⟩
    obtain ⟨n, rfl⟩ : ∃ n', n = n' + 2 := ⟨n - 2, by omega⟩
    rw [go left (n + 1) h0 h1 (by omega), m3]
    obtain ⟨L, eL⟩ : ∃ L, L = loopN (fun k x => fX8_run_41s N k x.1 x.2.1 x.2.2) (n + 1) := ⟨_, rfl⟩
    rw [← eL]
    unfold fX8_run_66
    rw [if_pos (by decide), if_pos (by decide), bnd_eq]
    unfold fX8_run_129
    rw [eL]
    exact (stp S8 4 n (by decide) (by decide)).2 left
  · obtain ⟨t1, t2⟩ := d3 m2
    have lh := lohi (G := Gm S) (l := l) (r := r) (fun c u => c < 3010 ∧ u < 3010 ∧ gK S8 c < 5 ∧ gK S8 u < 5 ∧ c ≠ u) (by rw [k8]; exact ⟨hl, hr, kl, kr, ne⟩) (by rw [k8]; exact ⟨hr, hl, kr, kl, fun q => ne q.symm⟩)
    obtain ⟨x, x1, x2⟩ := X8_isTight (N := N) h8.1 t1 t2 lh.1 lh.2.1 lh.2.2.1 lh.2.2.2.1 lh.2.2.2.2
    refine ⟨sI S8 47 0, fun n hn => ?_, stF S8 F8, rfl⟩
    obtain ⟨n, rfl⟩ : ∃ n', n = n' + 2 := ⟨n - 2, by omega⟩
    rw [go left (n + 1) h0 h1 (by omega), m2]
    obtain ⟨L, eL⟩ : ∃ L, L = loopN (fun k x => fX8_run_41s N k x.1 x.2.1 x.2.2) (n + 1) := ⟨_, rfl⟩
    rw [← eL]
    unfold fX8_run_66
    rw [if_pos (by decide), if_neg (by decide), if_pos (by decide), bd2_ok x1, if_neg (fun q => x2.mp q ((tg _ _).mpr ht)), bnd_eq]
    unfold fX8_run_129
    rw [eL]
    exact (stp S8 2 n (by decide) (by decide)).2 left
  · have z508 : S8.1 50 = nI l := by rw [d2.1 50 (by decide)]; exact z50
    have z518 : S8.1 51 = nI r := by rw [d2.1 51 (by decide)]; exact z51
    have hw8 : gV S8 l 0 = r ∧ gP S8 l 0 = 0 ∧ gV S8 r 0 = l ∧ gP S8 r 0 = 0 := by
      have e1 : gV S8 = gV S := congrArg (fun G : Gr => G.2.2.1) m8'
      have e2 : gP S8 = gP S := congrArg (fun G : Gr => G.2.2.2) m8'
      rw [e1, e2]; exact hcu
    obtain ⟨S', G1, q1, q2, q3, q4, q5, q6, q7, q8, q9, q10, q11⟩ := X8_meet (S := S8) (N := N) (a := a) hN h8 hl hr (by rw [k8]; exact kl) (by rw [k8]; exact kr) hw8 ne (by rw [m8']; exact m3) (by
      rw [m8']
      intro c2
      exact ⟨(d3 c2).1, (d3 c2).2, fun q => m2 c2 ((tg _ _).mp q)⟩) (by rw [F8.1 26 (by decide)]; exact h26)
    have mm : mor S8 = mor S := by funext c u; unfold mor; rw [k8]
    rw [m8'] at q1 q2 q7 q8 q9 q10
    rw [k8, mm] at q7
    refine ⟨S', G1, fun left R h0 h1 hR n hn => ?_, q2, q3, q4, q5, q6, q7, by rw [q8, F8.1 23 (by decide)], by rw [q9, F8.1 24 (by decide)], by rw [q10, F8.1 25 (by decide)], (F8.mono (by decide) (by decide)).trans (q11.mono (by decide) (by decide))⟩
    obtain ⟨n, rfl⟩ : ∃ n', n = n' + 1 := ⟨n - 1, by omega⟩
    rw [go left n h0 h1 hn]
    have nx := hR n (by omega)
    obtain ⟨L, eL⟩ : ∃ L, L = loopN (fun k x => fX8_run_41s N k x.1 x.2.1 x.2.2) n := ⟨_, rfl⟩
    rw [← eL] at nx ⊢
    have f107 : fX8_run_107 N L S8 (nI left) (nI (mOf (Gm S) l r)) = some R := by
      unfold fX8_run_107
      rw [z508, z518, bdo_ok q1, bnd_eq]
      obtain ⟨lf, rfl⟩ : ∃ lf, left = lf + 1 := ⟨left - 1, by omega⟩
      rw [pk_m1]
      unfold fX8_run_129
      exact nx
    unfold fX8_run_66
    have z3 : ¬ nI (mOf (Gm S) l r) = (3 : Int32) := fun q => m3 ((nI_eq (by omega) (by omega)).mp (q.trans (show (3 : Int32) = nI 3 from rfl)))
    rw [if_pos (nI_pos' (by omega)), if_neg z3]
    by_cases c2 : mOf (Gm S) l r = 2
    · obtain ⟨t1, t2⟩ := d3 c2
      have lh := lohi (G := Gm S) (l := l) (r := r) (fun c u => c < 3010 ∧ u < 3010 ∧ gK S8 c < 5 ∧ gK S8 u < 5 ∧ c ≠ u) (by rw [k8]; exact ⟨hl, hr, kl, kr, ne⟩) (by rw [k8]; exact ⟨hr, hl, kr, kl, fun q => ne q.symm⟩)
      obtain ⟨x, x1, x2⟩ := X8_isTight (N := N) h8.1 t1 t2 lh.1 lh.2.1 lh.2.2.1 lh.2.2.2.1 lh.2.2.2.2
      rw [if_pos (by rw [c2]; rfl), bd2_ok x1, if_pos (x2.mpr (fun q => m2 c2 ((tg _ _).mp q)))]
      exact f107
    · rw [if_neg (fun q => c2 ((nI_eq (by omega) (by omega)).mp (q.trans (show (2 : Int32) = nI 2 from rfl))))]
      exact f107
