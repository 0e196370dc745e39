/-! the reference's walk is the walk as mathematics -/
def nP (k : Nat) : Nat := if k < 3 then 3 else if k < 5 then 2 else if k < 7 then 1 else 0
theorem nP_le (k : Nat) : nP k ≤ 3 := by
  unfold nP
  split
  · omega
  · split
    · omega
    · split <;> omega
/-- wires join ports that there are, two by two -/
def GV (n : Nat) (K : Nat → Nat) (Wv Wp : Nat → Nat → Nat) : Prop := ∀ v k, v < n → k < nP (K v) → Wv v k < n ∧ Wp v k < nP (K (Wv v k)) ∧ Wv (Wv v k) (Wp v k) = v ∧ Wp (Wv v k) (Wp v k) = k ∧ ¬ (Wv v k = v ∧ Wp v k = k)
def LatOk (n : Nat) (K : Nat → Nat) (lat : List Lt) : Prop := ∀ it ∈ lat, it.1 = 1 ∨ it.1 = 2 ∨ (it.2.1 < n ∧ K it.2.1 = 1)
def CfOk (n : Nat) (K : Nat → Nat) (c : Cf) : Prop := c.1 < n ∧ c.2.1 < nP (K c.1) ∧ LatOk n K c.2.2.2.1
theorem LatOk.cons {n : Nat} {K : Nat → Nat} {it : Lt} {lat : List Lt} (h0 : it.1 = 1 ∨ it.1 = 2 ∨ (it.2.1 < n ∧ K it.2.1 = 1)) (h : LatOk n K lat) : LatOk n K (it :: lat) := fun x hx => by
  rcases List.mem_cons.mp hx with e | e
  · rw [e]; exact h0
  · exact h x e
theorem aGo_ok {n : Nat} {K : Nat → Nat} : ∀ (lat : List Lt) (ab : List Ab) (td : List Nat), LatOk n K lat → (aGo lat ab td).1 = 6 → CfOk n K (aGo lat ab td).2
  | [], ab, td, _, h => absurd h (by show ¬ (0 : Nat) = 6; decide)
  | it :: r, ab, td, hl, h => by
    have e0 : aGo (it :: r) ab td = if it.1 = 1 then aGo r ab.tail td else if it.1 = 2 then aGo r ab (41 :: td) else (6, (it.2.1, 2, it.2.2, (2, 0, (fun _ => 0)) :: r, ab, 32 :: td)) := rfl
    have hr : LatOk n K r := fun x hx => hl x (List.mem_cons_of_mem _ hx)
    rw [e0] at h ⊢
    by_cases c1 : it.1 = 1
    · rw [if_pos c1] at h ⊢
      exact aGo_ok r ab.tail td hr h
    · rw [if_neg c1] at h ⊢
      by_cases c2 : it.1 = 2
      · rw [if_pos c2] at h ⊢
        exact aGo_ok r ab (41 :: td) hr h
      · rw [if_neg c2]
        rcases hl it (List.mem_cons_self ..) with q | q | ⟨h1, h2⟩
        · exact absurd q c1
        · exact absurd q c2
        · refine ⟨h1, ?_, LatOk.cons (Or.inr (Or.inl rfl)) hr⟩
          show 2 < nP (K it.2.1)
          rw [h2]; decide
theorem aStep_ok {n : Nat} {K X : Nat → Nat} {Wv Wp : Nat → Nat → Nat} {c : Cf} (hG : GV n K Wv Wp) (h : CfOk n K c) (h6 : (aStep K X Wv Wp c).1 = 6) : CfOk n K (aStep K X Wv Wp c).2 := by
  obtain ⟨h1, h2, h3⟩ := h
  obtain ⟨w1, w2, -, -, -⟩ := hG c.1 c.2.1 h1 h2
  obtain ⟨v, ev⟩ : ∃ v, v = Wv c.1 c.2.1 := ⟨_, rfl⟩
  obtain ⟨q, eq⟩ : ∃ q, q = Wp c.1 c.2.1 := ⟨_, rfl⟩
  unfold aStep at h6 ⊢
  rw [← ev, ← eq] at w2 h6
  rw [← ev] at w1
  rw [← ev, ← eq]
  by_cases c1 : q = 0 ∧ c.2.1 = 0 ∧ ¬ K c.1 = 6
  · rw [if_pos c1] at h6
    exact absurd h6 (Nat.ne_of_beq_eq_false rfl)
  · rw [if_neg c1] at h6 ⊢
    by_cases k0 : K v = 0
    · rw [if_pos k0] at h6 ⊢
      unfold aLam at h6 ⊢
      by_cases q2 : q = 2
      · rw [if_pos q2] at h6 ⊢
        cases e : fnd v (X v) c.2.2.1 c.2.2.2.2.1 0 with
        | none => rw [e] at h6; exact absurd h6 (Nat.ne_of_beq_eq_false rfl)
        | some k => rw [e] at h6; exact aGo_ok _ _ _ h3 h6
      · rw [if_neg q2] at h6 ⊢
        by_cases q1 : q = 1
        · rw [if_pos q1] at h6; exact absurd h6 (Nat.ne_of_beq_eq_false rfl)
        · rw [if_neg q1] at h6 ⊢
          by_cases t : 4000 ≤ c.2.2.2.2.2.length
          · rw [if_pos t] at h6; exact absurd h6 (Nat.ne_of_beq_eq_false rfl)
          · rw [if_neg t]
            exact ⟨w1, by show 1 < nP (K v); rw [k0]; decide, LatOk.cons (Or.inl rfl) h3⟩
    · rw [if_neg k0] at h6 ⊢
      by_cases k1 : K v = 1
      · rw [if_pos k1] at h6 ⊢
        unfold aApp at h6 ⊢
        by_cases q1 : q = 1
        · rw [if_pos q1] at h6 ⊢
          by_cases t : 4000 ≤ c.2.2.2.2.2.length
          · rw [if_pos t] at h6; exact absurd h6 (Nat.ne_of_beq_eq_false rfl)
          · rw [if_neg t]
            exact ⟨w1, by show 0 < nP (K v); rw [k1]; decide, LatOk.cons (Or.inr (Or.inr ⟨w1, k1⟩)) h3⟩
        · rw [if_neg q1] at h6; exact absurd h6 (Nat.ne_of_beq_eq_false rfl)
      · rw [if_neg k1] at h6 ⊢
        by_cases k2 : K v = 2
        · rw [if_pos k2] at h6 ⊢
          unfold aFan at h6 ⊢
          by_cases q1 : 0 < q
          · rw [if_pos q1]
            exact ⟨w1, by show 0 < nP (K v); rw [k2]; decide, h3⟩
          · rw [if_neg q1] at h6 ⊢
            by_cases t : (dc (c.2.2.1 (X v))).1 = 1 ∨ (dc (c.2.2.1 (X v))).1 = 2
            · rw [if_pos t]
              refine ⟨w1, ?_, h3⟩
              show (dc (c.2.2.1 (X v))).1 < nP (K v)
              rw [k2]
              show _ < 3
              omega
            · rw [if_neg t] at h6; exact absurd h6 (Nat.ne_of_beq_eq_false rfl)
        · rw [if_neg k2] at h6 ⊢
          by_cases k3 : K v = 3
          · rw [if_pos k3] at h6 ⊢
            unfold aCro
            by_cases q1 : q = 1
            · rw [if_pos q1]
              exact ⟨w1, by show 0 < nP (K v); rw [k3]; decide, h3⟩
            · rw [if_neg q1]
              exact ⟨w1, by show 1 < nP (K v); rw [k3]; decide, h3⟩
          · rw [if_neg k3] at h6 ⊢
            by_cases k4 : K v = 4
            · rw [if_pos k4] at h6 ⊢
              unfold aBra at h6 ⊢
              by_cases q1 : q = 1
              · rw [if_pos q1]
                exact ⟨w1, by show 0 < nP (K v); rw [k4]; decide, h3⟩
              · rw [if_neg q1] at h6 ⊢
                by_cases t : (dc (c.2.2.1 (X v))).1 = 3
                · rw [if_pos t]
                  exact ⟨w1, by show 1 < nP (K v); rw [k4]; decide, h3⟩
                · rw [if_neg t] at h6; exact absurd h6 (Nat.ne_of_beq_eq_false rfl)
            · rw [if_neg k4] at h6; exact absurd h6 (Nat.ne_of_beq_eq_false rfl)
theorem aGo_le : ∀ (lat : List Lt) (ab : List Ab) (td : List Nat), (aGo lat ab td).1 = 0 ∨ (aGo lat ab td).1 = 6
  | [], ab, td => Or.inl rfl
  | it :: r, ab, td => by
    have e0 : aGo (it :: r) ab td = if it.1 = 1 then aGo r ab.tail td else if it.1 = 2 then aGo r ab (41 :: td) else (6, (it.2.1, 2, it.2.2, (2, 0, (fun _ => 0)) :: r, ab, 32 :: td)) := rfl
    rw [e0]
    by_cases c1 : it.1 = 1
    · rw [if_pos c1]; exact aGo_le r _ _
    · rw [if_neg c1]
      by_cases c2 : it.1 = 2
      · rw [if_pos c2]; exact aGo_le r _ _
      · rw [if_neg c2]; exact Or.inr rfl
theorem aGo_top : ∀ (lat : List Lt) (ab : List Ab) (td : List Nat), (aGo lat ab td).2.2.2.2.2.2.length ≤ td.length + lat.length
  | [], ab, td => Nat.le_refl _
  | it :: r, ab, td => by
    have e0 : aGo (it :: r) ab td = if it.1 = 1 then aGo r ab.tail td else if it.1 = 2 then aGo r ab (41 :: td) else (6, (it.2.1, 2, it.2.2, (2, 0, (fun _ => 0)) :: r, ab, 32 :: td)) := rfl
    have h1 := aGo_top r ab.tail td
    have h2 : (aGo r ab (41 :: td)).2.2.2.2.2.2.length ≤ (td.length + 1) + r.length := aGo_top r ab (41 :: td)
    rw [e0]
    show _ ≤ td.length + (r.length + 1)
    by_cases c1 : it.1 = 1
    · rw [if_pos c1]; omega
    · rw [if_neg c1]
      by_cases c2 : it.1 = 2
      · rw [if_pos c2]; omega
      · rw [if_neg c2]
        show td.length + 1 ≤ _
        omega
theorem digF_len : ∀ (f v : Nat), (digF f v).length ≤ f
  | 0, _ => Nat.le_refl _
  | f + 1, v => by
    have h := digF_len f (v / 10)
    have e : digF (f + 1) v = if v < 10 then [48 + v] else (48 + v % 10) :: digF f (v / 10) := rfl
    rw [e]
    by_cases c : v < 10
    · rw [if_pos c]
      show 1 ≤ f + 1
      omega
    · rw [if_neg c]
      show (digF f (v / 10)).length + 1 ≤ f + 1
      omega
def okA (a : Nat × Cf) : Prop := (a.1 = 0 ∨ a.1 = 3 ∨ a.1 = 4 ∨ a.1 = 6) ∧ a.2.2.2.2.2.2.length ≤ 9000
theorem okA_stay {c : Cf} (ht : c.2.2.2.2.2.length ≤ 4000) : okA (4, c) := ⟨Or.inr (Or.inr (Or.inl rfl)), by show c.2.2.2.2.2.length ≤ 9000; omega⟩
theorem okA_ctx {c : Cf} (ht : c.2.2.2.2.2.length ≤ 4000) (v k : Nat) (cx : Nat → Nat) : okA (6, (v, k, cx, c.2.2.2)) := ⟨Or.inr (Or.inr (Or.inr rfl)), by show c.2.2.2.2.2.length ≤ 9000; omega⟩
/-- what a step answers: a meeting just where two are to meet; 0, 3, 4 or 6 else -/
theorem aStep_all {K X : Nat → Nat} {Wv Wp : Nat → Nat → Nat} {c : Cf} (hl : c.2.2.2.1.length ≤ c.2.2.2.2.2.length) (ht : c.2.2.2.2.2.length ≤ 4000) (hne : ¬ (Wp c.1 c.2.1 = 0 ∧ c.2.1 = 0 ∧ ¬ K c.1 = 6)) : okA (aStep K X Wv Wp c) := by
  obtain ⟨v, ev⟩ : ∃ v, v = Wv c.1 c.2.1 := ⟨_, rfl⟩
  obtain ⟨q, eq⟩ : ∃ q, q = Wp c.1 c.2.1 := ⟨_, rfl⟩
  unfold aStep
  rw [if_neg hne, ← ev, ← eq]
  by_cases k0 : K v = 0
  · rw [if_pos k0]
    unfold aLam
    by_cases q2 : q = 2
    · rw [if_pos q2]
      cases e : fnd v (X v) c.2.2.1 c.2.2.2.2.1 0 with
      | none => exact okA_stay ht
      | some k =>
        refine ⟨?_, ?_⟩
        · rcases aGo_le c.2.2.2.1 c.2.2.2.2.1 (dig k ++ c.2.2.2.2.2) with h | h
          · exact Or.inl h
          · exact Or.inr (Or.inr (Or.inr h))
        · have h1 := aGo_top c.2.2.2.1 c.2.2.2.2.1 (dig k ++ c.2.2.2.2.2)
          have h2 : (dig k).length ≤ 12 := digF_len 12 k
          rw [List.length_append] at h1
          show (aGo c.2.2.2.1 c.2.2.2.2.1 (dig k ++ c.2.2.2.2.2)).2.2.2.2.2.2.length ≤ 9000
          omega
    · rw [if_neg q2]
      by_cases q1 : q = 1
      · rw [if_pos q1]; exact okA_stay ht
      · rw [if_neg q1]
        by_cases t : 4000 ≤ c.2.2.2.2.2.length
        · rw [if_pos t]
          exact ⟨Or.inr (Or.inl rfl), by show c.2.2.2.2.2.length + 1 ≤ 9000; omega⟩
        · rw [if_neg t]
          exact ⟨Or.inr (Or.inr (Or.inr rfl)), by show c.2.2.2.2.2.length + 1 ≤ 9000; omega⟩
  · rw [if_neg k0]
    by_cases k1 : K v = 1
    · rw [if_pos k1]
      unfold aApp
      by_cases q1 : q = 1
      · rw [if_pos q1]
        by_cases t : 4000 ≤ c.2.2.2.2.2.length
        · rw [if_pos t]
          exact ⟨Or.inr (Or.inl rfl), by show c.2.2.2.2.2.length + 1 ≤ 9000; omega⟩
        · rw [if_neg t]
          exact ⟨Or.inr (Or.inr (Or.inr rfl)), by show c.2.2.2.2.2.length + 1 ≤ 9000; omega⟩
      · rw [if_neg q1]; exact okA_stay ht
    · rw [if_neg k1]
      by_cases k2 : K v = 2
      · rw [if_pos k2]
        unfold aFan
        by_cases q1 : 0 < q
        · rw [if_pos q1]; exact okA_ctx ht _ _ _
        · rw [if_neg q1]
          by_cases t : (dc (c.2.2.1 (X v))).1 = 1 ∨ (dc (c.2.2.1 (X v))).1 = 2
          · rw [if_pos t]; exact okA_ctx ht _ _ _
          · rw [if_neg t]; exact okA_stay ht
      · rw [if_neg k2]
        by_cases k3 : K v = 3
        · rw [if_pos k3]
          unfold aCro
          by_cases q1 : q = 1
          · rw [if_pos q1]; exact okA_ctx ht _ _ _
          · rw [if_neg q1]; exact okA_ctx ht _ _ _
        · rw [if_neg k3]
          by_cases k4 : K v = 4
          · rw [if_pos k4]
            unfold aBra
            by_cases q1 : q = 1
            · rw [if_pos q1]; exact okA_ctx ht _ _ _
            · rw [if_neg q1]
              by_cases t : (dc (c.2.2.1 (X v))).1 = 3
              · rw [if_pos t]; exact okA_ctx ht _ _ _
              · rw [if_neg t]; exact okA_stay ht
          · rw [if_neg k4]; exact okA_stay ht
theorem aStep_5 {K X : Nat → Nat} {Wv Wp : Nat → Nat → Nat} {c : Cf} (hm : Wp c.1 c.2.1 = 0 ∧ c.2.1 = 0 ∧ ¬ K c.1 = 6) : aStep K X Wv Wp c = (5, c) := by
  unfold aStep
  rw [if_pos hm]
theorem aStep_bd {K X : Nat → Nat} {Wv Wp : Nat → Nat → Nat} {c : Cf} (hl : c.2.2.2.1.length ≤ c.2.2.2.2.2.length) (ht : c.2.2.2.2.2.length ≤ 4000) : (aStep K X Wv Wp c).1 ≤ 6 ∧ (aStep K X Wv Wp c).2.2.2.2.2.2.length ≤ 9000 ∧ ((aStep K X Wv Wp c).1 = 5 → aStep K X Wv Wp c = (5, c)) := by
  by_cases m1 : Wp c.1 c.2.1 = 0 ∧ c.2.1 = 0 ∧ ¬ K c.1 = 6
  · rw [aStep_5 m1]
    exact ⟨by show (5 : Nat) ≤ 6; decide, by show c.2.2.2.2.2.length ≤ 9000; omega, fun _ => rfl⟩
  · obtain ⟨h1, h2⟩ := aStep_all (K := K) (X := X) (Wv := Wv) (Wp := Wp) hl ht m1
    exact ⟨by omega, h2, fun h => by omega⟩
/-- the graph in a state of the reference -/
def GS (S : St) : Prop := GOk S ∧ GV 3010 (gK S) (gV S) (gP S)
theorem gr_same {S S' : St} (h17 : S'.2.1 17 = S.2.1 17) (h18 : S'.2.1 18 = S.2.1 18) (h19 : S'.2.1 19 = S.2.1 19) : gK S' = gK S ∧ gX S' = gX S ∧ gV S' = gV S ∧ gP S' = gP S ∧ gW S' = gW S := by
  have e1 : gW S' = gW S := by funext p; unfold gW; rw [h19]
  refine ⟨by funext v; unfold gK; rw [h17], by funext v; unfold gX; rw [h18], by funext v k; unfold gV; rw [e1], by funext v k; unfold gP; rw [e1], e1⟩
theorem GS.of {S S' : St} (h : GS S) (h17 : S'.2.1 17 = S.2.1 17) (h18 : S'.2.1 18 = S.2.1 18) (h19 : S'.2.1 19 = S.2.1 19) : GS S' := by
  obtain ⟨e1, e2, e3, e4, e5⟩ := gr_same h17 h18 h19
  unfold GS GOk
  rw [e1, e2, e3, e4, e5, h17, h18, h19]
  exact h
theorem X8_step {S : St} {N nl nv : Nat} {c : Cf} (hN : Big N) (hG : GS S) (h : WR S nl nv c) (hc : CfOk 3010 (gK S) c) (ht : c.2.2.2.2.2.length ≤ 4000) (hn : nl + 70 ≤ 270000) (hm : nv < 4010) :
    ∃ S', fX8_step N S = some (nI (aStep (gK S) (gX S) (gV S) (gP S) c).1, S') ∧ StepR S S' nl nv (aStep (gK S) (gX S) (gV S) (gP S) c) ∧ ((aStep (gK S) (gX S) (gV S) (gP S) c).1 = 5 → S'.1 50 = nI c.1 ∧ S'.1 51 = nI (gV S c.1 c.2.1)) := by
  obtain ⟨hG0, hGV⟩ := id hG
  obtain ⟨w1, w2, -, -, -⟩ := hGV c.1 c.2.1 hc.1 hc.2.1
  have hv := w1
  obtain ⟨k1, k7, -, -⟩ := hG0.1 _ hv
  have hp3 : c.2.1 < 3 := Nat.lt_of_lt_of_le hc.2.1 (nP_le _)
  have hc1 := hc.1
  obtain ⟨p1, p2⟩ := hG0.2 (3 * c.1 + c.2.1) (by omega)
  have h49 := h.2.2.2.1
  have q3 : gP S c.1 c.2.1 < 3 := Nat.lt_of_lt_of_le w2 (nP_le _)
  have ev : gW S (3 * c.1 + c.2.1) / 3 = gV S c.1 c.2.1 := rfl
  have eq : gW S (3 * c.1 + c.2.1) % 3 = gP S c.1 c.2.1 := rfl
  obtain ⟨kc1, kc7, -, -⟩ := hG0.1 _ hc1
  unfold fX8_step
  rw [h49, ckx_ok (vp_in_nI (by omega) (by omega)), bnd_eq, nI_clamp (by omega), p1, show (3 : Int32) = nI 3 from rfl, bnd_eq, bnd_eq, pk_rem (by omega) (by omega) (by omega), pk_rem (by omega) (by omega) (by omega), pk_div (by omega) (by omega) (by omega), pk_div (by omega) (by omega) (by omega), ev, eq, show (3 * c.1 + c.2.1) % 3 = c.2.1 by omega, show (3 * c.1 + c.2.1) / 3 = c.1 by omega]
  have rest : ¬ (gP S c.1 c.2.1 = 0 ∧ c.2.1 = 0 ∧ ¬ gK S c.1 = 6) → ∃ S', fX8_step_64 N S (nI (gV S c.1 c.2.1)) (nI (gP S c.1 c.2.1)) = some (nI (aStep (gK S) (gX S) (gV S) (gP S) c).1, S') ∧ StepR S S' nl nv (aStep (gK S) (gX S) (gV S) (gP S) c) := by
    intro hne
    unfold fX8_step_64 aStep
    rw [if_neg hne, ckx_ok (vp_in_nI (by omega) (by omega)), nI_clamp (by omega), k1]
    by_cases d0 : gK S (gV S c.1 c.2.1) = 0
    · rw [if_pos d0, if_pos (show nI (gK S (gV S c.1 c.2.1)) = 0 by rw [d0]; rfl)]
      obtain ⟨S', e1, e2⟩ := X8_atLambda hN hG0 h hv q3 ht
      rw [bd2_ok e1]
      exact ⟨S', rfl, e2⟩
    · rw [if_neg d0, if_neg (fun e => d0 ((nI_eq (by omega) (by omega)).mp (e.trans (show (0 : Int32) = nI 0 from rfl))))]
      by_cases d1 : gK S (gV S c.1 c.2.1) = 1
      · rw [if_pos d1, if_pos (show nI (gK S (gV S c.1 c.2.1)) = 1 by rw [d1]; rfl)]
        obtain ⟨S', e1, e2⟩ := X8_atApplication (N := N) h hv q3 ht
        rw [bd2_ok e1]
        exact ⟨S', rfl, e2⟩
      · rw [if_neg d1, if_neg (fun e => d1 ((nI_eq (by omega) (by omega)).mp (e.trans (show (1 : Int32) = nI 1 from rfl))))]
        by_cases d2 : gK S (gV S c.1 c.2.1) = 2
        · rw [if_pos d2, if_pos (show nI (gK S (gV S c.1 c.2.1)) = 2 by rw [d2]; rfl)]
          obtain ⟨S', e1, e2⟩ := X8_atFan hN hG0 h hv q3 hn hm
          rw [bd2_ok e1]
          exact ⟨S', rfl, e2⟩
        · rw [if_neg d2, if_neg (fun e => d2 ((nI_eq (by omega) (by omega)).mp (e.trans (show (2 : Int32) = nI 2 from rfl))))]
          by_cases d3 : gK S (gV S c.1 c.2.1) = 3
          · rw [if_pos d3, if_pos (show nI (gK S (gV S c.1 c.2.1)) = 3 by rw [d3]; rfl)]
            obtain ⟨S', e1, e2⟩ := X8_atCro hN hG0 h hv (by rw [d3] at w2; exact w2) d3 hn
            rw [bd2_ok e1]
            exact ⟨S', rfl, e2⟩
          · rw [if_neg d3, if_neg (fun e => d3 ((nI_eq (by omega) (by omega)).mp (e.trans (show (3 : Int32) = nI 3 from rfl))))]
            by_cases d4 : gK S (gV S c.1 c.2.1) = 4
            · rw [if_pos d4, if_pos (show nI (gK S (gV S c.1 c.2.1)) = 4 by rw [d4]; rfl)]
              obtain ⟨S', e1, e2⟩ := X8_atBra hN hG0 h hv (by rw [d4] at w2; exact w2) d3 hn hm
              rw [bd2_ok e1]
              exact ⟨S', rfl, e2⟩
            · rw [if_neg d4, if_neg (fun e => d4 ((nI_eq (by omega) (by omega)).mp (e.trans (show (4 : Int32) = nI 4 from rfl))))]
              exact ⟨S, rfl, StepR.stay h (by decide)⟩
  by_cases m1 : gP S c.1 c.2.1 = 0 ∧ c.2.1 = 0 ∧ ¬ gK S c.1 = 6
  · rw [if_pos (show nI (gP S c.1 c.2.1) = 0 by rw [m1.1]; rfl), if_pos (show nI c.2.1 = 0 by rw [m1.2.1]; rfl), ckx_ok (vp_in_nI (by omega) (by omega)), nI_clamp (by omega), kc1, if_neg (fun e => m1.2.2 ((nI_eq (by omega) (by omega)).mp (e.trans (show (6 : Int32) = nI 6 from rfl)))), bnd_eq, bnd_eq]
    have e5 : aStep (gK S) (gX S) (gV S) (gP S) c = (5, c) := aStep_5 m1
    rw [e5]
    obtain ⟨S4, eS4⟩ : ∃ z, z = sI (sI S 50 (nI c.1)) 51 (nI (gV S c.1 c.2.1)) := ⟨_, rfl⟩
    rw [← eS4]
    have f4 : Fr S S4 [50, 51] [] := by rw [eS4]; exact (Fr.I (by decide)).trans (Fr.I (by decide))
    refine ⟨S4, rfl, ⟨f4.mono (by decide) (fun _ h => by cases h), ?_, ?_, fun e => absurd e (by show ¬ (5 : Nat) = 6; decide)⟩, fun _ => ?_⟩
    · exact (f4.1 46 (by decide)).trans h.2.2.2.2.2.1.2.2.2.2.1
    · exact TdR.of _ (fun j _ => by rw [f4.2.1 45 (by decide)]) h.2.2.2.2.2.1.2.2.2.2.2.1
    · rw [eS4]; exact ⟨rfl, rfl⟩
  · have n5 : ¬ (aStep (gK S) (gX S) (gV S) (gP S) c).1 = 5 := by
      have := (aStep_all (K := gK S) (X := gX S) (Wv := gV S) (Wp := gP S) h.2.2.2.2.2.2.1 ht m1).1
      omega
    obtain ⟨S', e1, e2⟩ := rest m1
    by_cases m2 : gP S c.1 c.2.1 = 0
    · rw [if_pos (show nI (gP S c.1 c.2.1) = 0 by rw [m2]; rfl)]
      by_cases m3 : c.2.1 = 0
      · have m4 : gK S c.1 = 6 := Classical.byContradiction (fun q => m1 ⟨m2, m3, q⟩)
        rw [if_pos (show nI c.2.1 = 0 by rw [m3]; rfl), ckx_ok (vp_in_nI (by omega) (by omega)), nI_clamp (by omega), kc1, if_pos (show nI (gK S c.1) = 6 by rw [m4]; rfl)]
        exact ⟨S', e1, e2, fun q => absurd q n5⟩
      · rw [if_neg (fun e => m3 ((nI_eq (by omega) (by omega)).mp (e.trans (show (0 : Int32) = nI 0 from rfl))))]
        exact ⟨S', e1, e2, fun q => absurd q n5⟩
    · rw [if_neg (fun e => m2 ((nI_eq (by omega) (by omega)).mp (e.trans (show (0 : Int32) = nI 0 from rfl))))]
      exact ⟨S', e1, e2, fun q => absurd q n5⟩
/-- the graph of the walk of a state -/
noncomputable def sWalk (S : St) : Nat → Cf → Nat × Cf := aWalk (gK S) (gX S) (gV S) (gP S)
theorem X8_walkLoop {N : Nat} (hN : Big N) : ∀ (m k : Nat) (S : St) (nl nv : Nat) (c : Cf), m ≤ 4000 → m + 2 < k → GS S → WR S nl nv c → CfOk 3010 (gK S) c → c.2.2.2.2.2.length ≤ 4000 → nl + 66 * m ≤ 264001 → nv + m ≤ 4001 →
    ∃ S', loopN (fun k x => fX8_walk_62s N k x.1 x.2.1 x.2.2) k (S, nI 6, nI (4000 - m)) = some (nI (sWalk S m c).1, S') ∧ Fr S S' FI FA ∧ S'.1 46 = nI (sWalk S m c).2.2.2.2.2.2.length ∧ TdR S' (sWalk S m c).2.2.2.2.2.2 ∧ ((sWalk S m c).1 = 5 → S'.1 50 = nI (sWalk S m c).2.1 ∧ S'.1 51 = nI (gV S (sWalk S m c).2.1 (sWalk S m c).2.2.1))
  | 0, k, S, nl, nv, c, _, hk, hG, h, hc, ht, _, _ => by
    obtain ⟨k, rfl⟩ : ∃ k', k = k' + 2 := ⟨k - 2, by omega⟩
    show ∃ S', fX8_walk_62s N _ S (nI 6) (nI 4000) = some (nI 3, S') ∧ _
    unfold fX8_walk_62s
    rw [if_pos (show nI 6 = (6 : Int32) from rfl), if_pos (show nI 4000 = (4000 : Int32) from rfl)]
    unfold fX8_walk_83
    rw [h.2.2.2.2.2.1.2.2.2.2.1, show (4000 : Int32) = nI 4000 from rfl, if_pos (nI_le ht (by omega))]
    unfold fX8_walk_99
    rw [bnd_eq]
    refine ⟨S, ?_, Fr.rf, h.2.2.2.2.2.1.2.2.2.2.1, h.2.2.2.2.2.1.2.2.2.2.2.1, fun e => absurd e (by show ¬ (3 : Nat) = 5; decide)⟩
    show fX8_walk_62s N _ S 3 _ = _
    unfold fX8_walk_62s
    rw [if_neg (by decide)]
    rfl
  | m + 1, k, S, nl, nv, c, hm, hk, hG, h, hc, ht, hnl, hnv => by
    obtain ⟨k, rfl⟩ : ∃ k', k = k' + 1 := ⟨k - 1, by omega⟩
    obtain ⟨S1, e1, ⟨f1, t46, tT, hon⟩, e5⟩ := X8_step hN hG h hc ht (by omega) (by omega)
    obtain ⟨a, ea⟩ : ∃ a, a = aStep (gK S) (gX S) (gV S) (gP S) c := ⟨_, rfl⟩
    rw [← ea] at e1 t46 tT hon e5
    have eW : sWalk S (m + 1) c = if (if 4000 < a.2.2.2.2.2.2.length then 3 else a.1) = 6 then sWalk S m a.2 else ((if 4000 < a.2.2.2.2.2.2.length then 3 else a.1), a.2) := by
      rw [ea]; rfl
    show ∃ S', fX8_walk_62s N (loopN (fun k x => fX8_walk_62s N k x.1 x.2.1 x.2.2) k) S (nI 6) (nI (4000 - (m + 1))) = some _ ∧ _
    unfold fX8_walk_62s
    rw [if_pos (show nI 6 = (6 : Int32) from rfl), if_neg (fun e => absurd ((nI_eq (by omega) (by omega)).mp (e.trans (show (4000 : Int32) = nI 4000 from rfl))) (by omega)), bd2_ok e1]
    unfold fX8_walk_83
    obtain ⟨b1, b2, b3⟩ := aStep_bd (K := gK S) (X := gX S) (Wv := gV S) (Wp := gP S) h.2.2.2.2.2.2.1 ht
    rw [← ea] at b1 b2 b3
    rw [t46, show (4000 : Int32) = nI 4000 from rfl, eW]
    by_cases c1 : 4000 < a.2.2.2.2.2.2.length
    · rw [if_neg (fun e => absurd ((nI_leI (by omega) (by omega)).mp e) (by omega)), if_pos c1, if_neg (by decide)]
      unfold fX8_walk_99
      rw [bnd_eq]
      obtain ⟨k, rfl⟩ : ∃ k', k = k' + 1 := ⟨k - 1, by omega⟩
      refine ⟨S1, ?_, f1, t46, tT, fun e => absurd e (by show ¬ (3 : Nat) = 5; decide)⟩
      show fX8_walk_62s N _ S1 3 _ = _
      unfold fX8_walk_62s
      rw [if_neg (by decide)]
      rfl
    · rw [if_pos (nI_le (by omega) (by omega)), if_neg c1]
      unfold fX8_walk_99
      rw [bnd_eq, nI_1]
      by_cases c2 : a.1 = 6
      · rw [if_pos c2, c2]
        obtain ⟨nl', nv', w1, w2, w3⟩ := hon c2
        obtain ⟨g1, g2, g3, g4, g5⟩ := gr_same (f1.2.1 17 (by decide)) (f1.2.1 18 (by decide)) (f1.2.1 19 (by decide))
        have es : sWalk S1 = sWalk S := by unfold sWalk; rw [g1, g2, g3, g4]
        obtain ⟨S', k1, k2, k3, k4, k5⟩ := X8_walkLoop hN m k S1 nl' nv' a.2 (by omega) (by omega) (hG.of (f1.2.1 17 (by decide)) (f1.2.1 18 (by decide)) (f1.2.1 19 (by decide))) w1 (by rw [g1, ea]; exact aStep_ok hG.2 hc (by rw [← ea]; exact c2)) (by omega) (by omega) (by omega)
        rw [es, g3] at k5
        rw [es] at k1 k3 k4
        refine ⟨S', ?_, f1.trans k2, k3, k4, k5⟩
        rw [show 4000 - (m + 1) + 1 = 4000 - m by omega]
        exact k1
      · rw [if_neg c2]
        obtain ⟨k, rfl⟩ : ∃ k', k = k' + 1 := ⟨k - 1, by omega⟩
        refine ⟨S1, ?_, f1, t46, tT, fun e => ?_⟩
        · show fX8_walk_62s N _ S1 (nI a.1) _ = _
          unfold fX8_walk_62s
          rw [if_neg (fun e => c2 ((nI_eq (by omega) (by omega)).mp (e.trans (show (6 : Int32) = nI 6 from rfl))))]
        · have := e5 e
          rw [b3 e]
          exact this
theorem X8_walk {S : St} {N : Nat} (hN : Big N) (hG : GS S) (h6 : gK S 0 = 6) :
    ∃ S', fX8_walk N S = some (nI (sWalk S 4000 aStart).1, S') ∧ Fr S S' FI FA ∧ S'.1 46 = nI (sWalk S 4000 aStart).2.2.2.2.2.2.length ∧ TdR S' (sWalk S 4000 aStart).2.2.2.2.2.2 ∧ ((sWalk S 4000 aStart).1 = 5 → S'.1 50 = nI (sWalk S 4000 aStart).2.1 ∧ S'.1 51 = nI (gV S (sWalk S 4000 aStart).2.1 (sWalk S 4000 aStart).2.2.1)) := by
  have hb := hN
  unfold Big at hb
  obtain ⟨R, e1, e2⟩ := loop_par (step := fun k x => fX8_walk_2s N k x.1 x.2) (fun a : St × Nat => (a.1, nI a.2)) (fun a => 512 - a.2)
    (fun a => Fr S a.1 [] [39] ∧ a.2 ≤ 512 ∧ ∀ g, g < a.2 → a.1.2.1 39 g = 0)
    (fun _ R => R.1 = nI (sWalk S 4000 aStart).1 ∧ Fr S R.2 FI FA ∧ R.2.1 46 = nI (sWalk S 4000 aStart).2.2.2.2.2.2.length ∧ TdR R.2 (sWalk S 4000 aStart).2.2.2.2.2.2 ∧ ((sWalk S 4000 aStart).1 = 5 → R.2.1 50 = nI (sWalk S 4000 aStart).2.1 ∧ R.2.1 51 = nI (gV S (sWalk S 4000 aStart).2.1 (sWalk S 4000 aStart).2.2.1))) (by
      rintro f ⟨S1, k⟩ ⟨hf, hk, hz⟩ ih
      dsimp only at hf hk hz ih ⊢
      unfold fX8_walk_2s
      rw [show (512 : Int32) = nI 512 from rfl]
      by_cases c1 : 512 ≤ k
      · have k5 : k = 512 := by omega
        subst k5
        rw [if_pos (nI_le (Nat.le_refl _) (by omega)), bnd_eq, bnd_eq, bnd_eq, bnd_eq, bnd_eq, bnd_eq, bnd_eq, bnd_eq, bnd_eq]
        obtain ⟨S8, e8⟩ : ∃ z : St, z = sI (sI (sI (sI (sI (sI (sI S1 40 1) 43 1) 46 0) 54 0) 57 0) 48 0) 49 0 := ⟨_, rfl⟩
        rw [← e8]
        have f8 : Fr S1 S8 [40, 43, 46, 54, 57, 48, 49] [] := by
          rw [e8]
          exact ((((((Fr.I (by decide)).trans (Fr.I (by decide))).trans (Fr.I (by decide))).trans (Fr.I (by decide))).trans (Fr.I (by decide))).trans (Fr.I (by decide))).trans (Fr.I (by decide))
        have z40 : S8.1 40 = nI 1 := by rw [e8]; rfl
        have z43 : S8.1 43 = nI 1 := by rw [e8]; rfl
        have z46 : S8.1 46 = nI 0 := by rw [e8]; rfl
        have z54 : S8.1 54 = nI 0 := by rw [e8]; rfl
        have z57 : S8.1 57 = nI 0 := by rw [e8]; rfl
        have z48 : S8.1 48 = nI 0 := by rw [e8]; rfl
        have z49 : S8.1 49 = nI 0 := by rw [e8]; rfl
        have z39 : ∀ g, g < 512 → S8.2.1 39 g = 0 := fun g hg => by rw [f8.2.1 39 (by decide)]; exact hz g hg
        have F8 : Fr S S8 FI FA := (hf.mono (fun _ h => by cases h) (by decide)).trans (f8.mono (by decide) (fun _ h => by cases h))
        have eH0 : ∀ g, g < 512 → eH S8 g = 0 := fun g hg => by unfold eH; rw [z39 g hg]; rfl
        have hV : Lvs S8 1 := ⟨z40, by decide, by decide, fun k a b => absurd b (by omega), fun g hg => by rw [eH0 g hg, z39 g hg]; exact ⟨rfl, by decide⟩, fun i j a b => absurd b (by omega), fun k a b => absurd b (by omega)⟩
        have hL : Lst S8 1 := ⟨z43, by decide, by decide, fun l a b => absurd b (by omega)⟩
        obtain ⟨g1, g2, g3, g4, g5⟩ := gr_same (F8.2.1 17 (by decide)) (F8.2.1 18 (by decide)) (F8.2.1 19 (by decide))
        have es : sWalk S8 = sWalk S := by unfold sWalk; rw [g1, g2, g3, g4]
        have hW : WR S8 1 1 aStart := ⟨⟨hL, hV, fun l a b => absurd b (by omega)⟩, by show 0 < 3010; decide, by show 0 < 3; decide, z49, ⟨0, z48, by decide, by funext i; exact cxt_z S8 i⟩, ⟨z57, trivial, z54, trivial, z46, trivial, rfl⟩, Nat.le_refl _, Nat.le_refl _⟩
        obtain ⟨S', k1, k2, k3, k4, k5⟩ := X8_walkLoop hN 4000 N S8 1 1 aStart (Nat.le_refl _) (by omega) (hG.of (F8.2.1 17 (by decide)) (F8.2.1 18 (by decide)) (F8.2.1 19 (by decide))) hW (by rw [g1]; exact ⟨by show 0 < 3010; decide, by show 0 < nP (gK S 0); rw [h6]; decide, fun _ h => by cases h⟩) (by show 0 ≤ 4000; decide) (by decide) (by decide)
        rw [es] at k1 k3 k4
        rw [es, g3] at k5
        exact ⟨_, k1, rfl, F8.trans k2, k3, k4, k5⟩
      · rw [if_neg (fun e => c1 ((nI_leI (by omega) (by omega)).mp e)), ckx_ok (vp_in_nI (by omega) (by omega)), bnd_eq, bnd_eq, nI_1, nI_clamp (by omega)]
        refine ih (sA S1 39 (upd (S1.2.1 39) k 0), k + 1) ⟨hf.trans (Fr.A (by decide)), by show k + 1 ≤ 512; omega, fun g hg => ?_⟩ (by show 512 - (k + 1) < 512 - k; omega)
        show upd (S1.2.1 39) k 0 g = 0
        rw [upd_at]
        by_cases c2 : g = k
        · rw [if_pos c2]
        · rw [if_neg c2]
          exact hz g (by
            have hg' : g < k + 1 := hg
            omega)) N (S, 0) ⟨Fr.rf, by show 0 ≤ 512; decide, fun g hg => absurd hg (Nat.not_lt_zero _)⟩ (by show 512 - 0 < N; omega)
  obtain ⟨r1, r2⟩ := R
  obtain ⟨h1, h2⟩ := e2
  dsimp only at h1 h2
  subst h1
  exact ⟨r2, e1, h2⟩
