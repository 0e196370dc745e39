/-! how many of a kind -/
def cnt : Nat → (Nat → Nat) → Nat → Nat
  | 0, _, _ => 0
  | n + 1, K, j => cnt n K j + if K n = j then 1 else 0
def updN (f : Nat → Nat) (v x : Nat) : Nat → Nat := fun i => if i = v then x else f i
theorem cnt_congr {K K' : Nat → Nat} {j : Nat} : ∀ (n : Nat), (∀ v, v < n → K v = K' v) → cnt n K j = cnt n K' j
  | 0, _ => rfl
  | n + 1, h => by
    show cnt n K j + (if K n = j then 1 else 0) = cnt n K' j + (if K' n = j then 1 else 0)
    rw [cnt_congr n (fun v hv => h v (by omega)), h n (by omega)]
theorem cnt_upd {K : Nat → Nat} {v x j : Nat} : ∀ (n : Nat), v < n → cnt n (updN K v x) j + (if K v = j then 1 else 0) = cnt n K j + (if x = j then 1 else 0)
  | 0, h => absurd h (Nat.not_lt_zero _)
  | n + 1, h => by
    show cnt n (updN K v x) j + (if updN K v x n = j then 1 else 0) + _ = cnt n K j + (if K n = j then 1 else 0) + _
    by_cases c : v = n
    · subst c
      have e1 : updN K v x v = x := by unfold updN; rw [if_pos rfl]
      rw [e1, cnt_congr (K := updN K v x) (K' := K) v (fun w hw => by unfold updN; rw [if_neg (by omega)])]
      omega
    · have e1 : updN K v x n = K n := by unfold updN; rw [if_neg (fun e => c e.symm)]
      have := cnt_upd (K := K) (v := v) (x := x) (j := j) n (by omega)
      rw [e1]
      omega
theorem cnt_inj {K : Nat → Nat} {j : Nat} {f : Nat → Nat} {n' j' : Nat} : ∀ (n : Nat) (K' : Nat → Nat), (∀ v, v < n → K v = j → f v < n' ∧ K' (f v) = j') → (∀ v w, v < n → w < n → K v = j → K w = j → f v = f w → v = w) → cnt n K j ≤ cnt n' K' j'
  | 0, _, _, _ => Nat.zero_le _
  | n + 1, K', h, hi => by
    show cnt n K j + (if K n = j then 1 else 0) ≤ _
    by_cases c : K n = j
    · obtain ⟨h1, h2⟩ := h n (by omega) c
      have u := cnt_upd (K := K') (v := f n) (x := j' + 1) (j := j') n' h1
      have ih := cnt_inj (K := K) (j := j) (f := f) (j' := j') n (updN K' (f n) (j' + 1)) (fun v hv hk => by
        obtain ⟨a, b⟩ := h v (by omega) hk
        refine ⟨a, ?_⟩
        unfold updN
        rw [if_neg (fun e => by have := hi v n (by omega) (by omega) hk c e; omega)]
        exact b) (fun v w hv hw => hi v w (by omega) (by omega))
      rw [if_pos c]
      rw [if_pos h2, if_neg (show ¬ j' + 1 = j' by omega)] at u
      omega
    · rw [if_neg c]
      exact cnt_inj n K' (fun v hv => h v (by omega)) (fun v w hv hw => hi v w (by omega) (by omega))
/-- no two erasers at one wire -/
def NE (n : Nat) (G : Gr) : Prop := ∀ v, v < n → G.1 v = 5 → G.1 (G.2.2.1 v 0) ≠ 5
theorem Iso_cnt_le {n n' : Nat} {φ ψ : Nat → Nat} {G G' : Gr} (hG : GVr n G) (hG' : GVr n' G') (hN : NE n G) (hI : Iso n n' φ ψ G G') {j : Nat} (hj : j < 7) : cnt n G.1 j ≤ cnt n' G'.1 j := by
  by_cases j5 : j = 5
  · subst j5
    have at5 : ∀ e, e < n → G.1 e = 5 → lv n G (G.2.2.1 e 0) ∧ G.2.2.2 e 0 < nP (G.1 (G.2.2.1 e 0)) ∧ G.2.2.1 (G.2.2.1 e 0) (G.2.2.2 e 0) = e ∧ G'.1 (G'.2.2.1 (φ (G.2.2.1 e 0)) (G.2.2.2 e 0)) = 5 ∧ G'.2.2.1 (φ (G.2.2.1 e 0)) (G.2.2.2 e 0) < n' ∧ G'.2.2.1 (G'.2.2.1 (φ (G.2.2.1 e 0)) (G.2.2.2 e 0)) 0 = φ (G.2.2.1 e 0) ∧ G'.2.2.2 (G'.2.2.1 (φ (G.2.2.1 e 0)) (G.2.2.2 e 0)) 0 = G.2.2.2 e 0 := by
      intro e he h5
      have hp : 0 < nP (G.1 e) := by rw [h5]; decide
      obtain ⟨g1, g2, g3, g4, -⟩ := hG.1 e 0 he hp
      have lw := hG.lv he hp (hN e he h5)
      obtain ⟨i1, i2, i3, -, i5⟩ := hI.1 _ lw
      have k5 := (i5 _ g2).1 (by rw [g3]; exact h5)
      obtain ⟨a1, a2, a3, a4, -⟩ := hG'.1 (φ (G.2.2.1 e 0)) (G.2.2.2 e 0) i1.1 (by rw [i3]; exact g2)
      have q0 : G'.2.2.2 (φ (G.2.2.1 e 0)) (G.2.2.2 e 0) = 0 := by
        rw [k5] at a2
        have : G'.2.2.2 (φ (G.2.2.1 e 0)) (G.2.2.2 e 0) < 1 := a2
        omega
      rw [q0] at a3 a4
      exact ⟨lw, g2, g3, k5, a1, a3, a4⟩
    refine cnt_inj (f := fun e => G'.2.2.1 (φ (G.2.2.1 e 0)) (G.2.2.2 e 0)) n G'.1 (fun e he h5 => ?_) (fun e1 e2 h1 h2 k1 k2 he => ?_)
    · obtain ⟨-, -, -, a4, a5, -, -⟩ := at5 e he h5
      exact ⟨a5, a4⟩
    · obtain ⟨a1, -, a3, -, -, a6, a7⟩ := at5 e1 h1 k1
      obtain ⟨b1, -, b3, -, -, b6, b7⟩ := at5 e2 h2 k2
      have he : G'.2.2.1 (φ (G.2.2.1 e1 0)) (G.2.2.2 e1 0) = G'.2.2.1 (φ (G.2.2.1 e2 0)) (G.2.2.2 e2 0) := he
      rw [he] at a6 a7
      have w1 : G.2.2.1 e1 0 = G.2.2.1 e2 0 := hI.1.inj a1 b1 (a6.symm.trans b6)
      have w2 : G.2.2.2 e1 0 = G.2.2.2 e2 0 := a7.symm.trans b7
      rw [← a3, ← b3, w1, w2]
  · refine cnt_inj (f := φ) n G'.1 (fun v hv hk => ?_) (fun v w hv hw k1 k2 e => ?_)
    · have l : lv n G v := ⟨hv, by omega⟩
      obtain ⟨i1, -, i3, -⟩ := hI.1 v l
      exact ⟨i1.1, i3.trans hk⟩
    · exact hI.1.inj ⟨hv, by omega⟩ ⟨hw, by omega⟩ e
theorem Iso_cnt {n n' : Nat} {φ ψ : Nat → Nat} {G G' : Gr} (hG : GVr n G) (hG' : GVr n' G') (hN : NE n G) (hN' : NE n' G') (hI : Iso n n' φ ψ G G') {j : Nat} (hj : j < 7) : cnt n G.1 j = cnt n' G'.1 j :=
  Nat.le_antisymm (Iso_cnt_le hG hG' hN hI hj) (Iso_cnt_le hG' hG hN' hI.symm hj)
/-- how many are there -/
def cntA (n : Nat) (K : Nat → Nat) : Nat := cnt n K 0 + cnt n K 1 + cnt n K 2 + cnt n K 3 + cnt n K 4 + cnt n K 5 + cnt n K 6
def cntL (n : Nat) (K : Nat → Nat) : Nat := cnt n K 0 + cnt n K 1 + cnt n K 2 + cnt n K 3 + cnt n K 4
theorem cntA_new {n v x : Nat} {K : Nat → Nat} (hv : v < n) (h7 : K v = 7) (hx : x < 7) : cntA n (updN K v x) = cntA n K + 1 := by
  have u := fun j => cnt_upd (K := K) (v := v) (x := x) (j := j) n hv
  have u0 := u 0
  have u1 := u 1
  have u2 := u 2
  have u3 := u 3
  have u4 := u 4
  have u5 := u 5
  have u6 := u 6
  rw [h7] at u0 u1 u2 u3 u4 u5 u6
  unfold cntA
  have : x = 0 ∨ x = 1 ∨ x = 2 ∨ x = 3 ∨ x = 4 ∨ x = 5 ∨ x = 6 := by omega
  rcases this with e | e | e | e | e | e | e <;> subst e <;> simp at u0 u1 u2 u3 u4 u5 u6 <;> omega
theorem cntA_free {n v : Nat} {K : Nat → Nat} (hv : v < n) (h7 : K v < 7) : cntA n (updN K v 7) + 1 = cntA n K := by
  have u := fun j => cnt_upd (K := K) (v := v) (x := 7) (j := j) n hv
  have u0 := u 0
  have u1 := u 1
  have u2 := u 2
  have u3 := u 3
  have u4 := u 4
  have u5 := u 5
  have u6 := u 6
  unfold cntA
  have : K v = 0 ∨ K v = 1 ∨ K v = 2 ∨ K v = 3 ∨ K v = 4 ∨ K v = 5 ∨ K v = 6 := by omega
  rcases this with e | e | e | e | e | e | e <;> rw [e] at u0 u1 u2 u3 u4 u5 u6 <;> simp at u0 u1 u2 u3 u4 u5 u6 <;> omega
theorem cntL_free {n v : Nat} {K : Nat → Nat} (hv : v < n) (h7 : K v < 5) : cntL n (updN K v 7) + 1 = cntL n K := by
  have u := fun j => cnt_upd (K := K) (v := v) (x := 7) (j := j) n hv
  have u0 := u 0
  have u1 := u 1
  have u2 := u 2
  have u3 := u 3
  have u4 := u 4
  unfold cntL
  have : K v = 0 ∨ K v = 1 ∨ K v = 2 ∨ K v = 3 ∨ K v = 4 := by omega
  rcases this with e | e | e | e | e <;> rw [e] at u0 u1 u2 u3 u4 <;> simp at u0 u1 u2 u3 u4 <;> omega
theorem cntL_new {n v x : Nat} {K : Nat → Nat} (hv : v < n) (h7 : K v = 7) (hx : x < 5) : cntL n (updN K v x) = cntL n K + 1 := by
  have u := fun j => cnt_upd (K := K) (v := v) (x := x) (j := j) n hv
  have u0 := u 0
  have u1 := u 1
  have u2 := u 2
  have u3 := u 3
  have u4 := u 4
  rw [h7] at u0 u1 u2 u3 u4
  unfold cntL
  have : x = 0 ∨ x = 1 ∨ x = 2 ∨ x = 3 ∨ x = 4 := by omega
  rcases this with e | e | e | e | e <;> subst e <;> simp at u0 u1 u2 u3 u4 <;> omega
theorem cntL_other {n v x : Nat} {K : Nat → Nat} (hv : v < n) (h5 : 5 ≤ K v) (hx : 5 ≤ x) : cntL n (updN K v x) = cntL n K := by
  have u := fun j => cnt_upd (K := K) (v := v) (x := x) (j := j) n hv
  have u0 := u 0
  have u1 := u 1
  have u2 := u 2
  have u3 := u 3
  have u4 := u 4
  rw [if_neg (by omega), if_neg (by omega)] at u0 u1 u2 u3 u4
  unfold cntL
  omega
