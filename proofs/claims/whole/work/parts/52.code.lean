/-! what a level is, as one number: BOX is 0; code d a b for FIRST (1), SECOND (2) of a, PAIR (3) of a and b -/
def pr (a b : Nat) : Nat := 2 ^ a * (2 * b + 1)
theorem pr_pos (a b : Nat) : 0 < pr a b := Nat.mul_pos (Nat.two_pow_pos a) (by omega)
theorem pr_inj : ∀ (a b c d : Nat), pr a b = pr c d → a = c ∧ b = d
  | 0, b, 0, d, h => by
    unfold pr at h
    rw [Nat.pow_zero, Nat.one_mul, Nat.one_mul] at h
    exact ⟨rfl, by omega⟩
  | 0, b, c + 1, d, h => by
    unfold pr at h
    rw [Nat.pow_zero, Nat.one_mul, Nat.pow_succ, Nat.mul_comm (2 ^ c) 2, Nat.mul_assoc] at h
    omega
  | a + 1, b, 0, d, h => by
    unfold pr at h
    rw [Nat.pow_zero, Nat.one_mul, Nat.pow_succ, Nat.mul_comm (2 ^ a) 2, Nat.mul_assoc] at h
    omega
  | a + 1, b, c + 1, d, h => by
    unfold pr at h
    rw [Nat.pow_succ, Nat.pow_succ, Nat.mul_comm (2 ^ a) 2, Nat.mul_comm (2 ^ c) 2, Nat.mul_assoc, Nat.mul_assoc] at h
    have := pr_inj a b c d (by unfold pr; omega)
    omega
def code_ (d a b : Nat) : Nat := 3 * pr a b + d
theorem code_pos (d a b : Nat) : 0 < code_ d a b := by
  have := pr_pos a b
  unfold code_
  omega
theorem code_inj {d a b d' a' b' : Nat} (h1 : 1 ≤ d ∧ d ≤ 3) (h2 : 1 ≤ d' ∧ d' ≤ 3) (h : code_ d a b = code_ d' a' b') : d = d' ∧ a = a' ∧ b = b' := by
  unfold code_ at h
  have e : d = d' := by omega
  have e2 : pr a b = pr a' b' := by omega
  exact ⟨e, pr_inj a b a' b' e2⟩
/-- the number of a level of the reference -/
def valF (S : St) : Nat → Nat → Nat
  | 0, _ => 0
  | f + 1, k => if k = 0 then 0 else code_ (eK S k) (valF S f (eA S k)) (valF S f (eB S k))
def val (S : St) (k : Nat) : Nat := valF S k k
theorem valF_eq {S : St} {n : Nat} (h : Lvs S n) : ∀ (k f : Nat), k < n → k ≤ f → valF S f k = val S k := by
  intro k
  induction k using Nat.strongRecOn with
  | _ k ih =>
    intro f hk hf
    by_cases c : k = 0
    · subst c
      cases f <;> rfl
    · obtain ⟨-, -, -, -, -, -, g7, g8, -⟩ := h.2.2.2.1 k (by omega) hk
      obtain ⟨f', rfl⟩ : ∃ f', f = f' + 1 := ⟨f - 1, by omega⟩
      obtain ⟨k', rfl⟩ : ∃ k', k = k' + 1 := ⟨k - 1, by omega⟩
      unfold val
      show (if k' + 1 = 0 then 0 else code_ (eK S (k' + 1)) (valF S f' (eA S (k' + 1))) (valF S f' (eB S (k' + 1)))) = (if k' + 1 = 0 then 0 else code_ (eK S (k' + 1)) (valF S k' (eA S (k' + 1))) (valF S k' (eB S (k' + 1))))
      rw [ih _ g7 f' (by omega) (by omega), ih _ g7 k' (by omega) (by omega), ih _ g8 f' (by omega) (by omega), ih _ g8 k' (by omega) (by omega)]
theorem val_0 (S : St) : val S 0 = 0 := rfl
theorem val_s {S : St} {n k : Nat} (h : Lvs S n) (h0 : 0 < k) (hk : k < n) : val S k = code_ (eK S k) (val S (eA S k)) (val S (eB S k)) := by
  have hent := h.2.2.2.1
  obtain ⟨-, -, -, -, -, -, g7, g8, -⟩ := hent k h0 hk
  obtain ⟨k', rfl⟩ : ∃ k', k = k' + 1 := ⟨k - 1, by omega⟩
  rw [← valF_eq h (eA S (k' + 1)) k' (by omega) (by omega), ← valF_eq h (eB S (k' + 1)) k' (by omega) (by omega)]
  show (if k' + 1 = 0 then 0 else code_ (eK S (k' + 1)) (valF S k' (eA S (k' + 1))) (valF S k' (eB S (k' + 1)))) = _
  rw [if_neg (Nat.succ_ne_zero k')]
theorem val_inj {S : St} {n : Nat} (h : Lvs S n) : ∀ (i j : Nat), i < n → j < n → val S i = val S j → i = j := by
  intro i
  induction i using Nat.strongRecOn with
  | _ i ih =>
    intro j hi hj e
    have hent := h.2.2.2.1
    have huq := h.2.2.2.2.2.1
    by_cases c : i = 0 <;> by_cases d : j = 0
    · omega
    · rw [c, val_0, val_s h (by omega) hj] at e
      have := code_pos (eK S j) (val S (eA S j)) (val S (eB S j))
      omega
    · rw [d, val_0, val_s h (by omega) hi] at e
      have := code_pos (eK S i) (val S (eA S i)) (val S (eB S i))
      omega
    · obtain ⟨-, -, -, -, g5, g6, g7, g8, -⟩ := hent i (by omega) hi
      obtain ⟨-, -, -, -, k5, k6, k7, k8, -⟩ := hent j (by omega) hj
      rw [val_s h (by omega) hi, val_s h (by omega) hj] at e
      obtain ⟨e1, e2, e3⟩ := code_inj ⟨g5, g6⟩ ⟨k5, k6⟩ e
      exact huq i j (by omega) hi (by omega) hj e1 (ih _ g7 _ (by omega) (by omega) e2) (ih _ g8 _ (by omega) (by omega) e3)
theorem VExt.val {S S' : St} {n n' : Nat} (h : VExt S S' n n') (hS : Lvs S n) : ∀ k, k < n → val S' k = val S k := by
  intro k
  induction k using Nat.strongRecOn with
  | _ k ih =>
    intro hk
    by_cases c : k = 0
    · rw [c]; rfl
    · obtain ⟨-, -, -, -, -, -, g7, g8, -⟩ := hS.2.2.2.1 k (by omega) hk
      obtain ⟨e1, e2, e3⟩ := h.2.2 k hk
      have := h.2.1
      rw [val_s h.1 (by omega) (by omega), val_s hS (by omega) hk, e1, e2, e3, ih _ g7 (by omega), ih _ g8 (by omega)]
/-- a context of the reference, as numbers -/
def cxt (S : St) (l : Nat) : Nat → Nat := fun i => val S (lvl S l i)
