/-! the class: one step of its walk -/
/-- the arguments that were entered -/
def al : List Lt → Nat
  | [] => 0
  | it :: r => (if it.1 = 2 then 1 else 0) + al r
def trT (tr : List Te) (m : Nat) : List Te := tr.drop (tr.length - m)
def LLt (lab : Nat → Nat → Nat) (tr : List Te) : List Lt → List Nat → Prop
  | [], _ => True
  | it :: r, ms => (it.1 ≠ 1 → it.1 ≠ 2 → aT (trT tr (ms.headD 0)) + al r + 1 = dT (trT tr (ms.headD 0)) + lab it.2.1 2) ∧ LLt lab tr r ms.tail
def LLx (lab : Nat → Nat → Nat) (c : Cf) (tr : List Te) (ms : List Nat) (vs : Nat) : Prop := aT tr + al c.2.2.2.1 = dT tr + lab c.1 c.2.1 ∧ al c.2.2.2.1 ≤ vs ∧ LLt lab tr c.2.2.2.1 ms
theorem trT_cons {e : Te} {tr : List Te} {m : Nat} (h : m ≤ tr.length) : trT (e :: tr) m = trT tr m := by
  unfold trT
  rw [show (e :: tr).length - m = (tr.length - m) + 1 by show tr.length + 1 - m = _; omega]
  rfl
theorem trT_top (tr : List Te) : trT tr tr.length = tr := by
  unfold trT
  rw [Nat.sub_self]; rfl
theorem trT_len {tr : List Te} {m : Nat} (h : m ≤ tr.length) : (trT tr m).length = m := by
  unfold trT
  rw [List.length_drop]; omega
theorem trT_trT {tr : List Te} {m m2 : Nat} (h : m ≤ tr.length) (h2 : m2 ≤ m) : trT (trT tr m) m2 = trT tr m2 := by
  have e := trT_len h
  show (trT tr m).drop ((trT tr m).length - m2) = _
  rw [e]
  unfold trT
  rw [List.drop_drop]
  congr 1
  omega
theorem hd_le {ms : List Nat} {b : Nat} (h : ∀ m ∈ ms, m ≤ b) : ms.headD 0 ≤ b := by
  cases ms with
  | nil => exact Nat.zero_le _
  | cons m r => exact h m (List.mem_cons_self ..)
theorem LLt_cons {lab : Nat → Nat → Nat} {e : Te} {tr : List Te} : ∀ (lat : List Lt) (ms : List Nat), (∀ m ∈ ms, m ≤ tr.length) → LLt lab tr lat ms → LLt lab (e :: tr) lat ms
  | [], _, _, _ => trivial
  | it :: r, ms, hm, ⟨h1, h2⟩ => by
    refine ⟨fun c1 c2 => ?_, LLt_cons r ms.tail (fun m q => hm m (List.mem_of_mem_tail q)) h2⟩
    rw [trT_cons (hd_le hm)]
    exact h1 c1 c2
theorem LLt_trT {lab : Nat → Nat → Nat} {tr : List Te} {b : Nat} (hb : b ≤ tr.length) : ∀ (lat : List Lt) (ms : List Nat), (∀ m ∈ ms, m ≤ b) → LLt lab tr lat ms → LLt lab (trT tr b) lat ms
  | [], _, _, _ => trivial
  | it :: r, ms, hm, ⟨h1, h2⟩ => by
    refine ⟨fun c1 c2 => ?_, LLt_trT hb r ms.tail (fun m q => hm m (List.mem_of_mem_tail q)) h2⟩
    rw [trT_trT hb (hd_le hm)]
    exact h1 c1 c2
theorem aGo_LL {S : St} {X L : Nat → Nat} {n vs : Nat} {tr : List Te} {lab : Nat → Nat → Nat} : ∀ (lat : List Lt) (ab : List Ab) (td : List Nat) (ms : List Nat) (bc : Nat), SkA S X L n tr lat ab ms bc → LLt lab tr lat ms → al lat ≤ vs → (aGo lat ab td).1 = 6 → LLx lab (aGo lat ab td).2 (trT tr (eg lat ms).1) ((eg lat ms).1 :: (eg lat ms).2) (vs + 1) ∧ (aGo lat ab td).2.2.1 = 2
  | [], _, _, _, _, _, _, _, h => absurd h (by show ¬ (0 : Nat) = 6; decide)
  | it :: r, ab, td, ms, bc, hs, hl, hv, h6 => by
    obtain ⟨m, ms', e1, e2, e3, e4, hc⟩ := hs
    subst e1
    have e0 : aGo (it :: r) ab td = if it.1 = 1 then aGo r ab.tail td else if it.1 = 2 then aGo r ab (41 :: td) else (6, (it.2.1, 2, it.2.2, (2, 0, (fun _ => 0)) :: r, ab, 32 :: td)) := rfl
    have eg0 : eg (it :: r) (m :: ms') = if it.1 = 1 ∨ it.1 = 2 then eg r ms' else (m, ms') := rfl
    have ea : al (it :: r) = (if it.1 = 2 then 1 else 0) + al r := rfl
    obtain ⟨l1, l2⟩ := hl
    have l2 : LLt lab tr r ms' := l2
    have l1 : it.1 ≠ 1 → it.1 ≠ 2 → aT (trT tr m) + al r + 1 = dT (trT tr m) + lab it.2.1 2 := l1
    have hv' : al r ≤ vs := by rw [ea] at hv; omega
    rw [e0] at h6 ⊢
    rw [eg0]
    rcases hc with ⟨c1, c2, v, cxb, ab', st, d1, d2, d3, d4, d5, d6, d7, d8⟩ | ⟨c1, c2, c3⟩ | ⟨c1, c2, c3, c4, c5, c6⟩
    · rw [if_pos c1] at h6 ⊢
      rw [if_pos (Or.inl c1)]
      rw [d1] at h6 ⊢
      exact aGo_LL r ab' td ms' st d8 l2 hv' h6
    · rw [if_neg (by omega), if_pos c1] at h6 ⊢
      rw [if_pos (Or.inr c1)]
      exact aGo_LL r ab (41 :: td) ms' bc c3 l2 hv' h6
    · rw [if_neg (by omega), if_neg (by omega), if_neg (by omega)]
      have h := l1 (by omega) (by omega)
      refine ⟨⟨?_, ?_, ⟨fun _ q => absurd rfl q, LLt_trT e2 r ms' e3 l2⟩⟩, rfl⟩
      · show aT (trT tr m) + (1 + al r) = dT (trT tr m) + lab it.2.1 2
        omega
      · show 1 + al r ≤ vs + 1
        omega
theorem DB_up {vs : Nat} : ∀ tr : List Te, DB vs tr → DB (vs + 1) tr
  | [], _ => trivial
  | e :: r, ⟨h1, h2⟩ => ⟨by omega, DB_up r h2⟩
theorem CX.up {S : St} {D n vs : Nat} {L : Nat → Nat} {tr : List Te} (h : CX S D L n tr vs) (hv : vs + 1 + tr.length ≤ 4000) : CX S D L n tr (vs + 1) := by
  obtain ⟨h1, h2, h3, h4, h5, h6, h7, h8⟩ := h
  exact ⟨h1, h2, h3, hv, h5, by omega, DB_up _ h7, h8⟩
/-- what lies between a state and the one before, where it can be taken back -/
def PvX (S : St) (c : Cf) (tr : List Te) (ms : List Nat) (L : Nat → Nat) (n vs : Nat) (c' : Cf) (tr' : List Te) (ms' : List Nat) (L' : Nat → Nat) (n' vs' : Nat) : Prop := c.2.2.1 = (fun i => tv S (L i)) ∧ (∀ i, L i < n) ∧ n ≤ n' ∧ vs = vs' ∧ (∀ m ∈ ms, m ≤ tr.length) ∧ ((c'.2.2.2.1 = c.2.2.2.1 ∧ ms' = ms ∧ ∃ f, tr' = (f, L, n) :: tr) ∨ (c'.2.2.2.1.length = c.2.2.2.1.length + 1 ∧ ms' = tr.length :: ms ∧ tr' = tr ∧ L' = L ∧ n' = n))
def OutS (S S' : St) (X : Nat → Nat) (lab : Nat → Nat → Nat) (c : Cf) (tr : List Te) (ms : List Nat) (L : Nat → Nat) (n vs : Nat) (code : Int32) (e : Nat × Cf) : Prop := (4000 < e.2.2.2.2.2.2.length → code = 3) ∧ (e.2.2.2.2.2.2.length ≤ 4000 → code = nI e.1 ∧ (e.1 = 0 → S'.1 123 = nI e.2.2.2.2.2.2.length ∧ TdC S' e.2.2.2.2.2.2) ∧ (e.1 = 6 → ∃ tr' ms' L' n' vs', WK S' X e.2 tr' ms' L' n' vs' ∧ LLx lab e.2 tr' ms' vs' ∧ vs' + tr'.length ≤ vs + tr.length + 1 ∧ (e.2.2.1 ≠ 0 ∨ (PvX S' c tr ms L n vs e.2 tr' ms' L' n' vs' ∧ ∀ k, k < n → tv S' k = tv S k))))
theorem ctlS_46 {k w q x : Nat} {c : Cf} : (ctlS k w q x c).1 = 6 ∧ (ctlS k w q x c).2.2.2.2 = c.2.2.2 ∨ ctlS k w q x c = (4, c) := by
  unfold ctlS
  by_cases k2 : k = 2
  · rw [if_pos k2]
    unfold aFan
    by_cases c1 : 0 < q
    · rw [if_pos c1]; exact Or.inl ⟨rfl, rfl⟩
    · rw [if_neg c1]
      by_cases c2 : (dc (c.2.2.1 x)).1 = 1 ∨ (dc (c.2.2.1 x)).1 = 2
      · rw [if_pos c2]; exact Or.inl ⟨rfl, rfl⟩
      · rw [if_neg c2]; exact Or.inr rfl
  · rw [if_neg k2]
    by_cases k3 : k = 3
    · rw [if_pos k3]
      unfold aCro
      by_cases c1 : q = 1
      · rw [if_pos c1]; exact Or.inl ⟨rfl, rfl⟩
      · rw [if_neg c1]; exact Or.inl ⟨rfl, rfl⟩
    · rw [if_neg k3]
      unfold aBra
      by_cases c1 : q = 1
      · rw [if_pos c1]; exact Or.inl ⟨rfl, rfl⟩
      · rw [if_neg c1]
        by_cases c2 : (dc (c.2.2.1 x)).1 = 3
        · rw [if_pos c2]; exact Or.inl ⟨rfl, rfl⟩
        · rw [if_neg c2]; exact Or.inr rfl
/-- the labels behind a control -/
theorem ctlS_lab {k w q x : Nat} {c : Cf} {l0 l1 l2 : Nat} {ln : List Te} {Te0 : Te} (hk : isC k) (hq : q < nP k) (h6 : (ctlS k w q x c).1 = 6) (hl2 : k = 2 → l1 = l0 ∧ l2 = l0) (hl3 : k = 3 → l0 = l1 + 1) (hl4 : k = 4 → l1 = l0 + 1) (a : Nat) (ha : aT ln + a = dT ln + (if q = 0 then l0 else if q = 1 then l1 else l2)) (hT : Te0.1 = fcl k q) : aT (Te0 :: ln) + a = dT (Te0 :: ln) + (if (ctlS k w q x c).2.2.1 = 0 then l0 else if (ctlS k w q x c).2.2.1 = 1 then l1 else l2) := by
  have ea : aT (Te0 :: ln) = aT ln + if fcl k q = 0 ∨ fcl k q = 3 then 1 else 0 := by rw [← hT]; rfl
  have ed : dT (Te0 :: ln) = dT ln + if fcl k q = 1 ∨ fcl k q = 2 then 1 else 0 := by rw [← hT]; rfl
  rw [ea, ed]
  clear ea ed hT
  rcases hk with e | e | e
  · subst e
    obtain ⟨g1, g2⟩ := hl2 rfl
    subst g1 g2
    simp only [ite_self] at ha ⊢
    show aT ln + 0 + a = dT ln + 0 + _
    omega
  · subst e
    have g := hl3 rfl
    have hq : q < 2 := hq
    have : q = 0 ∨ q = 1 := by omega
    rcases this with z | z <;> subst z
    · have ha : aT ln + a = dT ln + l0 := ha
      show aT ln + 0 + a = dT ln + 1 + l1
      omega
    · have ha : aT ln + a = dT ln + l1 := ha
      show aT ln + 1 + a = dT ln + 0 + l0
      omega
  · subst e
    have g := hl4 rfl
    have hq : q < 2 := hq
    have : q = 0 ∨ q = 1 := by omega
    rcases this with z | z <;> subst z
    · have e0 : ctlS 4 w 0 x c = if (dc (c.2.2.1 x)).1 = 3 then (6, (w, 1, cIns (cSet c.2.2.1 x (dc (c.2.2.1 x)).2.2) x (dc (c.2.2.1 x)).2.1, c.2.2.2)) else (4, c) := rfl
      rw [e0] at h6 ⊢
      have ha : aT ln + a = dT ln + l0 := ha
      by_cases c2 : (dc (c.2.2.1 x)).1 = 3
      · rw [if_pos c2]
        show aT ln + 1 + a = dT ln + 0 + l1
        omega
      · rw [if_neg c2] at h6
        exact absurd h6 (by show ¬ (4 : Nat) = 6; decide)
    · have ha : aT ln + a = dT ln + l1 := ha
      show aT ln + 0 + a = dT ln + 1 + l0
      omega
theorem ctlS_p {k w q x : Nat} {c : Cf} (hk : isC k) (hq : q < nP k) (h6 : (ctlS k w q x c).1 = 6) : (ctlS k w q x c).2.2.1 < 3 := by
  unfold ctlS at h6 ⊢
  by_cases k2 : k = 2
  · rw [if_pos k2] at h6 ⊢
    unfold aFan at h6 ⊢
    by_cases c1 : 0 < q
    · rw [if_pos c1]; show (0 : Nat) < 3; decide
    · rw [if_neg c1] at h6 ⊢
      by_cases c2 : (dc (c.2.2.1 x)).1 = 1 ∨ (dc (c.2.2.1 x)).1 = 2
      · rw [if_pos c2]
        show (dc (c.2.2.1 x)).1 < 3
        omega
      · rw [if_neg c2] at h6; exact absurd h6 (by show ¬ (4 : Nat) = 6; decide)
  · rw [if_neg k2] at h6 ⊢
    by_cases k3 : k = 3
    · rw [if_pos k3]
      unfold aCro
      by_cases c1 : q = 1
      · rw [if_pos c1]; show (0 : Nat) < 3; decide
      · rw [if_neg c1]; show (1 : Nat) < 3; decide
    · rw [if_neg k3] at h6 ⊢
      unfold aBra at h6 ⊢
      by_cases c1 : q = 1
      · rw [if_pos c1]; show (0 : Nat) < 3; decide
      · rw [if_neg c1] at h6 ⊢
        by_cases c2 : (dc (c.2.2.1 x)).1 = 3
        · rw [if_pos c2]; show (1 : Nat) < 3; decide
        · rw [if_neg c2] at h6; exact absurd h6 (by show ¬ (4 : Nat) = 6; decide)
