/-! controls and contexts: to come in by another port (push), to come in by port 0 (pop) -/
def isC (k : Nat) : Prop := k = 2 ∨ k = 3 ∨ k = 4
/-- into a control of kind d at level x by its port a -/
def push (d a x : Nat) (cx : Nat → Nat) : Nat → Nat := if d = 2 then cSet cx x (code_ a (cx x) 0) else if d = 3 then cIns cx x 0 else cSet (cDel cx x) x (code_ 3 (cx x) (cx (x + 1)))
/-- into it by port 0: by which port out, and with what -/
noncomputable def pop (d x : Nat) (cx : Nat → Nat) : Option (Nat × (Nat → Nat)) := if d = 2 then (if ((dc (cx x)).1 = 1 ∨ (dc (cx x)).1 = 2) ∧ (dc (cx x)).2.2 = 0 then some ((dc (cx x)).1, cSet cx x (dc (cx x)).2.1) else none) else if d = 3 then (if cx x = 0 then some (1, cDel cx x) else none) else (if (dc (cx x)).1 = 3 then some (1, cIns (cSet cx x (dc (cx x)).2.2) x (dc (cx x)).2.1) else none)
/-- a port but 0 of a control of kind d -/
def auxC (d a : Nat) : Prop := a = 1 ∨ (d = 2 ∧ a = 2)
/-- what becomes of the level j > i -/
def sh (d j : Nat) : Nat := if d = 2 then j else if d = 3 then j - 1 else j + 1
def agr (n : Nat) (f g : Nat → Nat) : Prop := ∀ i, i < n → f i = g i
theorem agr.rf {n : Nat} {f : Nat → Nat} : agr n f f := fun _ _ => rfl
theorem agr.symm {n : Nat} {f g : Nat → Nat} (h : agr n f g) : agr n g f := fun i hi => (h i hi).symm
theorem agr.trans {n : Nat} {f g k : Nat → Nat} (h : agr n f g) (h2 : agr n g k) : agr n f k := fun i hi => (h i hi).trans (h2 i hi)
theorem dc_0' (c : Nat) : (dc c).1 = 1 ∨ (dc c).1 = 2 ∨ (dc c).1 = 3 → c = code_ (dc c).1 (dc c).2.1 (dc c).2.2 := by
  intro h
  unfold dc at h ⊢
  by_cases e : ∃ t, dc_is c t
  · rw [dif_pos e] at h ⊢
    exact (Classical.choose_spec e).2.2
  · rw [dif_neg e] at h
    have : (0 : Nat) = 1 ∨ (0 : Nat) = 2 ∨ (0 : Nat) = 3 := h
    omega
theorem push_lo {d a x : Nat} {cx : Nat → Nat} (hd : isC d) {i : Nat} (hi : i < x) : push d a x cx i = cx i := by
  unfold push
  rcases hd with h | h | h
  · rw [if_pos h]; unfold cSet; rw [if_neg (by omega)]
  · rw [if_neg (by omega), if_pos h]; unfold cIns; rw [if_pos hi]
  · rw [if_neg (by omega), if_neg (by omega)]; unfold cSet; rw [if_neg (by omega)]; unfold cDel; rw [if_pos hi]
theorem push_hi {d a x : Nat} {cx : Nat → Nat} (hd : isC d) {j : Nat} (hj : x < j) : push d a x cx j = cx (sh d j) := by
  unfold push sh
  rcases hd with h | h | h
  · rw [if_pos h, if_pos h]; unfold cSet; rw [if_neg (by omega)]
  · rw [if_neg (by omega), if_pos h, if_neg (by omega), if_pos h]; unfold cIns; rw [if_neg (by omega), if_neg (by omega)]
  · rw [if_neg (by omega), if_neg (by omega), if_neg (by omega), if_neg (by omega)]; unfold cSet; rw [if_neg (by omega)]; unfold cDel; rw [if_neg (by omega)]
theorem pop_2 {x : Nat} {cx : Nat → Nat} : pop 2 x cx = if ((dc (cx x)).1 = 1 ∨ (dc (cx x)).1 = 2) ∧ (dc (cx x)).2.2 = 0 then some ((dc (cx x)).1, cSet cx x (dc (cx x)).2.1) else none := rfl
theorem pop_3 {x : Nat} {cx : Nat → Nat} : pop 3 x cx = if cx x = 0 then some (1, cDel cx x) else none := rfl
theorem pop_4 {x : Nat} {cx : Nat → Nat} : pop 4 x cx = if (dc (cx x)).1 = 3 then some (1, cIns (cSet cx x (dc (cx x)).2.2) x (dc (cx x)).2.1) else none := rfl
theorem push_3 {a x : Nat} {cx : Nat → Nat} : push 3 a x cx = cIns cx x 0 := rfl
theorem push_4 {a x : Nat} {cx : Nat → Nat} : push 4 a x cx = cSet (cDel cx x) x (code_ 3 (cx x) (cx (x + 1))) := rfl
theorem pop_push {d a x : Nat} {cx : Nat → Nat} (hd : isC d) (ha : auxC d a) : pop d x (push d a x cx) = some (a, cx) := by
  unfold pop push
  rcases hd with h | h | h
  · have ha2 : 1 ≤ a ∧ a ≤ 2 := by rcases ha with e | e <;> omega
    have e0 : cSet cx x (code_ a (cx x) 0) x = code_ a (cx x) 0 := by unfold cSet; rw [if_pos rfl]
    rw [if_pos h, if_pos h, e0, dc_code (by omega) (by omega), if_pos (show (a = 1 ∨ a = 2) ∧ (0 : Nat) = 0 from ⟨by omega, rfl⟩)]
    refine congrArg some (Prod.ext rfl (funext fun i => ?_))
    show cSet (cSet cx x (code_ a (cx x) 0)) x (cx x) i = cx i
    unfold cSet
    by_cases e : i = x
    · rw [if_pos e, e]
    · rw [if_neg e, if_neg e]
  · have ha1 : a = 1 := by rcases ha with e | e <;> omega
    have e0 : cIns cx x 0 x = 0 := by unfold cIns; rw [if_neg (by omega), if_pos rfl]
    subst h
    show pop 3 x (push 3 a x cx) = _
    rw [push_3, pop_3, if_pos e0, ha1]
    refine congrArg some (Prod.ext rfl (funext fun i => ?_))
    show cDel (cIns cx x 0) x i = cx i
    unfold cDel cIns
    by_cases e : i < x
    · rw [if_pos e, if_pos e]
    · rw [if_neg e, if_neg (by omega), if_neg (by omega), Nat.add_sub_cancel]
  · have ha1 : a = 1 := by rcases ha with e | e <;> omega
    have e0 : cSet (cDel cx x) x (code_ 3 (cx x) (cx (x + 1))) x = code_ 3 (cx x) (cx (x + 1)) := by unfold cSet; rw [if_pos rfl]
    subst h
    show pop 4 x (push 4 a x cx) = _
    rw [push_4, pop_4, e0, dc_code (by omega) (by omega), if_pos rfl, ha1]
    refine congrArg some (Prod.ext rfl (funext fun i => ?_))
    show cIns (cSet (cSet (cDel cx x) x (code_ 3 (cx x) (cx (x + 1)))) x (cx (x + 1))) x (cx x) i = cx i
    unfold cIns cSet cDel
    by_cases e : i < x
    · rw [if_pos e, if_neg (by omega), if_neg (by omega), if_pos e]
    · rw [if_neg e]
      by_cases e2 : i = x
      · rw [if_pos e2, e2]
      · rw [if_neg e2]
        by_cases e3 : i - 1 = x
        · rw [if_pos e3, show i = x + 1 by omega]
        · rw [if_neg e3, if_neg e3, if_neg (by omega), show i - 1 + 1 = i by omega]
theorem push_pop {d x a : Nat} {cx cy : Nat → Nat} (hd : isC d) (h : pop d x cx = some (a, cy)) : auxC d a ∧ push d a x cy = cx := by
  unfold pop at h
  unfold push
  rcases hd with e | e | e
  · rw [if_pos e] at h ⊢
    by_cases c1 : ((dc (cx x)).1 = 1 ∨ (dc (cx x)).1 = 2) ∧ (dc (cx x)).2.2 = 0
    · rw [if_pos c1] at h
      injection h with h
      injection h with h1 h2
      subst h1 h2
      refine ⟨by unfold auxC; omega, funext fun i => ?_⟩
      unfold cSet
      by_cases e2 : i = x
      · rw [if_pos e2, if_pos rfl, e2]
        have := dc_0' (cx x) (by omega)
        rw [c1.2] at this
        exact this.symm
      · rw [if_neg e2, if_neg e2]
    · rw [if_neg c1] at h; cases h
  · rw [if_neg (by omega), if_pos e] at h ⊢
    by_cases c1 : cx x = 0
    · rw [if_pos c1] at h
      injection h with h
      injection h with h1 h2
      subst h1 h2
      refine ⟨Or.inl rfl, funext fun i => ?_⟩
      unfold cIns cDel
      by_cases e2 : i < x
      · rw [if_pos e2, if_pos e2]
      · rw [if_neg e2]
        by_cases e3 : i = x
        · rw [if_pos e3, e3, c1]
        · rw [if_neg e3, if_neg (by omega), show i - 1 + 1 = i by omega]
    · rw [if_neg c1] at h; cases h
  · rw [if_neg (by omega), if_neg (by omega)] at h ⊢
    by_cases c1 : (dc (cx x)).1 = 3
    · rw [if_pos c1] at h
      injection h with h
      injection h with h1 h2
      subst h1 h2
      refine ⟨Or.inl rfl, funext fun i => ?_⟩
      unfold cIns cSet cDel
      by_cases e2 : i = x
      · rw [if_pos e2, if_neg (by omega), if_pos rfl, if_neg (by omega), if_neg (by omega), if_pos (by omega), e2]
        have := dc_0' (cx x) (by omega)
        rw [c1] at this
        exact this.symm
      · rw [if_neg e2]
        by_cases e3 : i < x
        · rw [if_pos e3]
          dsimp only
          rw [if_pos e3, if_neg (by omega)]
        · rw [if_neg e3]
          dsimp only
          rw [if_neg (by omega), if_neg (by omega), if_neg (by omega), Nat.add_sub_cancel]
    · rw [if_neg c1] at h; cases h
/-- what level x becomes -/
def atv (d a : Nat) (cx : Nat → Nat) (x : Nat) : Nat := if d = 2 then code_ a (cx x) 0 else if d = 3 then 0 else code_ 3 (cx x) (cx (x + 1))
theorem push_at {d a x : Nat} {cx : Nat → Nat} (hd : isC d) : push d a x cx x = atv d a cx x := by
  unfold push atv
  rcases hd with h | h | h
  · rw [if_pos h, if_pos h]; unfold cSet; rw [if_pos rfl]
  · rw [if_neg (by omega), if_pos h, if_neg (by omega), if_pos h]; unfold cIns; rw [if_neg (by omega), if_pos rfl]
  · rw [if_neg (by omega), if_neg (by omega), if_neg (by omega), if_neg (by omega)]; unfold cSet; rw [if_pos rfl]
theorem atv_eq {d a x y : Nat} {cx cy : Nat → Nat} (hd : isC d) (h1 : cx x = cy y) (h2 : d = 4 → cx (x + 1) = cy (y + 1)) : atv d a cx x = atv d a cy y := by
  unfold atv
  rcases hd with h | h | h
  · rw [if_pos h, if_pos h, h1]
  · rw [if_neg (by omega), if_pos h, if_neg (by omega), if_pos h]
  · rw [if_neg (by omega), if_neg (by omega), if_neg (by omega), if_neg (by omega), h1, h2 h]
theorem sh_cases {d : Nat} (hd : isC d) (j : Nat) : (d = 2 ∧ sh d j = j) ∨ (d = 3 ∧ sh d j = j - 1) ∨ (d = 4 ∧ sh d j = j + 1) := by
  unfold sh
  rcases hd with h | h | h
  · exact Or.inl ⟨h, by rw [if_pos h]⟩
  · exact Or.inr (Or.inl ⟨h, by rw [if_neg (by omega), if_pos h]⟩)
  · exact Or.inr (Or.inr ⟨h, by rw [if_neg (by omega), if_neg (by omega)]⟩)
theorem push_comm {d e a k i j : Nat} {cx : Nat → Nat} (hd : isC d) (he : isC e) (hij : i < j) : push e k j (push d a i cx) = push d a i (push e k (sh d j) cx) := by
  funext t
  have s1 := sh_cases hd j
  have s2 := sh_cases hd t
  have s3 := sh_cases he t
  by_cases c1 : t < i
  · rw [push_lo he (by omega), push_lo hd c1, push_lo hd c1, push_lo he (by omega)]
  · by_cases c2 : t = i
    · subst c2
      rw [push_lo he hij, push_at hd, push_at hd]
      by_cases h3 : d = 3
      · unfold atv
        rw [if_neg (by omega), if_pos h3, if_neg (by omega), if_pos h3]
      · refine atv_eq hd ?_ (fun h4 => ?_)
        · rw [push_lo he (by omega)]
        · rw [push_lo he (by omega)]
    · by_cases c3 : t < j
      · rw [push_lo he c3, push_hi hd (by omega), push_hi hd (by omega), push_lo he (by omega)]
      · by_cases c4 : t = j
        · subst c4
          rw [push_at he, push_hi hd hij, push_at he]
          refine atv_eq he (push_hi hd hij) (fun h4 => ?_)
          have s4 := sh_cases hd (t + 1)
          rw [push_hi hd (by omega), show sh d (t + 1) = sh d t + 1 by omega]
        · rw [push_hi he (by omega), push_hi hd (by omega), push_hi hd (by omega), push_hi he (by omega)]
          have s4 := sh_cases hd (sh e t)
          have s5 := sh_cases he (sh d t)
          rw [show sh d (sh e t) = sh e (sh d t) by omega]
theorem push_agr {d a i j : Nat} {cx cy : Nat → Nat} (hd : isC d) (hij : i < j) (h : agr (sh d j) cx cy) : agr j (push d a i cx) (push d a i cy) := by
  intro t ht
  have s1 := sh_cases hd j
  have s2 := sh_cases hd t
  by_cases c1 : t < i
  · rw [push_lo hd c1, push_lo hd c1, h t (by omega)]
  · by_cases c2 : t = i
    · subst c2
      rw [push_at hd, push_at hd]
      by_cases h3 : d = 3
      · unfold atv; rw [if_neg (by omega), if_pos h3, if_neg (by omega), if_pos h3]
      · exact atv_eq hd (h t (by omega)) (fun h4 => h (t + 1) (by omega))
    · rw [push_hi hd (by omega), push_hi hd (by omega), h _ (by omega)]
theorem push_agr_inv {d a b i j : Nat} {cx cy : Nat → Nat} (hd : isC d) (ha : auxC d a) (hb : auxC d b) (hij : i < j) (h : agr j (push d a i cx) (push d b i cy)) : a = b ∧ agr (sh d j) cx cy := by
  have h0 := h i hij
  rw [push_at hd, push_at hd] at h0
  unfold atv at h0
  have hi : ∀ t, i < t → t < j → cx (sh d t) = cy (sh d t) := fun t h1 h2 => by
    have := h t h2
    rw [push_hi hd h1, push_hi hd h1] at this
    exact this
  have lo : ∀ t, t < i → cx t = cy t := fun t h1 => by
    have := h t (by omega)
    rw [push_lo hd h1, push_lo hd h1] at this
    exact this
  unfold auxC at ha hb
  rcases hd with e | e | e
  · rw [if_pos e, if_pos e] at h0
    obtain ⟨q1, q2, -⟩ := code_inj (by omega) (by omega) h0
    refine ⟨q1, fun t ht => ?_⟩
    have hd : isC d := Or.inl e
    have s1 := sh_cases hd j
    have s2 := sh_cases hd t
    by_cases c1 : t < i
    · exact lo t c1
    · by_cases c2 : t = i
      · rw [c2]; exact q2
      · have := hi t (by omega) (by omega)
        rw [show sh d t = t by omega] at this
        exact this
  · refine ⟨by omega, fun t ht => ?_⟩
    have hd : isC d := Or.inr (Or.inl e)
    have s1 := sh_cases hd j
    have s2 := sh_cases hd (t + 1)
    by_cases c1 : t < i
    · exact lo t c1
    · have := hi (t + 1) (by omega) (by omega)
      rw [show sh d (t + 1) = t by omega] at this
      exact this
  · rw [if_neg (by omega), if_neg (by omega), if_neg (by omega), if_neg (by omega)] at h0
    obtain ⟨-, q2, q3⟩ := code_inj (by omega) (by omega) h0
    refine ⟨by omega, fun t ht => ?_⟩
    have hd : isC d := Or.inr (Or.inr e)
    have s1 := sh_cases hd j
    by_cases c1 : t < i
    · exact lo t c1
    · by_cases c2 : t = i
      · rw [c2]; exact q2
      · by_cases c3 : t = i + 1
        · rw [c3]; exact q3
        · have s2 := sh_cases hd (t - 1)
          have := hi (t - 1) (by omega) (by omega)
          rw [show sh d (t - 1) = t by omega] at this
          exact this
theorem pop_val {d x y a : Nat} {cx cy c1 : Nat → Nat} (h : pop d x cx = some (a, c1)) (e : cx x = cy y) : ∃ c2, pop d y cy = some (a, c2) := by
  unfold pop at h ⊢
  rw [e] at h
  by_cases d2 : d = 2
  · rw [if_pos d2] at h ⊢
    by_cases q : ((dc (cy y)).1 = 1 ∨ (dc (cy y)).1 = 2) ∧ (dc (cy y)).2.2 = 0
    · rw [if_pos q] at h ⊢
      injection h with h
      injection h with h1 h2
      exact ⟨_, by rw [h1]⟩
    · rw [if_neg q] at h; cases h
  · rw [if_neg d2] at h ⊢
    by_cases d3 : d = 3
    · rw [if_pos d3] at h ⊢
      by_cases q : cy y = 0
      · rw [if_pos q] at h ⊢
        injection h with h
        injection h with h1 h2
        exact ⟨_, by rw [h1]⟩
      · rw [if_neg q] at h; cases h
    · rw [if_neg d3] at h ⊢
      by_cases q : (dc (cy y)).1 = 3
      · rw [if_pos q] at h ⊢
        injection h with h
        injection h with h1 h2
        exact ⟨_, by rw [h1]⟩
      · rw [if_neg q] at h; cases h
/-- the other control first -/
theorem pop_under {d e a k i j : Nat} {cx c2 : Nat → Nat} (hd : isC d) (he : isC e) (hij : i < j) (h : pop e j (push d a i cx) = some (k, c2)) : ∃ c3, pop e (sh d j) cx = some (k, c3) ∧ push d a i c3 = c2 := by
  obtain ⟨c3, h3⟩ := pop_val (cy := cx) (y := sh d j) h (push_hi hd hij)
  refine ⟨c3, h3, ?_⟩
  obtain ⟨hk, h4⟩ := push_pop he h3
  rw [← h4, ← push_comm hd he hij, pop_push he hk] at h
  exact congrArg Prod.snd (Option.some.inj h)
