/-! words: both programs build a term -/
/-- kind, index, slot, first, second -/
abbrev Wd : Type := Nat × Nat × Nat × Nat × Nat
/-- index, names around it, tree -/
abbrev SI : Type := Nat × Sc × Nat
def WdR (S M : St) (k : Nat) (w : Wd) : Prop := S.2.1 80 k = nI w.1 ∧ S.2.1 81 k = nI w.2.1 ∧ (w.1 < 2 → S.2.1 82 k = nI w.2.2.1) ∧ M.2.1 3 k = nI w.1 ∧ M.2.1 4 k = nI w.2.2.2.1 ∧ M.2.1 5 k = nI w.2.2.2.2
def ScB (bn : Nat) (sc : Sc) : Prop := ScO sc ∧ ∀ e ∈ sc, e.1 < 40 ∧ e.2 < bn
def WS (xh : Nat → Nat) (bn k : Nat) (w : Wd) (st0 : List SI) (us0 : List Nat) (v0 : Nat) (st : List SI) (us : List Nat) (v : Nat) : Prop :=
  (w.1 = 0 ∧ (∃ sc, st = (w.2.1, sc, k) :: st0 ∧ (w.2.2.1, w.2.2.2.1) ∈ sc ∧ ScB bn sc) ∧ xh w.2.2.2.1 ≤ w.2.1 ∧ w.2.1 ≤ 62 ∧ st0.length < 43 ∧ us = us0 ∧ v = v0 + 1) ∨
  (w.1 = 1 ∧ (∃ sc r, st0 = (w.2.1, sc ++ [(w.2.2.1, w.2.2.2.1)], w.2.2.2.2) :: r ∧ st = (w.2.1, sc, k) :: r) ∧ xh w.2.2.2.1 = w.2.1 ∧ w.2.2.2.1 ∉ us0 ∧ us = w.2.2.2.1 :: us0 ∧ v = v0) ∨
  (w.1 = 2 ∧ (∃ sc r, st0 = (w.2.1 + 1, sc, w.2.2.2.2) :: (w.2.1, sc, w.2.2.2.1) :: r ∧ st = (w.2.1, sc, k) :: r ∧ ∀ e ∈ sc, xh e.2 ≤ w.2.1) ∧ us = us0 ∧ v = v0)
def Run (wd : Nat → Wd) (xh : Nat → Nat) (bn : Nat) : Nat → List SI → List Nat → Nat → Prop
  | 0, st, us, v => st = [] ∧ us = [] ∧ v = 0
  | k + 1, st, us, v => ∃ st0 us0 v0, Run wd xh bn k st0 us0 v0 ∧ WS xh bn k (wd k) st0 us0 v0 st us v
theorem Run.len {wd : Nat → Wd} {xh : Nat → Nat} {bn : Nat} : ∀ {k : Nat} {st : List SI} {us : List Nat} {v : Nat}, Run wd xh bn k st us v → st.length ≤ v ∧ k + st.length = 2 * v + us.length ∧ (∀ it ∈ st, it.2.2 < k ∧ it.1 = (wd it.2.2).2.1)
  | 0, st, us, v, h => by
    obtain ⟨h1, h2, h3⟩ := h
    rw [h1, h2, h3]
    exact ⟨Nat.le_refl _, rfl, fun it hi => (List.not_mem_nil hi).elim⟩
  | k + 1, st, us, v, h => by
    obtain ⟨st0, us0, v0, h1, h2⟩ := h
    obtain ⟨i1, i2, i3⟩ := h1.len
    rcases h2 with ⟨a1, ⟨sc, a2, -⟩, -, -, -, a3, a4⟩ | ⟨a1, ⟨sc, r, a2, a5⟩, -, -, a3, a4⟩ | ⟨a1, ⟨sc, r, a2, a5, -⟩, a3, a4⟩
    · rw [a2, a3, a4]
      have : ((wd k).2.1, sc, k) :: st0 = ((wd k).2.1, sc, k) :: st0 := rfl
      refine ⟨by show st0.length + 1 ≤ _; omega, by show k + 1 + (st0.length + 1) = _; omega, fun it hi => ?_⟩
      rcases List.mem_cons.mp hi with q | q
      · rw [q]; exact ⟨Nat.lt_succ_self _, rfl⟩
      · exact ⟨by have := (i3 it q).1; omega, (i3 it q).2⟩
    · rw [a5, a3, a4]
      rw [a2] at i1 i2 i3
      have i1 : r.length + 1 ≤ v0 := i1
      have i2 : k + (r.length + 1) = 2 * v0 + us0.length := i2
      refine ⟨i1, by show k + 1 + (r.length + 1) = 2 * v0 + (us0.length + 1); omega, fun it hi => ?_⟩
      rcases List.mem_cons.mp hi with q | q
      · rw [q]; exact ⟨Nat.lt_succ_self _, rfl⟩
      · have := i3 it (List.mem_cons_of_mem _ q)
        exact ⟨by omega, this.2⟩
    · rw [a5, a3, a4]
      rw [a2] at i1 i2 i3
      have i1 : r.length + 2 ≤ v0 := i1
      have i2 : k + (r.length + 2) = 2 * v0 + us0.length := i2
      refine ⟨by show r.length + 1 ≤ v0; omega, by show k + 1 + (r.length + 1) = _; omega, fun it hi => ?_⟩
      rcases List.mem_cons.mp hi with q | q
      · rw [q]; exact ⟨Nat.lt_succ_self _, rfl⟩
      · have := i3 it (List.mem_cons_of_mem _ (List.mem_cons_of_mem _ q))
        exact ⟨by omega, this.2⟩
theorem ScB.mono {bn bn' : Nat} {sc : Sc} (h : ScB bn sc) (hb : bn ≤ bn') : ScB bn' sc := ⟨h.1, fun e he => ⟨(h.2 e he).1, by have := (h.2 e he).2; omega⟩⟩
theorem Run.scb {wd : Nat → Wd} {xh : Nat → Nat} {bn : Nat} : ∀ {k : Nat} {st : List SI} {us : List Nat} {v : Nat}, Run wd xh bn k st us v → (∀ it ∈ st, ScB bn it.2.1) ∧ (∀ j ∈ us, j < bn)
  | 0, st, us, v, h => by
    obtain ⟨h1, h2, h3⟩ := h
    rw [h1, h2]
    exact ⟨fun it hi => (List.not_mem_nil hi).elim, fun it hi => (List.not_mem_nil hi).elim⟩
  | k + 1, st, us, v, h => by
    obtain ⟨st0, us0, v0, h1, h2⟩ := h
    obtain ⟨i1, i2⟩ := h1.scb
    rcases h2 with ⟨a1, ⟨sc, a2, a6, a7⟩, -, -, -, a3, a4⟩ | ⟨a1, ⟨sc, r, a2, a5⟩, -, -, a3, a4⟩ | ⟨a1, ⟨sc, r, a2, a5, -⟩, a3, a4⟩
    · rw [a2, a3]
      refine ⟨fun it hi => ?_, i2⟩
      rcases List.mem_cons.mp hi with q | q
      · rw [q]; exact a7
      · exact i1 it q
    · rw [a5, a3]
      rw [a2] at i1
      have z := i1 _ (List.mem_cons_self ..)
      have z : ScB bn (sc ++ [((wd k).2.2.1, (wd k).2.2.2.1)]) := z
      refine ⟨fun it hi => ?_, fun j hj => ?_⟩
      · rcases List.mem_cons.mp hi with q | q
        · rw [q]
          exact ⟨(List.pairwise_append.mp z.1).1, fun e he => z.2 e (List.mem_append_left _ he)⟩
        · exact i1 it (List.mem_cons_of_mem _ q)
      · rcases List.mem_cons.mp hj with q | q
        · rw [q]
          exact (z.2 _ (List.mem_append_right _ (List.mem_singleton.mpr rfl))).2
        · exact i2 j q
    · rw [a5, a3]
      rw [a2] at i1
      refine ⟨fun it hi => ?_, i2⟩
      rcases List.mem_cons.mp hi with q | q
      · rw [q]
        have z := i1 _ (List.mem_cons_self ..)
        exact z
      · exact i1 it (List.mem_cons_of_mem _ (List.mem_cons_of_mem _ q))
theorem Run.mono {wd wd' : Nat → Wd} {xh xh' : Nat → Nat} {bn bn' : Nat} (hb : bn ≤ bn') (hx : ∀ j, j < bn → xh' j = xh j) : ∀ {k : Nat} {st : List SI} {us : List Nat} {v : Nat}, (∀ j, j < k → wd' j = wd j) → Run wd xh bn k st us v → Run wd' xh' bn' k st us v
  | 0, st, us, v, _, h => h
  | k + 1, st, us, v, hw, h => by
    obtain ⟨st0, us0, v0, h1, h2⟩ := h
    have sb := h1.scb.1
    refine ⟨st0, us0, v0, Run.mono hb hx (fun j hj => hw j (by omega)) h1, ?_⟩
    rw [hw k (Nat.lt_succ_self _)]
    rcases h2 with ⟨a1, ⟨sc, a2, a6, a7⟩, a8, a9, a10, a3, a4⟩ | ⟨a1, ⟨sc, r, a2, a5⟩, a6, a7, a3, a4⟩ | ⟨a1, ⟨sc, r, a2, a5, a6⟩, a3, a4⟩
    · refine Or.inl ⟨a1, ⟨sc, a2, a6, a7.mono hb⟩, ?_, a9, a10, a3, a4⟩
      rw [hx _ (a7.2 _ a6).2]; exact a8
    · refine Or.inr (Or.inl ⟨a1, ⟨sc, r, a2, a5⟩, ?_, a7, a3, a4⟩)
      have := (sb _ (by rw [a2]; exact List.mem_cons_self ..)).2 ((wd k).2.2.1, (wd k).2.2.2.1) (List.mem_append_right _ (List.mem_singleton.mpr rfl))
      rw [hx _ this.2]; exact a6
    · refine Or.inr (Or.inr ⟨a1, ⟨sc, r, a2, a5, fun e he => ?_⟩, a3, a4⟩)
      have := (sb _ (by rw [a2]; exact List.mem_cons_self ..)).2 e he
      rw [hx _ this.2]; exact a6 e he
/-- a tree that another has -/
def Rf (wd : Nat → Wd) (q j : Nat) : Prop := (((wd q).1 = 1 ∨ (wd q).1 = 2) ∧ j = (wd q).2.2.2.2) ∨ ((wd q).1 = 2 ∧ j = (wd q).2.2.2.1)
theorem Run.par {wd : Nat → Wd} {xh : Nat → Nat} {bn : Nat} : ∀ {k : Nat} {st : List SI} {us : List Nat} {v : Nat}, Run wd xh bn k st us v → (∀ j, j < k → (∃ it ∈ st, it.2.2 = j) ∨ ∃ q, j < q ∧ q < k ∧ Rf wd q j) ∧ ∀ q, q < k → (wd q).1 ≤ 2 ∧ (((wd q).1 = 1 ∨ (wd q).1 = 2) → (wd q).2.2.2.2 < q ∧ (wd (wd q).2.2.2.2).2.1 = (wd q).2.1 + (if (wd q).1 = 2 then 1 else 0)) ∧ ((wd q).1 = 2 → (wd q).2.2.2.1 < q ∧ (wd (wd q).2.2.2.1).2.1 = (wd q).2.1)
  | 0, st, us, v, h => ⟨fun j hj => absurd hj (by omega), fun q hq => absurd hq (by omega)⟩
  | k + 1, st, us, v, h => by
    obtain ⟨st0, us0, v0, h1, h2⟩ := h
    obtain ⟨i1, i2⟩ := h1.par
    obtain ⟨-, -, l3⟩ := h1.len
    have step : (∀ j, j < k → (∃ it ∈ st0, it.2.2 = j) → (∃ it ∈ st, it.2.2 = j) ∨ Rf wd k j) → (∃ it ∈ st, it.2.2 = k) → ∀ j, j < k + 1 → (∃ it ∈ st, it.2.2 = j) ∨ ∃ q, j < q ∧ q < k + 1 ∧ Rf wd q j := fun f g j hj => by
      by_cases c : j = k
      · rw [c]; exact Or.inl g
      · rcases i1 j (by omega) with q | ⟨q, q1, q2, q3⟩
        · rcases f j (by omega) q with z | z
          · exact Or.inl z
          · exact Or.inr ⟨k, by omega, by omega, z⟩
        · exact Or.inr ⟨q, q1, by omega, q3⟩
    have ext : ((wd k).1 ≤ 2 ∧ (((wd k).1 = 1 ∨ (wd k).1 = 2) → (wd k).2.2.2.2 < k ∧ (wd (wd k).2.2.2.2).2.1 = (wd k).2.1 + (if (wd k).1 = 2 then 1 else 0)) ∧ ((wd k).1 = 2 → (wd k).2.2.2.1 < k ∧ (wd (wd k).2.2.2.1).2.1 = (wd k).2.1)) → ∀ q, q < k + 1 → (wd q).1 ≤ 2 ∧ (((wd q).1 = 1 ∨ (wd q).1 = 2) → (wd q).2.2.2.2 < q ∧ (wd (wd q).2.2.2.2).2.1 = (wd q).2.1 + (if (wd q).1 = 2 then 1 else 0)) ∧ ((wd q).1 = 2 → (wd q).2.2.2.1 < q ∧ (wd (wd q).2.2.2.1).2.1 = (wd q).2.1) := fun f q hq => by
      by_cases c : q = k
      · rw [c]; exact f
      · exact i2 q (by omega)
    rcases h2 with ⟨a1, ⟨sc, a2, a6, a7⟩, a8, a9, a10, a3, a4⟩ | ⟨a1, ⟨sc, r, a2, a5⟩, a6, a7, a3, a4⟩ | ⟨a1, ⟨sc, r, a2, a5, a6⟩, a3, a4⟩
    · refine ⟨step (fun j hj ⟨it, q1, q2⟩ => Or.inl ⟨it, by rw [a2]; exact List.mem_cons_of_mem _ q1, q2⟩) ⟨_, by rw [a2]; exact List.mem_cons_self .., rfl⟩, ext ⟨by omega, fun q => by omega, fun q => by omega⟩⟩
    · refine ⟨step (fun j hj ⟨it, q1, q2⟩ => ?_) ⟨_, by rw [a5]; exact List.mem_cons_self .., rfl⟩, ext ⟨by omega, fun _ => ?_, fun q => by omega⟩⟩
      · rw [a2] at q1
        rcases List.mem_cons.mp q1 with q | q
        · rw [q] at q2
          exact Or.inr (Or.inl ⟨Or.inl a1, q2.symm⟩)
        · exact Or.inl ⟨it, by rw [a5]; exact List.mem_cons_of_mem _ q, q2⟩
      · have := l3 _ (by rw [a2]; exact List.mem_cons_self ..)
        rw [if_neg (by omega)]
        exact ⟨this.1, this.2.symm⟩
    · refine ⟨step (fun j hj ⟨it, q1, q2⟩ => ?_) ⟨_, by rw [a5]; exact List.mem_cons_self .., rfl⟩, ext ⟨by omega, fun _ => ?_, fun _ => ?_⟩⟩
      · rw [a2] at q1
        rcases List.mem_cons.mp q1 with q | q
        · rw [q] at q2
          exact Or.inr (Or.inl ⟨Or.inr a1, q2.symm⟩)
        · rcases List.mem_cons.mp q with q | q
          · rw [q] at q2
            exact Or.inr (Or.inr ⟨a1, q2.symm⟩)
          · exact Or.inl ⟨it, by rw [a5]; exact List.mem_cons_of_mem _ q, q2⟩
      · have := l3 _ (by rw [a2]; exact List.mem_cons_self ..)
        rw [if_pos a1]
        exact ⟨this.1, this.2.symm⟩
      · have := l3 _ (by rw [a2]; exact List.mem_cons_of_mem _ (List.mem_cons_self ..))
        exact ⟨this.1, this.2.symm⟩
theorem Sc_len {bn : Nat} : ∀ (sc : Sc) (m : Nat), ScO sc → (∀ e ∈ sc, m ≤ e.2 ∧ e.2 < bn) → sc.length ≤ bn - m
  | [], _, _, _ => Nat.zero_le _
  | e :: r, m, h, hm => by
    obtain ⟨h1, h2⟩ := List.pairwise_cons.mp h
    have := hm e (List.mem_cons_self ..)
    have i := Sc_len r (e.2 + 1) h2 (fun a ha => ⟨(h1 a ha).2, (hm a (List.mem_cons_of_mem _ ha)).2⟩)
    show r.length + 1 ≤ _
    omega
theorem names_room : ∀ v, v < 82 → v * (81 - v) ≤ 1700 := by decide
theorem Run.height {wd : Nat → Wd} {xh : Nat → Nat} {bn : Nat} : ∀ {k : Nat} {st : List SI} {us : List Nat} {v : Nat}, Run wd xh bn k st us v → st.length ≤ 43
  | 0, st, us, v, h => by
    obtain ⟨h1, h2, h3⟩ := h
    rw [h1]
    exact Nat.zero_le _
  | k + 1, st, us, v, h => by
    obtain ⟨st0, us0, v0, h1, h2⟩ := h
    have i := h1.height
    rcases h2 with ⟨a1, ⟨sc, a2, -⟩, -, -, a6, a3, a4⟩ | ⟨a1, ⟨sc, r, a2, a5⟩, -, -, a3, a4⟩ | ⟨a1, ⟨sc, r, a2, a5, -⟩, a3, a4⟩
    · rw [a2]; exact a6
    · rw [a5]; rw [a2] at i; exact i
    · rw [a5]; rw [a2] at i
      have i : r.length + 2 ≤ 43 := i
      show r.length + 1 ≤ 43
      omega
