/-! what a walk could come to: T; and that it is never wrong there: WW_ -/
abbrev Gr : Type := (Nat → Nat) × (Nat → Nat) × (Nat → Nat → Nat) × (Nat → Nat → Nat)
abbrev Ts : Type := Nat × Nat × (Nat → Nat) × List Ab
def TCl (G : Gr) (P : Ts → Prop) : Prop :=
  (∀ cx, P (0, 0, cx, [])) ∧
  (∀ v k cx H, P (v, k, cx, H) → G.1 (G.2.2.1 v k) = 0 → G.2.2.2 v k = 0 → ∀ cy, agr (G.2.1 (G.2.2.1 v k)) cy cx → P (G.2.2.1 v k, 1, cy, (G.2.2.1 v k, cx) :: H)) ∧
  (∀ v k cx H, P (v, k, cx, H) → G.1 (G.2.2.1 v k) = 1 → G.2.2.2 v k = 1 → ∀ cy, agr (G.2.1 (G.2.2.1 v k)) cy cx → P (G.2.2.1 v k, 0, cy, H) ∧ P (G.2.2.1 v k, 2, cy, H)) ∧
  (∀ v k cx H, P (v, k, cx, H) → isC (G.1 (G.2.2.1 v k)) → auxC (G.1 (G.2.2.1 v k)) (G.2.2.2 v k) → P (G.2.2.1 v k, 0, push (G.1 (G.2.2.1 v k)) (G.2.2.2 v k) (G.2.1 (G.2.2.1 v k)) cx, H)) ∧
  (∀ v k cx H, P (v, k, cx, H) → isC (G.1 (G.2.2.1 v k)) → G.2.2.2 v k = 0 → ∀ a cy, pop (G.1 (G.2.2.1 v k)) (G.2.1 (G.2.2.1 v k)) cx = some (a, cy) → P (G.2.2.1 v k, a, cy, H))
def TS (G : Gr) (s : Ts) : Prop := ∀ P : Ts → Prop, TCl G P → P s
theorem TS_cl (G : Gr) : TCl G (TS G) :=
  ⟨fun cx P h => h.1 cx, fun v k cx H hs h1 h2 cy ha P h => h.2.1 v k cx H (hs P h) h1 h2 cy ha, fun v k cx H hs h1 h2 cy ha => ⟨fun P h => (h.2.2.1 v k cx H (hs P h) h1 h2 cy ha).1, fun P h => (h.2.2.1 v k cx H (hs P h) h1 h2 cy ha).2⟩, fun v k cx H hs h1 h2 P h => h.2.2.2.1 v k cx H (hs P h) h1 h2, fun v k cx H hs h1 h2 a cy ha P h => h.2.2.2.2 v k cx H (hs P h) h1 h2 a cy ha⟩
/-- a good arrival -/
def Good (G : Gr) (w q : Nat) (cx : Nat → Nat) (H : List Ab) : Prop :=
  (G.1 w = 0 ∧ q = 0) ∨ (G.1 w = 0 ∧ q = 2 ∧ ∃ ce, (w, ce) ∈ H ∧ agr (G.2.1 w) ce cx) ∨ (G.1 w = 1 ∧ q = 1) ∨ (isC (G.1 w) ∧ auxC (G.1 w) q) ∨ (isC (G.1 w) ∧ q = 0 ∧ ∃ a cy, pop (G.1 w) (G.2.1 w) cx = some (a, cy))
def WG (G : Gr) : Prop := ∀ v k cx H, TS G (v, k, cx, H) → Good G (G.2.2.1 v k) (G.2.2.2 v k) cx H
/-- every state of T but the first comes from an arrival; the arrivals of a state's abstractions are in T, too -/
def Arr (G : Gr) (w q : Nat) (cx : Nat → Nat) (H : List Ab) : Prop := ∃ v k, TS G (v, k, cx, H) ∧ G.2.2.1 v k = w ∧ G.2.2.2 v k = q
def sufOk (G : Gr) : List Ab → Prop
  | [] => True
  | e :: H => Arr G e.1 0 e.2 H ∧ G.1 e.1 = 0 ∧ sufOk G H
theorem TS_suf {G : Gr} {s : Ts} (h : TS G s) : sufOk G s.2.2.2 := by
  refine (h (fun s => TS G s ∧ sufOk G s.2.2.2) ⟨fun cx => ⟨(TS_cl G).1 cx, trivial⟩, ?_, ?_, ?_, ?_⟩).2
  · rintro v k cx H ⟨h1, h2⟩ h3 h4 cy ha
    exact ⟨(TS_cl G).2.1 v k cx H h1 h3 h4 cy ha, ⟨v, k, h1, rfl, h4⟩, h3, h2⟩
  · rintro v k cx H ⟨h1, h2⟩ h3 h4 cy ha
    exact ⟨⟨((TS_cl G).2.2.1 v k cx H h1 h3 h4 cy ha).1, h2⟩, ⟨((TS_cl G).2.2.1 v k cx H h1 h3 h4 cy ha).2, h2⟩⟩
  · rintro v k cx H ⟨h1, h2⟩ h3 h4
    exact ⟨(TS_cl G).2.2.2.1 v k cx H h1 h3 h4, h2⟩
  · rintro v k cx H ⟨h1, h2⟩ h3 h4 a cy ha
    exact ⟨(TS_cl G).2.2.2.2 v k cx H h1 h3 h4 a cy ha, h2⟩
theorem sufOk_mem {G : Gr} {w : Nat} {ce : Nat → Nat} : ∀ {H : List Ab}, sufOk G H → (w, ce) ∈ H → ∃ H0, Arr G w 0 ce H0 ∧ G.1 w = 0 ∧ ∀ e ∈ H0, e ∈ H
  | [], _, h => absurd h (by simp)
  | e :: H, hs, h => by
    rcases List.mem_cons.mp h with q | q
    · cases q
      exact ⟨H, hs.1, hs.2.1, fun e he => List.mem_cons_of_mem _ he⟩
    · obtain ⟨H0, h1, h2, h3⟩ := sufOk_mem hs.2.2 q
      exact ⟨H0, h1, h2, fun e he => List.mem_cons_of_mem _ (h3 e he)⟩
/-- where a state comes from -/
def From (G : Gr) (s : Ts) : Prop :=
  (s.1 = 0 ∧ s.2.1 = 0) ∨
  (G.1 s.1 = 0 ∧ s.2.1 = 1 ∧ ∃ cx H, Arr G s.1 0 cx H ∧ agr (G.2.1 s.1) s.2.2.1 cx ∧ s.2.2.2 = (s.1, cx) :: H) ∨
  (G.1 s.1 = 1 ∧ (s.2.1 = 0 ∨ s.2.1 = 2) ∧ ∃ cx, Arr G s.1 1 cx s.2.2.2 ∧ agr (G.2.1 s.1) s.2.2.1 cx) ∨
  (isC (G.1 s.1) ∧ s.2.1 = 0 ∧ ∃ a cx, auxC (G.1 s.1) a ∧ Arr G s.1 a cx s.2.2.2 ∧ s.2.2.1 = push (G.1 s.1) a (G.2.1 s.1) cx) ∨
  (isC (G.1 s.1) ∧ auxC (G.1 s.1) s.2.1 ∧ ∃ cx, Arr G s.1 0 cx s.2.2.2 ∧ pop (G.1 s.1) (G.2.1 s.1) cx = some (s.2.1, s.2.2.1))
theorem TS_from {G : Gr} {s : Ts} (h : TS G s) : From G s := by
  refine (h (fun s => TS G s ∧ From G s) ⟨fun cx => ⟨(TS_cl G).1 cx, Or.inl ⟨rfl, rfl⟩⟩, ?_, ?_, ?_, ?_⟩).2
  · rintro v k cx H ⟨h1, h2⟩ h3 h4 cy ha
    exact ⟨(TS_cl G).2.1 v k cx H h1 h3 h4 cy ha, Or.inr (Or.inl ⟨h3, rfl, cx, H, ⟨v, k, h1, rfl, h4⟩, ha, rfl⟩)⟩
  · rintro v k cx H ⟨h1, h2⟩ h3 h4 cy ha
    exact ⟨⟨((TS_cl G).2.2.1 v k cx H h1 h3 h4 cy ha).1, Or.inr (Or.inr (Or.inl ⟨h3, Or.inl rfl, cx, ⟨v, k, h1, rfl, h4⟩, ha⟩))⟩, ⟨((TS_cl G).2.2.1 v k cx H h1 h3 h4 cy ha).2, Or.inr (Or.inr (Or.inl ⟨h3, Or.inr rfl, cx, ⟨v, k, h1, rfl, h4⟩, ha⟩))⟩⟩
  · rintro v k cx H ⟨h1, h2⟩ h3 h4
    exact ⟨(TS_cl G).2.2.2.1 v k cx H h1 h3 h4, Or.inr (Or.inr (Or.inr (Or.inl ⟨h3, rfl, _, cx, h4, ⟨v, k, h1, rfl, rfl⟩, rfl⟩)))⟩
  · rintro v k cx H ⟨h1, h2⟩ h3 h4 a cy ha
    exact ⟨(TS_cl G).2.2.2.2 v k cx H h1 h3 h4 a cy ha, Or.inr (Or.inr (Or.inr (Or.inr ⟨h3, (push_pop h3 ha).1, cx, ⟨v, k, h1, rfl, h4⟩, ha⟩)))⟩
theorem Arr.lam {G : Gr} {w : Nat} {cx : Nat → Nat} {H : List Ab} (h : Arr G w 0 cx H) (hk : G.1 w = 0) {cy : Nat → Nat} (ha : agr (G.2.1 w) cy cx) : TS G (w, 1, cy, (w, cx) :: H) := by
  obtain ⟨v, k, h1, rfl, h3⟩ := h
  exact (TS_cl G).2.1 v k cx H h1 hk h3 cy ha
theorem Arr.app {G : Gr} {w : Nat} {cx : Nat → Nat} {H : List Ab} (h : Arr G w 1 cx H) (hk : G.1 w = 1) {cy : Nat → Nat} (ha : agr (G.2.1 w) cy cx) : TS G (w, 0, cy, H) ∧ TS G (w, 2, cy, H) := by
  obtain ⟨v, k, h1, rfl, h3⟩ := h
  exact (TS_cl G).2.2.1 v k cx H h1 hk h3 cy ha
theorem Arr.push {G : Gr} {w q : Nat} {cx : Nat → Nat} {H : List Ab} (h : Arr G w q cx H) (hk : isC (G.1 w)) (ha : auxC (G.1 w) q) : TS G (w, 0, push (G.1 w) q (G.2.1 w) cx, H) := by
  obtain ⟨v, k, h1, rfl, rfl⟩ := h
  exact (TS_cl G).2.2.2.1 v k cx H h1 hk ha
theorem Arr.pop {G : Gr} {w : Nat} {cx : Nat → Nat} {H : List Ab} (h : Arr G w 0 cx H) (hk : isC (G.1 w)) {a : Nat} {cy : Nat → Nat} (ha : pop (G.1 w) (G.2.1 w) cx = some (a, cy)) : TS G (w, a, cy, H) := by
  obtain ⟨v, k, h1, rfl, h3⟩ := h
  exact (TS_cl G).2.2.2.2 v k cx H h1 hk h3 a cy ha
theorem WG.at {G : Gr} (h : WG G) {w q : Nat} {cx : Nat → Nat} {H : List Ab} (ha : Arr G w q cx H) : Good G w q cx H := by
  obtain ⟨v, k, h1, rfl, rfl⟩ := ha
  exact h v k cx H h1
theorem Good.isC {G : Gr} {w q : Nat} {cx : Nat → Nat} {H : List Ab} (h : Good G w q cx H) : G.1 w = 0 ∨ G.1 w = 1 ∨ isC (G.1 w) := by
  rcases h with h | h | h | h | h
  · exact Or.inl h.1
  · exact Or.inl h.1
  · exact Or.inr (Or.inl h.1)
  · exact Or.inr (Or.inr h.1)
  · exact Or.inr (Or.inr h.1)
