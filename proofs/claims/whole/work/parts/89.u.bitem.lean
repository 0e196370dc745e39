/-! both programs build: what waits to be used -/
theorem BG.of {S S' M M' : St} {n c : Nat} {D : Nat → Nat → Prop} {lab : Nat → Nat → Nat} {E : Nat → Nat → Nat → Prop} {xh be : Nat → Nat} {U : Nat → Prop} (h : BG S M n c D lab E xh be U) (h1 : ∀ k ∈ [44, 48], S'.1 k = S.1 k) (h2 : ∀ k ∈ [40, 41, 42, 43, 45, 46, 47], S'.2.1 k = S.2.1 k) (g1 : ∀ k ∈ [21, 22, 28], M'.1 k = M.1 k) (g2 : ∀ k ∈ [17, 18, 19, 20, 27], M'.2.1 k = M.2.1 k) : BG S' M' n c D lab E xh be U ∧ cK S' = cK S := by
  obtain ⟨e1, e2, e3, e4, e5⟩ := gc_same (h2 40 (by decide)) (h2 41 (by decide)) (h2 42 (by decide))
  obtain ⟨f1, f2, f3, f4, f5⟩ := gr_same (g2 17 (by decide)) (g2 18 (by decide)) (g2 19 (by decide))
  refine ⟨?_, e1⟩
  have eG : Gc S' = Gc S := by unfold Gc; rw [e1, e2, e3, e4]
  unfold BG WRb GC COk SpC PopC GM GOk SpR RcR Rc RsR Rm at *
  rw [eG, e1, e2, e3, e4, e5, f1, f2, f3, f4, f5, h1 44 (by decide), h1 48 (by decide), h2 40 (by decide), h2 41 (by decide), h2 42 (by decide), h2 43 (by decide), h2 45 (by decide), h2 46 (by decide), h2 47 (by decide), g1 21 (by decide), g1 22 (by decide), g1 28 (by decide), g2 17 (by decide), g2 18 (by decide), g2 19 (by decide), g2 20 (by decide), g2 27 (by decide)]
  exact h
abbrev Sc : Type := List (Nat × Nat)
def scI : Sc → Nat → Option Nat
  | [], _ => none
  | e :: r, s => if e.1 = s then some e.2 else scI r s
theorem scI_none : ∀ {sc : Sc} {s : Nat}, (∀ e ∈ sc, e.1 ≠ s) → scI sc s = none
  | [], _, _ => rfl
  | e :: r, s, h => by
    show (if e.1 = s then some e.2 else scI r s) = none
    rw [if_neg (h e (List.mem_cons_self ..))]
    exact scI_none (fun x hx => h x (List.mem_cons_of_mem _ hx))
theorem scI_some : ∀ {sc : Sc} {s i : Nat}, scI sc s = some i → (s, i) ∈ sc
  | [], _, _, h => absurd h (by intro z; cases z)
  | e :: r, s, i, h => by
    have h : (if e.1 = s then some e.2 else scI r s) = some i := h
    by_cases c : e.1 = s
    · rw [if_pos c] at h
      have : e = (s, i) := Prod.ext c (Option.some.inj h)
      rw [this]; exact List.mem_cons_self ..
    · rw [if_neg c] at h
      exact List.mem_cons_of_mem _ (scI_some h)
/-- in order: slots and names -/
def ScO (sc : Sc) : Prop := sc.Pairwise (fun a b => a.1 < b.1 ∧ a.2 < b.2)
theorem ScO.uniq : ∀ {sc : Sc}, ScO sc → ∀ a ∈ sc, ∀ b ∈ sc, a.1 = b.1 ∨ a.2 = b.2 → a = b
  | [], _, a, ha, _, _, _ => (List.not_mem_nil ha).elim
  | e :: r, h, a, ha, b, hb, q => by
    obtain ⟨h1, h2⟩ := List.pairwise_cons.mp h
    rcases List.mem_cons.mp ha with ea | ea
    · rcases List.mem_cons.mp hb with eb | eb
      · rw [ea, eb]
      · have := h1 b eb
        rw [ea] at q
        omega
    · rcases List.mem_cons.mp hb with eb | eb
      · have := h1 a ea
        rw [eb] at q
        omega
      · exact ScO.uniq h2 a ea b eb q
theorem scI_in {sc : Sc} (h : ScO sc) {s i : Nat} (hm : (s, i) ∈ sc) : scI sc s = some i := by
  cases e : scI sc s with
  | none =>
    exfalso
    have : ∀ {sc : Sc}, scI sc s = none → (s, i) ∈ sc → False := by
      intro sc
      induction sc with
      | nil => exact fun _ z => List.not_mem_nil z
      | cons a r ih =>
        intro z1 z2
        have z1 : (if a.1 = s then some a.2 else scI r s) = none := z1
        by_cases c : a.1 = s
        · rw [if_pos c] at z1; cases z1
        · rw [if_neg c] at z1
          rcases List.mem_cons.mp z2 with q | q
          · rw [← q] at c; exact c rfl
          · exact ih z1 q
    exact this e hm
  | some j =>
    have := h.uniq _ (scI_some e) _ hm (Or.inl rfl)
    rw [show j = i from congrArg Prod.snd this]
def pI4 : Option Pt → Int32
  | none => -1
  | some p => nI (4 * p.1 + p.2)
def pI3 : Option Pt → Int32
  | none => -1
  | some p => nI (3 * p.1 + p.2)
/-- its index, the names around it, its tree, its root's port, its names' ports -/
abbrev Itm : Type := Nat × Sc × Nat × Pt × (Nat → Option Pt)
def Ip (it : Itm) (v k : Nat) : Prop := it.2.2.2.1 = (v, k) ∨ ∃ i, it.2.2.2.2 i = some (v, k)
def Dst (st : List Itm) (v k : Nat) : Prop := (v = 0 ∧ k = 0) ∨ ∃ it ∈ st, Ip it v k
/-- names of an item at height j -/
def NmR (K : Nat → Nat) (lab : Nat → Nat → Nat) (E : Nat → Nat → Nat → Prop) (tag : Nat → Nat → Nat × Nat) (xh : Nat → Nat) (n j : Nat) (sc : Sc) (x : Nat) (f : Nat → Option Pt) : Prop := ∀ i p, f i = some p → p.1 < n ∧ p.2 < nP (K p.1) ∧ tag p.1 p.2 = (j, i + 1) ∧ lab p.1 p.2 = x + 1 ∧ (isC (K p.1) ∧ outP (K p.1) p.2) ∧ (∀ t, E p.1 p.2 t ↔ t = i) ∧ xh i ≤ x ∧ ∃ s, (s, i) ∈ sc
def RtR (K : Nat → Nat) (lab : Nat → Nat → Nat) (E : Nat → Nat → Nat → Prop) (tag : Nat → Nat → Nat × Nat) (n j x : Nat) (p : Pt) (f : Nat → Option Pt) : Prop := p.1 < n ∧ p.2 < nP (K p.1) ∧ tag p.1 p.2 = (j, 0) ∧ lab p.1 p.2 = x ∧ ¬ outP (K p.1) p.2 ∧ ∀ i, E p.1 p.2 i ↔ f i ≠ none
def ItR (S M : St) (lab : Nat → Nat → Nat) (E : Nat → Nat → Nat → Prop) (tag : Nat → Nat → Nat × Nat) (xh : Nat → Nat) (bn n j : Nat) (it : Itm) : Prop := (ScO it.2.1 ∧ ∀ e ∈ it.2.1, e.1 < 40 ∧ e.2 < bn) ∧ it.1 ≤ 62 ∧ it.2.2.1 < 300 ∧
  RtR (cK S) lab E tag n j it.1 it.2.2.2.1 it.2.2.2.2 ∧ NmR (cK S) lab E tag xh n j it.2.1 it.1 it.2.2.2.2 ∧
  S.2.1 1 j = nI (4 * it.2.2.2.1.1 + it.2.2.2.1.2) ∧ (∀ s, s < 40 → S.2.2.1 j s = pI4 ((scI it.2.1 s).bind it.2.2.2.2)) ∧
  M.2.1 31 it.2.2.1 = nI (3 * it.2.2.2.1.1 + it.2.2.2.1.2) ∧ ∀ i, i < bn → M.2.1 29 (80 * it.2.2.1 + i) = pI3 (it.2.2.2.2 i)
def StR (S M : St) (lab : Nat → Nat → Nat) (E : Nat → Nat → Nat → Prop) (tag : Nat → Nat → Nat × Nat) (xh : Nat → Nat) (bn n : Nat) : List Itm → Prop
  | [] => True
  | it :: r => ItR S M lab E tag xh bn n r.length it ∧ StR S M lab E tag xh bn n r
/-- all below a new node stays -/
def Keep (n : Nat) (K K' : Nat → Nat) (lab lab' : Nat → Nat → Nat) (E E' : Nat → Nat → Nat → Prop) (tag tag' : Nat → Nat → Nat × Nat) : Prop := ∀ v, v < n → K' v = K v ∧ lab' v = lab v ∧ E' v = E v ∧ tag' v = tag v
theorem NmR.of {K K' : Nat → Nat} {lab lab' : Nat → Nat → Nat} {E E' : Nat → Nat → Nat → Prop} {tag tag' : Nat → Nat → Nat × Nat} {xh : Nat → Nat} {n n' j x : Nat} {sc : Sc} {f : Nat → Option Pt} (hk : Keep n K K' lab lab' E E' tag tag') (hn : n ≤ n') (h : NmR K lab E tag xh n j sc x f) : NmR K' lab' E' tag' xh n' j sc x f := by
  intro i p e
  obtain ⟨a1, a2, a3, a4, a5, a6, a7, a8⟩ := h i p e
  obtain ⟨b1, b2, b3, b4⟩ := hk p.1 a1
  rw [b1, b2, b3, b4]
  exact ⟨by omega, a2, a3, a4, a5, a6, a7, a8⟩
theorem RtR.of {K K' : Nat → Nat} {lab lab' : Nat → Nat → Nat} {E E' : Nat → Nat → Nat → Prop} {tag tag' : Nat → Nat → Nat × Nat} {n n' j x : Nat} {p : Pt} {f : Nat → Option Pt} (hk : Keep n K K' lab lab' E E' tag tag') (hn : n ≤ n') (h : RtR K lab E tag n j x p f) : RtR K' lab' E' tag' n' j x p f := by
  obtain ⟨a1, a2, a3, a4, a5, a6⟩ := h
  obtain ⟨b1, b2, b3, b4⟩ := hk p.1 a1
  unfold RtR
  rw [b1, b2, b3, b4]
  exact ⟨by omega, a2, a3, a4, a5, a6⟩
theorem StR.of {S S' M M' : St} {lab lab' : Nat → Nat → Nat} {E E' : Nat → Nat → Nat → Prop} {tag tag' : Nat → Nat → Nat × Nat} {xh : Nat → Nat} {bn n n' : Nat} (hk : Keep n (cK S) (cK S') lab lab' E E' tag tag') (hn : n ≤ n') : ∀ (st : List Itm), (∀ j, j < st.length → S'.2.1 1 j = S.2.1 1 j ∧ S'.2.2.1 j = S.2.2.1 j) → (∀ it ∈ st, M'.2.1 31 it.2.2.1 = M.2.1 31 it.2.2.1 ∧ ∀ i, i < bn → M'.2.1 29 (80 * it.2.2.1 + i) = M.2.1 29 (80 * it.2.2.1 + i)) → StR S M lab E tag xh bn n st → StR S' M' lab' E' tag' xh bn n' st
  | [], _, _, _ => trivial
  | it :: r, h1, h2, ⟨⟨a1, a2, a3, a4, a5, a6, a7, a8, a9⟩, hr⟩ => by
    obtain ⟨b1, b2⟩ := h1 r.length (by show r.length < r.length + 1; omega)
    obtain ⟨c1, c2⟩ := h2 it (List.mem_cons_self ..)
    refine ⟨⟨a1, a2, a3, a4.of hk hn, a5.of hk hn, by rw [b1]; exact a6, by rw [b2]; exact a7, by rw [c1]; exact a8, fun i hi => by rw [c2 i hi]; exact a9 i hi⟩, StR.of hk hn r (fun j hj => h1 j (by show j < r.length + 1; omega)) (fun x hx => h2 x (List.mem_cons_of_mem _ hx)) hr⟩
/-- the tags of what waits -/
theorem StR.tag {S M : St} {lab : Nat → Nat → Nat} {E : Nat → Nat → Nat → Prop} {tag : Nat → Nat → Nat × Nat} {xh : Nat → Nat} {bn n : Nat} : ∀ (st : List Itm), StR S M lab E tag xh bn n st → ∀ it ∈ st, ∀ v k, Ip it v k → (tag v k).1 < st.length
  | [], _, it, hi, _, _, _ => (List.not_mem_nil hi).elim
  | a :: r, ⟨⟨a1, a2, a3, a4, a5, a6⟩, hr⟩, it, hi, v, k, hp => by
    show (tag v k).1 < r.length + 1
    rcases List.mem_cons.mp hi with q | q
    · subst q
      rcases hp with e | ⟨i, e⟩
      · have := a4.2.2.1
        rw [e] at this
        rw [this]
        show r.length < r.length + 1
        omega
      · have := (a5 i _ e).2.2.1
        rw [this]
        show r.length < r.length + 1
        omega
    · have := StR.tag r hr it q v k hp
      omega
def cfn (f : Nat → Option Pt) : Sc → Nat
  | [] => 0
  | e :: r => (if (f e.2).isSome = true then 1 else 0) + cfn f r
def nms : List Itm → Nat
  | [] => 0
  | it :: r => cfn it.2.2.2.2 it.2.1 + nms r
theorem cfn_le (f : Nat → Option Pt) : ∀ sc : Sc, cfn f sc ≤ sc.length
  | [] => Nat.le_refl _
  | e :: r => by
    have := cfn_le f r
    show (if (f e.2).isSome = true then 1 else 0) + cfn f r ≤ r.length + 1
    split <;> omega
/-- in the middle of building -/
def BS (S M : St) (n c bn : Nat) (st : List Itm) (lab : Nat → Nat → Nat) (E : Nat → Nat → Nat → Prop) (tag : Nat → Nat → Nat × Nat) (xh be : Nat → Nat) (U : Nat → Prop) : Prop := BG S M n c (Dst st) lab E xh be U ∧ StR S M lab E tag xh bn n st ∧ S.1 3 = nI st.length ∧ M.1 14 = nI bn ∧ bn ≤ 80 ∧ 1 ≤ n ∧ cK S 0 = 6 ∧ lab 0 0 = 0 ∧ (∀ i, ¬ E 0 0 i) ∧ tag 0 0 = (1000, 0)
