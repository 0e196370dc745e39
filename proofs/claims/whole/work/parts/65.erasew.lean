/-! what erasing takes away: never what can be walked to -/
/-- an eraser, or one that goes, is at port k of v -/
def ern (G : Gr) (P : Nat → Prop) (v k : Nat) : Prop := G.1 (G.2.2.1 v k) = 5 ∨ P (G.2.2.1 v k)
/-- v goes, if those in P go -/
def frb (G : Gr) (P : Nat → Prop) (v : Nat) : Prop := ern G P v 0 ∨ ((G.1 v = 1 ∨ G.1 v = 3 ∨ G.1 v = 4) ∧ ern G P v 1) ∨ (G.1 v = 2 ∧ ern G P v 1 ∧ ern G P v 2)
def EC (n : Nat) (G : Gr) (P : Nat → Prop) : Prop := ∀ v, v < n → G.1 v < 5 → frb G P v → P v
/-- those that go -/
def ES (n : Nat) (G : Gr) (v : Nat) : Prop := v < n ∧ G.1 v < 5 ∧ ∀ P, EC n G P → P v
theorem ern.mono {G : Gr} {P Q : Nat → Prop} {v k : Nat} (h : ∀ w, P w → Q w) (e : ern G P v k) : ern G Q v k := e.imp id (h _)
theorem frb.mono {G : Gr} {P Q : Nat → Prop} {v : Nat} (h : ∀ w, P w → Q w) (e : frb G P v) : frb G Q v := by
  rcases e with e | ⟨e1, e2⟩ | ⟨e1, e2, e3⟩
  · exact Or.inl (e.mono h)
  · exact Or.inr (Or.inl ⟨e1, e2.mono h⟩)
  · exact Or.inr (Or.inr ⟨e1, e2.mono h, e3.mono h⟩)
theorem ES_cl {n : Nat} {G : Gr} : EC n G (ES n G) := fun v hv hk hf => ⟨hv, hk, fun P hP => hP v hv hk (hf.mono (fun w hw => hw.2.2 P hP))⟩
/-- something comes to v -/
def Vis (G : Gr) (v : Nat) : Prop := ∃ q cx H, Arr G v q cx H
theorem Vis.to {G : Gr} (hW : WG G) {v k : Nat} {cx : Nat → Nat} {H : List Ab} (h : TS G (v, k, cx, H)) : G.1 (G.2.2.1 v k) < 5 ∧ Vis G (G.2.2.1 v k) := by
  have ha : Arr G (G.2.2.1 v k) (G.2.2.2 v k) cx H := ⟨v, k, h, rfl, rfl⟩
  refine ⟨?_, _, cx, H, ha⟩
  rcases (hW.at ha).isC with e | e | e | e | e <;> omega
theorem Vis.out {n : Nat} {G : Gr} (hG : GVr n G) {v k : Nat} {cx : Nat → Nat} {H : List Ab} (h : TS G (v, k, cx, H)) : G.1 v = 6 ∨ (G.1 v < 5 ∧ Vis G v) := by
  rcases TS_from h with f | ⟨f1, -, c1, H1, f2, -, -⟩ | ⟨f1, -, c1, f2, -⟩ | ⟨f1, -, a, c1, -, f2, -⟩ | ⟨f1, -, c1, f2, -⟩
  · exact Or.inl (by rw [show v = 0 from f.1]; exact hG.2.1)
  · have f1 : G.1 v = 0 := f1
    exact Or.inr ⟨by omega, 0, c1, H1, f2⟩
  · have f1 : G.1 v = 1 := f1
    exact Or.inr ⟨by omega, 1, c1, _, f2⟩
  · have f1 : isC (G.1 v) := f1
    exact Or.inr ⟨by rcases f1 with e | e | e <;> omega, a, c1, _, f2⟩
  · have f1 : isC (G.1 v) := f1
    exact Or.inr ⟨by rcases f1 with e | e | e <;> omega, 0, c1, _, f2⟩
theorem Vis.fr {n : Nat} {G : Gr} (hG : GVr n G) {v q : Nat} {cx : Nat → Nat} {H : List Ab} (h : Arr G v q cx H) : G.1 (G.2.2.1 v q) = 6 ∨ (G.1 (G.2.2.1 v q) < 5 ∧ Vis G (G.2.2.1 v q)) := Vis.out hG (h.at hG).1
theorem Vis_ES {n : Nat} {G : Gr} (hG : GVr n G) (hW : WG G) {v : Nat} (h : Vis G v) : ¬ ES n G v := by
  intro hs
  have key : EC n G (fun v => G.1 v < 5 ∧ ¬ Vis G v) := by
    intro v hv hk hf
    refine ⟨hk, fun ⟨q, cx, H, ha⟩ => ?_⟩
    have nf : ∀ {q cx H}, Arr G v q cx H → ¬ ern G (fun v => G.1 v < 5 ∧ ¬ Vis G v) v q := by
      intro q cx H h e
      rcases Vis.fr hG h with f | ⟨f1, f2⟩
      · rcases e with e | ⟨e, -⟩ <;> omega
      · rcases e with e | ⟨-, e⟩
        · omega
        · exact e f2
    have nt : ∀ {k cx H}, TS G (v, k, cx, H) → ¬ ern G (fun v => G.1 v < 5 ∧ ¬ Vis G v) v k := by
      intro k cx H h e
      obtain ⟨f1, f2⟩ := Vis.to hW h
      rcases e with e | ⟨-, e⟩
      · omega
      · exact e f2
    have l0 : ∀ {cx H}, Arr G v 0 cx H → G.1 v = 0 → False := by
      intro cx H h k0
      rcases hf with f | ⟨f1, f2⟩ | ⟨f1, f2⟩
      · exact nf h f
      · omega
      · omega
    rcases hW.at ha with ⟨g1, g2⟩ | ⟨g1, g2, ce, g3, -⟩ | ⟨g1, g2⟩ | ⟨g1, g2⟩ | ⟨g1, g2, a, cy, g3⟩
    · subst g2
      exact l0 ha g1
    · obtain ⟨H0, t1, -, -⟩ := sufOk_mem (TS_suf (ha.at hG).1) g3
      exact l0 t1 g1
    · subst g2
      rcases hf with f | ⟨f1, f2⟩ | ⟨f1, f2⟩
      · exact nt (ha.app g1 agr.rf).1 f
      · exact nf ha f2
      · omega
    · have t := ha.push g1 g2
      rcases hf with f | ⟨f1, f2⟩ | ⟨f1, f2, f3⟩
      · exact nt t f
      · have q1 : q = 1 := by rcases g2 with e | e <;> omega
        subst q1
        exact nf ha f2
      · rcases g2 with e | ⟨-, e⟩
        · subst e; exact nf ha f2
        · subst e; exact nf ha f3
    · subst g2
      have t := ha.pop g1 g3
      have ga := (push_pop g1 g3).1
      rcases hf with f | ⟨f1, f2⟩ | ⟨f1, f2, f3⟩
      · exact nf ha f
      · have q1 : a = 1 := by rcases ga with e | e <;> omega
        subst q1
        exact nt t f2
      · rcases ga with e | ⟨-, e⟩
        · subst e; exact nt t f2
        · subst e; exact nt t f3
  exact (hs.2.2 _ key).2 h
/-- what stays: neither erasers nor what goes -/
def stay (n : Nat) (G : Gr) (v : Nat) : Prop := v < n ∧ (G.1 v < 5 ∨ G.1 v = 6) ∧ ¬ ES n G v
/-- G' is G after all the erasing -/
def ESp (n : Nat) (G G' : Gr) : Prop :=
  (∀ v, stay n G v → G'.1 v = G.1 v ∧ G'.2.1 v = G.2.1 v ∧ ∀ k, k < nP (G.1 v) → (ern G (ES n G) v k → G'.1 (G'.2.2.1 v k) = 5) ∧ (¬ ern G (ES n G) v k → G'.2.2.1 v k = G.2.2.1 v k ∧ G'.2.2.2 v k = G.2.2.2 v k)) ∧
  (∀ v, v < n → G'.1 v < 5 ∨ G'.1 v = 6 → stay n G v) ∧
  (∀ v, v < n → G'.1 v = 5 → G'.1 (G'.2.2.1 v 0) ≠ 5)
theorem Vis.nern {n : Nat} {G : Gr} (hG : GVr n G) (hW : WG G) {v k : Nat} {cx : Nat → Nat} {H : List Ab} (h : TS G (v, k, cx, H)) : stay n G v ∧ ¬ ern G (ES n G) v k ∧ stay n G (G.2.2.1 v k) := by
  obtain ⟨hv, hk⟩ := TS_valid hG h
  obtain ⟨t1, t2⟩ := Vis.to hW h
  have h1 : stay n G v := by
    rcases Vis.out hG h with e | ⟨e1, e2⟩
    · exact ⟨hv, Or.inr e, fun q => by have := q.2.1; have hv' : G.1 v = 6 := e; omega⟩
    · exact ⟨hv, Or.inl e1, Vis_ES hG hW e2⟩
  refine ⟨h1, fun e => ?_, (hG.1 v k hv hk).1, Or.inl t1, Vis_ES hG hW t2⟩
  rcases e with e | e
  · omega
  · exact Vis_ES hG hW t2 e
/-- what is walked is not touched -/
theorem ESp.at {n : Nat} {G G' : Gr} (hG : GVr n G) (hW : WG G) (hE : ESp n G G') {v k : Nat} {cx : Nat → Nat} {H : List Ab} (h : TS G (v, k, cx, H)) : G'.1 v = G.1 v ∧ G'.2.2.1 v k = G.2.2.1 v k ∧ G'.2.2.2 v k = G.2.2.2 v k ∧ G'.1 (G.2.2.1 v k) = G.1 (G.2.2.1 v k) ∧ G'.2.1 (G.2.2.1 v k) = G.2.1 (G.2.2.1 v k) := by
  obtain ⟨s1, s2, s3⟩ := Vis.nern hG hW h
  obtain ⟨e1, -, e3⟩ := hE.1 v s1
  obtain ⟨w1, w2⟩ := (e3 k (TS_valid hG h).2).2 s2
  obtain ⟨f1, f2, -⟩ := hE.1 _ s3
  exact ⟨e1, w1, w2, f1, f2⟩
theorem WG_erase {n : Nat} {G G' : Gr} (hG : GVr n G) (hW : WG G) (hE : ESp n G G') : WG G' := by
  have main : ∀ s, TS G' s → TS G s := by
    intro s hs
    refine hs (TS G) ⟨(TS_cl G).1, ?_, ?_, ?_, ?_⟩
    · intro v k cx H h b1 b2 cy b3
      obtain ⟨-, e2, e3, e4, e5⟩ := hE.at hG hW h
      rw [e2] at b1 b3 ⊢
      rw [e3] at b2
      rw [e4] at b1
      rw [e5] at b3
      exact (TS_cl G).2.1 v k cx H h b1 b2 cy b3
    · intro v k cx H h b1 b2 cy b3
      obtain ⟨-, e2, e3, e4, e5⟩ := hE.at hG hW h
      rw [e2] at b1 b3 ⊢
      rw [e3] at b2
      rw [e4] at b1
      rw [e5] at b3
      exact (TS_cl G).2.2.1 v k cx H h b1 b2 cy b3
    · intro v k cx H h b1 b2
      obtain ⟨-, e2, e3, e4, e5⟩ := hE.at hG hW h
      rw [e2, e4] at b1
      rw [e2, e3, e4] at b2
      rw [e2, e3, e4, e5]
      exact (TS_cl G).2.2.2.1 v k cx H h b1 b2
    · intro v k cx H h b1 b2 a cy b3
      obtain ⟨-, e2, e3, e4, e5⟩ := hE.at hG hW h
      rw [e2, e4] at b1
      rw [e3] at b2
      rw [e2, e4, e5] at b3
      rw [e2]
      exact (TS_cl G).2.2.2.2 v k cx H h b1 b2 a cy b3
  intro v k cx H hs
  have h := main _ hs
  obtain ⟨-, e2, e3, e4, e5⟩ := hE.at hG hW h
  rw [e2, e3]
  exact (hW v k cx H h).of e4 e5 (fun _ h => h)
