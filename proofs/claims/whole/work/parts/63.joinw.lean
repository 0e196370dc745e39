/-! two that meet and go: what can be walked to stays well -/
def GVr (n : Nat) (G : Gr) : Prop := GV n G.1 G.2.2.1 G.2.2.2 ∧ G.1 0 = 6 ∧ 0 < n
theorem nP_0 : nP 0 = 3 := rfl
theorem nP_1 : nP 1 = 3 := rfl
theorem auxC_lt {d a : Nat} (hd : isC d) (ha : auxC d a) : a < nP d ∧ a ≠ 0 := by
  rcases hd with rfl | rfl | rfl
  · rcases ha with rfl | ⟨-, rfl⟩ <;> exact ⟨by decide, by decide⟩
  · rcases ha with rfl | ⟨h, -⟩
    · exact ⟨by decide, by decide⟩
    · omega
  · rcases ha with rfl | ⟨h, -⟩
    · exact ⟨by decide, by decide⟩
    · omega
theorem nP_c {d : Nat} (hd : isC d) : 0 < nP d := by
  rcases hd with rfl | rfl | rfl <;> decide
theorem TS_valid {n : Nat} {G : Gr} (hG : GVr n G) {s : Ts} (h : TS G s) : s.1 < n ∧ s.2.1 < nP (G.1 s.1) := by
  refine h (fun s => s.1 < n ∧ s.2.1 < nP (G.1 s.1)) ⟨fun cx => ⟨hG.2.2, by show 0 < nP (G.1 0); rw [hG.2.1]; decide⟩, ?_, ?_, ?_, ?_⟩
  · rintro v k cx H ⟨h1, h2⟩ h3 h4 cy ha
    exact ⟨(hG.1 v k h1 h2).1, by show 1 < nP (G.1 (G.2.2.1 v k)); rw [h3]; decide⟩
  · rintro v k cx H ⟨h1, h2⟩ h3 h4 cy ha
    exact ⟨⟨(hG.1 v k h1 h2).1, by show 0 < nP (G.1 (G.2.2.1 v k)); rw [h3]; decide⟩, ⟨(hG.1 v k h1 h2).1, by show 2 < nP (G.1 (G.2.2.1 v k)); rw [h3]; decide⟩⟩
  · rintro v k cx H ⟨h1, h2⟩ h3 h4
    exact ⟨(hG.1 v k h1 h2).1, nP_c h3⟩
  · rintro v k cx H ⟨h1, h2⟩ h3 h4 a cy ha
    exact ⟨(hG.1 v k h1 h2).1, (auxC_lt h3 (push_pop h3 ha).1).1⟩
/-- the one port that an arrival comes from -/
theorem Arr.at {n : Nat} {G : Gr} (hG : GVr n G) {w q : Nat} {cx : Nat → Nat} {H : List Ab} (h : Arr G w q cx H) : TS G (G.2.2.1 w q, G.2.2.2 w q, cx, H) ∧ w < n ∧ q < nP (G.1 w) := by
  obtain ⟨v, k, h1, rfl, rfl⟩ := h
  obtain ⟨h2, h3⟩ := TS_valid hG h1
  obtain ⟨g1, g2, g3, g4, -⟩ := hG.1 v k h2 h3
  rw [g3, g4]
  exact ⟨h1, g1, g2⟩
def bnc (G : Gr) (l r : Nat) : Nat → Nat × Nat → Nat × Nat
  | 0, p => p
  | f + 1, p => if p.1 = l then bnc G l r f (G.2.2.1 r p.2, G.2.2.2 r p.2) else if p.1 = r then bnc G l r f (G.2.2.1 l p.2, G.2.2.2 l p.2) else p
def SubH (l r : Nat) (H H' : List Ab) : Prop := ∀ e ∈ H, e.1 ≠ l → e.1 ≠ r → e ∈ H'
theorem SubH.rf {l r : Nat} {H : List Ab} : SubH l r H H := fun _ h _ _ => h
theorem SubH.trans {l r : Nat} {H H1 H2 : List Ab} (h : SubH l r H H1) (g : SubH l r H1 H2) : SubH l r H H2 := fun e he h1 h2 => g e (h e he h1 h2) h1 h2
/-- from one of the two to the other -/
def Hop (G : Gr) (l r : Nat) : Prop := ∀ q cx H, q ≠ 0 → Arr G l q cx H → ∃ H2, TS G (r, q, cx, H2) ∧ SubH l r H2 H
theorem SubH.swap {l r : Nat} {H H' : List Ab} (h : SubH l r H H') : SubH r l H H' := fun e he h1 h2 => h e he h2 h1
theorem bnc_arr {n : Nat} {G : Gr} {l r : Nat} (hG : GVr n G) (hw : G.2.2.1 l 0 = r ∧ G.2.2.2 l 0 = 0 ∧ G.2.2.1 r 0 = l ∧ G.2.2.2 r 0 = 0) (h1 : Hop G l r) (h2 : Hop G r l) : ∀ (f v k : Nat) (cx : Nat → Nat) (H : List Ab), TS G (v, k, cx, H) → ¬ (v = l ∧ k = 0) → ¬ (v = r ∧ k = 0) →
    (bnc G l r f (G.2.2.1 v k, G.2.2.2 v k)).1 ≠ l → (bnc G l r f (G.2.2.1 v k, G.2.2.2 v k)).1 ≠ r → ∃ H1, Arr G (bnc G l r f (G.2.2.1 v k, G.2.2.2 v k)).1 (bnc G l r f (G.2.2.1 v k, G.2.2.2 v k)).2 cx H1 ∧ SubH l r H1 H
  | 0, v, k, cx, H, h, _, _, _, _ => ⟨H, ⟨v, k, h, rfl, rfl⟩, SubH.rf⟩
  | f + 1, v, k, cx, H, h, n1, n2, e1, e2 => by
    have eb : bnc G l r (f + 1) (G.2.2.1 v k, G.2.2.2 v k) = if G.2.2.1 v k = l then bnc G l r f (G.2.2.1 r (G.2.2.2 v k), G.2.2.2 r (G.2.2.2 v k)) else if G.2.2.1 v k = r then bnc G l r f (G.2.2.1 l (G.2.2.2 v k), G.2.2.2 l (G.2.2.2 v k)) else (G.2.2.1 v k, G.2.2.2 v k) := rfl
    obtain ⟨hv, hk⟩ := TS_valid hG h
    obtain ⟨-, -, g3, g4, -⟩ := hG.1 v k hv hk
    by_cases c1 : G.2.2.1 v k = l
    · rw [eb, if_pos c1] at e1 e2 ⊢
      have q0 : G.2.2.2 v k ≠ 0 := fun q0 => by
        rw [c1, q0] at g3 g4
        exact n2 ⟨g3.symm.trans hw.1, g4.symm.trans hw.2.1⟩
      obtain ⟨H2, t1, t2⟩ := h1 _ cx H q0 ⟨v, k, h, c1, rfl⟩
      obtain ⟨H1, t3, t4⟩ := bnc_arr hG hw h1 h2 f r _ cx H2 t1 (fun q => q0 q.2) (fun q => q0 q.2) e1 e2
      exact ⟨H1, t3, t4.trans t2⟩
    · rw [eb, if_neg c1] at e1 e2 ⊢
      by_cases c2 : G.2.2.1 v k = r
      · rw [if_pos c2] at e1 e2 ⊢
        have q0 : G.2.2.2 v k ≠ 0 := fun q0 => by
          rw [c2, q0] at g3 g4
          exact n1 ⟨g3.symm.trans hw.2.2.1, g4.symm.trans hw.2.2.2⟩
        obtain ⟨H2, t1, t2⟩ := h2 _ cx H q0 ⟨v, k, h, c2, rfl⟩
        obtain ⟨H1, t3, t4⟩ := bnc_arr hG hw h1 h2 f l _ cx H2 t1 (fun q => q0 q.2) (fun q => q0 q.2) e1 e2
        exact ⟨H1, t3, t4.trans t2.swap⟩
      · rw [if_neg c2]
        exact ⟨H, ⟨v, k, h, rfl, rfl⟩, SubH.rf⟩
/-- G' is G without l and r, what was at their ports being wired -/
def JS (n : Nat) (G : Gr) (l r : Nat) (G' : Gr) : Prop := ∀ v, v < n → v ≠ l → v ≠ r → G'.1 v = G.1 v ∧ G'.2.1 v = G.2.1 v ∧ ∀ k, k < nP (G.1 v) → (G'.2.2.1 v k, G'.2.2.2 v k) = bnc G l r 5 (G.2.2.1 v k, G.2.2.2 v k) ∧ G'.2.2.1 v k ≠ l ∧ G'.2.2.1 v k ≠ r
theorem Good.of {G G' : Gr} {w q : Nat} {cx : Nat → Nat} {H H' : List Ab} (h : Good G w q cx H) (e1 : G'.1 w = G.1 w) (e2 : G'.2.1 w = G.2.1 w) (hs : ∀ ce, (w, ce) ∈ H → (w, ce) ∈ H') : Good G' w q cx H' := by
  unfold Good at h ⊢
  rw [e1, e2]
  rcases h with h | ⟨h1, h2, ce, h3, h4⟩ | h
  · exact Or.inl h
  · exact Or.inr (Or.inl ⟨h1, h2, ce, hs ce h3, h4⟩)
  · exact Or.inr (Or.inr h)
theorem WG_join {n : Nat} {G G' : Gr} {l r : Nat} (hG : GVr n G) (hw : G.2.2.1 l 0 = r ∧ G.2.2.2 l 0 = 0 ∧ G.2.2.1 r 0 = l ∧ G.2.2.2 r 0 = 0) (hl : G.1 l ≠ 6) (hr : G.1 r ≠ 6) (h1 : Hop G l r) (h2 : Hop G r l) (hJ : JS n G l r G') (hW : WG G) : WG G' := by
  have z1 : (0 : Nat) ≠ l := fun e => hl (by rw [← e]; exact hG.2.1)
  have z2 : (0 : Nat) ≠ r := fun e => hr (by rw [← e]; exact hG.2.1)
  -- an arrival in G' is one in G
  have key : ∀ v k cx H H', v ≠ l → v ≠ r → TS G (v, k, cx, H) → SubH l r H H' → ∃ H1, Arr G (G'.2.2.1 v k) (G'.2.2.2 v k) cx H1 ∧ SubH l r H1 H' ∧ G'.2.2.1 v k ≠ l ∧ G'.2.2.1 v k ≠ r ∧ G'.1 (G'.2.2.1 v k) = G.1 (G'.2.2.1 v k) ∧ G'.2.1 (G'.2.2.1 v k) = G.2.1 (G'.2.2.1 v k) := by
    intro v k cx H H' hv1 hv2 hs hb
    obtain ⟨hv, hk⟩ := TS_valid hG hs
    obtain ⟨-, -, j3⟩ := hJ v hv hv1 hv2
    obtain ⟨j4, j5, j6⟩ := j3 k hk
    have f1 : G'.2.2.1 v k = (bnc G l r 5 (G.2.2.1 v k, G.2.2.2 v k)).1 := congrArg Prod.fst j4
    have f2 : G'.2.2.2 v k = (bnc G l r 5 (G.2.2.1 v k, G.2.2.2 v k)).2 := congrArg Prod.snd j4
    obtain ⟨H1, t1, t2⟩ := bnc_arr hG hw h1 h2 5 v k cx H hs (fun q => hv1 q.1) (fun q => hv2 q.1) (by rw [← f1]; exact j5) (by rw [← f1]; exact j6)
    rw [← f1, ← f2] at t1
    obtain ⟨-, t3, -⟩ := t1.at hG
    obtain ⟨j7, j8, -⟩ := hJ _ t3 j5 j6
    exact ⟨H1, t1, t2.trans hb, j5, j6, j7, j8⟩
  have main : ∀ s, TS G' s → (s.1 ≠ l ∧ s.1 ≠ r) ∧ ∃ H, TS G (s.1, s.2.1, s.2.2.1, H) ∧ SubH l r H s.2.2.2 := by
    intro s hs
    refine hs (fun s => (s.1 ≠ l ∧ s.1 ≠ r) ∧ ∃ H, TS G (s.1, s.2.1, s.2.2.1, H) ∧ SubH l r H s.2.2.2) ⟨fun cx => ⟨⟨z1, z2⟩, [], (TS_cl G).1 cx, SubH.rf⟩, ?_, ?_, ?_, ?_⟩
    · rintro v k cx H' ⟨⟨a1, a2⟩, H, a3, a4⟩ b1 b2 cy b3
      obtain ⟨H1, t1, t2, t3, t4, t5, t6⟩ := key v k cx H H' a1 a2 a3 a4
      rw [b2] at t1
      refine ⟨⟨t3, t4⟩, _, t1.lam (t5.symm.trans b1) (by rw [← t6]; exact b3), fun e he n1 n2 => ?_⟩
      rcases List.mem_cons.mp he with q | q
      · rw [q]; exact List.mem_cons_self ..
      · exact List.mem_cons_of_mem _ (t2 e q n1 n2)
    · rintro v k cx H' ⟨⟨a1, a2⟩, H, a3, a4⟩ b1 b2 cy b3
      obtain ⟨H1, t1, t2, t3, t4, t5, t6⟩ := key v k cx H H' a1 a2 a3 a4
      rw [b2] at t1
      obtain ⟨u1, u2⟩ := t1.app (t5.symm.trans b1) (cy := cy) (by rw [← t6]; exact b3)
      exact ⟨⟨⟨t3, t4⟩, H1, u1, t2⟩, ⟨⟨t3, t4⟩, H1, u2, t2⟩⟩
    · rintro v k cx H' ⟨⟨a1, a2⟩, H, a3, a4⟩ b1 b2
      obtain ⟨H1, t1, t2, t3, t4, t5, t6⟩ := key v k cx H H' a1 a2 a3 a4
      rw [t5] at b1 b2
      refine ⟨⟨t3, t4⟩, H1, ?_, t2⟩
      show TS G (_, 0, push _ _ _ cx, H1)
      rw [t5, t6]
      exact t1.push b1 b2
    · rintro v k cx H' ⟨⟨a1, a2⟩, H, a3, a4⟩ b1 b2 a cy b3
      obtain ⟨H1, t1, t2, t3, t4, t5, t6⟩ := key v k cx H H' a1 a2 a3 a4
      rw [t5] at b1
      rw [t5, t6] at b3
      rw [b2] at t1
      exact ⟨⟨t3, t4⟩, H1, t1.pop b1 b3, t2⟩
  intro v k cx H' hs
  obtain ⟨⟨a1, a2⟩, H, a3, a4⟩ := main _ hs
  obtain ⟨H1, t1, t2, t3, t4, t5, t6⟩ := key v k cx H H' a1 a2 a3 a4
  exact (hW.at t1).of t5 t6 (fun ce hc => t2 _ hc t3 t4)
theorem Hop_ann {n : Nat} {G : Gr} {l r : Nat} (hG : GVr n G) (hW : WG G) (hw : G.2.2.1 l 0 = r ∧ G.2.2.2 l 0 = 0) (hc : isC (G.1 l)) (hk : G.1 r = G.1 l) (hx : G.2.1 r = G.2.1 l) : Hop G l r := by
  intro q cx H q0 ha
  have hq : auxC (G.1 l) q := by
    rcases hW.at ha with h | h | h | h | h
    · exact absurd h.2 q0
    · rcases hc with e | e | e <;> omega
    · rcases hc with e | e | e <;> omega
    · exact h.2
    · exact absurd h.2.1 q0
  have t1 := ha.push hc hq
  have t2 : Arr G r 0 (push (G.1 l) q (G.2.1 l) cx) H := ⟨l, 0, t1, hw.1, hw.2⟩
  exact ⟨H, t2.pop (by rw [hk]; exact hc) (by rw [hk, hx]; exact pop_push hc hq), SubH.rf⟩
theorem Hop_app {n : Nat} {G : Gr} {a b : Nat} (hG : GVr n G) (hW : WG G) (hw : G.2.2.1 a 0 = b ∧ G.2.2.2 a 0 = 0) (ka : G.1 a = 1) (kb : G.1 b = 0) : Hop G a b := by
  intro q cx H q0 ha
  have hq : q = 1 := by
    rcases hW.at ha with h | h | h | h | h
    · omega
    · omega
    · exact h.2
    · rcases h.1 with e | e | e <;> omega
    · rcases h.1 with e | e | e <;> omega
  subst hq
  obtain ⟨t1, -⟩ := ha.app ka (cy := cx) agr.rf
  have t2 : Arr G b 0 cx H := ⟨a, 0, t1, hw.1, hw.2⟩
  refine ⟨_, t2.lam kb agr.rf, fun e he n1 n2 => ?_⟩
  rcases List.mem_cons.mp he with h | h
  · rw [h] at n2; exact absurd rfl n2
  · exact h
theorem Hop_lam {n : Nat} {G : Gr} {a b : Nat} (hG : GVr n G) (hW : WG G) (hw : G.2.2.1 b 0 = a ∧ G.2.2.2 b 0 = 0) (ka : G.1 a = 1) (kb : G.1 b = 0) (hx : G.2.1 a = G.2.1 b) : Hop G b a := by
  intro q cx H q0 ha
  obtain ⟨hs, -, -⟩ := ha.at hG
  rcases hW.at ha with h | ⟨h1, h2, ce, h3, h4⟩ | h | h | h
  · exact absurd h.2 q0
  · subst h2
    obtain ⟨H0, t1, -, t3⟩ := sufOk_mem (TS_suf hs) h3
    obtain ⟨t4, -, -⟩ := t1.at hG
    rw [hw.1, hw.2] at t4
    rcases TS_from t4 with f | f | ⟨-, -, cx0, f3, f4⟩ | f | f
    · exact absurd (show G.1 a = 6 by rw [show a = 0 from f.1]; exact hG.2.1) (by omega)
    · have : G.1 a = 0 := f.1
      omega
    · have f3 : Arr G a 1 cx0 H0 := f3
      have f4 : agr (G.2.1 a) ce cx0 := f4
      refine ⟨H0, (f3.app ka (cy := cx) ?_).2, fun e he _ _ => t3 e he⟩
      rw [← hx] at h4
      exact h4.symm.trans f4
    · have : isC (G.1 a) := f.1
      rcases this with e | e | e <;> omega
    · have : isC (G.1 a) := f.1
      rcases this with e | e | e <;> omega
  · omega
  · rcases h.1 with e | e | e <;> omega
  · rcases h.1 with e | e | e <;> omega
