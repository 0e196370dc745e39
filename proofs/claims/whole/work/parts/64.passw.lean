/-! a control passes: what can be walked to stays well -/
def stn (c u : Nat) (o lk : Nat → Nat) (p : Nat × Nat) : Nat × Nat := if p.1 = c then (o p.2, 0) else if p.1 = u then (lk p.2, 0) else p
def PS (n : Nat) (G : Gr) (c u : Nat) (o lk : Nat → Nat) (G' : Gr) : Prop :=
  (∀ v, v < n → v ≠ c → v ≠ u → 0 < nP (G.1 v) → G'.1 v = G.1 v ∧ G'.2.1 v = G.2.1 v ∧ ∀ k, k < nP (G.1 v) → (G'.2.2.1 v k, G'.2.2.2 v k) = stn c u o lk (G.2.2.1 v k, G.2.2.2 v k)) ∧
  (∀ a, auxC (G.1 c) a → G'.1 (o a) = G.1 u ∧ G'.2.1 (o a) = sh (G.1 c) (G.2.1 u) ∧ (G'.2.2.1 (o a) 0, G'.2.2.2 (o a) 0) = stn c u o lk (G.2.2.1 c a, G.2.2.2 c a) ∧ ∀ k, 0 < k → k < nP (G.1 u) → G'.2.2.1 (o a) k = lk k ∧ G'.2.2.2 (o a) k = a) ∧
  (∀ k, 0 < k → k < nP (G.1 u) → G'.1 (lk k) = G.1 c ∧ G'.2.1 (lk k) = G.2.1 c ∧ (G'.2.2.1 (lk k) 0, G'.2.2.2 (lk k) 0) = stn c u o lk (G.2.2.1 u k, G.2.2.2 u k) ∧ ∀ a, auxC (G.1 c) a → G'.2.2.1 (lk k) a = o a ∧ G'.2.2.2 (lk k) a = k)
def HR (G : Gr) (c u : Nat) (o : Nat → Nat) (H H' : List Ab) : Prop := ∀ e ∈ H, (e.1 ≠ u → e ∈ H') ∧ (e.1 = u → ∃ a ce, auxC (G.1 c) a ∧ e.2 = push (G.1 c) a (G.2.1 c) ce ∧ (o a, ce) ∈ H')
/-- the states of G' -/
def PF (G : Gr) (c u : Nat) (o lk : Nat → Nat) (s : Ts) : Prop :=
  (s.1 ≠ c ∧ s.1 ≠ u ∧ ∃ H, TS G (s.1, s.2.1, s.2.2.1, H) ∧ HR G c u o H s.2.2.2) ∨
  (∃ a, auxC (G.1 c) a ∧ s.1 = o a ∧ s.2.1 = 0 ∧ ∃ H, TS G (c, a, s.2.2.1, H) ∧ HR G c u o H s.2.2.2) ∨
  (∃ k, 0 < k ∧ k < nP (G.1 u) ∧ s.1 = lk k ∧ s.2.1 = 0 ∧ ∃ H, TS G (u, k, s.2.2.1, H) ∧ HR G c u o H s.2.2.2) ∨
  (∃ a k, auxC (G.1 c) a ∧ 0 < k ∧ k < nP (G.1 u) ∧ s.1 = o a ∧ s.2.1 = k ∧ ∃ H, TS G (u, k, push (G.1 c) a (G.2.1 c) s.2.2.1, H) ∧ HR G c u o H s.2.2.2) ∨
  (∃ a k, auxC (G.1 c) a ∧ 0 < k ∧ k < nP (G.1 u) ∧ s.1 = lk k ∧ s.2.1 = a ∧ ∃ H, Arr G u k (push (G.1 c) a (G.2.1 c) s.2.2.1) H ∧ HR G c u o H s.2.2.2)
/-- where they come to -/
def PT (G G' : Gr) (c u : Nat) (o lk : Nat → Nat) (w q : Nat) (cx : Nat → Nat) (H' : List Ab) : Prop :=
  (w ≠ c ∧ w ≠ u ∧ G'.1 w = G.1 w ∧ G'.2.1 w = G.2.1 w ∧ ∃ H, Arr G w q cx H ∧ HR G c u o H H') ∨
  (∃ a, auxC (G.1 c) a ∧ w = o a ∧ q = 0 ∧ ∃ H, Arr G c a cx H ∧ HR G c u o H H') ∨
  (∃ k, 0 < k ∧ k < nP (G.1 u) ∧ w = lk k ∧ q = 0 ∧ ∃ H, Arr G u k cx H ∧ HR G c u o H H') ∨
  (∃ a k, auxC (G.1 c) a ∧ 0 < k ∧ k < nP (G.1 u) ∧ w = lk k ∧ q = a ∧ ∃ H, TS G (u, k, push (G.1 c) a (G.2.1 c) cx, H) ∧ HR G c u o H H') ∨
  (∃ a k, auxC (G.1 c) a ∧ 0 < k ∧ k < nP (G.1 u) ∧ w = o a ∧ q = k ∧ ∃ H, Arr G u k (push (G.1 c) a (G.2.1 c) cx) H ∧ HR G c u o H H')
theorem aux0 {d : Nat} : ¬ auxC d 0 := by
  rintro (h | ⟨-, h⟩) <;> omega
theorem PF_to {n : Nat} {G G' : Gr} {c u : Nat} {o lk : Nat → Nat} (hG : GVr n G) (hW : WG G) (hcu : G.2.2.1 c 0 = u ∧ G.2.2.2 c 0 = 0 ∧ G.2.2.1 u 0 = c ∧ G.2.2.2 u 0 = 0) (hc : isC (G.1 c)) (hP : PS n G c u o lk G') {v k : Nat} {cx : Nat → Nat} {H' : List Ab} (h : PF G c u o lk (v, k, cx, H')) : PT G G' c u o lk (G'.2.2.1 v k) (G'.2.2.2 v k) cx H' := by
  have via : ∀ v0 k0 H, TS G (v0, k0, cx, H) → ¬ (v0 = c ∧ k0 = 0) → ¬ (v0 = u ∧ k0 = 0) → HR G c u o H H' → ∀ p : Nat × Nat, p = stn c u o lk (G.2.2.1 v0 k0, G.2.2.2 v0 k0) → PT G G' c u o lk p.1 p.2 cx H' := by
    intro v0 k0 H hs n1 n2 hr p hp
    obtain ⟨hv, hk⟩ := TS_valid hG hs
    obtain ⟨g1, g2, g3, g4, -⟩ := hG.1 v0 k0 hv hk
    have ha : Arr G (G.2.2.1 v0 k0) (G.2.2.2 v0 k0) cx H := ⟨v0, k0, hs, rfl, rfl⟩
    unfold stn at hp
    by_cases c1 : G.2.2.1 v0 k0 = c
    · rw [if_pos c1] at hp
      have q0 : G.2.2.2 v0 k0 ≠ 0 := fun q0 => by
        rw [c1, q0] at g3 g4
        exact n2 ⟨g3.symm.trans hcu.1, g4.symm.trans hcu.2.1⟩
      rw [c1] at ha
      have hq : auxC (G.1 c) (G.2.2.2 v0 k0) := by
        rcases hW.at ha with h | h | h | h | h
        · exact absurd h.2 q0
        · rcases hc with e | e | e <;> omega
        · rcases hc with e | e | e <;> omega
        · exact h.2
        · exact absurd h.2.1 q0
      exact Or.inr (Or.inl ⟨_, hq, by rw [hp], by rw [hp], H, ha, hr⟩)
    · rw [if_neg c1] at hp
      by_cases c2 : G.2.2.1 v0 k0 = u
      · rw [if_pos c2] at hp
        have q0 : G.2.2.2 v0 k0 ≠ 0 := fun q0 => by
          rw [c2, q0] at g3 g4
          exact n1 ⟨g3.symm.trans hcu.2.2.1, g4.symm.trans hcu.2.2.2⟩
        rw [c2] at ha g2
        exact Or.inr (Or.inr (Or.inl ⟨_, Nat.pos_of_ne_zero q0, g2, by rw [hp], by rw [hp], H, ha, hr⟩))
      · rw [if_neg c2] at hp
        obtain ⟨e1, e2, -⟩ := hP.1 _ g1 c1 c2 (Nat.lt_of_le_of_lt (Nat.zero_le _) g2)
        rw [hp]
        exact Or.inl ⟨c1, c2, e1, e2, H, ha, hr⟩
  rcases h with ⟨h1, h2, H, h3, h4⟩ | ⟨a, h1, h2, h3, H, h4, h5⟩ | ⟨k0, h0, h1, h2, h3, H, h4, h5⟩ | ⟨a, k0, h0, h1, h2, h3, h4, H, h5, h6⟩ | ⟨a, k0, h0, h1, h2, h3, h4, H, h5, h6⟩
  · have h1 : v ≠ c := h1
    have h2 : v ≠ u := h2
    obtain ⟨hv, hk⟩ := TS_valid hG h3
    exact via v k H h3 (fun q => h1 q.1) (fun q => h2 q.1) h4 _ ((hP.1 v hv h1 h2 (Nat.lt_of_le_of_lt (Nat.zero_le _) hk)).2.2 k hk)
  · have h2 : v = o a := h2
    have h3 : k = 0 := h3
    subst h2 h3
    exact via c a H h4 (fun q => aux0 (by rw [q.2] at h1; exact h1)) (fun q => aux0 (by rw [q.2] at h1; exact h1)) h5 _ (hP.2.1 a h1).2.2.1
  · have h2 : v = lk k0 := h2
    have h3 : k = 0 := h3
    subst h2 h3
    exact via u k0 H h4 (fun q => by omega) (fun q => by omega) h5 _ (hP.2.2 k0 h0 h1).2.2.1
  · have h3 : v = o a := h3
    have h4 : k = k0 := h4
    subst h3 h4
    obtain ⟨e1, e2⟩ := (hP.2.1 a h0).2.2.2 k h1 h2
    exact Or.inr (Or.inr (Or.inr (Or.inl ⟨a, k, h0, h1, h2, e1, e2, H, h5, h6⟩)))
  · have h3 : v = lk k0 := h3
    have h4 : k = a := h4
    subst h3 h4
    obtain ⟨e1, e2⟩ := (hP.2.2 k0 h1 h2).2.2.2 k h0
    exact Or.inr (Or.inr (Or.inr (Or.inr ⟨k, k0, h0, h1, h2, e1, e2, H, h5, h6⟩)))
theorem HR.cons {G : Gr} {c u : Nat} {o : Nat → Nat} {H H' : List Ab} {w : Nat} {cx : Nat → Nat} (h : HR G c u o H H') (hw : w ≠ u) : HR G c u o ((w, cx) :: H) ((w, cx) :: H') := by
  intro e he
  rcases List.mem_cons.mp he with q | q
  · rw [q]
    exact ⟨fun _ => List.mem_cons_self .., fun e => absurd e hw⟩
  · obtain ⟨h1, h2⟩ := h e q
    refine ⟨fun n => List.mem_cons_of_mem _ (h1 n), fun n => ?_⟩
    obtain ⟨a, ce, a1, a2, a3⟩ := h2 n
    exact ⟨a, ce, a1, a2, List.mem_cons_of_mem _ a3⟩
theorem HR.consU {G : Gr} {c u : Nat} {o : Nat → Nat} {H H' : List Ab} {a : Nat} {cx : Nat → Nat} (h : HR G c u o H H') (ha : auxC (G.1 c) a) : HR G c u o ((u, push (G.1 c) a (G.2.1 c) cx) :: H) ((o a, cx) :: H') := by
  intro e he
  rcases List.mem_cons.mp he with q | q
  · rw [q]
    exact ⟨fun n => absurd rfl n, fun _ => ⟨a, cx, ha, rfl, List.mem_cons_self ..⟩⟩
  · obtain ⟨h1, h2⟩ := h e q
    refine ⟨fun n => List.mem_cons_of_mem _ (h1 n), fun n => ?_⟩
    obtain ⟨a, ce, a1, a2, a3⟩ := h2 n
    exact ⟨a, ce, a1, a2, List.mem_cons_of_mem _ a3⟩
theorem WG_pass {n : Nat} {G G' : Gr} {c u : Nat} {o lk : Nat → Nat} (hG : GVr n G) (hW : WG G) (hcu : G.2.2.1 c 0 = u ∧ G.2.2.2 c 0 = 0 ∧ G.2.2.1 u 0 = c ∧ G.2.2.2 u 0 = 0) (hc : isC (G.1 c)) (hu : G.1 u ≠ 6) (hij : G.2.1 c < G.2.1 u) (hP : PS n G c u o lk G') : WG G' := by
  have z1 : (0 : Nat) ≠ c := fun e => by
    rw [← e, hG.2.1] at hc
    rcases hc with h | h | h <;> omega
  have z2 : (0 : Nat) ≠ u := fun e => hu (by rw [← e]; exact hG.2.1)
  have cN : G.1 c ≠ 0 ∧ G.1 c ≠ 1 := by rcases hc with h | h | h <;> omega
  -- into u by way of c, and into c by way of u
  have toU : ∀ a cx H, auxC (G.1 c) a → Arr G c a cx H → Arr G u 0 (push (G.1 c) a (G.2.1 c) cx) H := fun a cx H ha h => ⟨c, 0, h.push hc ha, hcu.1, hcu.2.1⟩
  have toC : ∀ cx H, TS G (u, 0, cx, H) → Arr G c 0 cx H := fun cx H h => ⟨u, 0, h, hcu.2.2.1, hcu.2.2.2⟩
  have outC : ∀ a cx H, auxC (G.1 c) a → TS G (u, 0, push (G.1 c) a (G.2.1 c) cx, H) → TS G (c, a, cx, H) := fun a cx H ha h => (toC _ H h).pop hc (pop_push hc ha)
  have main : ∀ s, TS G' s → PF G c u o lk s := by
    intro s hs
    refine hs (PF G c u o lk) ⟨fun cx => Or.inl ⟨z1, z2, [], (TS_cl G).1 cx, fun e he => absurd he (by simp)⟩, ?_, ?_, ?_, ?_⟩
    · intro v k cx H' hp b1 b2 cy b3
      rcases PF_to hG hW hcu hc hP hp with ⟨h1, h2, e1, e2, H, h3, h4⟩ | ⟨a, h1, h2, h3, H, h4, h5⟩ | ⟨k0, h0, h1, h2, h3, H, h4, h5⟩ | ⟨a, k0, h0, h1, h2, h3, h4, H, h5, h6⟩ | ⟨a, k0, h0, h1, h2, h3, h4, H, h5, h6⟩
      · rw [b2] at h3
        exact Or.inl ⟨h1, h2, _, h3.lam (e1.symm.trans b1) (by rw [← e2]; exact b3), h4.cons h2⟩
      · obtain ⟨p1, p2, -⟩ := hP.2.1 a h1
        rw [h2] at b1 b3 ⊢
        rw [p2] at b3
        rw [p1] at b1
        exact Or.inr (Or.inr (Or.inr (Or.inl ⟨a, 1, h1, by decide, by rw [b1]; decide, rfl, rfl, _, (toU a cx H h1 h4).lam b1 (push_agr hc hij b3), h5.consU h1⟩)))
      · rw [h2, (hP.2.2 k0 h0 h1).1] at b1
        exact absurd b1 cN.1
      · rw [h3, (hP.2.2 k0 h1 h2).1] at b1
        exact absurd b1 cN.1
      · omega
    · intro v k cx H' hp b1 b2 cy b3
      rcases PF_to hG hW hcu hc hP hp with ⟨h1, h2, e1, e2, H, h3, h4⟩ | ⟨a, h1, h2, h3, H, h4, h5⟩ | ⟨k0, h0, h1, h2, h3, H, h4, h5⟩ | ⟨a, k0, h0, h1, h2, h3, h4, H, h5, h6⟩ | ⟨a, k0, h0, h1, h2, h3, h4, H, h5, h6⟩
      · rw [b2] at h3
        obtain ⟨u1, u2⟩ := h3.app (e1.symm.trans b1) (cy := cy) (by rw [← e2]; exact b3)
        exact ⟨Or.inl ⟨h1, h2, H, u1, h4⟩, Or.inl ⟨h1, h2, H, u2, h4⟩⟩
      · omega
      · omega
      · rw [h3, (hP.2.2 k0 h1 h2).1] at b1
        exact absurd b1 cN.2
      · obtain ⟨p1, p2, -⟩ := hP.2.1 a h0
        rw [h3] at b1 b3 ⊢
        rw [p2] at b3
        rw [p1] at b1
        have k1 : k0 = 1 := by omega
        subst k1
        obtain ⟨u1, u2⟩ := h5.app b1 (cy := push (G.1 c) a (G.2.1 c) cy) (push_agr hc hij b3)
        exact ⟨Or.inr (Or.inl ⟨a, h0, rfl, rfl, H, outC a cy H h0 u1, h6⟩), Or.inr (Or.inr (Or.inr (Or.inl ⟨a, 2, h0, by decide, by rw [b1]; decide, rfl, rfl, H, u2, h6⟩)))⟩
    · intro v k cx H' hp b1 b2
      rcases PF_to hG hW hcu hc hP hp with ⟨h1, h2, e1, e2, H, h3, h4⟩ | ⟨a, h1, h2, h3, H, h4, h5⟩ | ⟨k0, h0, h1, h2, h3, H, h4, h5⟩ | ⟨a, k0, h0, h1, h2, h3, h4, H, h5, h6⟩ | ⟨a, k0, h0, h1, h2, h3, h4, H, h5, h6⟩
      · rw [e1] at b1 b2
        refine Or.inl ⟨h1, h2, H, ?_, h4⟩
        show TS G (_, 0, push _ _ _ cx, H)
        rw [e1, e2]
        exact h3.push b1 b2
      · rw [h3] at b2; exact absurd b2 aux0
      · rw [h3] at b2; exact absurd b2 aux0
      · obtain ⟨p1, p2, -⟩ := hP.2.2 k0 h1 h2
        refine Or.inr (Or.inr (Or.inl ⟨k0, h1, h2, h3, rfl, H, ?_, h6⟩))
        show TS G (u, k0, push _ _ _ cx, H)
        rw [h3, p1, p2, h4]
        exact h5
      · obtain ⟨p1, p2, -⟩ := hP.2.1 a h0
        rw [h3, p1] at b1 b2
        rw [h4] at b2
        refine Or.inr (Or.inl ⟨a, h0, h3, rfl, H, ?_, h6⟩)
        show TS G (c, a, push _ _ _ cx, H)
        rw [h3, p1, p2, h4]
        have t := h5.push b1 b2
        rw [push_comm hc b1 hij] at t
        exact outC a _ H h0 t
    · intro v k cx H' hp b1 b2 b cy b3
      rcases PF_to hG hW hcu hc hP hp with ⟨h1, h2, e1, e2, H, h3, h4⟩ | ⟨a, h1, h2, h3, H, h4, h5⟩ | ⟨k0, h0, h1, h2, h3, H, h4, h5⟩ | ⟨a, k0, h0, h1, h2, h3, h4, H, h5, h6⟩ | ⟨a, k0, h0, h1, h2, h3, h4, H, h5, h6⟩
      · rw [e1] at b1
        rw [e1, e2] at b3
        rw [b2] at h3
        exact Or.inl ⟨h1, h2, H, h3.pop b1 b3, h4⟩
      · obtain ⟨p1, p2, -⟩ := hP.2.1 a h1
        rw [h2, p1] at b1
        rw [h2, p1, p2] at b3
        have t := toU a cx H h1 h4
        have hb := push_pop b1 b3
        have hp2 : pop (G.1 u) (G.2.1 u) (push (G.1 c) a (G.2.1 c) cx) = some (b, push (G.1 c) a (G.2.1 c) cy) := by
          rw [← hb.2, ← push_comm hc b1 hij, pop_push b1 hb.1]
        obtain ⟨q1, q2⟩ := auxC_lt b1 hb.1
        exact Or.inr (Or.inr (Or.inr (Or.inl ⟨a, b, h1, Nat.pos_of_ne_zero q2, q1, h2, rfl, H, t.pop b1 hp2, h5⟩)))
      · obtain ⟨p1, p2, -⟩ := hP.2.2 k0 h0 h1
        rw [h2, p1, p2] at b3
        have hb := push_pop hc b3
        refine Or.inr (Or.inr (Or.inr (Or.inr ⟨b, k0, hb.1, h0, h1, h2, rfl, H, ?_, h5⟩)))
        show Arr G u k0 (push (G.1 c) b (G.2.1 c) cy) H
        rw [hb.2]
        exact h4
      · rw [h4] at b2
        rw [b2] at h0
        exact absurd h0 aux0
      · omega
  intro v k cx H' hs
  rcases PF_to hG hW hcu hc hP (main _ hs) with ⟨h1, h2, e1, e2, H, h3, h4⟩ | ⟨a, h1, h2, h3, H, h4, h5⟩ | ⟨k0, h0, h1, h2, h3, H, h4, h5⟩ | ⟨a, k0, h0, h1, h2, h3, h4, H, h5, h6⟩ | ⟨a, k0, h0, h1, h2, h3, h4, H, h5, h6⟩
  · exact (hW.at h3).of e1 e2 (fun ce hce => (h4 _ hce).1 h2)
  · obtain ⟨p1, p2, -⟩ := hP.2.1 a h1
    unfold Good
    rw [h2, h3, p1, p2]
    rcases hW.at (toU a cx H h1 h4) with g | g | g | g | ⟨g1, g2, b, cy, g3⟩
    · exact Or.inl g
    · omega
    · omega
    · exact absurd g.2 aux0
    · obtain ⟨c3, g4, -⟩ := pop_under hc g1 hij g3
      exact Or.inr (Or.inr (Or.inr (Or.inr ⟨g1, rfl, b, c3, g4⟩)))
  · obtain ⟨p1, p2, -⟩ := hP.2.2 k0 h0 h1
    unfold Good
    rw [h2, h3, p1, p2]
    refine Or.inr (Or.inr (Or.inr (Or.inr ⟨hc, rfl, ?_⟩)))
    rcases hW.at h4 with g | ⟨g1, g2, ce, g3, g4⟩ | ⟨g1, g2⟩ | ⟨g1, g2⟩ | g
    · omega
    · obtain ⟨hs4, -, -⟩ := h4.at hG
      obtain ⟨H0, t1, -, -⟩ := sufOk_mem (TS_suf hs4) g3
      obtain ⟨t4, -, -⟩ := t1.at hG
      rw [hcu.2.2.1, hcu.2.2.2] at t4
      rcases TS_from t4 with f | f | f | ⟨f1, f2, a, cx0, f3, f4, f5⟩ | f
      · exact absurd f.1.symm z1
      · exact absurd f.1 cN.1
      · exact absurd f.1 cN.2
      · have f5 : ce = push (G.1 c) a (G.2.1 c) cx0 := f5
        have f6 := pop_push (x := G.2.1 c) (cx := cx0) hc f3
        rw [← f5] at f6
        obtain ⟨c2, f7⟩ := pop_val (cy := cx) (y := G.2.1 c) f6 (g4 _ hij)
        exact ⟨a, c2, f7⟩
      · exact absurd f.2.1 aux0
    · subst g2
      obtain ⟨u1, -⟩ := h4.app g1 (cy := cx) agr.rf
      rcases hW.at (toC cx H u1) with f | f | f | f | f
      · exact absurd f.1 cN.1
      · exact absurd f.1 cN.1
      · exact absurd f.1 cN.2
      · exact absurd f.2 aux0
      · exact f.2.2
    · have t := h4.push g1 g2
      rcases hW.at (toC _ H t) with f | f | f | f | ⟨-, -, b, cy, f⟩
      · exact absurd f.1 cN.1
      · exact absurd f.1 cN.1
      · exact absurd f.1 cN.2
      · exact absurd f.2 aux0
      · obtain ⟨c2, f7⟩ := pop_val (cy := cx) (y := G.2.1 c) f (push_lo g1 hij)
        exact ⟨b, c2, f7⟩
    · omega
  · obtain ⟨p1, p2, -⟩ := hP.2.2 k0 h1 h2
    unfold Good
    rw [h3, h4, p1, p2]
    exact Or.inr (Or.inr (Or.inr (Or.inl ⟨hc, h0⟩)))
  · obtain ⟨p1, p2, -⟩ := hP.2.1 a h0
    unfold Good
    rw [h3, h4, p1, p2]
    rcases hW.at h5 with g | ⟨g1, g2, ce, g3, g4⟩ | g | g | g
    · omega
    · obtain ⟨a2, ce2, q1, q2, q3⟩ := (h6 _ g3).2 rfl
      have q2 : ce = push (G.1 c) a2 (G.2.1 c) ce2 := q2
      rw [q2] at g4
      obtain ⟨r1, r2⟩ := push_agr_inv hc q1 h0 hij g4
      rw [r1] at q3
      exact Or.inr (Or.inl ⟨g1, g2, ce2, q3, r2⟩)
    · exact Or.inr (Or.inr (Or.inl g))
    · exact Or.inr (Or.inr (Or.inr (Or.inl g)))
    · omega
