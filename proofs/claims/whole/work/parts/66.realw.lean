/-! the walk itself keeps to what can be walked; what it walked before a meeting it would walk again -/
noncomputable def gStep (G : Gr) (c : Cf) : Nat × Cf := aStep G.1 G.2.1 G.2.2.1 G.2.2.2 c
noncomputable def gWalk (G : Gr) (m : Nat) (c : Cf) : Nat × Cf := aWalk G.1 G.2.1 G.2.2.1 G.2.2.2 m c
def wkTo (G : Gr) : Nat → Cf → Cf → Prop
  | 0, c, c' => c = c'
  | m + 1, c, c' => ∃ c1, wkTo G m c c1 ∧ gStep G c1 = (6, c') ∧ c'.2.2.2.2.2.length ≤ 4000
theorem gWalk_s (G : Gr) (m : Nat) (c : Cf) : gWalk G (m + 1) c = if (if 4000 < (gStep G c).2.2.2.2.2.2.length then 3 else (gStep G c).1) = 6 then gWalk G m (gStep G c).2 else ((if 4000 < (gStep G c).2.2.2.2.2.2.length then 3 else (gStep G c).1), (gStep G c).2) := rfl
theorem gWalk_to {G : Gr} : ∀ (m k : Nat) (c c' : Cf), wkTo G m c c' → gWalk G (m + k) c = gWalk G k c'
  | 0, k, c, c', h => by
    have h : c = c' := h
    rw [h, Nat.zero_add]
  | m + 1, k, c, c', ⟨c1, h1, h2, h3⟩ => by
    rw [show m + 1 + k = m + (k + 1) by omega, gWalk_to m (k + 1) c c1 h1, gWalk_s, h2]
    show (if (if 4000 < c'.2.2.2.2.2.length then 3 else 6) = 6 then gWalk G k c' else _) = _
    rw [if_neg (show ¬ 4000 < c'.2.2.2.2.2.length by omega), if_pos rfl]
def LatT (G : Gr) : List Lt → List Ab → Prop
  | [], _ => True
  | it :: r, ab => if it.1 = 1 then LatT G r ab.tail else if it.1 = 2 then LatT G r ab else TS G (it.2.1, 2, it.2.2, ab) ∧ LatT G r ab
def RW (G : Gr) (c : Cf) : Prop := TS G (c.1, c.2.1, c.2.2.1, c.2.2.2.2.1) ∧ LatT G c.2.2.2.1 c.2.2.2.2.1
theorem aGo_T {G : Gr} : ∀ (lat : List Lt) (ab : List Ab) (td : List Nat) (c : Cf), LatT G lat ab → aGo lat ab td = (6, c) → RW G c
  | [], ab, td, c, _, h => absurd (congrArg Prod.fst h) (by show ¬ (0 : Nat) = 6; decide)
  | it :: r, ab, td, c, hl, h => by
    have e0 : aGo (it :: r) ab td = if it.1 = 1 then aGo r ab.tail td else if it.1 = 2 then aGo r ab (41 :: td) else (6, (it.2.1, 2, it.2.2, (2, 0, (fun _ => 0)) :: r, ab, 32 :: td)) := rfl
    have e1 : LatT G (it :: r) ab = if it.1 = 1 then LatT G r ab.tail else if it.1 = 2 then LatT G r ab else TS G (it.2.1, 2, it.2.2, ab) ∧ LatT G r ab := rfl
    rw [e0] at h
    rw [e1] at hl
    by_cases c1 : it.1 = 1
    · rw [if_pos c1] at h hl
      exact aGo_T r ab.tail td c hl h
    · rw [if_neg c1] at h hl
      by_cases c2 : it.1 = 2
      · rw [if_pos c2] at h hl
        exact aGo_T r ab (41 :: td) c hl h
      · rw [if_neg c2] at h hl
        have h := congrArg Prod.snd h
        have h : (it.2.1, 2, it.2.2, (2, 0, (fun _ => 0)) :: r, ab, 32 :: td) = c := h
        rw [← h]
        refine ⟨hl.1, ?_⟩
        show (if (2 : Nat) = 1 then LatT G r ab.tail else if (2 : Nat) = 2 then LatT G r ab else _)
        rw [if_neg (by decide), if_pos rfl]
        exact hl.2
theorem RW_start (G : Gr) : RW G aStart := ⟨(TS_cl G).1 _, trivial⟩
theorem pair6 {a b : Nat} {c d : Cf} (h : (a, c) = (b, d)) : a = b ∧ c = d := ⟨congrArg Prod.fst h, congrArg Prod.snd h⟩
theorem RW_step {G : Gr} (hW : WG G) {c c' : Cf} (h : RW G c) (h6 : gStep G c = (6, c')) : RW G c' := by
  obtain ⟨h1, h2⟩ := h
  obtain ⟨w, ew⟩ : ∃ w, w = G.2.2.1 c.1 c.2.1 := ⟨_, rfl⟩
  obtain ⟨q, eq⟩ : ∃ q, q = G.2.2.2 c.1 c.2.1 := ⟨_, rfl⟩
  have ha : Arr G w q c.2.2.1 c.2.2.2.2.1 := ⟨c.1, c.2.1, h1, ew.symm, eq.symm⟩
  have hg := hW.at ha
  unfold gStep aStep at h6
  by_cases c1 : G.2.2.2 c.1 c.2.1 = 0 ∧ c.2.1 = 0 ∧ ¬ G.1 c.1 = 6
  · rw [if_pos c1] at h6
    exact absurd (pair6 h6).1 (by decide)
  · rw [if_neg c1, ← ew, ← eq] at h6
    by_cases k0 : G.1 w = 0
    · rw [if_pos k0] at h6
      unfold aLam at h6
      by_cases q2 : q = 2
      · rw [if_pos q2] at h6
        cases e : fnd w (G.2.1 w) c.2.2.1 c.2.2.2.2.1 0 with
        | none => rw [e] at h6; exact absurd (pair6 h6).1 (by decide)
        | some k => rw [e] at h6; exact aGo_T _ _ _ _ h2 h6
      · rw [if_neg q2] at h6
        by_cases q1 : q = 1
        · rw [if_pos q1] at h6; exact absurd (pair6 h6).1 (by decide)
        · rw [if_neg q1] at h6
          by_cases t : 4000 ≤ c.2.2.2.2.2.length
          · rw [if_pos t] at h6; exact absurd (pair6 h6).1 (by decide)
          · rw [if_neg t] at h6
            have q0 : q = 0 := by
              rcases hg with g | g | g | g | g
              · exact g.2
              · exact absurd g.2.1 q2
              · omega
              · rcases g.1 with e | e | e <;> omega
              · exact g.2.1
            subst q0
            rw [← (pair6 h6).2]
            refine ⟨ha.lam k0 agr.rf, ?_⟩
            show (if (1 : Nat) = 1 then LatT G c.2.2.2.1 c.2.2.2.2.1 else _)
            rw [if_pos rfl]
            exact h2
    · rw [if_neg k0] at h6
      by_cases k1 : G.1 w = 1
      · rw [if_pos k1] at h6
        unfold aApp at h6
        by_cases q1 : q = 1
        · rw [if_pos q1] at h6
          by_cases t : 4000 ≤ c.2.2.2.2.2.length
          · rw [if_pos t] at h6; exact absurd (pair6 h6).1 (by decide)
          · rw [if_neg t] at h6
            subst q1
            obtain ⟨u1, u2⟩ := ha.app k1 (cy := c.2.2.1) agr.rf
            rw [← (pair6 h6).2]
            refine ⟨u1, ?_⟩
            show (if (0 : Nat) = 1 then _ else if (0 : Nat) = 2 then _ else TS G (w, 2, c.2.2.1, c.2.2.2.2.1) ∧ LatT G c.2.2.2.1 c.2.2.2.2.1)
            rw [if_neg (by decide), if_neg (by decide)]
            exact ⟨u2, h2⟩
        · rw [if_neg q1] at h6; exact absurd (pair6 h6).1 (by decide)
      · rw [if_neg k1] at h6
        have hc : isC (G.1 w) := by
          rcases hg.isC with e | e | e
          · exact absurd e k0
          · exact absurd e k1
          · exact e
        have hg2 : auxC (G.1 w) q ∨ (q = 0 ∧ ∃ a cy, pop (G.1 w) (G.2.1 w) c.2.2.1 = some (a, cy)) := by
          rcases hg with g | g | g | g | g
          · exact absurd g.1 k0
          · exact absurd g.1 k0
          · exact absurd g.1 k1
          · exact Or.inl g.2
          · exact Or.inr g.2
        by_cases k2 : G.1 w = 2
        · rw [if_pos k2] at h6
          unfold aFan at h6
          by_cases q1 : 0 < q
          · rw [if_pos q1] at h6
            have hx : auxC (G.1 w) q := by
              rcases hg2 with g | g
              · exact g
              · omega
            rw [← (pair6 h6).2]
            refine ⟨?_, h2⟩
            have t := ha.push hc hx
            have hq : (if q = 1 then 1 else 2) = q := by
              rcases hx with e | e
              · rw [if_pos e, e]
              · rw [if_neg (by omega), e.2]
            show TS G (w, 0, cSet c.2.2.1 (G.2.1 w) (code_ (if q = 1 then 1 else 2) (c.2.2.1 (G.2.1 w)) 0), c.2.2.2.2.1)
            rw [hq]
            unfold push at t
            rw [if_pos k2] at t
            exact t
          · rw [if_neg q1] at h6
            have q0 : q = 0 := by omega
            subst q0
            obtain ⟨a, cy, hp⟩ : ∃ a cy, pop (G.1 w) (G.2.1 w) c.2.2.1 = some (a, cy) := by
              rcases hg2 with g | g
              · exact absurd g aux0
              · exact g.2
            have t := ha.pop hc hp
            unfold pop at hp
            rw [if_pos k2] at hp
            by_cases z : ((dc (c.2.2.1 (G.2.1 w))).1 = 1 ∨ (dc (c.2.2.1 (G.2.1 w))).1 = 2) ∧ (dc (c.2.2.1 (G.2.1 w))).2.2 = 0
            · rw [if_pos z] at hp
              rw [if_pos z.1] at h6
              injection hp with hp
              injection hp with p1 p2
              rw [← (pair6 h6).2]
              refine ⟨?_, h2⟩
              show TS G (w, (dc (c.2.2.1 (G.2.1 w))).1, cSet c.2.2.1 (G.2.1 w) (dc (c.2.2.1 (G.2.1 w))).2.1, c.2.2.2.2.1)
              rw [p1, p2]
              exact t
            · rw [if_neg z] at hp; cases hp
        · rw [if_neg k2] at h6
          have hq1 : q = 1 ∨ q = 0 := by
            rcases hg2 with g | g
            · rcases g with e | e
              · exact Or.inl e
              · exact absurd e.1 k2
            · exact Or.inr g.1
          by_cases k3 : G.1 w = 3
          · rw [if_pos k3] at h6
            unfold aCro at h6
            by_cases q1 : q = 1
            · rw [if_pos q1] at h6
              subst q1
              have t := ha.push hc (Or.inl rfl)
              rw [← (pair6 h6).2]
              refine ⟨?_, h2⟩
              unfold push at t
              rw [if_neg k2, if_pos k3] at t
              exact t
            · rw [if_neg q1] at h6
              have q0 : q = 0 := by omega
              subst q0
              obtain ⟨a, cy, hp⟩ : ∃ a cy, pop (G.1 w) (G.2.1 w) c.2.2.1 = some (a, cy) := by
                rcases hg2 with g | g
                · exact absurd g aux0
                · exact g.2
              have t := ha.pop hc hp
              unfold pop at hp
              rw [if_neg k2, if_pos k3] at hp
              by_cases z : c.2.2.1 (G.2.1 w) = 0
              · rw [if_pos z] at hp
                injection hp with hp
                injection hp with p1 p2
                rw [← (pair6 h6).2]
                refine ⟨?_, h2⟩
                show TS G (w, 1, cDel c.2.2.1 (G.2.1 w), c.2.2.2.2.1)
                rw [p2, p1]
                exact t
              · rw [if_neg z] at hp; cases hp
          · rw [if_neg k3] at h6
            have k4 : G.1 w = 4 := by rcases hc with e | e | e <;> omega
            rw [if_pos k4] at h6
            unfold aBra at h6
            by_cases q1 : q = 1
            · rw [if_pos q1] at h6
              subst q1
              have t := ha.push hc (Or.inl rfl)
              rw [← (pair6 h6).2]
              refine ⟨?_, h2⟩
              unfold push at t
              rw [if_neg k2, if_neg k3] at t
              exact t
            · rw [if_neg q1] at h6
              have q0 : q = 0 := by omega
              subst q0
              obtain ⟨a, cy, hp⟩ : ∃ a cy, pop (G.1 w) (G.2.1 w) c.2.2.1 = some (a, cy) := by
                rcases hg2 with g | g
                · exact absurd g aux0
                · exact g.2
              have t := ha.pop hc hp
              unfold pop at hp
              rw [if_neg k2, if_neg k3] at hp
              by_cases z : (dc (c.2.2.1 (G.2.1 w))).1 = 3
              · rw [if_pos z] at hp
                rw [if_pos z] at h6
                injection hp with hp
                injection hp with p1 p2
                rw [← (pair6 h6).2]
                refine ⟨?_, h2⟩
                show TS G (w, 1, cIns (cSet c.2.2.1 (G.2.1 w) (dc (c.2.2.1 (G.2.1 w))).2.2) (G.2.1 w) (dc (c.2.2.1 (G.2.1 w))).2.1, c.2.2.2.2.1)
                rw [p2, p1]
                exact t
              · rw [if_neg z] at hp; cases hp
theorem RW_to {G : Gr} (hW : WG G) : ∀ (m : Nat) (c : Cf), wkTo G m aStart c → RW G c
  | 0, c, h => by
    have h : aStart = c := h
    rw [← h]; exact RW_start G
  | m + 1, c, ⟨c1, h1, h2, _⟩ => RW_step hW (RW_to hW m c1 h1) h2
/-- apart from l and r -/
def NT (l r : Nat) (c : Cf) : Prop := (c.1 ≠ l ∧ c.1 ≠ r) ∧ (∀ e ∈ c.2.2.2.2.1, e.1 ≠ l ∧ e.1 ≠ r) ∧ (∀ it ∈ c.2.2.2.1, it.1 ≠ 1 → it.1 ≠ 2 → it.2.1 ≠ l ∧ it.2.1 ≠ r)
theorem fnd_mem {v n : Nat} {cx : Nat → Nat} : ∀ (ab : List Ab) (i k : Nat), fnd v n cx ab i = some k → ∃ e ∈ ab, e.1 = v
  | [], i, k, h => by cases h
  | e :: ab, i, k, h => by
    have e0 : fnd v n cx (e :: ab) i = if e.1 = v ∧ sameC n e.2 cx = true then some i else fnd v n cx ab (i + 1) := rfl
    rw [e0] at h
    by_cases c1 : e.1 = v ∧ sameC n e.2 cx = true
    · exact ⟨e, List.mem_cons_self .., c1.1⟩
    · rw [if_neg c1] at h
      obtain ⟨e1, h1, h2⟩ := fnd_mem ab (i + 1) k h
      exact ⟨e1, List.mem_cons_of_mem _ h1, h2⟩
theorem aGo_NT {l r : Nat} : ∀ (lat : List Lt) (ab : List Ab) (td : List Nat) (c : Cf), (∀ e ∈ ab, e.1 ≠ l ∧ e.1 ≠ r) → (∀ it ∈ lat, it.1 ≠ 1 → it.1 ≠ 2 → it.2.1 ≠ l ∧ it.2.1 ≠ r) → aGo lat ab td = (6, c) → NT l r c
  | [], ab, td, c, _, _, h => absurd (congrArg Prod.fst h) (by show ¬ (0 : Nat) = 6; decide)
  | it :: lt, ab, td, c, ha, hl, h => by
    have e0 : aGo (it :: lt) ab td = if it.1 = 1 then aGo lt ab.tail td else if it.1 = 2 then aGo lt ab (41 :: td) else (6, (it.2.1, 2, it.2.2, (2, 0, (fun _ => 0)) :: lt, ab, 32 :: td)) := rfl
    have hr : ∀ it ∈ lt, it.1 ≠ 1 → it.1 ≠ 2 → it.2.1 ≠ l ∧ it.2.1 ≠ r := fun x hx => hl x (List.mem_cons_of_mem _ hx)
    rw [e0] at h
    by_cases c1 : it.1 = 1
    · rw [if_pos c1] at h
      exact aGo_NT lt ab.tail td c (fun e he => ha e (List.mem_of_mem_tail he)) hr h
    · rw [if_neg c1] at h
      by_cases c2 : it.1 = 2
      · rw [if_pos c2] at h
        exact aGo_NT lt ab (41 :: td) c ha hr h
      · rw [if_neg c2] at h
        rw [← (pair6 h).2]
        refine ⟨hl it (List.mem_cons_self ..) c1 c2, ha, fun x hx => ?_⟩
        rcases List.mem_cons.mp hx with e | e
        · rw [e]; exact fun _ q => absurd rfl q
        · exact hr x e
theorem NT_step {n l r : Nat} {G : Gr} (hG : GVr n G) (hw : G.2.2.1 l 0 = r ∧ G.2.2.2 l 0 = 0 ∧ G.2.2.1 r 0 = l ∧ G.2.2.2 r 0 = 0) {c c' : Cf} (hv : c.1 < n) (hk : c.2.1 < nP (G.1 c.1)) (h : NT l r c) (h6 : gStep G c = (6, c')) : (NT l r c' ∧ G.2.2.1 c.1 c.2.1 ≠ l ∧ G.2.2.1 c.1 c.2.1 ≠ r) ∨ (c'.2.1 = 0 ∧ (c'.1 = l ∨ c'.1 = r)) := by
  obtain ⟨⟨n1, n2⟩, n3, n4⟩ := h
  obtain ⟨g1, g2, g3, g4, -⟩ := hG.1 c.1 c.2.1 hv hk
  obtain ⟨w, ew⟩ : ∃ w, w = G.2.2.1 c.1 c.2.1 := ⟨_, rfl⟩
  obtain ⟨q, eq⟩ : ∃ q, q = G.2.2.2 c.1 c.2.1 := ⟨_, rfl⟩
  rw [← ew, ← eq] at g2 g3 g4
  rw [← ew]
  have q0 : w = l ∨ w = r → q ≠ 0 := by
    intro e e0
    rw [e0] at g3
    rcases e with e | e
    · rw [e, hw.1] at g3; exact n2 g3.symm
    · rw [e, hw.2.2.1] at g3; exact n1 g3.symm
  have out : ∀ {d cx}, c' = (w, d, cx, c.2.2.2) → (w = l ∨ w = r → d = 0) → (NT l r c' ∧ w ≠ l ∧ w ≠ r) ∨ (c'.2.1 = 0 ∧ (c'.1 = l ∨ c'.1 = r)) := by
    intro d cx e hd
    by_cases z : w = l ∨ w = r
    · right
      rw [e]
      exact ⟨hd z, z⟩
    · left
      rw [e]
      exact ⟨⟨⟨fun q => z (Or.inl q), fun q => z (Or.inr q)⟩, n3, n4⟩, fun q => z (Or.inl q), fun q => z (Or.inr q)⟩
  unfold gStep aStep at h6
  by_cases c1 : G.2.2.2 c.1 c.2.1 = 0 ∧ c.2.1 = 0 ∧ ¬ G.1 c.1 = 6
  · rw [if_pos c1] at h6
    exact absurd (pair6 h6).1 (by decide)
  · rw [if_neg c1, ← ew, ← eq] at h6
    by_cases k0 : G.1 w = 0
    · rw [if_pos k0] at h6
      unfold aLam at h6
      by_cases q2 : q = 2
      · rw [if_pos q2] at h6
        cases e : fnd w (G.2.1 w) c.2.2.1 c.2.2.2.2.1 0 with
        | none => rw [e] at h6; exact absurd (pair6 h6).1 (by decide)
        | some k =>
          rw [e] at h6
          obtain ⟨e1, m1, m2⟩ := fnd_mem _ _ _ e
          rw [← m2]
          exact Or.inl ⟨aGo_NT _ _ _ _ n3 n4 h6, n3 e1 m1⟩
      · rw [if_neg q2] at h6
        by_cases q1 : q = 1
        · rw [if_pos q1] at h6; exact absurd (pair6 h6).1 (by decide)
        · rw [if_neg q1] at h6
          by_cases t : 4000 ≤ c.2.2.2.2.2.length
          · rw [if_pos t] at h6; exact absurd (pair6 h6).1 (by decide)
          · rw [if_neg t] at h6
            rw [k0] at g2
            have hq : q = 0 := by
              have : q < 3 := g2
              omega
            have z : ¬ (w = l ∨ w = r) := fun z => q0 z hq
            have zz : w ≠ l ∧ w ≠ r := ⟨fun q => z (Or.inl q), fun q => z (Or.inr q)⟩
            left
            rw [← (pair6 h6).2]
            refine ⟨⟨zz, fun e he => ?_, fun it hi => ?_⟩, zz⟩
            · rcases List.mem_cons.mp he with e | e
              · rw [e]; exact zz
              · exact n3 _ e
            · rcases List.mem_cons.mp hi with e | e
              · rw [e]; exact fun q => absurd rfl q
              · exact n4 _ e
    · rw [if_neg k0] at h6
      by_cases k1 : G.1 w = 1
      · rw [if_pos k1] at h6
        unfold aApp at h6
        by_cases q1 : q = 1
        · rw [if_pos q1] at h6
          by_cases t : 4000 ≤ c.2.2.2.2.2.length
          · rw [if_pos t] at h6; exact absurd (pair6 h6).1 (by decide)
          · rw [if_neg t] at h6
            rw [← (pair6 h6).2]
            by_cases z : w = l ∨ w = r
            · exact Or.inr ⟨rfl, z⟩
            · have zz : w ≠ l ∧ w ≠ r := ⟨fun q => z (Or.inl q), fun q => z (Or.inr q)⟩
              refine Or.inl ⟨⟨zz, n3, fun it hi => ?_⟩, zz⟩
              rcases List.mem_cons.mp hi with e | e
              · rw [e]; exact fun _ _ => zz
              · exact n4 _ e
        · rw [if_neg q1] at h6; exact absurd (pair6 h6).1 (by decide)
      · rw [if_neg k1] at h6
        by_cases k2 : G.1 w = 2
        · rw [if_pos k2] at h6
          unfold aFan at h6
          by_cases q1 : 0 < q
          · rw [if_pos q1] at h6
            exact out (pair6 h6).2.symm (fun _ => rfl)
          · rw [if_neg q1] at h6
            by_cases t : (dc (c.2.2.1 (G.2.1 w))).1 = 1 ∨ (dc (c.2.2.1 (G.2.1 w))).1 = 2
            · rw [if_pos t] at h6
              exact out (pair6 h6).2.symm (fun z => absurd (show q = 0 by omega) (q0 z))
            · rw [if_neg t] at h6; exact absurd (pair6 h6).1 (by decide)
        · rw [if_neg k2] at h6
          by_cases k3 : G.1 w = 3
          · rw [if_pos k3] at h6
            rw [k3] at g2
            have g2 : q < 2 := g2
            unfold aCro at h6
            by_cases q1 : q = 1
            · rw [if_pos q1] at h6
              exact out (pair6 h6).2.symm (fun _ => rfl)
            · rw [if_neg q1] at h6
              exact out (pair6 h6).2.symm (fun z => absurd (show q = 0 by omega) (q0 z))
          · rw [if_neg k3] at h6
            by_cases k4 : G.1 w = 4
            · rw [if_pos k4] at h6
              rw [k4] at g2
              have g2 : q < 2 := g2
              unfold aBra at h6
              by_cases q1 : q = 1
              · rw [if_pos q1] at h6
                exact out (pair6 h6).2.symm (fun _ => rfl)
              · rw [if_neg q1] at h6
                by_cases t : (dc (c.2.2.1 (G.2.1 w))).1 = 3
                · rw [if_pos t] at h6
                  exact out (pair6 h6).2.symm (fun z => absurd (show q = 0 by omega) (q0 z))
                · rw [if_neg t] at h6; exact absurd (pair6 h6).1 (by decide)
            · rw [if_neg k4] at h6; exact absurd (pair6 h6).1 (by decide)
theorem gStep_congr {G G' : Gr} {c : Cf} (h1 : G'.1 c.1 = G.1 c.1) (h2 : G'.2.2.1 c.1 c.2.1 = G.2.2.1 c.1 c.2.1) (h3 : G'.2.2.2 c.1 c.2.1 = G.2.2.2 c.1 c.2.1) (h4 : G'.1 (G.2.2.1 c.1 c.2.1) = G.1 (G.2.2.1 c.1 c.2.1)) (h5 : G'.2.1 (G.2.2.1 c.1 c.2.1) = G.2.1 (G.2.2.1 c.1 c.2.1)) : gStep G' c = gStep G c := by
  unfold gStep aStep
  rw [h1, h2, h3, h4, h5]
/-- a walk is apart from two that are to meet, up to the meeting -/
theorem NT_to {n l r : Nat} {G : Gr} (hG : GVr n G) (hW : WG G) (hw : G.2.2.1 l 0 = r ∧ G.2.2.2 l 0 = 0 ∧ G.2.2.1 r 0 = l ∧ G.2.2.2 r 0 = 0) (hl : G.1 l ≠ 6) (hr : G.1 r ≠ 6) : ∀ (m : Nat) (c c' : Cf), wkTo G m aStart c → gStep G c = (6, c') → NT l r c := by
  have main : ∀ (m : Nat) (c : Cf), wkTo G m aStart c → NT l r c ∨ (c.2.1 = 0 ∧ (c.1 = l ∨ c.1 = r)) := by
    intro m
    have meet : ∀ c c' : Cf, (c.2.1 = 0 ∧ (c.1 = l ∨ c.1 = r)) → gStep G c = (6, c') → False := by
      rintro c c' ⟨e0, e1⟩ h6
      unfold gStep aStep at h6
      rw [if_pos ?_] at h6
      · exact absurd (pair6 h6).1 (by decide)
      · rw [e0]
        rcases e1 with e | e
        · rw [e]; exact ⟨hw.2.1, rfl, hl⟩
        · rw [e]; exact ⟨hw.2.2.2, rfl, hr⟩
    induction m with
    | zero =>
      intro c h
      have h : aStart = c := h
      rw [← h]
      have z1 : (0 : Nat) ≠ l := fun e => hl (by rw [← e]; exact hG.2.1)
      have z2 : (0 : Nat) ≠ r := fun e => hr (by rw [← e]; exact hG.2.1)
      exact Or.inl ⟨⟨z1, z2⟩, fun e he => absurd he (by show ¬ e ∈ []; simp), fun e he => absurd he (by show ¬ e ∈ []; simp)⟩
    | succ m ih =>
      rintro c ⟨c1, h1, h2, h3⟩
      rcases ih c1 h1 with h | h
      · have hv := TS_valid hG (RW_to hW m c1 h1).1
        rcases NT_step hG hw hv.1 hv.2 h h2 with g | g
        · exact Or.inl g.1
        · exact Or.inr g
      · exact (meet c1 c h h2).elim
  intro m c c' h h6
  rcases main m c h with g | g
  · exact g
  · unfold gStep aStep at h6
    rw [if_pos ?_] at h6
    · exact absurd (pair6 h6).1 (by decide)
    · rw [g.1]
      rcases g.2 with e | e
      · rw [e]; exact ⟨hw.2.1, rfl, hl⟩
      · rw [e]; exact ⟨hw.2.2.2, rfl, hr⟩
/-- the graph as it was, but for l and r -/
def Agr2 (n l r : Nat) (G G' : Gr) : Prop := ∀ v, v < n → v ≠ l → v ≠ r → 0 < nP (G.1 v) → G'.1 v = G.1 v ∧ G'.2.1 v = G.2.1 v ∧ ∀ k, k < nP (G.1 v) → G.2.2.1 v k ≠ l → G.2.2.1 v k ≠ r → G'.2.2.1 v k = G.2.2.1 v k ∧ G'.2.2.2 v k = G.2.2.2 v k
theorem bnc_out {G : Gr} {l r f : Nat} {p : Nat × Nat} (h1 : p.1 ≠ l) (h2 : p.1 ≠ r) : bnc G l r f p = p := by
  cases f with
  | zero => rfl
  | succ f =>
    have e : bnc G l r (f + 1) p = if p.1 = l then bnc G l r f (G.2.2.1 r p.2, G.2.2.2 r p.2) else if p.1 = r then bnc G l r f (G.2.2.1 l p.2, G.2.2.2 l p.2) else p := rfl
    rw [e, if_neg h1, if_neg h2]
theorem JS.agr {n l r : Nat} {G G' : Gr} (h : JS n G l r G') : Agr2 n l r G G' := by
  intro v hv h1 h2 _
  obtain ⟨j1, j2, j3⟩ := h v hv h1 h2
  refine ⟨j1, j2, fun k hk e1 e2 => ?_⟩
  have j4 := (j3 k hk).1
  rw [bnc_out e1 e2] at j4
  exact ⟨congrArg Prod.fst j4, congrArg Prod.snd j4⟩
theorem PS.agr {n c u : Nat} {o lk : Nat → Nat} {G G' : Gr} (h : PS n G c u o lk G') : Agr2 n c u G G' := by
  intro v hv h1 h2 h0
  obtain ⟨j1, j2, j3⟩ := h.1 v hv h1 h2 h0
  refine ⟨j1, j2, fun k hk e1 e2 => ?_⟩
  have j4 := j3 k hk
  unfold stn at j4
  rw [if_neg e1, if_neg e2] at j4
  exact ⟨congrArg Prod.fst j4, congrArg Prod.snd j4⟩
theorem wk_agr {n l r : Nat} {G G' : Gr} (hG : GVr n G) (hW : WG G) (hw : G.2.2.1 l 0 = r ∧ G.2.2.2 l 0 = 0 ∧ G.2.2.1 r 0 = l ∧ G.2.2.2 r 0 = 0) (hl : G.1 l ≠ 6) (hr : G.1 r ≠ 6) (hA : Agr2 n l r G G') : ∀ (m : Nat) (c : Cf), wkTo G m aStart c → NT l r c → wkTo G' m aStart c
  | 0, c, h, _ => h
  | m + 1, c, ⟨c1, h1, h2, h3⟩, hc => by
    have n1 := NT_to hG hW hw hl hr m c1 c h1 h2
    refine ⟨c1, wk_agr hG hW hw hl hr hA m c1 h1 n1, ?_, h3⟩
    have hv := TS_valid hG (RW_to hW m c1 h1).1
    obtain ⟨g1, g2, -, -, -⟩ := hG.1 c1.1 c1.2.1 hv.1 hv.2
    rcases NT_step hG hw hv.1 hv.2 n1 h2 with ⟨-, g3, g4⟩ | g
    · obtain ⟨a1, a2, a3⟩ := hA c1.1 hv.1 n1.1.1 n1.1.2 (Nat.lt_of_le_of_lt (Nat.zero_le _) hv.2)
      obtain ⟨a4, a5⟩ := a3 _ hv.2 g3 g4
      obtain ⟨b1, b2, -⟩ := hA _ g1 g3 g4 (Nat.lt_of_le_of_lt (Nat.zero_le _) g2)
      rw [gStep_congr a1 a4 a5 b1 b2]
      exact h2
    · rcases g.2 with e | e
      · exact absurd e hc.1.1
      · exact absurd e hc.1.2
theorem wk_erase {n : Nat} {G G' : Gr} (hG : GVr n G) (hW : WG G) (hE : ESp n G G') : ∀ (m : Nat) (c : Cf), wkTo G m aStart c → wkTo G' m aStart c
  | 0, c, h => h
  | m + 1, c, ⟨c1, h1, h2, h3⟩ => by
    refine ⟨c1, wk_erase hG hW hE m c1 h1, ?_, h3⟩
    obtain ⟨e1, e2, e3, e4, e5⟩ := hE.at hG hW (RW_to hW m c1 h1).1
    rw [gStep_congr e1 e2 e3 e4 e5]
    exact h2
