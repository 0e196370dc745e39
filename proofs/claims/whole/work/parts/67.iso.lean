/-! the same graph under other names -/
def lv (n : Nat) (G : Gr) (v : Nat) : Prop := v < n ∧ (G.1 v < 5 ∨ G.1 v = 6)
def IsoH (n n' : Nat) (φ ψ : Nat → Nat) (G G' : Gr) : Prop := ∀ v, lv n G v → lv n' G' (φ v) ∧ ψ (φ v) = v ∧ G'.1 (φ v) = G.1 v ∧ (G.1 v < 5 → G'.2.1 (φ v) = G.2.1 v) ∧ ∀ k, k < nP (G.1 v) → (G.1 (G.2.2.1 v k) = 5 → G'.1 (G'.2.2.1 (φ v) k) = 5) ∧ (G.1 (G.2.2.1 v k) ≠ 5 → G'.2.2.1 (φ v) k = φ (G.2.2.1 v k) ∧ G'.2.2.2 (φ v) k = G.2.2.2 v k)
def Iso (n n' : Nat) (φ ψ : Nat → Nat) (G G' : Gr) : Prop := IsoH n n' φ ψ G G' ∧ IsoH n' n ψ φ G' G ∧ φ 0 = 0 ∧ ψ 0 = 0
theorem Iso.symm {n n' : Nat} {φ ψ : Nat → Nat} {G G' : Gr} (h : Iso n n' φ ψ G G') : Iso n' n ψ φ G' G := ⟨h.2.1, h.1, h.2.2.2, h.2.2.1⟩
theorem IsoH.inj {n n' : Nat} {φ ψ : Nat → Nat} {G G' : Gr} (h : IsoH n n' φ ψ G G') {v w : Nat} (hv : lv n G v) (hw : lv n G w) (e : φ v = φ w) : v = w := by
  rw [← (h v hv).2.1, e, (h w hw).2.1]
def mLat (φ : Nat → Nat) (lat : List Lt) : List Lt := lat.map (fun it => (it.1, φ it.2.1, it.2.2))
def mAb (φ : Nat → Nat) (ab : List Ab) : List Ab := ab.map (fun e => (φ e.1, e.2))
def mC (φ : Nat → Nat) (c : Cf) : Cf := (φ c.1, c.2.1, c.2.2.1, mLat φ c.2.2.2.1, mAb φ c.2.2.2.2.1, c.2.2.2.2.2)
theorem aGo_m {φ : Nat → Nat} (h0 : φ 0 = 0) : ∀ (lat : List Lt) (ab : List Ab) (td : List Nat), aGo (mLat φ lat) (mAb φ ab) td = ((aGo lat ab td).1, mC φ (aGo lat ab td).2)
  | [], ab, td => by
    show (0, (0, 0, (fun _ => 0), [], mAb φ ab, td)) = (0, (φ 0, 0, (fun _ => 0), [], mAb φ ab, td))
    rw [h0]
  | it :: r, ab, td => by
    have e0 : aGo (it :: r) ab td = if it.1 = 1 then aGo r ab.tail td else if it.1 = 2 then aGo r ab (41 :: td) else (6, (it.2.1, 2, it.2.2, (2, 0, (fun _ => 0)) :: r, ab, 32 :: td)) := rfl
    have e1 : aGo (mLat φ (it :: r)) (mAb φ ab) td = if it.1 = 1 then aGo (mLat φ r) (mAb φ ab).tail td else if it.1 = 2 then aGo (mLat φ r) (mAb φ ab) (41 :: td) else (6, (φ it.2.1, 2, it.2.2, (2, 0, (fun _ => 0)) :: mLat φ r, mAb φ ab, 32 :: td)) := rfl
    rw [e0, e1]
    by_cases c1 : it.1 = 1
    · rw [if_pos c1, if_pos c1]
      have : (mAb φ ab).tail = mAb φ ab.tail := by cases ab <;> rfl
      rw [this]
      exact aGo_m h0 r ab.tail td
    · rw [if_neg c1, if_neg c1]
      by_cases c2 : it.1 = 2
      · rw [if_pos c2, if_pos c2]
        exact aGo_m h0 r ab (41 :: td)
      · rw [if_neg c2, if_neg c2]
        show _ = (6, (φ it.2.1, 2, it.2.2, (2, φ 0, (fun _ => 0)) :: mLat φ r, mAb φ ab, 32 :: td))
        rw [h0]
theorem fnd_m {φ : Nat → Nat} {w x : Nat} {cx : Nat → Nat} : ∀ (ab : List Ab) (i : Nat), (∀ e ∈ ab, φ e.1 = φ w → e.1 = w) → fnd (φ w) x cx (mAb φ ab) i = fnd w x cx ab i
  | [], i, _ => rfl
  | e :: r, i, h => by
    have e0 : fnd w x cx (e :: r) i = if e.1 = w ∧ sameC x e.2 cx = true then some i else fnd w x cx r (i + 1) := rfl
    have e1 : fnd (φ w) x cx (mAb φ (e :: r)) i = if φ e.1 = φ w ∧ sameC x e.2 cx = true then some i else fnd (φ w) x cx (mAb φ r) (i + 1) := rfl
    rw [e0, e1, fnd_m r (i + 1) (fun e he => h e (List.mem_cons_of_mem _ he))]
    by_cases c1 : e.1 = w ∧ sameC x e.2 cx = true
    · rw [if_pos c1, if_pos ⟨by rw [c1.1], c1.2⟩]
    · rw [if_neg c1, if_neg (fun q => c1 ⟨h e (List.mem_cons_self ..) q.1, q.2⟩)]
/-- all the nodes of a state of the walk -/
def CQ (Q : Nat → Prop) (c : Cf) : Prop := Q c.1 ∧ (∀ e ∈ c.2.2.2.2.1, Q e.1) ∧ (∀ it ∈ c.2.2.2.1, it.1 ≠ 1 → it.1 ≠ 2 → Q it.2.1)
theorem aGo_Q {Q : Nat → Prop} : ∀ (lat : List Lt) (ab : List Ab) (td : List Nat) (c : Cf), (∀ e ∈ ab, Q e.1) → (∀ it ∈ lat, it.1 ≠ 1 → it.1 ≠ 2 → Q it.2.1) → aGo lat ab td = (6, c) → CQ Q c
  | [], ab, td, c, _, _, h => absurd (congrArg Prod.fst h) (by show ¬ (0 : Nat) = 6; decide)
  | it :: lt, ab, td, c, ha, hl, h => by
    have e0 : aGo (it :: lt) ab td = if it.1 = 1 then aGo lt ab.tail td else if it.1 = 2 then aGo lt ab (41 :: td) else (6, (it.2.1, 2, it.2.2, (2, 0, (fun _ => 0)) :: lt, ab, 32 :: td)) := rfl
    have hr : ∀ it ∈ lt, it.1 ≠ 1 → it.1 ≠ 2 → Q it.2.1 := fun x hx => hl x (List.mem_cons_of_mem _ hx)
    rw [e0] at h
    by_cases c1 : it.1 = 1
    · rw [if_pos c1] at h
      exact aGo_Q lt ab.tail td c (fun e he => ha e (List.mem_of_mem_tail he)) hr h
    · rw [if_neg c1] at h
      by_cases c2 : it.1 = 2
      · rw [if_pos c2] at h
        exact aGo_Q lt ab (41 :: td) c ha hr h
      · rw [if_neg c2] at h
        rw [← (pair6 h).2]
        refine ⟨hl it (List.mem_cons_self ..) c1 c2, ha, fun x hx => ?_⟩
        rcases List.mem_cons.mp hx with e | e
        · rw [e]; exact fun _ q => absurd rfl q
        · exact hr x e
theorem CQ_step {Q : Nat → Prop} {G : Gr} {c c' : Cf} (h : CQ Q c) (hw : G.1 (G.2.2.1 c.1 c.2.1) < 5 → Q (G.2.2.1 c.1 c.2.1)) (h6 : gStep G c = (6, c')) : CQ Q c' := by
  obtain ⟨n1, n3, n4⟩ := h
  obtain ⟨w, ew⟩ : ∃ w, w = G.2.2.1 c.1 c.2.1 := ⟨_, rfl⟩
  obtain ⟨q, eq⟩ : ∃ q, q = G.2.2.2 c.1 c.2.1 := ⟨_, rfl⟩
  rw [← ew] at hw
  have out : ∀ {d cx}, Q w → c' = (w, d, cx, c.2.2.2) → CQ Q c' := by
    intro d cx h1 e
    rw [e]
    exact ⟨h1, n3, n4⟩
  unfold gStep aStep at h6
  by_cases c1 : G.2.2.2 c.1 c.2.1 = 0 ∧ c.2.1 = 0 ∧ ¬ G.1 c.1 = 6
  · rw [if_pos c1] at h6
    exact absurd (pair6 h6).1 (by decide)
  · rw [if_neg c1, ← ew, ← eq] at h6
    by_cases k0 : G.1 w = 0
    · rw [if_pos k0] at h6
      have hw := hw (by omega)
      unfold aLam at h6
      by_cases q2 : q = 2
      · rw [if_pos q2] at h6
        cases e : fnd w (G.2.1 w) c.2.2.1 c.2.2.2.2.1 0 with
        | none => rw [e] at h6; exact absurd (pair6 h6).1 (by decide)
        | some k => rw [e] at h6; exact aGo_Q _ _ _ _ n3 n4 h6
      · rw [if_neg q2] at h6
        by_cases q1 : q = 1
        · rw [if_pos q1] at h6; exact absurd (pair6 h6).1 (by decide)
        · rw [if_neg q1] at h6
          by_cases t : 4000 ≤ c.2.2.2.2.2.length
          · rw [if_pos t] at h6; exact absurd (pair6 h6).1 (by decide)
          · rw [if_neg t] at h6
            rw [← (pair6 h6).2]
            refine ⟨hw, fun e he => ?_, fun it hi => ?_⟩
            · rcases List.mem_cons.mp he with e | e
              · rw [e]; exact hw
              · exact n3 _ e
            · rcases List.mem_cons.mp hi with e | e
              · rw [e]; exact fun q => absurd rfl q
              · exact n4 _ e
    · rw [if_neg k0] at h6
      by_cases k1 : G.1 w = 1
      · rw [if_pos k1] at h6
        have hw := hw (by omega)
        unfold aApp at h6
        by_cases q1 : q = 1
        · rw [if_pos q1] at h6
          by_cases t : 4000 ≤ c.2.2.2.2.2.length
          · rw [if_pos t] at h6; exact absurd (pair6 h6).1 (by decide)
          · rw [if_neg t] at h6
            rw [← (pair6 h6).2]
            refine ⟨hw, n3, fun it hi => ?_⟩
            rcases List.mem_cons.mp hi with e | e
            · rw [e]; exact fun _ _ => hw
            · exact n4 _ e
        · rw [if_neg q1] at h6; exact absurd (pair6 h6).1 (by decide)
      · rw [if_neg k1] at h6
        by_cases k2 : G.1 w = 2
        · rw [if_pos k2] at h6
          have hw := hw (by omega)
          unfold aFan at h6
          by_cases q1 : 0 < q
          · rw [if_pos q1] at h6
            exact out hw (pair6 h6).2.symm
          · rw [if_neg q1] at h6
            by_cases t : (dc (c.2.2.1 (G.2.1 w))).1 = 1 ∨ (dc (c.2.2.1 (G.2.1 w))).1 = 2
            · rw [if_pos t] at h6
              exact out hw (pair6 h6).2.symm
            · rw [if_neg t] at h6; exact absurd (pair6 h6).1 (by decide)
        · rw [if_neg k2] at h6
          by_cases k3 : G.1 w = 3
          · rw [if_pos k3] at h6
            have hw := hw (by omega)
            unfold aCro at h6
            by_cases q1 : q = 1
            · rw [if_pos q1] at h6
              exact out hw (pair6 h6).2.symm
            · rw [if_neg q1] at h6
              exact out hw (pair6 h6).2.symm
          · rw [if_neg k3] at h6
            by_cases k4 : G.1 w = 4
            · rw [if_pos k4] at h6
              have hw := hw (by omega)
              unfold aBra at h6
              by_cases q1 : q = 1
              · rw [if_pos q1] at h6
                exact out hw (pair6 h6).2.symm
              · rw [if_neg q1] at h6
                by_cases t : (dc (c.2.2.1 (G.2.1 w))).1 = 3
                · rw [if_pos t] at h6
                  exact out hw (pair6 h6).2.symm
                · rw [if_neg t] at h6; exact absurd (pair6 h6).1 (by decide)
            · rw [if_neg k4] at h6; exact absurd (pair6 h6).1 (by decide)
theorem nP_7 {k : Nat} (h : 0 < nP k) : k < 7 := by
  unfold nP at h
  by_cases a : k < 3
  · omega
  · rw [if_neg a] at h
    by_cases b : k < 5
    · omega
    · rw [if_neg b] at h
      by_cases d : k < 7
      · exact d
      · rw [if_neg d] at h; omega
theorem GVr.lv {n : Nat} {G : Gr} (hG : GVr n G) {v k : Nat} (hv : v < n) (hk : k < nP (G.1 v)) (h5 : G.1 (G.2.2.1 v k) ≠ 5) : lv n G (G.2.2.1 v k) := by
  obtain ⟨g1, g2, -, -, -⟩ := hG.1 v k hv hk
  have := nP_7 (Nat.lt_of_le_of_lt (Nat.zero_le _) g2)
  exact ⟨g1, by omega⟩
theorem gStep_iso {n n' : Nat} {φ ψ : Nat → Nat} {G G' : Gr} (hG : GVr n G) (hG' : GVr n' G') (hI : Iso n n' φ ψ G G') {c : Cf} (hc : CQ (lv n G) c) (hk : c.2.1 < nP (G.1 c.1)) : gStep G' (mC φ c) = ((gStep G c).1, mC φ (gStep G c).2) := by
  obtain ⟨i1, i2, i3, -, i5⟩ := hI.1 c.1 hc.1
  obtain ⟨w1, w2⟩ := i5 c.2.1 hk
  obtain ⟨g1, g2, -, -, -⟩ := hG.1 c.1 c.2.1 hc.1.1 hk
  obtain ⟨h1, h2, -, -, -⟩ := hG'.1 (φ c.1) c.2.1 i1.1 (by rw [i3]; exact hk)
  obtain ⟨w, ew⟩ : ∃ w, w = G.2.2.1 c.1 c.2.1 := ⟨_, rfl⟩
  obtain ⟨q, eq⟩ : ∃ q, q = G.2.2.2 c.1 c.2.1 := ⟨_, rfl⟩
  unfold gStep aStep
  show (if G'.2.2.2 (φ c.1) c.2.1 = 0 ∧ c.2.1 = 0 ∧ ¬ G'.1 (φ c.1) = 6 then (5, mC φ c) else if G'.1 (G'.2.2.1 (φ c.1) c.2.1) = 0 then aLam (G'.2.2.1 (φ c.1) c.2.1) (G'.2.2.2 (φ c.1) c.2.1) (G'.2.1 (G'.2.2.1 (φ c.1) c.2.1)) (mC φ c) else if G'.1 (G'.2.2.1 (φ c.1) c.2.1) = 1 then aApp (G'.2.2.1 (φ c.1) c.2.1) (G'.2.2.2 (φ c.1) c.2.1) (mC φ c) else if G'.1 (G'.2.2.1 (φ c.1) c.2.1) = 2 then aFan (G'.2.2.1 (φ c.1) c.2.1) (G'.2.2.2 (φ c.1) c.2.1) (G'.2.1 (G'.2.2.1 (φ c.1) c.2.1)) (mC φ c) else if G'.1 (G'.2.2.1 (φ c.1) c.2.1) = 3 then aCro (G'.2.2.1 (φ c.1) c.2.1) (G'.2.2.2 (φ c.1) c.2.1) (G'.2.1 (G'.2.2.1 (φ c.1) c.2.1)) (mC φ c) else if G'.1 (G'.2.2.1 (φ c.1) c.2.1) = 4 then aBra (G'.2.2.1 (φ c.1) c.2.1) (G'.2.2.2 (φ c.1) c.2.1) (G'.2.1 (G'.2.2.1 (φ c.1) c.2.1)) (mC φ c) else (4, mC φ c)) = _
  by_cases h5 : G.1 w = 5
  · have h5' := w1 (by rw [← ew]; exact h5)
    rw [← ew, h5] at g2
    rw [h5'] at h2
    have q0 : G.2.2.2 c.1 c.2.1 = 0 := by have : G.2.2.2 c.1 c.2.1 < 1 := g2; omega
    have q0' : G'.2.2.2 (φ c.1) c.2.1 = 0 := by have : G'.2.2.2 (φ c.1) c.2.1 < 1 := h2; omega
    rw [q0, q0', i3, h5', ← ew, h5]
    by_cases z : (0 : Nat) = 0 ∧ c.2.1 = 0 ∧ ¬ G.1 c.1 = 6
    · rw [if_pos z, if_pos z]
    · rw [if_neg z, if_neg z]
      rfl
  · obtain ⟨e1, e2⟩ := w2 (by rw [← ew]; exact h5)
    have hlw : lv n G w := by rw [ew]; exact hG.lv hc.1.1 hk (by rw [← ew]; exact h5)
    obtain ⟨-, -, j3, j4, -⟩ := hI.1 w hlw
    rw [e1, e2, ← ew, ← eq, i3, j3]
    by_cases c1 : q = 0 ∧ c.2.1 = 0 ∧ ¬ G.1 c.1 = 6
    · rw [if_pos c1, if_pos c1]
    · rw [if_neg c1, if_neg c1]
      by_cases k0 : G.1 w = 0
      · rw [if_pos k0, if_pos k0, j4 (by omega)]
        unfold aLam
        by_cases q2 : q = 2
        · rw [if_pos q2, if_pos q2]
          have ef : fnd (φ w) (G.2.1 w) c.2.2.1 (mAb φ c.2.2.2.2.1) 0 = fnd w (G.2.1 w) c.2.2.1 c.2.2.2.2.1 0 := fnd_m _ _ (fun e he hh => hI.1.inj (hc.2.1 e he) hlw hh)
          show (match fnd (φ w) (G.2.1 w) c.2.2.1 (mAb φ c.2.2.2.2.1) 0 with
            | none => (4, mC φ c)
            | some k => aGo (mLat φ c.2.2.2.1) (mAb φ c.2.2.2.2.1) (dig k ++ c.2.2.2.2.2)) = _
          rw [ef]
          cases e : fnd w (G.2.1 w) c.2.2.1 c.2.2.2.2.1 0 with
          | none => rfl
          | some k => exact aGo_m hI.2.2.1 _ _ _
        · rw [if_neg q2, if_neg q2]
          by_cases q1 : q = 1
          · rw [if_pos q1, if_pos q1]
          · rw [if_neg q1, if_neg q1]
            by_cases t : 4000 ≤ c.2.2.2.2.2.length
            · rw [if_pos (show 4000 ≤ (mC φ c).2.2.2.2.2.length from t), if_pos t]
              rfl
            · rw [if_neg (show ¬ 4000 ≤ (mC φ c).2.2.2.2.2.length from t), if_neg t]
              show (6, (φ w, 1, c.2.2.1, (1, 0, (fun _ => 0)) :: mLat φ c.2.2.2.1, (φ w, c.2.2.1) :: mAb φ c.2.2.2.2.1, 92 :: c.2.2.2.2.2)) = (6, (φ w, 1, c.2.2.1, (1, φ 0, (fun _ => 0)) :: mLat φ c.2.2.2.1, (φ w, c.2.2.1) :: mAb φ c.2.2.2.2.1, 92 :: c.2.2.2.2.2))
              rw [hI.2.2.1]
      · rw [if_neg k0, if_neg k0]
        by_cases k1 : G.1 w = 1
        · rw [if_pos k1, if_pos k1]
          unfold aApp
          by_cases q1 : q = 1
          · rw [if_pos q1, if_pos q1]
            by_cases t : 4000 ≤ c.2.2.2.2.2.length
            · rw [if_pos (show 4000 ≤ (mC φ c).2.2.2.2.2.length from t), if_pos t]
              rfl
            · rw [if_neg (show ¬ 4000 ≤ (mC φ c).2.2.2.2.2.length from t), if_neg t]
              rfl
          · rw [if_neg q1, if_neg q1]
        · rw [if_neg k1, if_neg k1]
          by_cases k2 : G.1 w = 2
          · rw [if_pos k2, if_pos k2, j4 (by omega)]
            unfold aFan
            by_cases q1 : 0 < q
            · rw [if_pos q1, if_pos q1]
              rfl
            · rw [if_neg q1, if_neg q1]
              by_cases t : (dc (c.2.2.1 (G.2.1 w))).1 = 1 ∨ (dc (c.2.2.1 (G.2.1 w))).1 = 2
              · rw [if_pos t]
                exact if_pos t
              · rw [if_neg t]
                exact if_neg t
          · rw [if_neg k2, if_neg k2]
            by_cases k3 : G.1 w = 3
            · rw [if_pos k3, if_pos k3, j4 (by omega)]
              unfold aCro
              by_cases q1 : q = 1
              · rw [if_pos q1, if_pos q1]
                rfl
              · rw [if_neg q1, if_neg q1]
                rfl
            · rw [if_neg k3, if_neg k3]
              by_cases k4 : G.1 w = 4
              · rw [if_pos k4, if_pos k4, j4 (by omega)]
                unfold aBra
                by_cases q1 : q = 1
                · rw [if_pos q1, if_pos q1]
                  rfl
                · rw [if_neg q1, if_neg q1]
                  by_cases t : (dc (c.2.2.1 (G.2.1 w))).1 = 3
                  · rw [if_pos t]
                    exact if_pos t
                  · rw [if_neg t]
                    exact if_neg t
              · rw [if_neg k4, if_neg k4]
theorem gWalk_iso {n n' : Nat} {φ ψ : Nat → Nat} {G G' : Gr} (hG : GVr n G) (hG' : GVr n' G') (hI : Iso n n' φ ψ G G') : ∀ (m : Nat) (c : Cf), CQ (lv n G) c → CfOk n G.1 c → gWalk G' m (mC φ c) = ((gWalk G m c).1, mC φ (gWalk G m c).2)
  | 0, c, _, _ => rfl
  | m + 1, c, hc, ho => by
    rw [gWalk_s, gWalk_s, gStep_iso hG hG' hI hc ho.2.1]
    show (if (if 4000 < (gStep G c).2.2.2.2.2.2.length then 3 else (gStep G c).1) = 6 then gWalk G' m (mC φ (gStep G c).2) else ((if 4000 < (gStep G c).2.2.2.2.2.2.length then 3 else (gStep G c).1), mC φ (gStep G c).2)) = _
    by_cases t : (if 4000 < (gStep G c).2.2.2.2.2.2.length then 3 else (gStep G c).1) = 6
    · rw [if_pos t, if_pos t]
      have h6 : (gStep G c).1 = 6 := by
        by_cases t2 : 4000 < (gStep G c).2.2.2.2.2.2.length
        · rw [if_pos t2] at t; exact absurd t (by decide)
        · rw [if_neg t2] at t; exact t
      exact gWalk_iso hG hG' hI m _ (CQ_step (G := G) hc (fun h => ⟨(hG.1 c.1 c.2.1 hc.1.1 ho.2.1).1, Or.inl h⟩) (Prod.ext h6 rfl)) (aStep_ok hG.1 ho h6)
    · rw [if_neg t, if_neg t]
theorem gWalk_start {n n' : Nat} {φ ψ : Nat → Nat} {G G' : Gr} (hG : GVr n G) (hG' : GVr n' G') (hI : Iso n n' φ ψ G G') (m : Nat) : gWalk G' m aStart = ((gWalk G m aStart).1, mC φ (gWalk G m aStart).2) := by
  have e : mC φ aStart = aStart := by
    show (φ 0, 0, (fun _ => 0), [], [], []) = (0, 0, (fun _ => 0), [], [], [])
    rw [hI.2.2.1]
  have hk : G.1 0 = 6 := hG.2.1
  have h := gWalk_iso hG hG' hI m aStart ⟨⟨hG.2.2, Or.inr hk⟩, (fun _ h => (List.not_mem_nil h).elim), (fun _ h => (List.not_mem_nil h).elim)⟩ ⟨hG.2.2, by show 0 < nP (G.1 0); rw [hk]; decide, (fun _ h => (List.not_mem_nil h).elim)⟩
  rw [e] at h
  exact h
