/-! the class: into a control -/
theorem tvSet {S S' : St} {n x t : Nat} {L : Nat → Nat} (h : ∀ k, k < n → tv S' k = tv S k) (hL : ∀ i, L i < n) : (fun i => tv S' (cSet L x t i)) = cSet (fun i => tv S (L i)) x (tv S' t) := by
  funext i
  rw [cSet_at, cSet_at]
  by_cases c : i = x
  · rw [if_pos c, if_pos c]
  · rw [if_neg c, if_neg c, h _ (hL i)]
theorem tvIns {S S' : St} {n x t : Nat} {L : Nat → Nat} (h : ∀ k, k < n → tv S' k = tv S k) (hL : ∀ i, L i < n) : (fun i => tv S' (cIns L x t i)) = cIns (fun i => tv S (L i)) x (tv S' t) := by
  funext i
  rw [cIns_at, cIns_at]
  by_cases c : i < x
  · rw [if_pos c, if_pos c, h _ (hL i)]
  · rw [if_neg c, if_neg c]
    by_cases d : i = x
    · rw [if_pos d, if_pos d]
    · rw [if_neg d, if_neg d, h _ (hL _)]
theorem tvDel {S S' : St} {n x : Nat} {L : Nat → Nat} (h : ∀ k, k < n → tv S' k = tv S k) (hL : ∀ i, L i < n) : (fun i => tv S' (cDel L x i)) = cDel (fun i => tv S (L i)) x := by
  funext i
  rw [cDel_at, cDel_at]
  by_cases c : i < x
  · rw [if_pos c, if_pos c, h _ (hL i)]
  · rw [if_neg c, if_neg c, h _ (hL _)]
theorem dc_tv {S : St} {n k : Nat} (h : TrC S n) (h0 : 0 < k) (hk : k < n) : dc (tv S k) = (tF S k, tv S (tA S k), tv S (tB S k)) := by
  obtain ⟨-, -, -, g5, g6, -, -, -⟩ := h.2.2.2.1 k h0 hk
  rw [tv_s h h0 hk, dc_code g5 g6]
theorem X6_leaveBy {S : St} {N v k : Nat} : fX6_leaveBy N S (nI v) (nI k) = some (6, sI S 124 (nI (4 * v + k))) := by
  unfold fX6_leaveBy
  rw [bdo_ok (pO v k), bnd_eq]
theorem CX.fr {S S' : St} {D n vs : Nat} {L : Nat → Nat} {tr : List Te} {is as : List Nat} (h : CX S D L n tr vs) (hf : FrW S S' is as) (h1 : 22 ∉ is ∧ 27 ∉ is ∧ 105 ∉ is) (h2 : 21 ∉ as ∧ 23 ∉ as ∧ 24 ∉ as ∧ 25 ∉ as ∧ 26 ∉ as ∧ 100 ∉ as ∧ 101 ∉ as ∧ 102 ∉ as ∧ 103 ∉ as ∧ 104 ∉ as) : CX S' D L n tr vs := by
  obtain ⟨a1, a2, a3, a4, a5, a6, a7, a8⟩ := h
  obtain ⟨b1, b2, b3, b4, b5, b6, b7, b8, b9, b10⟩ := h2
  refine ⟨a1.of (hf.1 105 h1.2.2) (hf.2.1 100 b6) (hf.2.1 101 b7) (hf.2.1 102 b8) (hf.2.1 103 b9) (hf.2.1 104 b10), a2.of (hf.1 22 h1.1) (hf.2.1 21 b1), by rw [hf.1 27 h1.2.1]; exact a3, a4, TrR.of tr L n (fun j _ => ?_) (fun k _ => by unfold tB; rw [hf.2.1 102 b8]) a2.2.2.2.2.1 a5, a6, a7, a8⟩
  rw [hf.2.1 23 b2, hf.2.1 24 b3, hf.2.1 25 b4, hf.2.1 26 b5]
  exact ⟨rfl, rfl, rfl, rfl⟩
theorem tv_fr {S S' : St} {is as : List Nat} (hf : FrW S S' is as) (h2 : 100 ∉ as ∧ 101 ∉ as ∧ 102 ∉ as) : tv S' = tv S := by
  have e1 : tF S' = tF S := by funext k; unfold tF; rw [hf.2.1 100 h2.1]
  have e2 : tA S' = tA S := by funext k; unfold tA; rw [hf.2.1 101 h2.2.1]
  have e3 : tB S' = tB S := by funext k; unfold tB; rw [hf.2.1 102 h2.2.2]
  have : ∀ f k, tvF S' f k = tvF S f k := by
    intro f
    induction f with
    | zero => intro k; rfl
    | succ f ih =>
      intro k
      show (if k = 0 then 0 else code_ (tF S' k) (tvF S' f (tA S' k)) (tvF S' f (tB S' k))) = (if k = 0 then 0 else code_ (tF S k) (tvF S f (tA S k)) (tvF S f (tB S k)))
      rw [e1, e2, e3, ih, ih]
  funext k
  exact this k k
/-- what a step into a control gives -/
noncomputable def ctlS (k w q x : Nat) (c : Cf) : Nat × Cf := if k = 2 then aFan w q x c else if k = 3 then aCro w q x c else aBra w q x c
/-- the state behind it -/
def fcl (k q : Nat) : Nat := if k = 2 then 4 else if k = 3 then (if q = 1 then 0 else 1) else (if q = 1 then 2 else 3)
def CtO (S S' : St) (L : Nat → Nat) (n : Nat) (tr : List Te) (vs : Nat) (w f : Nat) (r : Nat × Cf) : Prop := (r.1 = 6 → ∃ D' L' n', CX S' D' L' n' ((f, L, n) :: tr) vs ∧ r.2.2.2.1 = (fun i => tv S' (L' i)) ∧ S'.1 124 = nI (4 * w + r.2.2.1) ∧ r.2.1 = w ∧ n ≤ n') ∧ (r.1 ≠ 6 → S' = S) ∧ Fr S S' (124 :: XI) XA ∧ TExt S S' n
theorem X6_ctl {S : St} {N D n vs w q x : Nat} {L : Nat → Nat} {tr : List Te} {c : Cf} (hN : Big N) (hO : COk S) (hw : w < 3002) (hk : isC (cK S w)) (hx : cX S w = x) (hq : q < nP (cK S w)) (h : CX S D L n tr vs) (hl : vs + tr.length < 4000) (hc : c.2.2.1 = fun i => tv S (L i)) (hd : (cK S w = 3 ∧ q = 0) ∨ (cK S w = 4 ∧ q = 1) → dT tr + 1 ≤ aT tr + vs) :
    ∃ S', fX6_arrive N S (nI w) (nI q) = some (nI (ctlS (cK S w) w q x c).1, S') ∧ CtO S S' L n tr vs w (fcl (cK S w) q) (ctlS (cK S w) w q x c) := by
  have k5 : cK S w < 5 := by rcases hk with e | e | e <;> omega
  have x63 : x ≤ 63 := by rw [← hx]; exact ((hO.1 w hw).2.2 k5).2
  have hL := h.2.1.2.2.2.2.1
  have ix : fX2_indexOf N S (nI w) = some (nI x, S) := by rw [X2_indexOf hO hw k5, hx]
  have kd : fX2_kindOf N S (nI w) = some (nI (cK S w), S) := by rw [X2_kindOf hO hw, kI_lt (by omega)]
  have cxx : c.2.2.1 x = tv S (L x) := by rw [hc]
  -- how a change ends
  have fin : ∀ {S1 : St} {D1 n1 f p : Nat} {L1 : Nat → Nat} {cx : Nat → Nat}, Fr S S1 XI XA → CX S1 D1 L1 n1 ((f, L, n) :: tr) vs → TExt S S1 n → n ≤ n1 → cx = (fun i => tv S1 (L1 i)) → CtO S (sI S1 124 (nI (4 * w + p))) L n tr vs w f (6, (w, p, cx, c.2.2.2)) := by
    intro S1 D1 n1 f p L1 cx f1 c1 t1 nn ecx
    have f2 : Fr S1 (sI S1 124 (nI (4 * w + p))) [124] [] := Fr.I (by decide)
    refine ⟨fun _ => ⟨D1, L1, n1, c1.fr f2.w (by decide) (by decide), ?_, rfl, rfl, nn⟩, fun q => absurd rfl q, (f1.mono (by decide) (fun _ h => h)).trans (f2.mono (by decide) (fun _ h => (List.not_mem_nil h).elim)), t1.trans (TExt.fr f2 (by decide))⟩
    show cx = _
    rw [ecx, tv_fr f2.w (by decide)]
  have stay : ∀ f, CtO S S L n tr vs w f (4, c) := fun f => ⟨fun q => absurd q (by show ¬ (4 : Nat) = 6; decide), fun _ => rfl, Fr.rf, fun _ _ => ⟨rfl, rfl, rfl⟩⟩
  unfold fX6_arrive ctlS
  rw [bd2_ok ix, bd2_ok kd]
  rcases hk with e | e | e
  · rw [e] at hq ⊢
    have hq : q < 3 := hq
    have hf : fcl 2 q = 4 := rfl
    rw [hf]
    rw [if_neg (by decide), if_neg (by decide), if_pos (by decide), if_pos rfl]
    unfold fX6_atFan aFan
    by_cases q0 : q = 0
    · rw [if_pos (by rw [q0]; rfl), if_neg (show ¬ 0 < q by omega)]
      obtain ⟨l1, l2⟩ := X1_leaveFan (N := N) hN h x63 hl
      by_cases p : 0 < L x ∧ (tF S (L x) = 1 ∨ tF S (L x) = 2)
      · obtain ⟨S1, D1, a1, a2, a3, a4⟩ := l2 p
        have tvs := tv_ext h.1 a3.1 (Nat.le_refl _) a4
        obtain ⟨-, -, -, -, -, g6, -, -⟩ := h.1.2.2.2.1 (L x) p.1 (hL x)
        have hLx := hL x
        rw [cxx, dc_tv h.1 p.1 (hL x), bd2_ok a1, if_neg (fun z => by
          have : ¬ nI (tF S (L x)) < 0 := nI_pos (by omega)
          rw [z] at this
          exact this (by decide)), bd2_ok X6_leaveBy, bd2_some, if_pos p.2]
        exact ⟨_, rfl, fin a2 a3 a4 (Nat.le_refl _) (by rw [tvSet tvs hL, ← hc, tvs _ (show tA S (L x) < n by omega)])⟩
      · have np : ¬ ((dc (c.2.2.1 x)).1 = 1 ∨ (dc (c.2.2.1 x)).1 = 2) := by
          rw [cxx]
          by_cases z : L x = 0
          · rw [z, tv_0, dc_0]
            exact fun q => by rcases q with q | q <;> exact absurd q (by decide)
          · rw [dc_tv h.1 (by omega) (hL x)]
            exact fun q => p ⟨by omega, q⟩
        rw [bd2_ok (l1 p), if_pos rfl, bd2_some, if_neg np]
        exact ⟨S, rfl, stay _⟩
    · rw [if_neg (fun z => q0 ((nI_eq (by omega) (by omega)).mp (z.trans (show (0 : Int32) = nI 0 from rfl)))), if_pos (show 0 < q by omega)]
      obtain ⟨S1, D1, n1, t, a1, a2, a3, a4, a5, a6⟩ := X1_enterFan (N := N) (q := q) hN h x63 hl (by omega)
      have tvs := tv_ext h.1 a3.1 a5 a4
      have eq : (if q = 1 then 1 else 2) = q := by
        by_cases z : q = 1
        · rw [if_pos z, z]
        · rw [if_neg z]; omega
      have lb : fX6_leaveBy N S1 (nI w) 0 = some (6, sI S1 124 (nI (4 * w + 0))) := X6_leaveBy
      rw [bdo_ok a1, bd2_ok lb, bd2_some, eq]
      exact ⟨_, rfl, fin a2 a3 a4 a5 (by rw [tvSet tvs hL, ← hc, a6, cxx])⟩
  · rw [e] at hq hd ⊢
    have hq : q < 2 := hq
    rw [if_neg (by decide), if_neg (by decide), if_neg (by decide), if_pos (by decide), if_neg (show ¬ (3 : Nat) = 2 by decide), if_pos (show (3 : Nat) = 3 from rfl)]
    unfold aCro fX6_arrive_97
    by_cases q0 : q = 0
    · rw [if_pos (by rw [q0]; rfl), if_neg (show ¬ q = 1 by omega)]
      obtain ⟨S1, D1, a1, a2, a3, a4⟩ := X1_drop (N := N) h x63 hl (hd (Or.inl ⟨rfl, q0⟩))
      have tvs := tv_ext h.1 a3.1 (Nat.le_refl _) a4
      have hf : fcl 3 q = 1 := by rw [q0]; rfl
      rw [hf]
      have lb : fX6_leaveBy N S1 (nI w) (1 - nI q) = some (6, sI S1 124 (nI (4 * w + 1))) := by rw [show (1 : Int32) - nI q = nI 1 by rw [q0]; decide]; exact X6_leaveBy
      rw [bdo_ok a1, bd2_ok lb]
      exact ⟨_, rfl, fin a2 a3 a4 (Nat.le_refl _) (by rw [tvDel tvs hL, ← hc])⟩
    · have q1 : q = 1 := by omega
      rw [if_neg (fun z => q0 ((nI_eq (by omega) (by omega)).mp (z.trans (show (0 : Int32) = nI 0 from rfl)))), if_pos q1]
      obtain ⟨S1, D1, a1, a2, a3, a4⟩ := X1_addBox (N := N) hN h x63 hl
      have tvs := tv_ext h.1 a3.1 (Nat.le_refl _) a4
      have hf : fcl 3 q = 0 := by rw [q1]; rfl
      rw [hf]
      have lb : fX6_leaveBy N S1 (nI w) (1 - nI q) = some (6, sI S1 124 (nI (4 * w + 0))) := by rw [show (1 : Int32) - nI q = nI 0 by rw [q1]; decide]; exact X6_leaveBy
      rw [bdo_ok a1, bd2_ok lb]
      exact ⟨_, rfl, fin a2 a3 a4 (Nat.le_refl _) (by rw [tvIns tvs hL, ← hc, tv_0])⟩
  · rw [e] at hq hd ⊢
    have hq : q < 2 := hq
    rw [if_neg (by decide), if_neg (by decide), if_neg (by decide), if_neg (by decide), if_pos (by decide), if_neg (by decide), if_neg (by decide)]
    unfold fX6_atBracket aBra
    by_cases q0 : q = 0
    · rw [if_pos (by rw [q0]; rfl), if_neg (show ¬ q = 1 by omega)]
      obtain ⟨l1, l2⟩ := X1_split (N := N) hN h x63 hl
      by_cases p : 0 < L x ∧ tF S (L x) = 3
      · obtain ⟨S1, D1, a1, a2, a3, a4⟩ := l2 p
        have tvs := tv_ext h.1 a3.1 (Nat.le_refl _) a4
        obtain ⟨-, -, -, -, -, g6, g7, -⟩ := h.1.2.2.2.1 (L x) p.1 (hL x)
        have hLx := hL x
        have hf : fcl 4 q = 3 := by rw [q0]; rfl
        have lb : fX6_leaveBy N S1 (nI w) 1 = some (6, sI S1 124 (nI (4 * w + 1))) := X6_leaveBy
        rw [hf, cxx, dc_tv h.1 p.1 (hL x), bd2_ok a1, if_neg (by decide), bd2_ok lb, bd2_some, if_pos p.2]
        refine ⟨_, rfl, fin a2 a3 a4 (Nat.le_refl _) ?_⟩
        have eL : cIns (cSet L x (tA S (L x))) (x + 1) (tB S (L x)) = cIns (cSet L x (tB S (L x))) x (tA S (L x)) := by
          funext i
          rw [cIns_at, cIns_at, cSet_at, cSet_at, cSet_at, cSet_at]
          by_cases y1 : i < x
          · rw [if_pos (by omega), if_neg (by omega), if_pos y1, if_neg (by omega)]
          · by_cases y2 : i = x
            · rw [if_pos (by omega), if_pos y2, if_neg y1, if_pos y2]
            · by_cases y3 : i = x + 1
              · rw [if_neg (by omega), if_pos y3, if_neg y1, if_neg y2, if_pos (by omega)]
              · rw [if_neg (by omega), if_neg y3, if_neg (by omega), if_neg y1, if_neg y2, if_neg (by omega)]
        have hL2 : ∀ i, cSet L x (tB S (L x)) i < n := fun i => by
          rw [cSet_at]
          by_cases z : i = x
          · rw [if_pos z]; omega
          · rw [if_neg z]; exact hL i
        rw [eL, tvIns tvs hL2, tvSet (fun _ _ => rfl) hL, ← hc, tvs _ (show tA S (L x) < n by omega)]
      · have np : ¬ (dc (c.2.2.1 x)).1 = 3 := by
          rw [cxx]
          by_cases z : L x = 0
          · rw [z, tv_0, dc_0]
            decide
          · rw [dc_tv h.1 (by omega) (hL x)]
            exact fun q => p ⟨by omega, q⟩
        rw [bd2_ok (l1 p), if_pos rfl, bd2_some, if_neg np]
        exact ⟨S, rfl, stay _⟩
    · have q1 : q = 1 := by omega
      rw [if_neg (fun z => q0 ((nI_eq (by omega) (by omega)).mp (z.trans (show (0 : Int32) = nI 0 from rfl)))), if_pos q1]
      obtain ⟨S1, D1, n1, t, a1, a2, a3, a4, a5, a6⟩ := X1_pairUp (N := N) hN h x63 hl (hd (Or.inr ⟨rfl, q1⟩))
      have tvs := tv_ext h.1 a3.1 a5 a4
      have lb : fX6_leaveBy N S1 (nI w) 0 = some (6, sI S1 124 (nI (4 * w + 0))) := X6_leaveBy
      have hf : fcl 4 q = 2 := by rw [q1]; rfl
      rw [hf, bdo_ok a1, bd2_ok lb, bd2_some]
      refine ⟨_, rfl, fin a2 a3 a4 a5 ?_⟩
      have hL2 : ∀ i, cDel L x i < n := fun i => by
        rw [cDel_at]
        by_cases z : i < x
        · rw [if_pos z]; exact hL i
        · rw [if_neg z]; exact hL _
      rw [tvSet tvs hL2, tvDel (fun _ _ => rfl) hL, ← hc, a6, cxx]
      rw [hc]
