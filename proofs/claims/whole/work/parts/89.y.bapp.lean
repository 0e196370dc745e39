/-! both programs build: an application, name by name -/
theorem sI_at {S : St} {k : Nat} {v : Int32} : (sI S k v).1 k = v := if_pos rfl
theorem sI_ne {S : St} {k j : Nat} {v : Int32} (h : j ≠ k) : (sI S k v).1 j = S.1 j := if_neg h
theorem sA_at {S : St} {k : Nat} {f : Nat → Int32} : (sA S k f).2.1 k = f := if_pos rfl
theorem sA_ne {S : St} {k j : Nat} {f : Nat → Int32} (h : j ≠ k) : (sA S k f).2.1 j = S.2.1 j := if_neg h
def updO (g : Nat → Option Pt) (i : Nat) (v : Option Pt) : Nat → Option Pt := fun j => if j = i then v else g j
theorem updO_at (g : Nat → Option Pt) (i : Nat) (v : Option Pt) (j : Nat) : updO g i v j = if j = i then v else g j := rfl
theorem updO_ne {g : Nat → Option Pt} {i : Nat} {v : Option Pt} {j : Nat} (h : j ≠ i) : updO g i v j = g j := if_neg h
theorem updO_eq {g : Nat → Option Pt} {i : Nat} {v : Option Pt} : updO g i v i = v := if_pos rfl
theorem cfn_congr {f g : Nat → Option Pt} : ∀ sc : Sc, (∀ e ∈ sc, f e.2 = g e.2) → cfn f sc = cfn g sc
  | [], _ => rfl
  | e :: r, h => by
    show (if (f e.2).isSome = true then 1 else 0) + cfn f r = (if (g e.2).isSome = true then 1 else 0) + cfn g r
    rw [h e (List.mem_cons_self ..), cfn_congr r (fun x hx => h x (List.mem_cons_of_mem _ hx))]
theorem cfn_upd {g : Nat → Option Pt} {i s : Nat} {v : Option Pt} : ∀ sc : Sc, ScO sc → (s, i) ∈ sc → cfn (updO g i v) sc + (if (g i).isSome = true then 1 else 0) = cfn g sc + (if v.isSome = true then 1 else 0)
  | [], _, hm => (List.not_mem_nil hm).elim
  | e :: r, h, hm => by
    obtain ⟨h1, h2⟩ := List.pairwise_cons.mp h
    have e1 : cfn (updO g i v) (e :: r) = (if (updO g i v e.2).isSome = true then 1 else 0) + cfn (updO g i v) r := rfl
    have e2 : cfn g (e :: r) = (if (g e.2).isSome = true then 1 else 0) + cfn g r := rfl
    rw [e1, e2]
    rcases List.mem_cons.mp hm with q | q
    · rw [← q]
      have : cfn (updO g i v) r = cfn g r := cfn_congr r (fun a ha => by
        have := (h1 a ha).2
        rw [← q] at this
        have this : i < a.2 := this
        rw [updO_ne (show a.2 ≠ i by omega)])
      rw [this, updO_at, if_pos rfl]
      show (if v.isSome = true then 1 else 0) + cfn g r + _ = (if (g i).isSome = true then 1 else 0) + cfn g r + _
      omega
    · have := cfn_upd (g := g) (v := v) r h2 q
      have z := (h1 _ q).2
      have z : e.2 < i := z
      rw [updO_ne (show e.2 ≠ i by omega)]
      omega
def DL (r : List Itm) (ap : Nat) (g h : Nat → Option Pt) (v k : Nat) : Prop := Dst r v k ∨ (v = ap ∧ k = 1) ∨ (∃ i, g i = some (v, k)) ∨ ∃ i, h i = some (v, k)
def AL (S M : St) (n c bn : Nat) (r : List Itm) (x t t1 t2 ap : Nat) (sc : Sc) (f1 f2 g h : Nat → Option Pt) (k0 : Nat) (lab : Nat → Nat → Nat) (E : Nat → Nat → Nat → Prop) (tag : Nat → Nat → Nat × Nat) (xh be : Nat → Nat) (U : Nat → Prop) : Prop :=
  BG S M n c (DL r ap g h) lab E xh be U ∧
  NmR (cK S) lab E tag xh n r.length sc x g ∧
  NmR (cK S) lab E tag xh n (r.length + 1) sc (x + 1) h ∧
  (S.2.1 1 r.length = nI (4 * ap + 1) ∧ (∀ s, s < 40 → S.2.2.1 r.length s = pI4 ((scI sc s).bind g)) ∧ ∀ s, s < 40 → S.2.2.1 (r.length + 1) s = pI4 ((scI sc s).bind f2)) ∧
  (M.2.1 4 t = nI t1 ∧ M.2.1 5 t = nI t2 ∧ M.1 14 = nI bn ∧ (∀ i, i < bn → M.2.1 29 (80 * t1 + i) = pI3 (f1 i) ∧ M.2.1 29 (80 * t2 + i) = pI3 (f2 i)) ∧ ∀ i, i < k0 → M.2.1 29 (80 * t + i) = pI3 (g i)) ∧
  ((∀ i, k0 ≤ i → g i = f1 i ∧ h i = f2 i) ∧ ∀ i, i < k0 → h i = none) ∧
  (∀ i, g i ≠ none ∨ h i ≠ none ↔ f1 i ≠ none ∨ f2 i ≠ none) ∧
  StR S M lab E tag xh bn n r ∧
  (ap < n ∧ cK S ap = 1 ∧ lab ap 1 = x ∧ tag ap 1 = (r.length, 0) ∧ ∀ i, E ap 1 i ↔ f1 i ≠ none ∨ f2 i ≠ none) ∧
  (cK S 0 = 6 ∧ lab 0 0 = 0 ∧ (∀ i, ¬ E 0 0 i) ∧ tag 0 0 = (1000, 0))
/-- what stays around an application -/
def AF (bn : Nat) (r : List Itm) (x t t1 t2 : Nat) (sc : Sc) (xh : Nat → Nat) : Prop := (ScO sc ∧ ∀ e ∈ sc, e.1 < 40 ∧ e.2 < bn ∧ xh e.2 ≤ x) ∧ x ≤ 62 ∧ t < 300 ∧ t1 < 300 ∧ t2 < 300 ∧ t1 ≠ t ∧ t2 ≠ t ∧ (∀ it ∈ r, it.2.2.1 ≠ t) ∧ bn ≤ 80 ∧ r.length + 1 < 43
theorem AP_done {S M S3 M3 : St} {n n' c c' bn : Nat} {r : List Itm} {x t t1 t2 ap : Nat} {sc : Sc} {f1 f2 g h : Nat → Option Pt} {s i m : Nat} {lab lab' : Nat → Nat → Nat} {E E' : Nat → Nat → Nat → Prop} {tag : Nat → Nat → Nat × Nat} {xh be : Nat → Nat} {U : Nat → Prop} (hA : AF bn r x t t1 t2 sc xh) (hm : (s, i) ∈ sc) (hL : AL S M n c bn r x t t1 t2 ap sc f1 f2 g h i lab E tag xh be U) (hh : h i ≠ none) (mn : n ≤ m ∧ m < n') (m3 : m < 3002)
    (B : BG S3 M3 n' c' (DL r ap (updO g i (some (m, 0))) (updO h i none)) lab' E' xh be U) (fS : Fr S S3 [44, 48] [40, 41, 42, 45, 46, 47]) (fM : Fr M M3 [21, 22, 28] [17, 18, 19, 27]) (kp : ∀ v, v < n → cK S3 v = cK S v ∧ lab' v = lab v ∧ E' v = E v) (mk : isC (cK S3 m)) (ml : lab' m 0 = x + 1) (me : ∀ j, E' m 0 j ↔ j = i) :
    AL (sF S3 r.length (upd (S3.2.2.1 r.length) s (nI (4 * m + 0)))) (sA M3 29 (upd (M3.2.1 29) (80 * t + i) (nI (3 * m + 0)))) n' c' bn r x t t1 t2 ap sc f1 f2 (updO g i (some (m, 0))) (updO h i none) (i + 1) lab' E' (fun v p => if v = m then (r.length, i + 1) else tag v p) xh be U := by
  obtain ⟨l1, l2, l3, ⟨l4, l5, l6⟩, ⟨l7, l8, l9, l10, l11⟩, ⟨l12, l13⟩, l14, l15, ⟨l16, l17, l18, l19, l20⟩, ⟨l21, l22, l23, l24⟩⟩ := hL
  obtain ⟨⟨o1, o2⟩, o3, o4, o5, o6, o7, o8, o9, o10, o11⟩ := hA
  obtain ⟨y1, y2, y3⟩ := o2 _ hm
  have y1 : s < 40 := y1
  have y2 : i < bn := y2
  have y3 : xh i ≤ x := y3
  have kpp : Keep n (cK S) (cK S3) lab lab' E E' tag (fun v p => if v = m then (r.length, i + 1) else tag v p) := by
    intro v hv
    obtain ⟨z1, z2, z3⟩ := kp v hv
    refine ⟨z1, z2, z3, ?_⟩
    funext p
    show (if v = m then _ else _) = _
    rw [if_neg (by omega)]
  have nP2 : ∀ k, isC k → 0 < nP k := fun k hk => nP_c hk
  have z0 := kp 0 (by have := l16; omega)
  have za := kp ap l16
  obtain ⟨b1, b2⟩ := B.of (S' := sF S3 r.length (upd (S3.2.2.1 r.length) s (nI (4 * m + 0)))) (M' := sA M3 29 (upd (M3.2.1 29) (80 * t + i) (nI (3 * m + 0)))) (fun k hk => rfl) (fun k hk => rfl) (fun k hk => rfl) (fun k hk => by
    have : k ≠ 29 := fun z => by rw [z] at hk; exact absurd hk (by decide)
    show (if k = 29 then _ else M3.2.1 k) = _
    rw [if_neg this])
  have sf : S3.2.2.1 = S.2.2.1 := by rw [fS.2.2]
  refine ⟨b1, fun j p e => ?_, fun j p e => ?_, ⟨?_, fun s' hs' => ?_, fun s' hs' => ?_⟩, ⟨?_, ?_, ?_, fun j hj => ⟨?_, ?_⟩, fun j hj => ?_⟩, ⟨fun j hj => ?_, fun j hj => ?_⟩, fun j => ?_, StR.of (S' := sF S3 r.length (upd (S3.2.2.1 r.length) s (nI (4 * m + 0)))) (M' := sA M3 29 (upd (M3.2.1 29) (80 * t + i) (nI (3 * m + 0)))) (n' := n') kpp (by omega) r (fun j hj => ⟨?_, ?_⟩) (fun it hit => ⟨?_, fun j hj => ?_⟩) l15, ⟨by omega, ?_, ?_, ?_, ?_⟩, ⟨?_, ?_, ?_, ?_⟩⟩
  · by_cases z : j = i
    · rw [updO_at, if_pos z] at e
      have e := Option.some.inj e
      rw [← e, z]
      refine ⟨mn.2, ?_, ?_, ml, ?_, me, y3, s, hm⟩
      · show 0 < nP (cK S3 m); exact nP2 _ mk
      · show (if m = m then (r.length, i + 1) else tag m 0) = _; rw [if_pos rfl]
      · show isC (cK S3 m) ∧ outP (cK S3 m) 0
        exact ⟨mk, Or.inr (Or.inr ⟨by rcases mk with q | q | q <;> omega, rfl⟩)⟩
    · rw [updO_at, if_neg z] at e
      exact (l2.of kpp (show n ≤ n' by omega)) j p e
  · by_cases z : j = i
    · rw [updO_at, if_pos z] at e; cases e
    · rw [updO_at, if_neg z] at e
      exact (l3.of kpp (show n ≤ n' by omega)) j p e
  · show S3.2.1 1 r.length = _
    rw [fS.2.1 1 (by decide)]; exact l4
  · show (if r.length = r.length then upd (S3.2.2.1 r.length) s (nI (4 * m + 0)) else S3.2.2.1 r.length) s' = _
    rw [if_pos rfl, upd_at, sf]
    by_cases z : s' = s
    · rw [if_pos z, z, scI_in o1 hm]
      show nI (4 * m + 0) = pI4 (updO g i (some (m, 0)) i)
      rw [updO_at, if_pos rfl]; rfl
    · rw [if_neg z, l5 s' hs']
      cases q : scI sc s' with
      | none => rfl
      | some j =>
        have ji : j ≠ i := fun y => by
          have := o1.uniq _ (scI_some q) _ hm (Or.inr y)
          exact z (congrArg Prod.fst this)
        show pI4 (g j) = pI4 (updO g i (some (m, 0)) j)
        rw [updO_at, if_neg ji]
  · show (if r.length + 1 = r.length then _ else S3.2.2.1 (r.length + 1)) s' = _
    rw [if_neg (by omega), sf]; exact l6 s' hs'
  · rw [sA_ne (by decide), fM.2.1 4 (by decide)]; exact l7
  · rw [sA_ne (by decide), fM.2.1 5 (by decide)]; exact l8
  · show M3.1 14 = _
    rw [fM.1 14 (by decide)]; exact l9
  · show upd (M3.2.1 29) (80 * t + i) (nI (3 * m + 0)) (80 * t1 + j) = _
    rw [upd_at, if_neg (by omega), fM.2.1 29 (by decide)]; exact (l10 j hj).1
  · show upd (M3.2.1 29) (80 * t + i) (nI (3 * m + 0)) (80 * t2 + j) = _
    rw [upd_at, if_neg (by omega), fM.2.1 29 (by decide)]; exact (l10 j hj).2
  · show upd (M3.2.1 29) (80 * t + i) (nI (3 * m + 0)) (80 * t + j) = _
    rw [upd_at]
    by_cases z : j = i
    · rw [if_pos (by rw [z]), updO_at, if_pos z]; rfl
    · rw [if_neg (by omega), updO_at, if_neg z, fM.2.1 29 (by decide)]; exact l11 j (by omega)
  · rw [updO_at, updO_at, if_neg (by omega), if_neg (by omega)]
    exact l12 j (by omega)
  · rw [updO_at]
    by_cases z : j = i
    · rw [if_pos z]
    · rw [if_neg z]; exact l13 j (by omega)
  · rw [updO_at, updO_at]
    by_cases z : j = i
    · rw [if_pos z, if_pos z, z, ← l14 i]
      exact ⟨fun _ => Or.inr hh, fun _ => Or.inl (by intro q; cases q)⟩
    · rw [if_neg z, if_neg z]; exact l14 j
  · show S3.2.1 1 j = _
    rw [fS.2.1 1 (by decide)]
  · show (if j = r.length then _ else S3.2.2.1 j) = _
    rw [if_neg (by omega), sf]
  · rw [sA_ne (by decide), fM.2.1 31 (by decide)]
  · have := o9 it hit
    show upd (M3.2.1 29) (80 * t + i) (nI (3 * m + 0)) (80 * it.2.2.1 + j) = _
    rw [upd_at, if_neg (by omega), fM.2.1 29 (by decide)]
  · show cK S3 ap = 1
    rw [za.1]; exact l17
  · rw [za.2.1]; exact l18
  · show (if ap = m then _ else tag ap 1) = _
    rw [if_neg (by omega)]; exact l19
  · intro j; rw [za.2.2]; exact l20 j
  · show cK S3 0 = 6
    rw [z0.1]; exact l21
  · rw [z0.2.1]; exact l22
  · intro j; rw [z0.2.2]; exact l23 j
  · show (if (0 : Nat) = m then _ else tag 0 0) = _
    rw [if_neg (by have := l16; omega)]; exact l24
