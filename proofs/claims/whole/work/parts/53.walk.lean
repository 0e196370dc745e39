/-! the walk, as mathematics: later (0: the argument of a node, 1: the end of an abstraction, 2: a closing bracket), abstractions (the innermost first), what is told (the latest first) -/
abbrev Lt : Type := Nat × Nat × (Nat → Nat)
abbrev Ab : Type := Nat × (Nat → Nat)
abbrev Cf : Type := Nat × Nat × (Nat → Nat) × List Lt × List Ab × List Nat
def dc_is (c : Nat) (t : Nat × Nat × Nat) : Prop := 1 ≤ t.1 ∧ t.1 ≤ 3 ∧ c = code_ t.1 t.2.1 t.2.2
noncomputable def dc (c : Nat) : Nat × Nat × Nat := @dite _ (∃ t, dc_is c t) (Classical.propDecidable _) (fun h => Classical.choose h) (fun _ => (0, 0, 0))
theorem dc_code {d a b : Nat} (h1 : 1 ≤ d) (h2 : d ≤ 3) : dc (code_ d a b) = (d, a, b) := by
  have h : ∃ t, dc_is (code_ d a b) t := ⟨(d, a, b), h1, h2, rfl⟩
  unfold dc
  rw [dif_pos h]
  obtain ⟨g1, g2, g3⟩ := Classical.choose_spec h
  obtain ⟨e1, e2, e3⟩ := code_inj ⟨h1, h2⟩ ⟨g1, g2⟩ g3
  exact Prod.ext e1.symm (Prod.ext e2.symm e3.symm)
theorem dc_0 : dc 0 = (0, 0, 0) := by
  unfold dc
  refine dif_neg ?_
  rintro ⟨t, -, -, h⟩
  have := code_pos t.1 t.2.1 t.2.2
  omega
def digF : Nat → Nat → List Nat
  | 0, _ => []
  | f + 1, v => if v < 10 then [48 + v] else (48 + v % 10) :: digF f (v / 10)
/-- a number in decimal, the last digit first -/
def dig (v : Nat) : List Nat := digF 12 v
def aGo : List Lt → List Ab → List Nat → Nat × Cf
  | [], ab, td => (0, (0, 0, (fun _ => 0), [], ab, td))
  | it :: r, ab, td => if it.1 = 1 then aGo r ab.tail td else if it.1 = 2 then aGo r ab (41 :: td) else (6, (it.2.1, 2, it.2.2, (2, 0, (fun _ => 0)) :: r, ab, 32 :: td))
def sameC (n : Nat) (f g : Nat → Nat) : Bool := (List.range n).all (fun i => f i == g i)
def fnd (v n : Nat) (cx : Nat → Nat) : List Ab → Nat → Option Nat
  | [], _ => none
  | it :: r, i => if it.1 = v ∧ sameC n it.2 cx = true then some i else fnd v n cx r (i + 1)
def cIns (cx : Nat → Nat) (n x : Nat) : Nat → Nat := fun i => if i < n then cx i else if i = n then x else cx (i - 1)
def cDel (cx : Nat → Nat) (n : Nat) : Nat → Nat := fun i => if i < n then cx i else cx (i + 1)
def cSet (cx : Nat → Nat) (n x : Nat) : Nat → Nat := fun i => if i = n then x else cx i
/-- at port q of the node v of index x -/
def aLam (v q x : Nat) (c : Cf) : Nat × Cf :=
  if q = 2 then (match fnd v x c.2.2.1 c.2.2.2.2.1 0 with
    | none => (4, c)
    | some k => aGo c.2.2.2.1 c.2.2.2.2.1 (dig k ++ c.2.2.2.2.2))
  else if q = 1 then (4, c)
  else if 4000 ≤ c.2.2.2.2.2.length then (3, (c.1, c.2.1, c.2.2.1, c.2.2.2.1, c.2.2.2.2.1, 92 :: c.2.2.2.2.2))
  else (6, (v, 1, c.2.2.1, (1, 0, (fun _ => 0)) :: c.2.2.2.1, (v, c.2.2.1) :: c.2.2.2.2.1, 92 :: c.2.2.2.2.2))
def aApp (v q : Nat) (c : Cf) : Nat × Cf :=
  if q = 1 then
    (if 4000 ≤ c.2.2.2.2.2.length then (3, (c.1, c.2.1, c.2.2.1, c.2.2.2.1, c.2.2.2.2.1, 40 :: c.2.2.2.2.2))
    else (6, (v, 0, c.2.2.1, (0, v, c.2.2.1) :: c.2.2.2.1, c.2.2.2.2.1, 40 :: c.2.2.2.2.2)))
  else (4, c)
noncomputable def aFan (v q x : Nat) (c : Cf) : Nat × Cf :=
  if 0 < q then (6, (v, 0, cSet c.2.2.1 x (code_ (if q = 1 then 1 else 2) (c.2.2.1 x) 0), c.2.2.2))
  else if (dc (c.2.2.1 x)).1 = 1 ∨ (dc (c.2.2.1 x)).1 = 2 then (6, (v, (dc (c.2.2.1 x)).1, cSet c.2.2.1 x (dc (c.2.2.1 x)).2.1, c.2.2.2))
  else (4, c)
def aCro (v q x : Nat) (c : Cf) : Nat × Cf :=
  if q = 1 then (6, (v, 0, cIns c.2.2.1 x 0, c.2.2.2)) else (6, (v, 1, cDel c.2.2.1 x, c.2.2.2))
noncomputable def aBra (v q x : Nat) (c : Cf) : Nat × Cf :=
  if q = 1 then (6, (v, 0, cSet (cDel c.2.2.1 x) x (code_ 3 (c.2.2.1 x) (c.2.2.1 (x + 1))), c.2.2.2))
  else if (dc (c.2.2.1 x)).1 = 3 then (6, (v, 1, cIns (cSet c.2.2.1 x (dc (c.2.2.1 x)).2.2) x (dc (c.2.2.1 x)).2.1, c.2.2.2))
  else (4, c)
/-- one step: 6 on, 5 a meeting, 4 wrong, 3 too long, 0 done -/
noncomputable def aStep (K X : Nat → Nat) (Wv Wp : Nat → Nat → Nat) (c : Cf) : Nat × Cf :=
  if Wp c.1 c.2.1 = 0 ∧ c.2.1 = 0 ∧ ¬ K c.1 = 6 then (5, c)
  else if K (Wv c.1 c.2.1) = 0 then aLam (Wv c.1 c.2.1) (Wp c.1 c.2.1) (X (Wv c.1 c.2.1)) c
  else if K (Wv c.1 c.2.1) = 1 then aApp (Wv c.1 c.2.1) (Wp c.1 c.2.1) c
  else if K (Wv c.1 c.2.1) = 2 then aFan (Wv c.1 c.2.1) (Wp c.1 c.2.1) (X (Wv c.1 c.2.1)) c
  else if K (Wv c.1 c.2.1) = 3 then aCro (Wv c.1 c.2.1) (Wp c.1 c.2.1) (X (Wv c.1 c.2.1)) c
  else if K (Wv c.1 c.2.1) = 4 then aBra (Wv c.1 c.2.1) (Wp c.1 c.2.1) (X (Wv c.1 c.2.1)) c
  else (4, c)
noncomputable def aWalk (K X : Nat → Nat) (Wv Wp : Nat → Nat → Nat) : Nat → Cf → Nat × Cf
  | 0, c => (3, c)
  | n + 1, c => if (if 4000 < (aStep K X Wv Wp c).2.2.2.2.2.2.length then 3 else (aStep K X Wv Wp c).1) = 6 then aWalk K X Wv Wp n (aStep K X Wv Wp c).2 else ((if 4000 < (aStep K X Wv Wp c).2.2.2.2.2.2.length then 3 else (aStep K X Wv Wp c).1), (aStep K X Wv Wp c).2)
def aStart : Cf := (0, 0, (fun _ => 0), [], [], [])
/-! the reference's state of a walk -/
def LatR (S : St) (n : Nat) : List Lt → Prop
  | [] => True
  | it :: r => ((it.1 = 1 ∧ S.2.1 55 r.length = -1) ∨ (it.1 = 2 ∧ S.2.1 55 r.length = -2) ∨ (it.1 = 0 ∧ it.2.1 < 3010 ∧ S.2.1 55 r.length = nI it.2.1 ∧ ∃ l, S.2.1 56 r.length = nI l ∧ l < n ∧ cxt S l = it.2.2)) ∧ LatR S n r
def AbR (S : St) (n : Nat) : List Ab → Prop
  | [] => True
  | it :: r => (it.1 < 3010 ∧ S.2.1 52 r.length = nI it.1 ∧ ∃ l, S.2.1 53 r.length = nI l ∧ l < n ∧ cxt S l = it.2) ∧ AbR S n r
def TdR (S : St) : List Nat → Prop
  | [] => True
  | c :: r => (c < 128 ∧ (r.length < 4000 → S.2.1 45 r.length = nI c)) ∧ TdR S r
theorem vnb {c : Nat} (h : c < 128) : vp_nar .byte ((nI c).toInt8.toInt32) = nI c := by
  have : ∀ c, c < 128 → vp_nar .byte ((nI c).toInt8.toInt32) = nI c := by decide +kernel
  exact this c h
theorem X8_tell {S : St} {N n c : Nat} (h : S.1 46 = nI n) (hn : n < 100000) (hc : c < 128) : ∃ S', fX8_tell N S (nI c) = some S' ∧ Fr S S' [46] [45] ∧ S'.1 46 = nI (n + 1) ∧ (n < 4000 → S'.2.1 45 n = nI c) ∧ (∀ j, j ≠ n → S'.2.1 45 j = S.2.1 45 j) := by
  unfold fX8_tell
  rw [h, show (4000 : Int32) = nI 4000 from rfl]
  by_cases c1 : 4000 ≤ n
  · rw [if_pos (nI_le c1 (by omega)), bnd_eq, nI_1]
    exact ⟨_, rfl, Fr.I (by decide), rfl, fun q => absurd q (by omega), fun _ _ => rfl⟩
  · rw [if_neg (fun q => c1 ((nI_leI (by omega) (by omega)).mp q)), ckx_ok (vp_in_nI (by omega) (by omega)), bnd_eq, bnd_eq, sA_1, h, nI_1, nI_clamp (by omega), vnb hc]
    refine ⟨_, rfl, (Fr.A (by decide)).trans (Fr.I (by decide)), rfl, fun _ => ?_, fun j hj => ?_⟩
    · show upd (S.2.1 45) n (nI c) n = nI c
      rw [upd_at, if_pos rfl]
    · show upd (S.2.1 45) n (nI c) j = _
      rw [upd_at, if_neg hj]
theorem X8_after {S : St} {N n : Nat} {x y : Int32} (h : S.1 57 = nI n) (hn : n < 8010) : ∃ S', fX8_after N S x y = some S' ∧ Fr S S' [57] [55, 56] ∧ S'.1 57 = nI (n + 1) ∧ S'.2.1 55 n = x ∧ S'.2.1 56 n = y ∧ (∀ j, j ≠ n → S'.2.1 55 j = S.2.1 55 j ∧ S'.2.1 56 j = S.2.1 56 j) := by
  unfold fX8_after
  rw [h, ckx_ok (vp_in_nI (by omega) (by omega)), bnd_eq, sA_1, h, ckx_ok (vp_in_nI (by omega) (by omega)), bnd_eq, bnd_eq, sA_1, sA_1, h, nI_1, nI_clamp (by omega)]
  refine ⟨_, rfl, ((Fr.A (by decide)).trans (Fr.A (by decide))).trans (Fr.I (by decide)), rfl, ?_, ?_, fun j hj => ⟨?_, ?_⟩⟩
  · show upd (S.2.1 55) n x n = x
    rw [upd_at, if_pos rfl]
  · show upd (S.2.1 56) n y n = y
    rw [upd_at, if_pos rfl]
  · show upd (S.2.1 55) n x j = _
    rw [upd_at, if_neg hj]
  · show upd (S.2.1 56) n y j = _
    rw [upd_at, if_neg hj]
