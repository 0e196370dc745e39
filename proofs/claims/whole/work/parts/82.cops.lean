/-! the class's graph: nodes made and discarded, wires, those that wait -/
def cK (S : St) (v : Nat) : Nat := if S.2.1 40 v < 0 then 7 else (S.2.1 40 v).toNatClampNeg
def cX (S : St) (v : Nat) : Nat := (S.2.1 41 v).toNatClampNeg
def cW (S : St) (p : Nat) : Nat := (S.2.1 42 p).toNatClampNeg
def cV (S : St) (v k : Nat) : Nat := cW S (4 * v + k) / 4
def cP (S : St) (v k : Nat) : Nat := cW S (4 * v + k) % 4
def Gc (S : St) : Gr := (cK S, cX S, cV S, cP S)
def kI (k : Nat) : Int32 := if k = 7 then -1 else nI k
def COk (S : St) : Prop := (∀ v, v < 3002 → S.2.1 40 v = kI (cK S v) ∧ cK S v ≤ 7 ∧ (cK S v < 5 → S.2.1 41 v = nI (cX S v) ∧ cX S v ≤ 63)) ∧ ∀ p, p < 12008 → S.2.1 42 p = nI (cW S p) ∧ cW S p < 12008
def SpC (S : St) : Prop := ∃ s, S.1 44 = nI s ∧ s + cntA 3002 (cK S) = 3002 ∧ (∀ i, i < s → ∃ v, S.2.1 43 i = nI v ∧ v < 3002 ∧ cK S v = 7) ∧ (∀ i j, i < s → j < s → S.2.1 43 i = S.2.1 43 j → i = j)
def PopC (S : St) : Prop := ∀ j, j < 7 → S.2.1 45 j = nI (cnt 3002 (cK S) j)
def GC (S : St) : Prop := COk S ∧ SpC S ∧ PopC S
/-- those that wait -/
def Rc (S : St) (x : Nat) : Prop := x < 3002 ∧ S.2.1 47 x ≠ 0
def RcR (S : St) (r : Nat) : Prop := S.1 48 = nI r ∧ r ≤ 3002 ∧ (∀ v, v < 3002 → S.2.1 47 v = 0 ∨ S.2.1 47 v = 1) ∧ (∀ i, i < r → ∃ v, S.2.1 46 i = nI v ∧ Rc S v) ∧ (∀ v, Rc S v → ∃ i, i < r ∧ S.2.1 46 i = nI v) ∧ (∀ i j, i < r → j < r → S.2.1 46 i = S.2.1 46 j → i = j)
theorem pO (v k : Nat) : fX7_portOf (nI v) (nI k) = some (nI (4 * v + k)) := by
  unfold fX7_portOf
  rw [show (4 : Int32) = nI 4 from rfl, pk_mul, nI_add, Nat.mul_comm]
theorem nA {p : Nat} (h : p < 2 ^ 31) : fX7_nodeAt (nI p) = some (nI (p / 4)) := by
  unfold fX7_nodeAt
  rw [pk_shrN h _ 2 (by decide)]
theorem wA {p : Nat} (h : p < 2 ^ 31) : fX7_whichAt (nI p) = some (nI (p % 4)) := by
  unfold fX7_whichAt
  rw [pk_andN (by omega) 2 (by decide)]
theorem cnt_const : ∀ n, cnt n (fun _ => 0) 0 = n
  | 0 => rfl
  | n + 1 => by
    show cnt n (fun _ => 0) 0 + (if (0 : Nat) = 0 then 1 else 0) = n + 1
    rw [cnt_const n, if_pos rfl]
/-- so many different numbers below n are no more than n -/
theorem pigeon {n r : Nat} {f : Nat → Nat} (h : ∀ i, i < r → f i < n) (hi : ∀ i j, i < r → j < r → f i = f j → i = j) : r ≤ n := by
  have := cnt_inj (K := fun _ => 0) (j := 0) (f := f) (n' := n) (j' := 0) r (fun _ => 0) (fun v hv _ => ⟨h v hv, rfl⟩) (fun v w hv hw _ _ e => hi v w hv hw e)
  rw [cnt_const, cnt_const] at this
  exact this
theorem gc_same {S S' : St} (h40 : S'.2.1 40 = S.2.1 40) (h41 : S'.2.1 41 = S.2.1 41) (h42 : S'.2.1 42 = S.2.1 42) : cK S' = cK S ∧ cX S' = cX S ∧ cV S' = cV S ∧ cP S' = cP S ∧ cW S' = cW S := by
  have e1 : cW S' = cW S := by funext p; unfold cW; rw [h42]
  refine ⟨by funext v; unfold cK; rw [h40], by funext v; unfold cX; rw [h41], by funext v k; unfold cV; rw [e1], by funext v k; unfold cP; rw [e1], e1⟩
theorem GC.of {S S' : St} {is as : List Nat} (h : GC S) (hf : Fr S S' is as) (h1 : 44 ∉ is) (h2 : 40 ∉ as ∧ 41 ∉ as ∧ 42 ∉ as ∧ 43 ∉ as ∧ 45 ∉ as) : GC S' ∧ Gc S' = Gc S := by
  obtain ⟨a1, a2, a3, a4, a5⟩ := h2
  obtain ⟨e1, e2, e3, e4, e5⟩ := gc_same (hf.2.1 40 a1) (hf.2.1 41 a2) (hf.2.1 42 a3)
  refine ⟨⟨?_, ?_, ?_⟩, by unfold Gc; rw [e1, e2, e3, e4]⟩
  · unfold COk
    rw [e1, e2, e5, hf.2.1 40 a1, hf.2.1 41 a2, hf.2.1 42 a3]
    exact h.1
  · unfold SpC
    rw [e1, hf.1 44 h1, hf.2.1 43 a4]
    exact h.2.1
  · unfold PopC
    rw [e1, hf.2.1 45 a5]
    exact h.2.2
theorem Rc.of {S S' : St} (h47 : S'.2.1 47 = S.2.1 47) : Rc S' = Rc S := by
  unfold Rc
  rw [h47]
theorem RcR.of {S S' : St} {r : Nat} (h : RcR S r) (h48 : S'.1 48 = S.1 48) (h46 : S'.2.1 46 = S.2.1 46) (h47 : S'.2.1 47 = S.2.1 47) : RcR S' r := by
  unfold RcR
  rw [h48, h46, h47, Rc.of h47]
  exact h
theorem kI_lt {k : Nat} (h : k < 7) : kI k = nI k := by
  unfold kI
  rw [if_neg (by omega)]
theorem kI_neg : kI 7 < 0 := by decide
theorem cK_upd {S S' : St} {v k : Nat} (hk : k ≤ 7) (h : S'.2.1 40 = upd (S.2.1 40) v (kI k)) : cK S' = updN (cK S) v k := by
  funext w
  unfold cK updN
  rw [h, upd_at]
  by_cases c : w = v
  · rw [if_pos c, if_pos c]
    have : ∀ k, k ≤ 7 → (if kI k < 0 then 7 else (kI k).toNatClampNeg) = k := by decide +kernel
    exact this k hk
  · rw [if_neg c, if_neg c]
theorem X2_kindOf {S : St} {N v : Nat} (h : COk S) (hv : v < 3002) : fX2_kindOf N S (nI v) = some (kI (cK S v), S) := by
  unfold fX2_kindOf
  rw [if_neg (nI_pos (by omega)), show (3002 : Int32) = nI 3002 from rfl, if_neg (fun q => absurd ((nI_leI (by omega) (by omega)).mp q) (by omega)), ckx_ok (vp_in_nI (by omega) (by omega)), nI_clamp (by omega), (h.1 v hv).1]
theorem X2_indexOf {S : St} {N v : Nat} (h : COk S) (hv : v < 3002) (h5 : cK S v < 5) : fX2_indexOf N S (nI v) = some (nI (cX S v), S) := by
  unfold fX2_indexOf
  rw [if_neg (nI_pos (by omega)), show (3002 : Int32) = nI 3002 from rfl, if_neg (fun q => absurd ((nI_leI (by omega) (by omega)).mp q) (by omega)), ckx_ok (vp_in_nI (by omega) (by omega)), nI_clamp (by omega), ((h.1 v hv).2.2 h5).1]
theorem X2_across {S : St} {N v k : Nat} (h : COk S) (hv : v < 3002) (hk : k < 4) : fX2_across N S (nI (4 * v + k)) = some (nI (4 * cV S v k + cP S v k), S) := by
  unfold fX2_across
  have e : 4 * cV S v k + cP S v k = cW S (4 * v + k) := by unfold cV cP; omega
  rw [if_neg (nI_pos (by omega)), show Int32.ofNat 12008 = nI 12008 from rfl, if_neg (fun q => absurd ((nI_leI (by omega) (by omega)).mp q) (by omega)), ckx_ok (vp_in_nI (by omega) (by omega)), nI_clamp (by omega), (h.2 (4 * v + k) (by omega)).1, e]
theorem X2_make {S : St} {N k : Nat} {x : Int32} (h : GC S) (hc : cntA 3002 (cK S) < 3002) (hk : k < 7) (hx : k < 5 → ∃ i, x = nI i ∧ i ≤ 63) : ∃ v S', fX2_make N S (nI k) x = some (nI v, S') ∧ v < 3002 ∧ cK S v = 7 ∧ Fr S S' [44] [40, 41, 45] ∧ GC S' ∧ cK S' = updN (cK S) v k ∧ (∀ w, w ≠ v → cX S' w = cX S w) ∧ (k < 5 → x = nI (cX S' v)) ∧ cntA 3002 (cK S') = cntA 3002 (cK S) + 1 := by
  obtain ⟨hg, ⟨s, h44, hs, h43, hd⟩, hp⟩ := h
  obtain ⟨v, e43, hv, k7⟩ := h43 (s - 1) (by omega)
  unfold fX2_make
  rw [h44, show (1 : Int32) = nI 1 from rfl, if_neg (nI_nlt (by omega) (by omega)), show (3002 : Int32) = nI 3002 from rfl, if_neg (nI_nlt (by omega) (by omega)), if_neg (nI_pos (by omega)), show (7 : Int32) = nI 7 from rfl, if_pos (nI_lt hk (by omega)), pk_sub (by omega), ckx_ok (vp_in_nI (by omega) (by omega)), bnd_eq, nI_clamp (by omega), e43, if_neg (nI_pos (by omega)), if_pos (nI_lt hv (by omega)), bnd_eq, ckx_ok (vp_in_nI (by omega) (by omega)), bnd_eq, ckx_ok (vp_in_nI (by omega) (by omega)), bnd_eq, ckx_ok (vp_in_nI (by omega) (by omega)), ckx_ok (vp_in_nI (by omega) (by omega)), bnd_eq, nI_clamp (show v < 2 ^ 31 by omega), nI_clamp (show k < 2 ^ 31 by omega)]
  obtain ⟨S8, e8⟩ : ∃ z, z = sA (sA (sA (sI S 44 (nI (s - 1))) 40 (upd ((sI S 44 (nI (s - 1))).2.1 40) v (nI k))) 41 (upd ((sA (sI S 44 (nI (s - 1))) 40 (upd ((sI S 44 (nI (s - 1))).2.1 40) v (nI k))).2.1 41) v x)) 45 (upd ((sA (sA (sI S 44 (nI (s - 1))) 40 (upd ((sI S 44 (nI (s - 1))).2.1 40) v (nI k))) 41 (upd ((sA (sI S 44 (nI (s - 1))) 40 (upd ((sI S 44 (nI (s - 1))).2.1 40) v (nI k))).2.1 41) v x)).2.1 45) k ((sA (sA (sI S 44 (nI (s - 1))) 40 (upd ((sI S 44 (nI (s - 1))).2.1 40) v (nI k))) 41 (upd ((sA (sI S 44 (nI (s - 1))) 40 (upd ((sI S 44 (nI (s - 1))).2.1 40) v (nI k))).2.1 41) v x)).2.1 45 k + nI 1)) := ⟨_, rfl⟩
  rw [← e8]
  have f8 : Fr S S8 [44] [40, 41, 45] := by
    rw [e8]
    exact (((Fr.I (by decide)).trans (Fr.A (by decide))).trans (Fr.A (by decide))).trans (Fr.A (by decide))
  have z40 : S8.2.1 40 = upd (S.2.1 40) v (kI k) := by rw [e8, kI_lt hk]; rfl
  have z41 : S8.2.1 41 = upd (S.2.1 41) v x := by rw [e8]; rfl
  have z45 : S8.2.1 45 = upd (S.2.1 45) k (S.2.1 45 k + nI 1) := by rw [e8]; rfl
  have z44 : S8.1 44 = nI (s - 1) := by rw [e8]; rfl
  have gk := cK_upd (S' := S8) (show k ≤ 7 by omega) z40
  have gc : cntA 3002 (cK S8) = cntA 3002 (cK S) + 1 := by rw [gk]; exact cntA_new hv k7 hk
  have gx : ∀ w, w ≠ v → cX S8 w = cX S w := fun w hw => by unfold cX; rw [z41, upd_at, if_neg hw]
  have gv : k < 5 → x = nI (cX S8 v) ∧ cX S8 v ≤ 63 := fun h5 => by
    obtain ⟨i, hi, hi2⟩ := hx h5
    have : cX S8 v = i := by unfold cX; rw [z41, upd_at, if_pos rfl, hi, nI_clamp (by omega)]
    rw [this]
    exact ⟨hi, hi2⟩
  refine ⟨v, S8, rfl, hv, k7, f8, ⟨⟨fun w hw => ?_, fun p hp => ?_⟩, ⟨s - 1, z44, by rw [gc]; omega, fun i hi => ?_, fun i j hi hj => ?_⟩, fun j hj => ?_⟩, gk, gx, fun h5 => (gv h5).1, gc⟩
  · obtain ⟨a1, a2, a3⟩ := hg.1 w hw
    rw [gk, z40, updN_at, upd_at]
    by_cases c : w = v
    · rw [if_pos c, if_pos c]
      refine ⟨rfl, by omega, fun h5 => ?_⟩
      obtain ⟨b1, b2⟩ := gv h5
      rw [c, z41, upd_at, if_pos rfl]
      exact ⟨b1, b2⟩
    · rw [if_neg c, if_neg c, gx w c, z41, upd_at, if_neg c]
      exact ⟨a1, a2, a3⟩
  · have ew : cW S8 p = cW S p := by unfold cW; rw [f8.2.1 42 (by decide)]
    rw [ew, f8.2.1 42 (by decide)]
    exact hg.2 p hp
  · obtain ⟨w, w1, w2, w3⟩ := h43 i (by omega)
    refine ⟨w, by rw [f8.2.1 43 (by decide)]; exact w1, w2, ?_⟩
    rw [gk, updN_at, if_neg (fun c => ?_)]
    · exact w3
    · have := hd i (s - 1) (by omega) (by omega) (by rw [w1, e43, c])
      omega
  · rw [f8.2.1 43 (by decide)]
    exact hd i j (by omega) (by omega)
  · have u := cnt_upd (K := cK S) (v := v) (x := k) (j := j) 3002 hv
    rw [k7, if_neg (by omega)] at u
    rw [z45, upd_at, gk]
    by_cases c : j = k
    · rw [if_pos c.symm] at u
      subst c
      rw [if_pos rfl, hp j hj, nI_add, show cnt 3002 (updN (cK S) v j) j = cnt 3002 (cK S) j + 1 by omega]
    · rw [if_neg c, hp j hj]
      rw [if_neg (fun q => c q.symm)] at u
      rw [show cnt 3002 (updN (cK S) v k) j = cnt 3002 (cK S) j by omega]
theorem cnt_le {K : Nat → Nat} {j : Nat} : ∀ n, cnt n K j ≤ n
  | 0 => Nat.le_refl _
  | n + 1 => by
    have := cnt_le (K := K) (j := j) n
    show cnt n K j + (if K n = j then 1 else 0) ≤ n + 1
    by_cases c : K n = j
    · rw [if_pos c]; omega
    · rw [if_neg c]; omega
theorem X2_discard {S : St} {N v : Nat} (h : GC S) (hv : v < 3002) (hk : cK S v < 7) : ∃ S', fX2_discard N S (nI v) = some S' ∧ Fr S S' [44] [40, 43, 45] ∧ GC S' ∧ cK S' = updN (cK S) v 7 ∧ cntA 3002 (cK S') + 1 = cntA 3002 (cK S) := by
  obtain ⟨hg, ⟨s, h44, hs, h43, hd⟩, hp⟩ := h
  have hc := cntA_free hv hk
  unfold fX2_discard
  rw [bd2_ok (X2_kindOf hg hv), kI_lt hk, if_neg (nI_pos (by omega)), show (7 : Int32) = nI 7 from rfl, if_neg (fun q => absurd ((nI_leI (by omega) (by omega)).mp q) (by omega)), h44, show (3002 : Int32) = nI 3002 from rfl, if_pos (nI_lt (by omega) (by omega)), ckx_ok (vp_in_nI (by omega) (by omega)), ckx_ok (vp_in_nI (by omega) (by omega)), bnd_eq, ckx_ok (vp_in_nI (by omega) (by omega)), bnd_eq, nI_clamp (show cK S v < 2 ^ 31 by omega), nI_clamp (show v < 2 ^ 31 by omega)]
  obtain ⟨k, ek⟩ : ∃ k, k = cK S v := ⟨_, rfl⟩
  rw [← ek]
  have e1 : (sA (sA S 45 (upd (S.2.1 45) k (S.2.1 45 k - 1))) 40 (upd ((sA S 45 (upd (S.2.1 45) k (S.2.1 45 k - 1))).2.1 40) v (-1))).1 44 = nI s := h44
  rw [e1, ckx_ok (vp_in_nI (by omega) (by omega)), bnd_eq, bnd_eq, nI_clamp (show s < 2 ^ 31 by omega)]
  obtain ⟨S6, e6⟩ : ∃ z, z = sI (sA (sA (sA S 45 (upd (S.2.1 45) k (S.2.1 45 k - 1))) 40 (upd ((sA S 45 (upd (S.2.1 45) k (S.2.1 45 k - 1))).2.1 40) v (-1))) 43 (upd ((sA (sA S 45 (upd (S.2.1 45) k (S.2.1 45 k - 1))) 40 (upd ((sA S 45 (upd (S.2.1 45) k (S.2.1 45 k - 1))).2.1 40) v (-1))).2.1 43) s (nI v))) 44 ((sA (sA (sA S 45 (upd (S.2.1 45) k (S.2.1 45 k - 1))) 40 (upd ((sA S 45 (upd (S.2.1 45) k (S.2.1 45 k - 1))).2.1 40) v (-1))) 43 (upd ((sA (sA S 45 (upd (S.2.1 45) k (S.2.1 45 k - 1))) 40 (upd ((sA S 45 (upd (S.2.1 45) k (S.2.1 45 k - 1))).2.1 40) v (-1))).2.1 43) s (nI v))).1 44 + 1) := ⟨_, rfl⟩
  rw [← e6]
  have f6 : Fr S S6 [44] [40, 43, 45] := by
    rw [e6]
    exact (((Fr.A (by decide)).trans (Fr.A (by decide))).trans (Fr.A (by decide))).trans (Fr.I (by decide))
  have z40 : S6.2.1 40 = upd (S.2.1 40) v (kI 7) := by rw [e6]; rfl
  have z43 : S6.2.1 43 = upd (S.2.1 43) s (nI v) := by rw [e6]; rfl
  have z45 : S6.2.1 45 = upd (S.2.1 45) k (S.2.1 45 k - 1) := by rw [e6]; rfl
  have z44 : S6.1 44 = nI (s + 1) := by
    rw [e6]
    show S.1 44 + 1 = _
    rw [h44, nI_1]
  have gk := cK_upd (S' := S6) (show 7 ≤ 7 by decide) z40
  have gc : cntA 3002 (cK S6) + 1 = cntA 3002 (cK S) := by rw [gk]; exact hc
  have gx : cX S6 = cX S := by funext w; unfold cX; rw [f6.2.1 41 (by decide)]
  refine ⟨S6, rfl, f6, ⟨⟨fun w hw => ?_, fun p hp => ?_⟩, ⟨s + 1, z44, by omega, fun i hi => ?_, fun i j hi hj => ?_⟩, fun j hj => ?_⟩, gk, gc⟩
  · obtain ⟨a1, a2, a3⟩ := hg.1 w hw
    rw [gk, gx, z40, f6.2.1 41 (by decide), updN_at, upd_at]
    by_cases c : w = v
    · rw [if_pos c, if_pos c]
      exact ⟨rfl, Nat.le_refl _, fun q => absurd q (by decide)⟩
    · rw [if_neg c, if_neg c]
      exact ⟨a1, a2, a3⟩
  · have ew : cW S6 p = cW S p := by unfold cW; rw [f6.2.1 42 (by decide)]
    rw [ew, f6.2.1 42 (by decide)]
    exact hg.2 p hp
  · rw [z43, upd_at, gk]
    by_cases c : i = s
    · rw [if_pos c]
      exact ⟨v, rfl, hv, by rw [updN_at, if_pos rfl]⟩
    · rw [if_neg c]
      obtain ⟨w, w1, w2, w3⟩ := h43 i (by omega)
      refine ⟨w, w1, w2, ?_⟩
      rw [updN_at]
      by_cases q : w = v
      · rw [if_pos q]
      · rw [if_neg q]; exact w3
  · rw [z43, upd_at, upd_at]
    have ne : ∀ i, i < s → S.2.1 43 i ≠ nI v := fun i hi q => by
      obtain ⟨w, w1, w2, w3⟩ := h43 i hi
      rw [w1] at q
      rw [(nI_eq (by omega) (by omega)).mp q] at w3
      omega
    by_cases c : i = s
    · rw [if_pos c]
      by_cases d : j = s
      · intro _; omega
      · rw [if_neg d]
        exact fun q => absurd q.symm (ne j (by omega))
    · rw [if_neg c]
      by_cases d : j = s
      · rw [if_pos d]
        exact fun q => absurd q (ne i (by omega))
      · rw [if_neg d]
        exact hd i j (by omega) (by omega)
  · have u := cnt_upd (K := cK S) (v := v) (x := 7) (j := j) 3002 hv
    rw [← ek, if_neg (show ¬ 7 = j by omega)] at u
    rw [z45, upd_at, gk]
    by_cases c : j = k
    · rw [if_pos c.symm] at u
      rw [if_pos c, ← c, hp j hj, nI_sub1 (by omega), show cnt 3002 (cK S) j - 1 = cnt 3002 (updN (cK S) v 7) j by omega]
    · rw [if_neg (fun q => c q.symm)] at u
      rw [if_neg c, hp j hj, show cnt 3002 (cK S) j = cnt 3002 (updN (cK S) v 7) j by omega]
theorem X2_rouse {S : St} {N r v : Nat} (hg : COk S) (h : RcR S r) (hv : v < 3002) : ∃ S' r', fX2_rouse N S (nI v) = some S' ∧ Fr S S' [48] [46, 47] ∧ RcR S' r' ∧ r' ≤ r + 1 ∧ (cK S v ≠ 5 → r' = r) ∧ (∀ x, Rc S x → Rc S' x) ∧ (cK S v = 5 → Rc S' v) := by
  obtain ⟨h48, hr, hb, h46, hin, hd⟩ := id h
  unfold fX2_rouse
  have k2 := (hg.1 v hv).2.1
  -- there is room
  have room : S.2.1 47 v = 0 → r < 3002 := by
    intro z
    have key : ∀ i, i < r → ∃ w, S.2.1 46 i = nI w ∧ w < 3002 ∧ w ≠ v := fun i hi => by
      obtain ⟨w, w1, w2, w3⟩ := h46 i hi
      exact ⟨w, w1, w2, fun q => w3 (by rw [q]; exact z)⟩
    have hc : ∀ i, ∃ w, i < r → (S.2.1 46 i = nI w ∧ w < 3002 ∧ w ≠ v) := fun i => by
      by_cases c : i < r
      · obtain ⟨w, hw⟩ := key i c
        exact ⟨w, fun _ => hw⟩
      · exact ⟨0, fun q => absurd q c⟩
    obtain ⟨f, hf⟩ : ∃ f : Nat → Nat, ∀ i, i < r → (S.2.1 46 i = nI (f i) ∧ f i < 3002 ∧ f i ≠ v) := ⟨fun i => Classical.choose (hc i), fun i => Classical.choose_spec (hc i)⟩
    have := pigeon (n := 3002) (r := r + 1) (f := fun i => if i = r then v else f i) (fun i hi => by
      by_cases c : i = r
      · rw [if_pos c]; exact hv
      · rw [if_neg c]; exact (hf i (by omega)).2.1) (fun i j hi hj e => by
      by_cases c : i = r
      · by_cases d : j = r
        · omega
        · rw [if_pos c, if_neg d] at e
          exact absurd e.symm (hf j (by omega)).2.2
      · by_cases d : j = r
        · rw [if_neg c, if_pos d] at e
          exact absurd e (hf i (by omega)).2.2
        · rw [if_neg c, if_neg d] at e
          exact hd i j (by omega) (by omega) (by rw [(hf i (by omega)).1, (hf j (by omega)).1, e]))
    omega
  rw [if_neg (nI_pos (by omega)), show (3002 : Int32) = nI 3002 from rfl, if_neg (fun q => absurd ((nI_leI (by omega) (by omega)).mp q) (by omega)), h48]
  have same : (cK S v = 5 → Rc S v) → ∃ S' r', some S = some S' ∧ Fr S S' [48] [46, 47] ∧ RcR S' r' ∧ r' ≤ r + 1 ∧ (cK S v ≠ 5 → r' = r) ∧ (∀ x, Rc S x → Rc S' x) ∧ (cK S v = 5 → Rc S' v) := fun q => ⟨S, r, rfl, Fr.rf, h, by omega, fun _ => rfl, fun _ h => h, q⟩
  by_cases c0 : r < 3002
  · rw [if_pos (nI_lt c0 (by omega)), ckx_ok (vp_in_nI (by omega) (by omega)), nI_clamp (show v < 2 ^ 31 by omega), (hg.1 v hv).1]
    by_cases c5 : cK S v = 5
    · rw [if_pos (by rw [c5]; rfl), ckx_ok (vp_in_nI (by omega) (by omega))]
      by_cases cz : S.2.1 47 v = 0
      · rw [if_pos cz, ckx_ok (vp_in_nI (by omega) (by omega)), bnd_eq]
        have e1 : (sA S 47 (upd (S.2.1 47) v (vp_nar .boolean 1))).1 48 = nI r := h48
        rw [e1, ckx_ok (vp_in_nI (by omega) (by omega)), bnd_eq, bnd_eq, nI_clamp (show r < 2 ^ 31 by omega)]
        obtain ⟨S5, e5⟩ : ∃ z, z = sI (sA (sA S 47 (upd (S.2.1 47) v (vp_nar .boolean 1))) 46 (upd ((sA S 47 (upd (S.2.1 47) v (vp_nar .boolean 1))).2.1 46) r (nI v))) 48 ((sA (sA S 47 (upd (S.2.1 47) v (vp_nar .boolean 1))) 46 (upd ((sA S 47 (upd (S.2.1 47) v (vp_nar .boolean 1))).2.1 46) r (nI v))).1 48 + 1) := ⟨_, rfl⟩
        rw [← e5]
        have b1 : vp_nar .boolean (1 : Int32) = 1 := by decide
        have z48 : S5.1 48 = nI (r + 1) := by
          rw [e5]
          show S.1 48 + 1 = _
          rw [h48, nI_1]
        have z47 : S5.2.1 47 = upd (S.2.1 47) v 1 := by rw [e5, b1]; rfl
        have z46 : S5.2.1 46 = upd (S.2.1 46) r (nI v) := by rw [e5]; rfl
        have rcv : Rc S5 v := ⟨hv, by rw [z47, upd_at, if_pos rfl]; decide⟩
        have mono : ∀ x, Rc S x → Rc S5 x := fun x hx => by
          refine ⟨hx.1, ?_⟩
          rw [z47, upd_at]
          by_cases q : x = v
          · rw [if_pos q]; decide
          · rw [if_neg q]; exact hx.2
        refine ⟨S5, r + 1, rfl, by rw [e5]; exact ((Fr.A (by decide)).trans (Fr.A (by decide))).trans (Fr.I (by decide)), ⟨z48, by omega, fun w hw => ?_, fun i hi => ?_, fun w hw => ?_, fun i j hi hj => ?_⟩, Nat.le_refl _, fun q => absurd c5 q, mono, fun _ => rcv⟩
        · rw [z47, upd_at]
          by_cases q : w = v
          · rw [if_pos q]; exact Or.inr rfl
          · rw [if_neg q]; exact hb w hw
        · rw [z46, upd_at]
          by_cases q : i = r
          · rw [if_pos q]; exact ⟨v, rfl, rcv⟩
          · rw [if_neg q]
            obtain ⟨w, w1, w2⟩ := h46 i (by omega)
            exact ⟨w, w1, mono w w2⟩
        · by_cases q : w = v
          · exact ⟨r, by omega, by rw [z46, upd_at, if_pos rfl, q]⟩
          · have : Rc S w := ⟨hw.1, by have := hw.2; rw [z47, upd_at, if_neg q] at this; exact this⟩
            obtain ⟨i, i1, i2⟩ := hin w this
            exact ⟨i, by omega, by rw [z46, upd_at, if_neg (by omega)]; exact i2⟩
        · rw [z46, upd_at, upd_at]
          have ne : ∀ i, i < r → S.2.1 46 i ≠ nI v := fun i hi q => by
            obtain ⟨w, w1, w2, w3⟩ := h46 i hi
            rw [w1] at q
            rw [(nI_eq (by omega) (by omega)).mp q] at w3
            exact w3 cz
          by_cases c : i = r
          · rw [if_pos c]
            by_cases d : j = r
            · intro _; omega
            · rw [if_neg d]
              exact fun q => absurd q.symm (ne j (by omega))
          · rw [if_neg c]
            by_cases d : j = r
            · rw [if_pos d]
              exact fun q => absurd q (ne i (by omega))
            · rw [if_neg d]
              exact hd i j (by omega) (by omega)
      · rw [if_neg cz]
        exact same (fun _ => ⟨hv, cz⟩)
    · rw [if_neg (fun q => c5 ?_)]
      · exact same (fun q => absurd q c5)
      · have : ∀ k, k ≤ 7 → kI k = 5 → k = 5 := by decide +kernel
        exact this _ k2 q
  · rw [if_neg (fun q => c0 ((nI_ltI (by omega) (by omega)).mp q))]
    refine same (fun q => ⟨hv, fun z => c0 (room z)⟩)
theorem X2_link {S : St} {N r a i b j : Nat} (h : GC S) (hr : RcR S r) (ha : a < 3002) (hi : i < 4) (hb : b < 3002) (hj : j < 4) : ∃ S' r', fX2_link N S (nI (4 * a + i)) (nI (4 * b + j)) = some S' ∧ Fr S S' [48] [42, 46, 47] ∧ GC S' ∧ (∀ v k, k < 4 → cV S' v k = (if v = b ∧ k = j then a else if v = a ∧ k = i then b else cV S v k) ∧ cP S' v k = (if v = b ∧ k = j then i else if v = a ∧ k = i then j else cP S v k)) ∧ RcR S' r' ∧ r' ≤ r + 2 ∧ (cK S a ≠ 5 → cK S b ≠ 5 → r' = r) ∧ (∀ x, Rc S x → Rc S' x) ∧ (cK S a = 5 → Rc S' a) ∧ (cK S b = 5 → Rc S' b) := by
  unfold fX2_link
  rw [if_neg (nI_pos (by omega)), show Int32.ofNat 12008 = nI 12008 from rfl, if_neg (fun q => absurd ((nI_leI (by omega) (by omega)).mp q) (by omega)), if_neg (nI_pos (by omega)), if_pos (nI_lt (by omega) (by omega)), ckx_ok (vp_in_nI (by omega) (by omega)), bnd_eq, ckx_ok (vp_in_nI (by omega) (by omega)), bnd_eq, nI_clamp (show 4 * a + i < 2 ^ 31 by omega), nI_clamp (show 4 * b + j < 2 ^ 31 by omega)]
  obtain ⟨S4, e4⟩ : ∃ z, z = sA (sA S 42 (upd (S.2.1 42) (4 * a + i) (nI (4 * b + j)))) 42 (upd ((sA S 42 (upd (S.2.1 42) (4 * a + i) (nI (4 * b + j)))).2.1 42) (4 * b + j) (nI (4 * a + i))) := ⟨_, rfl⟩
  rw [← e4]
  have f4 : Fr S S4 [48] [42, 46, 47] := by rw [e4]; exact (Fr.A (by decide)).trans (Fr.A (by decide))
  have z42 : S4.2.1 42 = upd (upd (S.2.1 42) (4 * a + i) (nI (4 * b + j))) (4 * b + j) (nI (4 * a + i)) := by rw [e4]; rfl
  have e46 : S4.2.1 46 = S.2.1 46 := by rw [e4]; rfl
  have e47 : S4.2.1 47 = S.2.1 47 := by rw [e4]; rfl
  have e48 : S4.1 48 = S.1 48 := by rw [e4]; rfl
  have k40 : cK S4 = cK S := by funext w; unfold cK; rw [f4.2.1 40 (by decide)]
  have k41 : cX S4 = cX S := by funext w; unfold cX; rw [f4.2.1 41 (by decide)]
  have gw : ∀ p, cW S4 p = if p = 4 * b + j then 4 * a + i else if p = 4 * a + i then 4 * b + j else cW S p := by
    intro p
    unfold cW
    rw [z42, upd_at, upd_at]
    by_cases c : p = 4 * b + j
    · rw [if_pos c, if_pos c, nI_clamp (by omega)]
    · rw [if_neg c, if_neg c]
      by_cases d : p = 4 * a + i
      · rw [if_pos d, if_pos d, nI_clamp (by omega)]
      · rw [if_neg d, if_neg d]
  have g4 : GC S4 := by
    refine ⟨⟨fun v hv => ?_, fun p hp => ?_⟩, ?_, ?_⟩
    · rw [k40, k41, f4.2.1 40 (by decide), f4.2.1 41 (by decide)]
      exact h.1.1 v hv
    · rw [gw, z42, upd_at, upd_at]
      by_cases c : p = 4 * b + j
      · rw [if_pos c, if_pos c]; exact ⟨rfl, by omega⟩
      · rw [if_neg c, if_neg c]
        by_cases d : p = 4 * a + i
        · rw [if_pos d, if_pos d]; exact ⟨rfl, by omega⟩
        · rw [if_neg d, if_neg d]; exact h.1.2 p hp
    · unfold SpC
      rw [k40, f4.1 44 (by decide), f4.2.1 43 (by decide)]
      exact h.2.1
    · unfold PopC
      rw [k40, f4.2.1 45 (by decide)]
      exact h.2.2
  have hW : ∀ v k, k < 4 → cV S4 v k = (if v = b ∧ k = j then a else if v = a ∧ k = i then b else cV S v k) ∧ cP S4 v k = (if v = b ∧ k = j then i else if v = a ∧ k = i then j else cP S v k) := by
    intro v k hk
    show cW S4 (4 * v + k) / 4 = (if v = b ∧ k = j then a else if v = a ∧ k = i then b else cW S (4 * v + k) / 4) ∧ cW S4 (4 * v + k) % 4 = (if v = b ∧ k = j then i else if v = a ∧ k = i then j else cW S (4 * v + k) % 4)
    rw [gw]
    by_cases c : v = b ∧ k = j
    · rw [if_pos c, if_pos c, if_pos (by omega)]
      exact ⟨by omega, by omega⟩
    · rw [if_neg c, if_neg c, if_neg (by omega)]
      by_cases d : v = a ∧ k = i
      · rw [if_pos d, if_pos d, if_pos (by omega)]
        exact ⟨by omega, by omega⟩
      · rw [if_neg d, if_neg d, if_neg (by omega)]
        exact ⟨rfl, rfl⟩
  have r4 : RcR S4 r := hr.of e48 e46 e47
  rw [bdo_ok (nA (show 4 * a + i < 2 ^ 31 by omega)), show (4 * a + i) / 4 = a by omega]
  obtain ⟨S7, r7, q1, q2, q3, q4, q5, q6, q7⟩ := X2_rouse (N := N) g4.1 r4 ha
  rw [bdo_ok q1, bdo_ok (nA (show 4 * b + j < 2 ^ 31 by omega)), show (4 * b + j) / 4 = b by omega]
  obtain ⟨g7, m7⟩ := g4.of q2 (by decide) (by decide)
  have kk : cK S7 = cK S4 := congrArg Prod.fst m7
  obtain ⟨S8, r8, t1, t2, t3, t4, t5, t6, t7⟩ := X2_rouse (N := N) g7.1 q3 hb
  rw [bdo_ok t1]
  obtain ⟨g8, m8⟩ := g7.of t2 (by decide) (by decide)
  rw [k40] at q5 q7
  rw [kk, k40] at t5 t7
  have v8 : cV S8 = cV S4 := (congrArg (fun G : Gr => G.2.2.1) m8).trans (congrArg (fun G : Gr => G.2.2.1) m7)
  have p8 : cP S8 = cP S4 := (congrArg (fun G : Gr => G.2.2.2) m8).trans (congrArg (fun G : Gr => G.2.2.2) m7)
  refine ⟨S8, r8, rfl, (f4.trans (q2.mono (by decide) (by decide))).trans (t2.mono (by decide) (by decide)), g8, by rw [v8, p8]; exact hW, t3, by omega, fun n1 n2 => by rw [t5 n2, q5 n1], fun x hx => t6 x (q6 x (by rw [Rc.of e47]; exact hx)), fun q => t6 _ (q7 q), t7⟩
