/-! one fires: what both programs come to -/
def AP (n : Nat) (G : Gr) (v : Nat) (Z : Nat → Prop) (G' : Gr) (R' : Nat → Prop) : Prop := ∃ x : Nat → Nat → Nat,
  (∀ u k, u < n → u ≠ v → ¬ Z u → k < nP (G.1 u) → G.2.2.1 u k = v → x u k < n ∧ G'.1 (x u k) = 5 ∧ G'.2.2.1 (x u k) 0 = u ∧ G'.2.2.2 (x u k) 0 = k ∧ G'.2.2.1 u k = x u k ∧ G'.2.2.2 u k = 0 ∧ (G.1 (x u k) = 7 ∨ x u k = v ∨ Z (x u k)) ∧ R' (x u k) ∧ (G.1 u = 5 → R' u)) ∧
  (∀ w, w < n → (∀ u k, u < n → u ≠ v → ¬ Z u → k < nP (G.1 u) → G.2.2.1 u k = v → w ≠ x u k) → (w = v ∨ Z w → G'.1 w = 7) ∧ (w ≠ v → ¬ Z w → G'.1 w = G.1 w)) ∧
  (∀ u, u < n → u ≠ v → ¬ Z u → G.1 u < 7 → G'.2.1 u = G.2.1 u ∧ ∀ k, k < nP (G.1 u) → G.2.2.1 u k ≠ v → G'.2.2.1 u k = G.2.2.1 u k ∧ G'.2.2.2 u k = G.2.2.2 u k) ∧
  (∀ z, Z z → G.1 z = 5 ∧ G.2.2.1 z 0 = v)
theorem AP.fd {n : Nat} {G G' : Gr} {v : Nat} {Z R' : Nat → Prop} (h : AP n G v Z G' R') : FD n G v Z G' R' := by
  obtain ⟨x, p1, p2, p3, p4⟩ := h
  have nx : ∀ w, w < n → w ≠ v → ¬ Z w → G.1 w < 7 → ∀ u k, u < n → u ≠ v → ¬ Z u → k < nP (G.1 u) → G.2.2.1 u k = v → w ≠ x u k := by
    intro w hw wv wz w7 u k hu uv uz hk e q
    obtain ⟨-, -, -, -, -, -, c, -, -⟩ := p1 u k hu uv uz hk e
    rw [← q] at c
    rcases c with c | c | c
    · omega
    · exact wv c
    · exact wz c
  refine ⟨p4, fun u hu uv uz u7 => ?_, fun w hw w7 => ?_⟩
  · obtain ⟨a1, a2⟩ := p3 u hu uv uz u7
    refine ⟨(p2 u hu (nx u hu uv uz u7)).2 uv uz, a1, fun k hk => ⟨a2 k hk, fun e => ?_⟩⟩
    obtain ⟨c1, c2, c3, c4, c5, c6, c7, c8, c9⟩ := p1 u k hu uv uz hk e
    rw [c5]
    exact ⟨c1, c2, c6, c3, c4, (nx u hu uv uz u7 u k hu uv uz hk e).symm, c8, c9⟩
  · by_cases c : ∃ u k, u < n ∧ u ≠ v ∧ ¬ Z u ∧ k < nP (G.1 u) ∧ G.2.2.1 u k = v ∧ w = x u k
    · obtain ⟨u, k, hu, uv, uz, hk, e, rfl⟩ := c
      obtain ⟨c1, c2, c3, c4, c5, c6, c7, c8, c9⟩ := p1 u k hu uv uz hk e
      right
      rw [c3, c4]
      exact ⟨c2, hu, uv, uz, nP_7 (Nat.lt_of_le_of_lt (Nat.zero_le _) hk), hk, e, c5⟩
    · have := p2 w hw (fun u k hu uv uz hk e q => c ⟨u, k, hu, uv, uz, hk, e, q⟩)
      left
      by_cases c1 : w = v ∨ Z w
      · have := this.1 c1
        omega
      · have wv : w ≠ v := fun q => c1 (Or.inl q)
        have wz : ¬ Z w := fun q => c1 (Or.inr q)
        rw [this.2 wv wz] at w7
        exact ⟨w7, wv, wz⟩
/-! the reference: nodes made and freed, wires, those that wait -/
def Gm (S : St) : Gr := (gK S, gX S, gV S, gP S)
def SpR (S : St) : Prop := ∃ s, S.1 21 = nI s ∧ s + cntA 3010 (gK S) = 3010 ∧ S.1 22 = nI (cntA 3010 (gK S)) ∧ (∀ i, i < s → ∃ v, S.2.1 20 i = nI v ∧ v < 3010 ∧ gK S v = 7) ∧ (∀ i j, i < s → j < s → S.2.1 20 i = S.2.1 20 j → i = j)
def GM (S : St) : Prop := GOk S ∧ SpR S
def Rm (S : St) (x : Nat) : Prop := x < 3010 ∧ ∃ i, i < (S.1 28).toNatClampNeg ∧ S.2.1 27 i = nI x
def RsR (S : St) (r : Nat) : Prop := S.1 28 = nI r ∧ r ≤ 12000 ∧ ∀ i, i < r → ∃ v, S.2.1 27 i = nI v ∧ v < 3010
theorem GOk.of {S S' : St} (h : GOk S) (h17 : S'.2.1 17 = S.2.1 17) (h18 : S'.2.1 18 = S.2.1 18) (h19 : S'.2.1 19 = S.2.1 19) : GOk S' := by
  obtain ⟨e1, e2, e3, e4, e5⟩ := gr_same h17 h18 h19
  unfold GOk
  rw [e1, e2, e5, h17, h18, h19]
  exact h
theorem GM.of {S S' : St} {is as : List Nat} (h : GM S) (hf : Fr S S' is as) (h1 : 21 ∉ is ∧ 22 ∉ is) (h2 : 17 ∉ as ∧ 18 ∉ as ∧ 19 ∉ as ∧ 20 ∉ as) : GM S' ∧ Gm S' = Gm S := by
  obtain ⟨a1, a2, a3, a4⟩ := h2
  obtain ⟨e1, e2, e3, e4, e5⟩ := gr_same (hf.2.1 17 a1) (hf.2.1 18 a2) (hf.2.1 19 a3)
  refine ⟨⟨h.1.of (hf.2.1 17 a1) (hf.2.1 18 a2) (hf.2.1 19 a3), ?_⟩, ?_⟩
  · unfold SpR
    rw [e1, hf.1 21 h1.1, hf.1 22 h1.2, hf.2.1 20 a4]
    exact h.2
  · unfold Gm
    rw [e1, e2, e3, e4]
theorem Rm.of {S S' : St} (h28 : S'.1 28 = S.1 28) (h27 : S'.2.1 27 = S.2.1 27) : Rm S' = Rm S := by
  unfold Rm
  rw [h28, h27]
theorem RsR.of {S S' : St} {r : Nat} (h : RsR S r) (h28 : S'.1 28 = S.1 28) (h27 : S'.2.1 27 = S.2.1 27) : RsR S' r := by
  unfold RsR
  rw [h28, h27]
  exact h
theorem cntA_le {n : Nat} {K : Nat → Nat} : cntA n K ≤ n := by
  induction n with
  | zero => exact Nat.le_refl _
  | succ n ih =>
    have e : ∀ j, cnt (n + 1) K j = cnt n K j + if K n = j then 1 else 0 := fun _ => rfl
    unfold cntA at ih ⊢
    rw [e, e, e, e, e, e, e]
    by_cases c : K n < 7
    · have : K n = 0 ∨ K n = 1 ∨ K n = 2 ∨ K n = 3 ∨ K n = 4 ∨ K n = 5 ∨ K n = 6 := by omega
      rcases this with q | q | q | q | q | q | q <;> rw [q] <;> simp <;> omega
    · rw [if_neg (by omega), if_neg (by omega), if_neg (by omega), if_neg (by omega), if_neg (by omega), if_neg (by omega), if_neg (by omega)]
      omega
theorem gK_upd {S S' : St} {v k : Nat} (hk : k < 2 ^ 31) (h : S'.2.1 17 = upd (S.2.1 17) v (nI k)) : gK S' = updN (gK S) v k := by
  funext w
  unfold gK updN
  rw [h, upd_at]
  by_cases c : w = v
  · rw [if_pos c, if_pos c, nI_clamp hk]
  · rw [if_neg c, if_neg c]
theorem gX_upd {S S' : St} {v k : Nat} (hk : k < 2 ^ 31) (h : S'.2.1 18 = upd (S.2.1 18) v (nI k)) : gX S' = updN (gX S) v k := by
  funext w
  unfold gX updN
  rw [h, upd_at]
  by_cases c : w = v
  · rw [if_pos c, if_pos c, nI_clamp hk]
  · rw [if_neg c, if_neg c]
theorem updN_at (f : Nat → Nat) (v x i : Nat) : updN f v x i = if i = v then x else f i := rfl
theorem X8_node {S : St} {N k x : Nat} (h : GM S) (hc : cntA 3010 (gK S) < 3010) (hk : k < 7) (hx : x ≤ 63) : ∃ v S', fX8_node N S (nI k) (nI x) = some (nI v, S') ∧ v < 3010 ∧ gK S v = 7 ∧ Fr S S' [21, 22] [17, 18] ∧ GM S' ∧ gK S' = updN (gK S) v k ∧ gX S' = updN (gX S) v x ∧ cntA 3010 (gK S') = cntA 3010 (gK S) + 1 := by
  obtain ⟨hg, s, h21, hs, h22, h20, hd⟩ := h
  obtain ⟨v, e20, hv, k7⟩ := h20 (s - 1) (by omega)
  unfold fX8_node
  have e1 : (sI S 21 (S.1 21 - 1)).1 21 = nI (s - 1) := by
    show S.1 21 - 1 = _
    rw [h21, nI_sub1 (by omega)]
  rw [bnd_eq, e1, ckx_ok (vp_in_nI (by omega) (by omega)), nI_clamp (by omega), bnd_eq, sI_2, e20, ckx_ok (vp_in_nI (by omega) (by omega)), bnd_eq, ckx_ok (vp_in_nI (by omega) (by omega)), bnd_eq, bnd_eq, nI_clamp (by omega)]
  obtain ⟨S8, e8⟩ : ∃ z, z = sI (sA (sA (sI S 21 (S.1 21 - 1)) 17 (upd (S.2.1 17) v (nI k))) 18 (upd ((sA (sI S 21 (S.1 21 - 1)) 17 (upd (S.2.1 17) v (nI k))).2.1 18) v (nI x))) 22 ((sA (sA (sI S 21 (S.1 21 - 1)) 17 (upd (S.2.1 17) v (nI k))) 18 (upd ((sA (sI S 21 (S.1 21 - 1)) 17 (upd (S.2.1 17) v (nI k))).2.1 18) v (nI x))).1 22 + 1) := ⟨_, rfl⟩
  have f8 : Fr S S8 [21, 22] [17, 18] := by
    rw [e8]
    exact (((Fr.I (by decide)).trans (Fr.A (by decide))).trans (Fr.A (by decide))).trans (Fr.I (by decide))
  have z17 : S8.2.1 17 = upd (S.2.1 17) v (nI k) := by rw [e8]; rfl
  have z18 : S8.2.1 18 = upd (S.2.1 18) v (nI x) := by rw [e8]; rfl
  have z21 : S8.1 21 = nI (s - 1) := by rw [e8]; exact e1
  have z22 : S8.1 22 = nI (cntA 3010 (gK S) + 1) := by
    rw [e8]
    show S.1 22 + 1 = _
    rw [h22, nI_1]
  have gk := gK_upd (S' := S8) (show k < 2 ^ 31 by omega) z17
  have gx := gX_upd (S' := S8) (show x < 2 ^ 31 by omega) z18
  have gc : cntA 3010 (gK S8) = cntA 3010 (gK S) + 1 := by rw [gk]; exact cntA_new hv k7 hk
  refine ⟨v, S8, by rw [e8], hv, k7, f8, ⟨⟨fun w hw => ?_, fun p hp => ?_⟩, s - 1, z21, by rw [gc]; omega, by rw [gc]; exact z22, fun i hi => ?_, fun i j hi hj => ?_⟩, gk, gx, gc⟩
  · obtain ⟨a1, a2, a3, a4⟩ := hg.1 w hw
    rw [gk, gx, z17, z18, updN_at, updN_at, upd_at, upd_at]
    by_cases c : w = v
    · rw [if_pos c, if_pos c, if_pos c, if_pos c]
      exact ⟨rfl, by omega, rfl, hx⟩
    · rw [if_neg c, if_neg c, if_neg c, if_neg c]
      exact ⟨a1, a2, a3, a4⟩
  · have ew : gW S8 p = gW S p := by unfold gW; rw [f8.2.1 19 (by decide)]
    rw [ew, f8.2.1 19 (by decide)]
    exact hg.2 p hp
  · obtain ⟨w, w1, w2, w3⟩ := h20 i (by omega)
    refine ⟨w, by rw [f8.2.1 20 (by decide)]; exact w1, w2, ?_⟩
    rw [gk, updN_at, if_neg (fun c => ?_)]
    · exact w3
    · have := hd i (s - 1) (by omega) (by omega) (by rw [w1, e20, c])
      omega
  · rw [f8.2.1 20 (by decide)]
    exact hd i j (by omega) (by omega)
theorem X8_free {S : St} {N v : Nat} (h : GM S) (hv : v < 3010) (hk : gK S v < 7) : ∃ S', fX8_free N S (nI v) = some S' ∧ Fr S S' [21, 22] [17, 20] ∧ GM S' ∧ gK S' = updN (gK S) v 7 ∧ cntA 3010 (gK S') + 1 = cntA 3010 (gK S) := by
  obtain ⟨hg, s, h21, hs, h22, h20, hd⟩ := h
  have hc := cntA_free hv hk
  unfold fX8_free
  rw [ckx_ok (vp_in_nI (by omega) (by omega)), bnd_eq, nI_clamp (by omega), show (7 : Int32) = nI 7 from rfl]
  have e1 : (sA S 17 (upd (S.2.1 17) v (nI 7))).1 21 = nI s := h21
  rw [e1, ckx_ok (vp_in_nI (by omega) (by omega)), bnd_eq, nI_clamp (by omega), bnd_eq, bnd_eq]
  obtain ⟨S6, e6⟩ : ∃ z, z = sI (sI (sA (sA S 17 (upd (S.2.1 17) v (nI 7))) 20 (upd ((sA S 17 (upd (S.2.1 17) v (nI 7))).2.1 20) s (nI v))) 21 ((sA (sA S 17 (upd (S.2.1 17) v (nI 7))) 20 (upd ((sA S 17 (upd (S.2.1 17) v (nI 7))).2.1 20) s (nI v))).1 21 + 1)) 22 ((sI (sA (sA S 17 (upd (S.2.1 17) v (nI 7))) 20 (upd ((sA S 17 (upd (S.2.1 17) v (nI 7))).2.1 20) s (nI v))) 21 ((sA (sA S 17 (upd (S.2.1 17) v (nI 7))) 20 (upd ((sA S 17 (upd (S.2.1 17) v (nI 7))).2.1 20) s (nI v))).1 21 + 1)).1 22 - 1) := ⟨_, rfl⟩
  rw [← e6]
  have f6 : Fr S S6 [21, 22] [17, 20] := by
    rw [e6]
    exact (((Fr.A (by decide)).trans (Fr.A (by decide))).trans (Fr.I (by decide))).trans (Fr.I (by decide))
  have z17 : S6.2.1 17 = upd (S.2.1 17) v (nI 7) := by rw [e6]; rfl
  have z20 : S6.2.1 20 = upd (S.2.1 20) s (nI v) := by rw [e6]; rfl
  have z21 : S6.1 21 = nI (s + 1) := by
    rw [e6]
    show S.1 21 + 1 = _
    rw [h21, nI_1]
  have z22 : S6.1 22 = nI (cntA 3010 (gK S) - 1) := by
    rw [e6]
    show S.1 22 - 1 = _
    rw [h22, nI_sub1 (by omega)]
  have gk := gK_upd (S' := S6) (show 7 < 2 ^ 31 by decide) z17
  have gc : cntA 3010 (gK S6) + 1 = cntA 3010 (gK S) := by rw [gk]; exact hc
  have gx : gX S6 = gX S := by funext w; unfold gX; rw [f6.2.1 18 (by decide)]
  refine ⟨S6, rfl, f6, ⟨⟨fun w hw => ?_, fun p hp => ?_⟩, s + 1, z21, by omega, by rw [z22, show cntA 3010 (gK S6) = cntA 3010 (gK S) - 1 by omega], fun i hi => ?_, fun i j hi hj => ?_⟩, gk, gc⟩
  · obtain ⟨a1, a2, a3, a4⟩ := hg.1 w hw
    rw [gk, gx, z17, f6.2.1 18 (by decide), updN_at, upd_at]
    by_cases c : w = v
    · rw [if_pos c, if_pos c]
      exact ⟨rfl, Nat.le_refl _, a3, a4⟩
    · rw [if_neg c, if_neg c]
      exact ⟨a1, a2, a3, a4⟩
  · have ew : gW S6 p = gW S p := by unfold gW; rw [f6.2.1 19 (by decide)]
    rw [ew, f6.2.1 19 (by decide)]
    exact hg.2 p hp
  · rw [z20, upd_at, gk]
    by_cases c : i = s
    · rw [if_pos c]
      exact ⟨v, rfl, hv, by rw [updN_at, if_pos rfl]⟩
    · rw [if_neg c]
      obtain ⟨w, w1, w2, w3⟩ := h20 i (by omega)
      exact ⟨w, w1, w2, by rw [updN_at]; by_cases q : w = v; rw [if_pos q]; rw [if_neg q]; exact w3⟩
  · rw [z20, upd_at, upd_at]
    have ne : ∀ i, i < s → S.2.1 20 i ≠ nI v := fun i hi q => by
      obtain ⟨w, w1, w2, w3⟩ := h20 i hi
      rw [w1] at q
      rw [(nI_eq (by omega) (by omega)).mp q] at w3
      omega
    by_cases c : i = s
    · rw [if_pos c]
      by_cases d : j = s
      · intro _; omega
      · rw [if_neg d]
        exact fun q => absurd q.symm (ne j (by omega))
    · rw [if_neg c]
      by_cases d : j = s
      · rw [if_pos d]
        exact fun q => absurd q (ne i (by omega))
      · rw [if_neg d]
        exact hd i j (by omega) (by omega)
theorem Rm_iff {S : St} {r x : Nat} (h : RsR S r) : Rm S x ↔ x < 3010 ∧ ∃ i, i < r ∧ S.2.1 27 i = nI x := by
  unfold Rm
  have := h.2.1
  rw [h.1, nI_clamp (by omega)]
theorem X8_rest {S : St} {N r p : Nat} (hg : GOk S) (h : RsR S r) (hp : p < 9030) (hr : r < 12000) : ∃ S' r', fX8_rest N S (nI p) = some S' ∧ Fr S S' [28] [27] ∧ RsR S' r' ∧ r' ≤ r + 1 ∧ (gK S (p / 3) ≠ 5 → r' = r) ∧ (∀ x, Rm S x → Rm S' x) ∧ (gK S (p / 3) = 5 → Rm S' (p / 3)) := by
  unfold fX8_rest
  have e3 : nI p / 3 = nI (p / 3) := by rw [show (3 : Int32) = nI 3 from rfl, pk_div (by omega) (by omega) (by omega)]
  have k1 := (hg.1 (p / 3) (by omega)).1
  have k2 := (hg.1 (p / 3) (by omega)).2.1
  rw [e3, ckx_ok (vp_in_nI (by omega) (by omega)), nI_clamp (by omega), k1]
  by_cases c : gK S (p / 3) = 5
  · rw [if_pos (by rw [c]; rfl), h.1, ckx_ok (vp_in_nI (by omega) (by omega)), bnd_eq, bnd_eq, nI_clamp (by omega)]
    obtain ⟨S5, e5⟩ : ∃ z, z = sI (sA S 27 (upd (S.2.1 27) r (nI (p / 3)))) 28 ((sA S 27 (upd (S.2.1 27) r (nI (p / 3)))).1 28 + 1) := ⟨_, rfl⟩
    rw [← e5]
    have z28 : S5.1 28 = nI (r + 1) := by
      rw [e5]
      show S.1 28 + 1 = _
      rw [h.1, nI_1]
    have z27 : S5.2.1 27 = upd (S.2.1 27) r (nI (p / 3)) := by rw [e5]; rfl
    have hR : RsR S5 (r + 1) := ⟨z28, by omega, fun i hi => by
      rw [z27, upd_at]
      by_cases d : i = r
      · rw [if_pos d]; exact ⟨_, rfl, by omega⟩
      · rw [if_neg d]; exact h.2.2 i (by omega)⟩
    refine ⟨S5, r + 1, rfl, by rw [e5]; exact (Fr.A (by decide)).trans (Fr.I (by decide)), hR, Nat.le_refl _, fun q => absurd c q, fun x hx => ?_, fun _ => ?_⟩
    · obtain ⟨i0, i, i1, i2⟩ := (Rm_iff h).mp hx
      exact (Rm_iff hR).mpr ⟨i0, i, by omega, by rw [z27, upd_at, if_neg (by omega)]; exact i2⟩
    · exact (Rm_iff hR).mpr ⟨by omega, r, by omega, by rw [z27, upd_at, if_pos rfl]⟩
  · rw [if_neg (fun q => c ((nI_eq (by omega) (by omega)).mp (q.trans (show (5 : Int32) = nI 5 from rfl))))]
    exact ⟨S, r, rfl, Fr.rf, h, by omega, fun _ => rfl, fun _ h => h, fun q => absurd q c⟩
/-- what was wired -/
def WrR (G G' : Gr) (a i b j : Nat) : Prop := ∀ v k, k < 3 → G'.2.2.1 v k = (if v = b ∧ k = j then a else if v = a ∧ k = i then b else G.2.2.1 v k) ∧ G'.2.2.2 v k = (if v = b ∧ k = j then i else if v = a ∧ k = i then j else G.2.2.2 v k)
theorem X8_wire {S : St} {N r a i b j : Nat} (h : GM S) (hr : RsR S r) (ha : a < 3010) (hi : i < 3) (hb : b < 3010) (hj : j < 3) (hr2 : r + 2 ≤ 12000) : ∃ S' r', fX8_wire N S (nI (3 * a + i)) (nI (3 * b + j)) = some S' ∧ Fr S S' [28] [19, 27] ∧ GM S' ∧ WrR (Gm S) (Gm S') a i b j ∧ RsR S' r' ∧ r' ≤ r + 2 ∧ (gK S a ≠ 5 → gK S b ≠ 5 → r' = r) ∧ (∀ x, Rm S x → Rm S' x) ∧ (gK S a = 5 → Rm S' a) ∧ (gK S b = 5 → Rm S' b) := by
  unfold fX8_wire
  rw [ckx_ok (vp_in_nI (by omega) (by omega)), bnd_eq, ckx_ok (vp_in_nI (by omega) (by omega)), bnd_eq, nI_clamp (by omega), nI_clamp (by omega)]
  obtain ⟨S4, e4⟩ : ∃ z, z = sA (sA S 19 (upd (S.2.1 19) (3 * a + i) (nI (3 * b + j)))) 19 (upd ((sA S 19 (upd (S.2.1 19) (3 * a + i) (nI (3 * b + j)))).2.1 19) (3 * b + j) (nI (3 * a + i))) := ⟨_, rfl⟩
  rw [← e4]
  have f4 : Fr S S4 [28] [19, 27] := by rw [e4]; exact (Fr.A (by decide)).trans (Fr.A (by decide))
  have z19 : S4.2.1 19 = upd (upd (S.2.1 19) (3 * a + i) (nI (3 * b + j))) (3 * b + j) (nI (3 * a + i)) := by rw [e4]; rfl
  have e27 : S4.2.1 27 = S.2.1 27 := by rw [e4]; rfl
  have e20 : S4.2.1 20 = S.2.1 20 := by rw [e4]; rfl
  have e28 : S4.1 28 = S.1 28 := by rw [e4]; rfl
  have k17 : gK S4 = gK S := by funext w; unfold gK; rw [f4.2.1 17 (by decide)]
  have k18 : gX S4 = gX S := by funext w; unfold gX; rw [f4.2.1 18 (by decide)]
  have gw : ∀ p, gW S4 p = if p = 3 * b + j then 3 * a + i else if p = 3 * a + i then 3 * b + j else gW S p := by
    intro p
    unfold gW
    rw [z19, upd_at, upd_at]
    by_cases c : p = 3 * b + j
    · rw [if_pos c, if_pos c, nI_clamp (by omega)]
    · rw [if_neg c, if_neg c]
      by_cases d : p = 3 * a + i
      · rw [if_pos d, if_pos d, nI_clamp (by omega)]
      · rw [if_neg d, if_neg d]
  have g4 : GM S4 := by
    refine ⟨⟨fun v hv => ?_, fun p hp => ?_⟩, ?_⟩
    · rw [k17, k18, f4.2.1 17 (by decide), f4.2.1 18 (by decide)]
      exact h.1.1 v hv
    · rw [gw, z19, upd_at, upd_at]
      by_cases c : p = 3 * b + j
      · rw [if_pos c, if_pos c]; exact ⟨rfl, by omega⟩
      · rw [if_neg c, if_neg c]
        by_cases d : p = 3 * a + i
        · rw [if_pos d, if_pos d]; exact ⟨rfl, by omega⟩
        · rw [if_neg d, if_neg d]; exact h.1.2 p hp
    · unfold SpR
      rw [k17, f4.1 21 (by decide), f4.1 22 (by decide), e20]
      exact h.2
  have hW : WrR (Gm S) (Gm S4) a i b j := by
    intro v k hk
    show gW S4 (3 * v + k) / 3 = (if v = b ∧ k = j then a else if v = a ∧ k = i then b else gW S (3 * v + k) / 3) ∧ gW S4 (3 * v + k) % 3 = (if v = b ∧ k = j then i else if v = a ∧ k = i then j else gW S (3 * v + k) % 3)
    rw [gw]
    by_cases c : v = b ∧ k = j
    · rw [if_pos c, if_pos c, if_pos (by omega)]
      exact ⟨by omega, by omega⟩
    · rw [if_neg c, if_neg c, if_neg (by omega)]
      by_cases d : v = a ∧ k = i
      · rw [if_pos d, if_pos d, if_pos (by omega)]
        exact ⟨by omega, by omega⟩
      · rw [if_neg d, if_neg d, if_neg (by omega)]
        exact ⟨rfl, rfl⟩
  have r4 : RsR S4 r := hr.of e28 e27
  obtain ⟨S7, r7, q1, q2, q3, q4, q5, q6, q7⟩ := X8_rest (N := N) (p := 3 * a + i) g4.1 r4 (by omega) (by omega)
  rw [bdo_ok q1]
  obtain ⟨g7, m7⟩ := g4.of q2 (by decide) (by decide)
  have kk : gK S7 = gK S4 := congrArg Prod.fst m7
  obtain ⟨S8, r8, t1, t2, t3, t4, t5, t6, t7⟩ := X8_rest (N := N) (p := 3 * b + j) g7.1 q3 (by omega) (by omega)
  rw [bdo_ok t1]
  obtain ⟨g8, m8⟩ := g7.of t2 (by decide) (by decide)
  rw [show (3 * a + i) / 3 = a by omega, k17] at q5 q7
  rw [show (3 * b + j) / 3 = b by omega, kk, k17] at t5 t7
  refine ⟨S8, r8, rfl, (f4.trans (q2.mono (by decide) (by decide))).trans (t2.mono (by decide) (by decide)), g8, by rw [m8, m7]; exact hW, t3, by omega, fun n1 n2 => by rw [t5 n2, q5 n1], fun x hx => t6 x (q6 x (by rw [Rm.of e28 e27]; exact hx)), fun q => t6 _ (q7 q), t7⟩
