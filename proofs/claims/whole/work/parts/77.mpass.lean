/-! the reference: one passes the other -/
/-- the new nodes are made; those behind ports 1 .. k - 1 are wired to them -/
def CI (S0 S : St) (c u : Nat) (o y : Nat → Nat) (k s : Nat) : Prop := GM S ∧ RsR S s ∧ Fr S0 S [21, 22, 28] [17, 18, 19, 27, 34] ∧
  (∀ a, auxC (gK S0 c) a → S.2.1 34 a = nI (3 * o a)) ∧ (∀ j, 0 < j → j < k → S.2.1 34 (3 + j) = nI (3 * y j)) ∧
  ((∀ a, auxC (gK S0 c) a → o a < 3010 ∧ gK S0 (o a) = 7) ∧ (∀ j, 0 < j → j < k → y j < 3010 ∧ gK S0 (y j) = 7) ∧ (∀ a j, auxC (gK S0 c) a → 0 < j → j < k → o a ≠ y j) ∧ (∀ a b, auxC (gK S0 c) a → auxC (gK S0 c) b → o a = o b → a = b) ∧ (∀ i j, 0 < i → i < k → 0 < j → j < k → y i = y j → i = j)) ∧
  (∀ a, auxC (gK S0 c) a → gK S (o a) = gK S0 u ∧ gX S (o a) = sh (gK S0 c) (gX S0 u)) ∧ (∀ j, 0 < j → j < k → gK S (y j) = gK S0 c ∧ gX S (y j) = gX S0 c) ∧
  (∀ w, (∀ a, auxC (gK S0 c) a → w ≠ o a) → (∀ j, 0 < j → j < k → w ≠ y j) → gK S w = gK S0 w ∧ gX S w = gX S0 w ∧ ∀ j, j < 3 → gV S w j = gV S0 w j ∧ gP S w j = gP S0 w j) ∧
  (∀ a j, auxC (gK S0 c) a → 0 < j → j < k → (gV S (o a) j = y j ∧ gP S (o a) j = a) ∧ (gV S (y j) a = o a ∧ gP S (y j) a = j))
theorem mw_of {S S' : St} {a i b j : Nat} (h : WrR (Gm S) (Gm S') a i b j) : ∀ w k, k < 3 → gV S' w k = (if w = b ∧ k = j then a else if w = a ∧ k = i then b else gV S w k) ∧ gP S' w k = (if w = b ∧ k = j then i else if w = a ∧ k = i then j else gP S w k) := h
theorem CI_fin {S0 S Sf : St} {c u k s v : Nat} {o y : Nat → Nat} (k3 : k < 3) (k0 : 0 < k) (h : CI S0 S c u o y k s) (v1 : v < 3010) (vo : ∀ a, auxC (gK S0 c) a → v ≠ o a) (vy : ∀ j, 0 < j → j < k → v ≠ y j) (v70 : gK S0 v = 7) (g : GM Sf) (r : RsR Sf s) (fr : Fr S0 Sf [21, 22, 28] [17, 18, 19, 27, 34]) (z34 : Sf.2.1 34 = upd (S.2.1 34) (3 + k) (nI (3 * v))) (kf : gK Sf = updN (gK S) v (gK S0 c)) (xf : gX Sf = updN (gX S) v (gX S0 c))
    (W1 : ∀ a, auxC (gK S0 c) a → (gV Sf (o a) k = v ∧ gP Sf (o a) k = a) ∧ (gV Sf v a = o a ∧ gP Sf v a = k)) (W2 : ∀ w j, j < 3 → w ≠ v → (∀ a, auxC (gK S0 c) a → ¬ (w = o a ∧ j = k)) → gV Sf w j = gV S w j ∧ gP Sf w j = gP S w j) : CI S0 Sf c u o (updN y k v) (k + 1) s := by
  obtain ⟨h1, h2, h3, h4, h5, ⟨q1, q2, q3, q4, q5⟩, h6, h7, h8, h9⟩ := h
  have yk : updN y k v k = v := by rw [updN_at, if_pos rfl]
  have yj : ∀ j, j ≠ k → updN y k v j = y j := fun j hj => by rw [updN_at, if_neg hj]
  have a2 : ∀ a, auxC (gK S0 c) a → 0 < a ∧ a < 3 := fun a ha => by rcases ha with e | e <;> omega
  refine ⟨g, r, fr, fun a ha => ?_, fun j j0 hj => ?_, ⟨q1, fun j j0 hj => ?_, fun a j ha j0 hj => ?_, q4, fun i j i0 hi j0 hj e => ?_⟩, fun a ha => ?_, fun j j0 hj => ?_, fun w wo wy => ?_, fun a j ha j0 hj => ?_⟩
  · have := a2 a ha
    rw [z34, upd_at, if_neg (by omega)]
    exact h4 a ha
  · rw [z34, upd_at]
    by_cases e : j = k
    · rw [e, if_pos rfl, yk]
    · rw [if_neg (by omega), yj j e]
      exact h5 j j0 (by omega)
  · by_cases e : j = k
    · rw [e, yk]; exact ⟨v1, v70⟩
    · rw [yj j e]; exact q2 j j0 (by omega)
  · by_cases e : j = k
    · rw [e, yk]; exact fun q => vo a ha q.symm
    · rw [yj j e]; exact q3 a j ha j0 (by omega)
  · by_cases e1 : i = k
    · by_cases e2 : j = k
      · omega
      · rw [e1, yk, yj j e2] at e
        exact absurd e (vy j j0 (by omega))
    · by_cases e2 : j = k
      · rw [e2, yk, yj i e1] at e
        exact absurd e.symm (vy i i0 (by omega))
      · rw [yj i e1, yj j e2] at e
        exact q5 i j i0 (by omega) j0 (by omega) e
  · have n := vo a ha
    rw [kf, xf, updN_at, updN_at, if_neg (fun q => n q.symm), if_neg (fun q => n q.symm)]
    exact h6 a ha
  · by_cases e : j = k
    · rw [e, yk, kf, xf, updN_at, updN_at, if_pos rfl, if_pos rfl]
      exact ⟨rfl, rfl⟩
    · have n := vy j j0 (by omega)
      rw [yj j e, kf, xf, updN_at, updN_at, if_neg (fun q => n q.symm), if_neg (fun q => n q.symm)]
      exact h7 j j0 (by omega)
  · have wv : w ≠ v := by
      have := wy k k0 (by omega)
      rw [yk] at this
      exact this
    obtain ⟨b1, b2, b3⟩ := h8 w wo (fun j j0 hj => by
      have := wy j j0 (by omega)
      rw [yj j (by omega)] at this
      exact this)
    refine ⟨by rw [kf, updN_at, if_neg wv]; exact b1, by rw [xf, updN_at, if_neg wv]; exact b2, fun j hj => ?_⟩
    obtain ⟨d1, d2⟩ := W2 w j hj wv (fun a ha q => wo a ha q.1)
    rw [d1, d2]
    exact b3 j hj
  · by_cases e : j = k
    · rw [e, yk]
      exact W1 a ha
    · have nv := vy j j0 (by omega)
      have hj2 : j < k := by omega
      obtain ⟨d1, d2⟩ := W2 (o a) j (by omega) (fun q => vo a ha q.symm) (fun b hb q => e q.2)
      obtain ⟨d3, d4⟩ := W2 (y j) a (a2 a ha).2 (fun q => nv q.symm) (fun b hb q => q3 b j hb j0 hj2 q.1.symm)
      rw [yj j e, d1, d2, d3, d4]
      exact h9 a j ha j0 hj2
theorem X8_passC1 {S0 S : St} {N c u k s : Nat} {o y : Nat → Nat} (hc : isC (gK S0 c)) (hc3 : c < 3010) (hu : gK S0 u < 5) (hk : k < nP (gK S0 u)) (k0 : 0 < k) (h : CI S0 S c u o y k s) (hA : cntA 3010 (gK S) < 3010) (hs : s + 4 ≤ 12000) :
    ∃ S8 v S9, fX8_node N S (nI (gK S0 c)) (S.2.1 18 c) = some (nI v, S8) ∧ v < 3010 ∧ S9 = sA S8 34 (upd (S8.2.1 34) (3 + k) (nI (3 * v))) ∧
      ∃ S11, fX8_wire N S9 (nI (3 * o 1 + k)) (nI (3 * v + 1)) = some S11 ∧
        (gK S0 c ≠ 2 → CI S0 S11 c u o (updN y k v) (k + 1) s ∧ cntA 3010 (gK S11) = cntA 3010 (gK S) + 1 ∧ cntL 3010 (gK S11) = cntL 3010 (gK S) + 1) ∧
        (gK S0 c = 2 → ∃ S15, fX8_wire N S11 (nI (3 * o 2 + k)) (nI (3 * v + 2)) = some S15 ∧ CI S0 S15 c u o (updN y k v) (k + 1) s ∧ cntA 3010 (gK S15) = cntA 3010 (gK S) + 1 ∧ cntL 3010 (gK S15) = cntL 3010 (gK S) + 1) := by
  have h0 := h
  obtain ⟨h1, h2, h3, h4, h5, ⟨q1, q2, q3, q4, q5⟩, h6, h7, h8, h9⟩ := h
  have k3 : k < 3 := Nat.lt_of_lt_of_le hk (nP_le _)
  have c5 : gK S0 c < 5 := by rcases hc with e | e | e <;> omega
  have cn : (∀ a, auxC (gK S0 c) a → c ≠ o a) ∧ (∀ j, 0 < j → j < k → c ≠ y j) := ⟨fun a ha q => by have := (q1 a ha).2; rw [← q] at this; omega, fun j j0 hj q => by have := (q2 j j0 hj).2; rw [← q] at this; omega⟩
  obtain ⟨kc, xc, -⟩ := h8 c cn.1 cn.2
  have ex : S.2.1 18 c = nI (gX S0 c) := by rw [(h1.1.1 c hc3).2.2.1, xc]
  have xl : gX S0 c ≤ 63 := by rw [← xc]; exact (h1.1.1 c hc3).2.2.2
  have a1 : auxC (gK S0 c) 1 := Or.inl rfl
  obtain ⟨v, S8, e8, v1, v7, f8, g8, kk8, xx8, c8⟩ := X8_node (N := N) (k := gK S0 c) (x := gX S0 c) h1 hA (by omega) xl
  -- v is new
  have vo : ∀ a, auxC (gK S0 c) a → v ≠ o a := fun a ha q => by
    have := (h6 a ha).1
    rw [← q, v7] at this; omega
  have vy : ∀ j, 0 < j → j < k → v ≠ y j := fun j j0 hj q => by
    have := (h7 j j0 hj).1
    rw [← q, v7] at this; omega
  have v70 : gK S0 v = 7 := by rw [← (h8 v vo vy).1]; exact v7
  obtain ⟨S9, e9⟩ : ∃ z, z = sA S8 34 (upd (S8.2.1 34) (3 + k) (nI (3 * v))) := ⟨_, rfl⟩
  have f9 : Fr S8 S9 [] [34] := by rw [e9]; exact Fr.A (by decide)
  obtain ⟨g9, m9⟩ := g8.of f9 (by decide) (by decide)
  have k9 : gK S9 = updN (gK S) v (gK S0 c) := by rw [← kk8]; exact congrArg Prod.fst m9
  have x9 : gX S9 = updN (gX S) v (gX S0 c) := by rw [← xx8]; exact congrArg (fun G : Gr => G.2.1) m9
  have w9 : ∀ w j, gV S9 w j = gV S w j ∧ gP S9 w j = gP S w j := fun w j => by
    unfold gV gP gW
    rw [f9.2.1 19 (by decide), f8.2.1 19 (by decide)]
    exact ⟨rfl, rfl⟩
  have z34 : S9.2.1 34 = upd (S.2.1 34) (3 + k) (nI (3 * v)) := by
    rw [e9]
    show upd (S8.2.1 34) (3 + k) (nI (3 * v)) = _
    rw [f8.2.1 34 (by decide)]
  have r9 : RsR S9 s := (h2.of (f8.1 28 (by decide)) (f8.2.1 27 (by decide))).of (f9.1 28 (by decide)) (f9.2.1 27 (by decide))
  have ko : ∀ a, auxC (gK S0 c) a → gK S9 (o a) = gK S0 u := fun a ha => by rw [k9, updN_at, if_neg (fun q => vo a ha q.symm)]; exact (h6 a ha).1
  have kv : gK S9 v = gK S0 c := by rw [k9, updN_at, if_pos rfl]
  have cL9 : cntL 3010 (gK S9) = cntL 3010 (gK S) + 1 := by rw [k9]; exact cntL_new v1 v7 c5
  have cA9 : cntA 3010 (gK S9) = cntA 3010 (gK S) + 1 := by rw [k9, ← kk8]; exact c8
  obtain ⟨S11, r11, t1, t2, t3, t4, t5, -, t6, -, -, -⟩ := X8_wire (N := N) (a := o 1) (i := k) (b := v) (j := 1) g9 r9 (q1 1 a1).1 k3 v1 (by decide) (by omega)
  have r11s : r11 = s := t6 (by rw [ko 1 a1]; omega) (by rw [kv]; omega)
  subst r11s
  have k11 : gK S11 = gK S9 := by funext w; unfold gK; rw [t2.2.1 17 (by decide)]
  have x11 : gX S11 = gX S9 := by funext w; unfold gX; rw [t2.2.1 18 (by decide)]
  have w11 := mw_of t4
  have F11 : Fr S0 S11 [21, 22, 28] [17, 18, 19, 27, 34] := ((h3.trans (f8.mono (by decide) (by decide))).trans (f9.mono (fun _ h => (List.not_mem_nil h).elim) (by decide))).trans (t2.mono (by decide) (by decide))
  have z11 : S11.2.1 34 = upd (S.2.1 34) (3 + k) (nI (3 * v)) := by rw [t2.2.1 34 (by decide)]; exact z34
  have vo1 := vo 1 a1
  refine ⟨S8, v, S9, by rw [ex]; exact e8, v1, e9, S11, t1, fun n2 => ⟨?_, by rw [k11]; exact cA9, by rw [k11]; exact cL9⟩, fun c2 => ?_⟩
  · refine CI_fin k3 k0 h0 v1 vo vy v70 t3 t5 F11 z11 (k11.trans k9) (x11.trans x9) (fun a ha => ?_) (fun w j hj wv ho => ?_)
    · have a1' : a = 1 := ha.resolve_right (fun e => n2 e.1)
      subst a1'
      obtain ⟨b1, b2⟩ := w11 (o 1) k k3
      obtain ⟨b3, b4⟩ := w11 v 1 (by decide)
      rw [if_neg (fun q => vo1 q.1.symm), if_pos ⟨rfl, rfl⟩] at b1 b2
      rw [if_pos ⟨rfl, rfl⟩] at b3 b4
      exact ⟨⟨b1, b2⟩, ⟨b3, b4⟩⟩
    · obtain ⟨b1, b2⟩ := w11 w j hj
      rw [if_neg (fun q => wv q.1), if_neg (ho 1 a1)] at b1 b2
      exact ⟨b1.trans (w9 w j).1, b2.trans (w9 w j).2⟩
  · have a2 : auxC (gK S0 c) 2 := Or.inr ⟨c2, rfl⟩
    have vo2 := vo 2 a2
    have o12 : o 1 ≠ o 2 := fun q => absurd (q4 1 2 a1 a2 q) (by decide)
    obtain ⟨S15, r15, u1, u2, u3, u4, u5, -, u6, -, -, -⟩ := X8_wire (N := N) (a := o 2) (i := k) (b := v) (j := 2) t3 t5 (q1 2 a2).1 k3 v1 (by decide) (by omega)
    have r15s : r15 = r11 := u6 (by rw [k11, ko 2 a2]; omega) (by rw [k11, kv]; omega)
    subst r15s
    have k15 : gK S15 = gK S11 := by funext w; unfold gK; rw [u2.2.1 17 (by decide)]
    have x15 : gX S15 = gX S11 := by funext w; unfold gX; rw [u2.2.1 18 (by decide)]
    have w15 := mw_of u4
    refine ⟨S15, u1, CI_fin k3 k0 h0 v1 vo vy v70 u3 u5 (F11.trans (u2.mono (by decide) (by decide))) (by rw [u2.2.1 34 (by decide)]; exact z11) ((k15.trans k11).trans k9) ((x15.trans x11).trans x9) (fun a ha => ?_) (fun w j hj wv ho => ?_), by rw [k15, k11]; exact cA9, by rw [k15, k11]; exact cL9⟩
    · rcases ha with e | e
      · subst e
        obtain ⟨b1, b2⟩ := w11 (o 1) k k3
        obtain ⟨b3, b4⟩ := w11 v 1 (by decide)
        rw [if_neg (fun q => vo1 q.1.symm), if_pos ⟨rfl, rfl⟩] at b1 b2
        rw [if_pos ⟨rfl, rfl⟩] at b3 b4
        obtain ⟨d1, d2⟩ := w15 (o 1) k k3
        obtain ⟨d3, d4⟩ := w15 v 1 (by decide)
        rw [if_neg (fun q => vo1 q.1.symm), if_neg (fun q => o12 q.1)] at d1 d2
        rw [if_neg (fun q => absurd q.2 (by decide)), if_neg (fun q => vo2 q.1)] at d3 d4
        exact ⟨⟨d1.trans b1, d2.trans b2⟩, ⟨d3.trans b3, d4.trans b4⟩⟩
      · have e := e.2
        subst e
        obtain ⟨d1, d2⟩ := w15 (o 2) k k3
        obtain ⟨d3, d4⟩ := w15 v 2 (by decide)
        rw [if_neg (fun q => vo2 q.1.symm), if_pos ⟨rfl, rfl⟩] at d1 d2
        rw [if_pos ⟨rfl, rfl⟩] at d3 d4
        exact ⟨⟨d1, d2⟩, ⟨d3, d4⟩⟩
    · obtain ⟨b1, b2⟩ := w11 w j hj
      rw [if_neg (fun q => wv q.1), if_neg (ho 1 a1)] at b1 b2
      obtain ⟨d1, d2⟩ := w15 w j hj
      rw [if_neg (fun q => wv q.1), if_neg (ho 2 a2)] at d1 d2
      exact ⟨d1.trans (b1.trans (w9 w j).1), d2.trans (b2.trans (w9 w j).2)⟩
