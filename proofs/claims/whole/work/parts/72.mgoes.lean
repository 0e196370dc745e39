/-! the reference: new erasers at the ports of one that goes -/
theorem nI_m3 (v : Nat) : (3 : Int32) * nI v = nI (3 * v) := by rw [show (3 : Int32) = nI 3 from rfl, pk_mul]
theorem Gm_w {S S' : St} (h : S'.2.1 19 = S.2.1 19) : (Gm S').2.2 = (Gm S).2.2 := by
  have e : gW S' = gW S := by funext p; unfold gW; rw [h]
  have e1 : gV S' = gV S := by funext v k; unfold gV; rw [e]
  have e2 : gP S' = gP S := by funext v k; unfold gP; rw [e]
  show (gV S', gP S') = (gV S, gP S)
  rw [e1, e2]
def attL (N : Nat) : St → List (Nat × Nat) → Option St
  | S, [] => some S
  | S, t :: ts => bd2 (fX8_node N S (5 : Int32) (0 : Int32)) fun v2 S4 => bdo (fX8_wire N S4 ((3 : Int32) * v2) (nI (3 * t.1 + t.2))) fun S7 => attL N S7 ts
theorem X8_attL {N : Nat} (ts : List (Nat × Nat)) : ∀ (S : St) (r : Nat), GM S → RsR S r → cntA 3010 (gK S) + ts.length ≤ 3010 → r + 2 * ts.length ≤ 12000 → ts.Nodup → (∀ t ∈ ts, t.1 < 3010 ∧ t.2 < 3 ∧ gK S t.1 < 7) →
    ∃ (S' : St) (r' : Nat) (x : Nat × Nat → Nat), attL N S ts = some S' ∧ Fr S S' [21, 22, 28] [17, 18, 19, 27] ∧ GM S' ∧ RsR S' r' ∧ r' ≤ r + 2 * ts.length ∧ cntA 3010 (gK S') = cntA 3010 (gK S) + ts.length ∧ cntL 3010 (gK S') = cntL 3010 (gK S) ∧ (∀ y, Rm S y → Rm S' y) ∧
      (∀ t ∈ ts, x t < 3010 ∧ gK S (x t) = 7 ∧ gK S' (x t) = 5 ∧ gV S' (x t) 0 = t.1 ∧ gP S' (x t) 0 = t.2 ∧ gV S' t.1 t.2 = x t ∧ gP S' t.1 t.2 = 0 ∧ Rm S' (x t) ∧ (gK S t.1 = 5 → Rm S' t.1)) ∧
      (∀ w, (∀ t ∈ ts, w ≠ x t) → gK S' w = gK S w ∧ gX S' w = gX S w) ∧
      (∀ w k, k < 3 → (w, k) ∉ ts → (∀ t ∈ ts, w ≠ x t) → gV S' w k = gV S w k ∧ gP S' w k = gP S w k) := by
  induction ts with
  | nil =>
    intro S r hG hR _ _ _ _
    refine ⟨S, r, fun _ => 0, rfl, Fr.rf, hG, hR, ?_, ?_, rfl, fun _ h => h, fun _ h => (List.not_mem_nil h).elim, fun _ _ => ⟨rfl, rfl⟩, fun _ _ _ _ _ => ⟨rfl, rfl⟩⟩
    · rw [List.length_nil]; omega
    · rw [List.length_nil, Nat.add_zero]
  | cons t ts ih =>
    intro S r hG hR hc hr hn ht
    have hlen : (t :: ts).length = ts.length + 1 := rfl
    rw [hlen] at hc hr
    obtain ⟨t1, t2, t3⟩ := ht t (List.mem_cons_self ..)
    obtain ⟨hnt, hn2⟩ := List.nodup_cons.mp hn
    obtain ⟨v, S4, e4, v1, v7, f4, g4, k4, x4, c4⟩ := X8_node (N := N) (k := 5) (x := 0) hG (by omega) (by decide) (by decide)
    have r4 : RsR S4 r := hR.of (f4.1 28 (by decide)) (f4.2.1 27 (by decide))
    obtain ⟨S7, r7, e7, f7, g7, w7, q7, l7, -, m7, a7, b7⟩ := X8_wire (N := N) (a := v) (i := 0) (b := t.1) (j := t.2) g4 r4 v1 (by decide) t1 t2 (by omega)
    have k7 : gK S7 = gK S4 := by funext w; unfold gK; rw [f7.2.1 17 (by decide)]
    have x7 : gX S7 = gX S4 := by funext w; unfold gX; rw [f7.2.1 18 (by decide)]
    have gm4 : (Gm S4).2.2 = (Gm S).2.2 := Gm_w (f4.2.1 19 (by decide))
    have vt : v ≠ t.1 := fun e => by rw [e] at v7; omega
    have w7' : ∀ w k, k < 3 → gV S7 w k = (if w = t.1 ∧ k = t.2 then v else if w = v ∧ k = 0 then t.1 else gV S w k) ∧ gP S7 w k = (if w = t.1 ∧ k = t.2 then 0 else if w = v ∧ k = 0 then t.2 else gP S w k) := by
      intro w k hk
      have := w7 w k hk
      rw [gm4] at this
      exact this
    have up : ∀ u, u ≠ v → gK S7 u = gK S u := fun u hu => by rw [k7, k4, updN_at, if_neg hu]
    have ht' : ∀ t ∈ ts, t.1 < 3010 ∧ t.2 < 3 ∧ gK S7 t.1 < 7 := fun s hs => by
      obtain ⟨a, b, c⟩ := ht s (List.mem_cons_of_mem _ hs)
      refine ⟨a, b, ?_⟩
      rw [up _ (fun e => by rw [e] at c; omega)]
      exact c
    have c7 : cntA 3010 (gK S7) = cntA 3010 (gK S) + 1 := by rw [k7]; exact c4
    have cl7 : cntL 3010 (gK S7) = cntL 3010 (gK S) := by rw [k7, k4]; exact cntL_other v1 (by omega) (by omega)
    obtain ⟨S', r', x, e', f', g', q', l', c', cl', m', a', b', d'⟩ := ih S7 r7 g7 q7 (by omega) (by omega) hn2 ht'
    have xv : ∀ s ∈ ts, x s ≠ v := fun s hs e => by
      have := (a' s hs).2.1
      rw [e, k7, k4, updN_at, if_pos rfl] at this
      omega
    refine ⟨S', r', fun s => if s = t then v else x s, ?_, ?_, g', q', by rw [hlen]; omega, by rw [hlen]; omega, cl'.trans cl7, fun y hy => m' y (m7 y (by rw [Rm.of (f4.1 28 (by decide)) (f4.2.1 27 (by decide))]; exact hy)), fun s hs => ?_, fun w hw => ?_, fun w k hk hwk hw => ?_⟩
    · show (bd2 (fX8_node N S (nI 5) (nI 0)) fun v2 S4 => bdo (fX8_wire N S4 ((3 : Int32) * v2) (nI (3 * t.1 + t.2))) fun S7 => attL N S7 ts) = some S'
      have e7 : fX8_wire N S4 (nI (3 * v)) (nI (3 * t.1 + t.2)) = some S7 := e7
      rw [bd2_ok e4, nI_m3, bdo_ok e7, e']
    · exact (f4.mono (by decide) (by decide)).trans ((f7.mono (by decide) (by decide)).trans f')
    · by_cases c : s = t
      · subst c
        have nv : ∀ s' ∈ ts, v ≠ x s' := fun s' hs' e => xv s' hs' e.symm
        obtain ⟨b1, b2⟩ := b' v nv
        obtain ⟨d1, d2⟩ := d' v 0 (by decide) (fun hm => by
          have := (ht' _ hm).2.2
          have kv : gK S7 v = 5 := by rw [k7, k4, updN_at, if_pos rfl]
          obtain ⟨-, -, e3⟩ := ht _ (List.mem_cons_of_mem _ hm)
          have e3 : gK S v < 7 := e3
          omega) nv
        have nt : ∀ s' ∈ ts, s.1 ≠ x s' := fun s' hs' e => by
          have := (a' s' hs').2.1
          rw [← e, up _ (fun q => vt q.symm)] at this
          omega
        obtain ⟨d3, d4⟩ := d' s.1 s.2 t2 hnt nt
        obtain ⟨w1, w2⟩ := w7' v 0 (by decide)
        obtain ⟨w3, w4⟩ := w7' s.1 s.2 t2
        rw [if_neg (fun q => vt q.1), if_pos ⟨rfl, rfl⟩] at w1 w2
        rw [if_pos ⟨rfl, rfl⟩] at w3 w4
        dsimp only
        rw [if_pos rfl]
        refine ⟨v1, v7, by rw [b1, k7, k4, updN_at, if_pos rfl], d1.trans w1, d2.trans w2, d3.trans w3, d4.trans w4, m' _ (a7 (by rw [k4, updN_at, if_pos rfl])), fun q => m' _ (b7 (by rw [k4, updN_at, if_neg (fun e => vt e.symm)]; exact q))⟩
      · have hs : s ∈ ts := (List.mem_cons.mp hs).resolve_left c
        dsimp only
        rw [if_neg c]
        obtain ⟨y1, y2, y3, y4, y5, y6, y7, y8, y9⟩ := a' s hs
        have s3 := (ht s (List.mem_cons_of_mem _ hs)).2.2
        have sv : s.1 ≠ v := fun e => by rw [e] at s3; omega
        rw [up _ (xv s hs)] at y2
        rw [up _ sv] at y9
        exact ⟨y1, y2, y3, y4, y5, y6, y7, y8, y9⟩
    · have n1 : w ≠ v := by
        have := hw t (List.mem_cons_self ..)
        dsimp only at this
        rw [if_pos rfl] at this
        exact this
      have n2 : ∀ s ∈ ts, w ≠ x s := fun s hs => by
        have := hw s (List.mem_cons_of_mem _ hs)
        dsimp only at this
        rw [if_neg (fun e => hnt (by rw [← e]; exact hs))] at this
        exact this
      obtain ⟨b1, b2⟩ := b' w n2
      exact ⟨b1.trans (up w n1), by rw [b2, x7, x4, updN_at, if_neg n1]⟩
    · have n1 : w ≠ v := by
        have := hw t (List.mem_cons_self ..)
        dsimp only at this
        rw [if_pos rfl] at this
        exact this
      have n2 : ∀ s ∈ ts, w ≠ x s := fun s hs => by
        have := hw s (List.mem_cons_of_mem _ hs)
        dsimp only at this
        rw [if_neg (fun e => hnt (by rw [← e]; exact hs))] at this
        exact this
      obtain ⟨d1, d2⟩ := d' w k hk (fun hm => hwk (List.mem_cons_of_mem _ hm)) n2
      obtain ⟨w1, w2⟩ := w7' w k hk
      have z1 : ¬ (w = t.1 ∧ k = t.2) := fun q => hwk (by rw [q.1, q.2]; exact List.mem_cons_self ..)
      rw [if_neg z1, if_neg (fun q => n1 q.1)] at w1 w2
      exact ⟨d1.trans w1, d2.trans w2⟩
/-! the ports where erasers must be put -/
def iN : Option (Nat × Nat) → Int32
  | none => -1
  | some p => nI (3 * p.1 + p.2)
def pq (X : Nat → Option (Nat × Nat)) : Nat → Option (Nat × Nat) × Option (Nat × Nat)
  | 0 => (none, none)
  | k + 1 => match X k with
    | none => pq X k
    | some y => (some y, (pq X k).1)
def ol (a : Option (Nat × Nat)) (b : Option (Nat × Nat)) : List (Nat × Nat) := a.toList ++ b.toList
theorem pq_1 {X : Nat → Option (Nat × Nat)} : ∀ (n : Nat), ((pq X n).1 = none → (pq X n).2 = none) ∧ (∀ y, (pq X n).1 = some y → ∃ j, j < n ∧ X j = some y) ∧ (∀ y z, (pq X n).1 = some y → (pq X n).2 = some z → ∃ i j, i < n ∧ j < n ∧ i ≠ j ∧ X i = some y ∧ X j = some z)
  | 0 => ⟨(fun _ => rfl), (fun _ h => nomatch h), (fun _ _ h _ => nomatch h)⟩
  | n + 1 => by
    obtain ⟨h1, h2, h3⟩ := pq_1 (X := X) n
    cases e : X n with
    | none =>
      have eq : pq X (n + 1) = pq X n := by show (match X n with | none => pq X n | some y => (some y, (pq X n).1)) = _; rw [e]
      rw [eq]
      refine ⟨h1, fun y hy => ?_, fun y z hy hz => ?_⟩
      · obtain ⟨j, a, b⟩ := h2 y hy
        exact ⟨j, by omega, b⟩
      · obtain ⟨i, j, a, b, c⟩ := h3 y z hy hz
        exact ⟨i, j, by omega, by omega, c⟩
    | some w =>
      have eq : pq X (n + 1) = (some w, (pq X n).1) := by show (match X n with | none => pq X n | some y => (some y, (pq X n).1)) = _; rw [e]
      rw [eq]
      refine ⟨(fun h => nomatch h), fun y hy => ⟨n, by omega, e.trans hy⟩, fun y z hy hz => ?_⟩
      obtain ⟨j, a, b⟩ := h2 z hz
      exact ⟨n, j, by omega, by omega, by omega, e.trans hy, b⟩
theorem pq_2 {X : Nat → Option (Nat × Nat)} {n : Nat} (hn : n ≤ 3) (h0 : ∃ j, j < n ∧ X j = none) {j : Nat} {y : Nat × Nat} (hj : j < n) (hy : X j = some y) : y ∈ ol (pq X n).1 (pq X n).2 := by
  obtain ⟨i, hi, ei⟩ := h0
  have cs : n = 1 ∨ n = 2 ∨ n = 3 := by omega
  rcases cs with rfl | rfl | rfl
  · have : i = j := by omega
    rw [this, hy] at ei
    cases ei
  · have c2 : (i = 0 ∧ j = 1) ∨ (i = 1 ∧ j = 0) := by
      by_cases q : i = j
      · rw [q, hy] at ei; cases ei
      · omega
    rcases c2 with ⟨rfl, rfl⟩ | ⟨rfl, rfl⟩ <;> simp [pq, ol, ei, hy]
  · have qq : i ≠ j := fun q => by rw [q, hy] at ei; cases ei
    have c3 : (i = 0 ∧ j = 1) ∨ (i = 0 ∧ j = 2) ∨ (i = 1 ∧ j = 0) ∨ (i = 1 ∧ j = 2) ∨ (i = 2 ∧ j = 0) ∨ (i = 2 ∧ j = 1) := by omega
    rcases c3 with ⟨rfl, rfl⟩ | ⟨rfl, rfl⟩ | ⟨rfl, rfl⟩ | ⟨rfl, rfl⟩ | ⟨rfl, rfl⟩ | ⟨rfl, rfl⟩
    · cases h2 : X 2 <;> simp [pq, ol, ei, hy, h2]
    · cases h2 : X 1 <;> simp [pq, ol, ei, hy, h2]
    · cases h2 : X 2 <;> simp [pq, ol, ei, hy, h2]
    · cases h2 : X 0 <;> simp [pq, ol, ei, hy, h2]
    · cases h2 : X 1 <;> simp [pq, ol, ei, hy, h2]
    · cases h2 : X 0 <;> simp [pq, ol, ei, hy, h2]
def awy (m k : Nat) : Prop := m / 2 ^ k % 2 = 1
theorem awy_i : ∀ m, m < 8 → ∀ k, k < 3 → ((((nI m >>> (nI k &&& 31)) &&& (1 : Int32)) = (1 : Int32)) ↔ m / 2 ^ k % 2 = 1) := by decide +kernel
theorem shl_i : ∀ k, k < 3 → ((1 : Int32) <<< (nI k &&& 31)) = nI (2 ^ k) := by decide +kernel
theorem X8_ports {S : St} {v : Nat} (hg : GOk S) (hv : v < 3010) (h7 : gK S v < 7) : fX8_ports (S.2.1 17 v) = some (nI (nP (gK S v))) := by
  rw [(hg.1 v hv).1]
  have : ∀ k, k < 7 → fX8_ports (nI k) = some (nI (nP k)) := by decide +kernel
  exact this _ h7
/-- which ports are to have one -/
noncomputable def pX (S : St) (v m k : Nat) : Option (Nat × Nat) := @ite _ (awy m k ∨ gV S v k = v) (Classical.propDecidable _) none (some (gV S v k, gP S v k))
def goFin (N : Nat) (S : St) (v : Nat) (p q : Option (Nat × Nat)) : Option St :=
  bdo (fX8_free N S (nI v)) fun S4 => bnd (sI S4 26 (S4.1 26 + 1)) fun S5 => attL N S5 (ol p q)
theorem iN_neg (p : Option (Nat × Nat)) (hp : ∀ y, p = some y → 3 * y.1 + y.2 < 2 ^ 31) : (p = none → iN p < 0) ∧ (∀ y, p = some y → ¬ iN p < 0) := by
  refine ⟨fun h => by rw [h]; decide, fun y h => ?_⟩
  have := hp y h
  rw [h]
  exact nI_pos this
theorem X8_goLp {N v m : Nat} {S : St} (hg : GOk S) (hv : v < 3010) (hm : m < 8) {n : Nat} (hn : n ≤ 3) : ∀ (d k f : Nat), k + d = n → d < f → loopN (fun k x => fX8_goes_19s N k x.1 x.2.1 x.2.2.1 x.2.2.2.1 x.2.2.2.2.1 x.2.2.2.2.2.1 x.2.2.2.2.2.2) f (S, nI v, nI m, nI n, iN (pq (pX S v m) k).1, iN (pq (pX S v m) k).2, nI k) = goFin N S v (pq (pX S v m) n).1 (pq (pX S v m) n).2 := by
  have bd : ∀ k, k ≤ 3 → ∀ y, ((pq (pX S v m) k).1 = some y ∨ (pq (pX S v m) k).2 = some y) → 3 * y.1 + y.2 < 2 ^ 31 := by
    intro k hk y hy
    have hX : ∃ j, j < k ∧ pX S v m j = some y := by
      obtain ⟨h1, h2, h3⟩ := pq_1 (X := pX S v m) k
      rcases hy with hy | hy
      · exact h2 y hy
      · cases e : (pq (pX S v m) k).1 with
        | none => rw [h1 e] at hy; cases hy
        | some z =>
          obtain ⟨i, j, a, b, -, c, d⟩ := h3 z y e hy
          exact ⟨j, b, d⟩
    obtain ⟨j, hj, ej⟩ := hX
    unfold pX at ej
    by_cases c : awy m j ∨ gV S v j = v
    · rw [if_pos c] at ej; cases ej
    · rw [if_neg c] at ej
      injection ej with ej
      rw [← ej]
      have := (hg.2 (3 * v + j) (by omega)).2
      show 3 * (gW S (3 * v + j) / 3) + gW S (3 * v + j) % 3 < 2 ^ 31
      omega
  intro d
  induction d with
  | zero =>
    intro k f hk hf
    obtain ⟨f, rfl⟩ : ∃ f', f = f' + 1 := ⟨f - 1, by omega⟩
    have hk : k = n := by omega
    subst hk
    show fX8_goes_19s N _ S (nI v) (nI m) (nI k) _ _ (nI k) = _
    unfold fX8_goes_19s goFin
    rw [if_pos (nI_le (Nat.le_refl _) (by omega))]
    congr 1
    funext S4
    rw [bnd_eq, bnd_eq]
    obtain ⟨h1, h2, h3⟩ := pq_1 (X := pX S v m) k
    cases e1 : (pq (pX S v m) k).1 with
    | none =>
      rw [h1 e1, if_pos (show iN none < 0 by decide)]
      unfold fX8_goes_137
      rw [if_pos (show iN none < 0 by decide)]
      rfl
    | some y =>
      have b1 := bd k hn y (Or.inl e1)
      rw [if_neg (show ¬ iN (some y) < 0 from nI_pos b1)]
      cases e2 : (pq (pX S v m) k).2 with
      | none =>
        unfold fX8_goes_137
        show (bd2 _ fun v7 S9 => bdo _ fun S12 => if iN none < 0 then some S12 else _) = _
        rfl
      | some z =>
        have b2 := bd k hn z (Or.inr e2)
        show (bd2 _ fun v7 S9 => bdo _ fun S12 => fX8_goes_137 N S12 (iN (some z))) = _
        have : ∀ S12, fX8_goes_137 N S12 (iN (some z)) = attL N S12 [z] := fun S12 => by
          unfold fX8_goes_137
          rw [if_neg (show ¬ iN (some z) < 0 from nI_pos b2)]
          rfl
        rw [show (fun (v7 : Int32) (S9 : St) => bdo (fX8_wire N S9 (3 * v7) (iN (some y))) fun S12 => fX8_goes_137 N S12 (iN (some z))) = (fun (v7 : Int32) (S9 : St) => bdo (fX8_wire N S9 (3 * v7) (iN (some y))) fun S12 => attL N S12 [z]) from funext fun _ => funext fun _ => congrArg _ (funext this)]
        rfl
  | succ d ih =>
    intro k f hk hf
    obtain ⟨f, rfl⟩ : ∃ f', f = f' + 1 := ⟨f - 1, by omega⟩
    have ih := ih (k + 1) f (by omega) (by omega)
    obtain ⟨p1, p2⟩ := hg.2 (3 * v + k) (by omega)
    show fX8_goes_19s N _ S (nI v) (nI m) (nI n) _ _ (nI k) = _
    unfold fX8_goes_19s
    rw [if_neg (fun q => absurd ((nI_leI (by omega) (by omega)).mp q) (by omega))]
    have none_case : pX S v m k = none → fX8_goes_52 N (loopN (fun k x => fX8_goes_19s N k x.1 x.2.1 x.2.2.1 x.2.2.2.1 x.2.2.2.2.1 x.2.2.2.2.2.1 x.2.2.2.2.2.2) f) S (nI v) (nI m) (nI n) (iN (pq (pX S v m) k).1) (iN (pq (pX S v m) k).2) (nI k) = goFin N S v (pq (pX S v m) n).1 (pq (pX S v m) n).2 := by
      intro e
      have eq : pq (pX S v m) (k + 1) = pq (pX S v m) k := by show (match pX S v m k with | none => pq (pX S v m) k | some y => (some y, (pq (pX S v m) k).1)) = _; rw [e]
      unfold fX8_goes_52 fX8_goes_67 fX8_goes_81 fX8_goes_95
      rw [if_pos (show (-1 : Int32) < 0 by decide), if_pos (show (-1 : Int32) < 0 by decide), bnd_eq, nI_1]
      rw [eq] at ih
      exact ih
    by_cases c1 : awy m k
    · rw [if_pos ((awy_i m hm k (by omega)).mpr c1)]
      exact none_case (by unfold pX; rw [if_pos (Or.inl c1)])
    · rw [if_neg (fun q => c1 ((awy_i m hm k (by omega)).mp q)), nI_m3, nI_add, ckx_ok (vp_in_nI (by omega) (by omega)), nI_clamp (by omega), p1, show (3 : Int32) = nI 3 from rfl, pk_div (by omega) (by omega) (by omega)]
      by_cases c2 : gV S v k = v
      · rw [if_pos (show nI (gW S (3 * v + k) / 3) = nI v from congrArg nI c2)]
        exact none_case (by unfold pX; rw [if_pos (Or.inr c2)])
      · have lt : gW S (3 * v + k) / 3 < 2 ^ 31 := by omega
        rw [if_neg (fun q => c2 ((nI_eq lt (by omega)).mp q)), ckx_ok (vp_in_nI (by omega) (by omega))]
        have e : pX S v m k = some (gV S v k, gP S v k) := by unfold pX; rw [if_neg (fun q => q.elim c1 c2)]
        have eq : pq (pX S v m) (k + 1) = (some (gV S v k, gP S v k), (pq (pX S v m) k).1) := by show (match pX S v m k with | none => pq (pX S v m) k | some y => (some y, (pq (pX S v m) k).1)) = _; rw [e]
        rw [eq] at ih
        unfold fX8_goes_67 fX8_goes_81 fX8_goes_95
        rw [if_neg (nI_pos (show gW S (3 * v + k) < 2 ^ 31 by omega)), if_neg (nI_pos (show gW S (3 * v + k) < 2 ^ 31 by omega)), bnd_eq, nI_1]
        have ew : iN (some (gV S v k, gP S v k)) = nI (gW S (3 * v + k)) := by
          show nI (3 * (gW S (3 * v + k) / 3) + gW S (3 * v + k) % 3) = _
          rw [show 3 * (gW S (3 * v + k) / 3) + gW S (3 * v + k) % 3 = gW S (3 * v + k) by omega]
        rw [← ew]
        exact ih
