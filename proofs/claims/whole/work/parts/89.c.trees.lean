/-! the class's trees -/
def tF (S : St) (k : Nat) : Nat := (S.2.1 100 k).toNatClampNeg
def tA (S : St) (k : Nat) : Nat := (S.2.1 101 k).toNatClampNeg
def tB (S : St) (k : Nat) : Nat := (S.2.1 102 k).toNatClampNeg
def bk (f a b : Nat) : Nat := (f * 1009 + a * 31 + b * 577) % 4096
def bkt (S : St) (k : Nat) : Nat := bk (tF S k) (tA S k) (tB S k)
/-- the newest below m in a bucket -/
def prv (S : St) (g : Nat) : Nat → Nat
  | 0 => 0
  | m + 1 => if 0 < m ∧ bkt S m = g then m else prv S g m
theorem prv_s (S : St) (g m : Nat) : prv S g (m + 1) = if 0 < m ∧ bkt S m = g then m else prv S g m := rfl
theorem prv_in {S : St} {g : Nat} : ∀ m, (prv S g m = 0 ∨ (0 < prv S g m ∧ prv S g m < m ∧ bkt S (prv S g m) = g)) ∧ ∀ k, 0 < k → k < m → bkt S k = g → k ≤ prv S g m
  | 0 => ⟨Or.inl rfl, fun k _ h => absurd h (Nat.not_lt_zero _)⟩
  | m + 1 => by
    obtain ⟨h1, h2⟩ := prv_in (S := S) (g := g) m
    rw [prv_s]
    by_cases c : 0 < m ∧ bkt S m = g
    · rw [if_pos c]
      exact ⟨Or.inr ⟨c.1, by omega, c.2⟩, fun k _ hk _ => by omega⟩
    · rw [if_neg c]
      refine ⟨h1.imp id (fun q => ⟨q.1, by omega, q.2.2⟩), fun k k0 hk e => ?_⟩
      by_cases z : k = m
      · subst z; exact absurd ⟨k0, e⟩ c
      · exact h2 k k0 (by omega) e
theorem prv_le {S : St} {g m : Nat} : prv S g m ≤ m := by
  rcases (prv_in (S := S) (g := g) m).1 with h | h <;> omega
theorem prv_congr {S S' : St} {g : Nat} : ∀ m, (∀ k, 0 < k → k < m → bkt S' k = bkt S k) → prv S' g m = prv S g m
  | 0, _ => rfl
  | m + 1, h => by
    rw [prv_s, prv_s, prv_congr m (fun k k0 hk => h k k0 (by omega))]
    by_cases c : 0 < m
    · rw [h m c (by omega)]
    · rw [if_neg (fun q => c q.1), if_neg (fun q => c q.1)]
def TrC (S : St) (n : Nat) : Prop := S.1 105 = nI n ∧ 0 < n ∧ n ≤ 4002 ∧
  (∀ k, 0 < k → k < n → S.2.1 100 k = nI (tF S k) ∧ S.2.1 101 k = nI (tA S k) ∧ S.2.1 102 k = nI (tB S k) ∧ 1 ≤ tF S k ∧ tF S k ≤ 3 ∧ tA S k < k ∧ tB S k < k ∧ S.2.1 103 k = nI (prv S (bkt S k) k)) ∧
  (∀ g, g < 4096 → S.2.1 104 g = nI (prv S g n)) ∧ (∀ i j, 0 < i → i < n → 0 < j → j < n → tF S i = tF S j → tA S i = tA S j → tB S i = tB S j → i = j)
theorem TrC.of {S S' : St} {n : Nat} (h : TrC S n) (h105 : S'.1 105 = S.1 105) (h100 : S'.2.1 100 = S.2.1 100) (h101 : S'.2.1 101 = S.2.1 101) (h102 : S'.2.1 102 = S.2.1 102) (h103 : S'.2.1 103 = S.2.1 103) (h104 : S'.2.1 104 = S.2.1 104) : TrC S' n := by
  have e1 : tF S' = tF S := by funext k; unfold tF; rw [h100]
  have e2 : tA S' = tA S := by funext k; unfold tA; rw [h101]
  have e3 : tB S' = tB S := by funext k; unfold tB; rw [h102]
  have e4 : bkt S' = bkt S := by funext k; unfold bkt; rw [e1, e2, e3]
  have e5 : ∀ g m, prv S' g m = prv S g m := fun g m => prv_congr m (fun k _ _ => by rw [e4])
  unfold TrC
  simp only [e1, e2, e3, e4, e5, h105, h100, h101, h102, h103, h104]
  exact h
theorem bk_i {f a b : Nat} (hf : f ≤ 3) (ha : a < 4002) (hb : b < 4002) : fX5_bucketOf (nI f) (nI a) (nI b) = some (nI (bk f a b)) ∧ bk f a b < 4096 := by
  refine ⟨?_, Nat.mod_lt _ (by decide)⟩
  unfold fX5_bucketOf bk
  rw [show (1009 : Int32) = nI 1009 from rfl, show (31 : Int32) = nI 31 from rfl, show (577 : Int32) = nI 577 from rfl, pk_mul, pk_mul, pk_mul, nI_add, nI_add, pk_andN (by omega) 12 (by decide)]
theorem X5_form {S : St} {N n k : Nat} (h : TrC S n) (hk : k < n) : fX5_form N S (nI k) = some (nI (if k = 0 then 0 else tF S k), S) ∧ fX5_left N S (nI k) = some (nI (if k = 0 then 0 else tA S k), S) ∧ fX5_right N S (nI k) = some (nI (if k = 0 then 0 else tB S k), S) := by
  obtain ⟨h1, h2, h3, h4, -, -⟩ := h
  unfold fX5_form fX5_left fX5_right
  by_cases c : k = 0
  · subst c
    rw [if_pos (show nI 0 ≤ 0 by decide), if_pos (show nI 0 ≤ 0 by decide), if_pos (show nI 0 ≤ 0 by decide), if_pos rfl]
    exact ⟨rfl, rfl, rfl⟩
  · obtain ⟨a1, a2, a3, -⟩ := h4 k (by omega) hk
    have z1 : ¬ nI k ≤ 0 := nI_nle (by omega) (by omega)
    have z2 : ¬ S.1 105 ≤ nI k := by rw [h1]; exact fun q => absurd ((nI_leI (by omega) (by omega)).mp q) (by omega)
    rw [if_neg z1, if_neg z2, if_neg z1, if_neg z2, if_neg z1, if_neg z2, ckx_ok (vp_in_nI (by omega) (by omega)), ckx_ok (vp_in_nI (by omega) (by omega)), ckx_ok (vp_in_nI (by omega) (by omega)), nI_clamp (by omega), a1, a2, a3, if_neg c, if_neg c, if_neg c]
    exact ⟨rfl, rfl, rfl⟩
/-- the same trees, and perhaps one more -/
def TExt (S S' : St) (n : Nat) : Prop := ∀ k, k < n → tF S' k = tF S k ∧ tA S' k = tA S k ∧ tB S' k = tB S k
theorem X5_add {S : St} {N n f a b : Nat} (h : TrC S n) (hn : n < 4002) (hf : 1 ≤ f ∧ f ≤ 3) (ha : a < n) (hb : b < n) (hnew : ∀ k, 0 < k → k < n → ¬ (tF S k = f ∧ tA S k = a ∧ tB S k = b)) : ∃ S', fX5_add N S (nI (bk f a b)) (nI f) (nI a) (nI b) = some (nI n, S') ∧ Fr S S' [105] [100, 101, 102, 103, 104] ∧ TrC S' (n + 1) ∧ tF S' n = f ∧ tA S' n = a ∧ tB S' n = b ∧ TExt S S' n := by
  obtain ⟨h1, h2, h3, h4, h5, h6⟩ := h
  obtain ⟨-, hg⟩ := bk_i hf.2 (show a < 4002 by omega) (show b < 4002 by omega)
  obtain ⟨g, eg⟩ : ∃ g, g = bk f a b := ⟨_, rfl⟩
  rw [← eg] at hg ⊢
  unfold fX5_add
  rw [h1, show (4002 : Int32) = nI 4002 from rfl, if_neg (fun q => absurd ((nI_leI (by omega) (by omega)).mp q) (by omega)), if_neg (nI_pos (by omega)), show (4096 : Int32) = nI 4096 from rfl, if_pos (nI_lt hg (by omega)), bnd_eq, ckx_ok (vp_in_nI (by omega) (by omega)), bnd_eq, ckx_ok (vp_in_nI (by omega) (by omega)), bnd_eq, ckx_ok (vp_in_nI (by omega) (by omega)), bnd_eq, ckx_ok (vp_in_nI (by omega) (by omega)), ckx_ok (vp_in_nI (by omega) (by omega)), bnd_eq, ckx_ok (vp_in_nI (by omega) (by omega)), bnd_eq, bnd_eq, nI_clamp (show n < 2 ^ 31 by omega), nI_clamp (show g < 2 ^ 31 by omega)]
  obtain ⟨S8, e8⟩ : ∃ z : St, z = (fun S6 : St => (fun S8 : St => (fun S10 : St => (fun S13 : St => (fun S15 : St => sI S15 105 (S15.1 105 + 1)) (sA S13 104 (upd (S13.2.1 104) g (nI n)))) (sA S10 103 (upd (S10.2.1 103) n (S10.2.1 104 g)))) (sA S8 102 (upd (S8.2.1 102) n (nI b)))) (sA S6 101 (upd (S6.2.1 101) n (nI a)))) (sA S 100 (upd (S.2.1 100) n (nI f))) := ⟨_, rfl⟩
  have f8 : Fr S S8 [105] [100, 101, 102, 103, 104] := by
    rw [e8]
    exact (((((Fr.A (by decide)).trans (Fr.A (by decide))).trans (Fr.A (by decide))).trans (Fr.A (by decide))).trans (Fr.A (by decide))).trans (Fr.I (by decide))
  have z100 : S8.2.1 100 = upd (S.2.1 100) n (nI f) := by rw [e8]; rfl
  have z101 : S8.2.1 101 = upd (S.2.1 101) n (nI a) := by rw [e8]; rfl
  have z102 : S8.2.1 102 = upd (S.2.1 102) n (nI b) := by rw [e8]; rfl
  have z103 : S8.2.1 103 = upd (S.2.1 103) n (S.2.1 104 g) := by rw [e8]; rfl
  have z104 : S8.2.1 104 = upd (S.2.1 104) g (nI n) := by rw [e8]; rfl
  have z105 : S8.1 105 = nI (n + 1) := by
    rw [e8]
    show S.1 105 + 1 = _
    rw [h1, nI_1]
  have nF : tF S8 n = f := by unfold tF; rw [z100, upd_at, if_pos rfl, nI_clamp (by omega)]
  have nA' : tA S8 n = a := by unfold tA; rw [z101, upd_at, if_pos rfl, nI_clamp (by omega)]
  have nB : tB S8 n = b := by unfold tB; rw [z102, upd_at, if_pos rfl, nI_clamp (by omega)]
  have ext : ∀ k, k ≠ n → tF S8 k = tF S k ∧ tA S8 k = tA S k ∧ tB S8 k = tB S k := fun k hk => by
    unfold tF tA tB
    rw [z100, z101, z102, upd_at, upd_at, upd_at, if_neg hk, if_neg hk, if_neg hk]
    exact ⟨rfl, rfl, rfl⟩
  have nb : bkt S8 n = g := by unfold bkt; rw [nF, nA', nB, eg]
  have bo : ∀ k, k ≠ n → bkt S8 k = bkt S k := fun k hk => by
    obtain ⟨a1, a2, a3⟩ := ext k hk
    unfold bkt; rw [a1, a2, a3]
  have pc : ∀ g' m, m ≤ n → prv S8 g' m = prv S g' m := fun g' m hm => prv_congr m (fun k _ hk => bo k (by omega))
  refine ⟨S8, by rw [e8], f8, ⟨z105, by omega, by omega, fun k k0 hk => ?_, fun g' hg' => ?_, fun i j i0 hi j0 hj e1 e2 e3 => ?_⟩, nF, nA', nB, fun k hk => ext k (by omega)⟩
  · by_cases c : k = n
    · subst c
      rw [z100, z101, z102, z103, upd_at, upd_at, upd_at, upd_at, if_pos rfl, if_pos rfl, if_pos rfl, if_pos rfl, nF, nA', nB, nb, pc g k (Nat.le_refl _)]
      exact ⟨rfl, rfl, rfl, hf.1, hf.2, ha, hb, h5 g hg⟩
    · obtain ⟨a1, a2, a3⟩ := ext k c
      rw [z100, z101, z102, z103, upd_at, upd_at, upd_at, upd_at, if_neg c, if_neg c, if_neg c, if_neg c, a1, a2, a3, bo k c, pc _ k (by omega)]
      exact h4 k k0 (by omega)
  · rw [z104, upd_at, prv_s, nb]
    by_cases c : g' = g
    · rw [if_pos c, if_pos ⟨h2, c.symm⟩]
    · rw [if_neg c, if_neg (fun q => c q.2.symm), pc g' n (Nat.le_refl _)]
      exact h5 g' hg'
  · by_cases c : i = n
    · by_cases d : j = n
      · omega
      · obtain ⟨a1, a2, a3⟩ := ext j d
        rw [c, nF, a1] at e1
        rw [c, nA', a2] at e2
        rw [c, nB, a3] at e3
        exact absurd ⟨e1.symm, e2.symm, e3.symm⟩ (hnew j j0 (by omega))
    · obtain ⟨a1, a2, a3⟩ := ext i c
      by_cases d : j = n
      · rw [d, nF, a1] at e1
        rw [d, nA', a2] at e2
        rw [d, nB, a3] at e3
        exact absurd ⟨e1, e2, e3⟩ (hnew i i0 (by omega))
      · obtain ⟨b1, b2, b3⟩ := ext j d
        rw [a1, b1] at e1
        rw [a2, b2] at e2
        rw [a3, b3] at e3
        exact h6 i j i0 (by omega) j0 (by omega) e1 e2 e3
theorem X5_tree {S : St} {N n f a b : Nat} (hN : Big N) (h : TrC S n) (hn : n < 4002) (hf : 1 ≤ f ∧ f ≤ 3) (ha : a < n) (hb : b < n) : ∃ k S' n', fX5_tree N S (nI f) (nI a) (nI b) = some (nI k, S') ∧ Fr S S' [105] [100, 101, 102, 103, 104] ∧ TrC S' n' ∧ n ≤ n' ∧ n' ≤ n + 1 ∧ 0 < k ∧ k < n' ∧ tF S' k = f ∧ tA S' k = a ∧ tB S' k = b ∧ TExt S S' n := by
  obtain ⟨h1, h2, h3, h4, h5, h6⟩ := id h
  obtain ⟨bi, hg⟩ := bk_i hf.2 (show a < 4002 by omega) (show b < 4002 by omega)
  have hbN := hN
  unfold Big at hbN
  obtain ⟨g, eg⟩ : ∃ g, g = bk f a b := ⟨_, rfl⟩
  rw [← eg] at bi hg
  unfold fX5_tree
  rw [bdo_ok bi, ckx_ok (vp_in_nI (by omega) (by omega)), bnd_eq, nI_clamp (by omega), h5 g hg, bnd_eq]
  -- the search
  have add : (∀ k, 0 < k → k < n → ¬ (tF S k = f ∧ tA S k = a ∧ tB S k = b)) → ∃ k S' n', fX5_tree_94 N S (nI f) (nI a) (nI b) (nI g) = some (nI k, S') ∧ Fr S S' [105] [100, 101, 102, 103, 104] ∧ TrC S' n' ∧ n ≤ n' ∧ n' ≤ n + 1 ∧ 0 < k ∧ k < n' ∧ tF S' k = f ∧ tA S' k = a ∧ tB S' k = b ∧ TExt S S' n := by
    intro hnew
    obtain ⟨S', q1, q2, q3, q4, q5, q6, q7⟩ := X5_add (N := N) h hn hf ha hb hnew
    rw [← eg] at q1
    refine ⟨n, S', n + 1, ?_, q2, q3, by omega, by omega, h2, by omega, q4, q5, q6, q7⟩
    unfold fX5_tree_94
    rw [bd2_ok q1]
  have search : ∀ (x t m : Nat), x < n → t + x < n → x < m → (∀ k, 0 < k → k < n → bkt S k = g → (tF S k = f ∧ tA S k = a ∧ tB S k = b) → k ≤ x) → (x = 0 ∨ bkt S x = g) → ∃ k S' n', loopN (fun k x => fX5_tree_20s N k x.1 x.2.1 x.2.2.1 x.2.2.2.1 x.2.2.2.2.1 x.2.2.2.2.2.1 x.2.2.2.2.2.2) m (S, nI f, nI a, nI b, nI g, nI x, nI t) = some (nI k, S') ∧ Fr S S' [105] [100, 101, 102, 103, 104] ∧ TrC S' n' ∧ n ≤ n' ∧ n' ≤ n + 1 ∧ 0 < k ∧ k < n' ∧ tF S' k = f ∧ tA S' k = a ∧ tB S' k = b ∧ TExt S S' n := by
    intro x
    induction x using Nat.strongRecOn with
    | _ x ih =>
      intro t m hx ht hm hall hbx
      obtain ⟨m, rfl⟩ : ∃ m', m = m' + 1 := ⟨m - 1, by omega⟩
      obtain ⟨Lp, eL⟩ : ∃ Lp, Lp = loopN (fun k x => fX5_tree_20s N k x.1 x.2.1 x.2.2.1 x.2.2.2.1 x.2.2.2.2.1 x.2.2.2.2.2.1 x.2.2.2.2.2.2) m := ⟨_, rfl⟩
      show ∃ k S' n', fX5_tree_20s N (loopN (fun k x => fX5_tree_20s N k x.1 x.2.1 x.2.2.1 x.2.2.2.1 x.2.2.2.2.1 x.2.2.2.2.2.1 x.2.2.2.2.2.2) m) S (nI f) (nI a) (nI b) (nI g) (nI x) (nI t) = some (nI k, S') ∧ _
      rw [← eL]
      unfold fX5_tree_20s
      rw [h1, if_neg (fun q => absurd ((nI_leI (by omega) (by omega)).mp q) (by omega))]
      have bko : ∀ k, tF S k = f ∧ tA S k = a ∧ tB S k = b → bkt S k = g := fun k q => by unfold bkt; rw [q.1, q.2.1, q.2.2, eg]
      by_cases x0 : x = 0
      · rw [if_pos (by rw [x0]; decide)]
        exact add (fun k k0 hk q => by have := hall k k0 hk (bko k q) q; omega)
      · obtain ⟨a1, a2, a3, a4, a5, a6, a7, a8⟩ := h4 x (by omega) hx
        rw [if_neg (nI_nle (by omega) (by omega)), if_neg (fun q => absurd ((nI_leI (by omega) (by omega)).mp q) (by omega)), ckx_ok (vp_in_nI (by omega) (by omega)), nI_clamp (by omega), a1, a2, a3]
        have next : ¬ (tF S x = f ∧ tA S x = a ∧ tB S x = b) → ∃ k S' n', fX5_tree_79 N Lp S (nI f) (nI a) (nI b) (nI g) (nI x) (nI t) = some (nI k, S') ∧ Fr S S' [105] [100, 101, 102, 103, 104] ∧ TrC S' n' ∧ n ≤ n' ∧ n' ≤ n + 1 ∧ 0 < k ∧ k < n' ∧ tF S' k = f ∧ tA S' k = a ∧ tB S' k = b ∧ TExt S S' n := by
          intro nq
          have eb : bkt S x = g := hbx.resolve_left x0
          have ple := (prv_in (S := S) (g := g) x)
          have plt : prv S g x < x := by
            rcases ple.1 with q | q <;> omega
          unfold fX5_tree_79
          rw [ckx_ok (vp_in_nI (by omega) (by omega)), bnd_eq, nI_clamp (by omega), a8, eb, bnd_eq, nI_1, eL]
          refine ih (prv S g x) plt (t + 1) m (by omega) (by omega) (by omega) (fun k k0 hk e q => ?_) (ple.1.imp id (fun q => q.2.2))
          have kx := hall k k0 hk e q
          have kne : k ≠ x := fun z => nq (by rw [← z]; exact q)
          exact ple.2 k k0 (by omega) e
        by_cases c1 : tF S x = f
        · rw [if_pos (by rw [c1]), ckx_ok (vp_in_nI (by omega) (by omega))]
          by_cases c2 : tA S x = a
          · rw [if_pos (by rw [c2]), ckx_ok (vp_in_nI (by omega) (by omega))]
            by_cases c3 : tB S x = b
            · rw [if_pos (by rw [c3])]
              exact ⟨x, S, n, rfl, Fr.rf, h, Nat.le_refl _, by omega, by omega, hx, c1, c2, c3, fun _ _ => ⟨rfl, rfl, rfl⟩⟩
            · rw [if_neg (fun q => c3 ((nI_eq (by omega) (by omega)).mp q))]
              exact next (fun q => c3 q.2.2)
          · rw [if_neg (fun q => c2 ((nI_eq (by omega) (by omega)).mp q))]
            exact next (fun q => c2 q.2.1)
        · rw [if_neg (fun q => c1 ((nI_eq (by omega) (by omega)).mp q))]
          exact next (fun q => c1 q.1)
  have pn := prv_in (S := S) (g := g) n
  have pl : prv S g n < n := by rcases pn.1 with q | q <;> omega
  exact search (prv S g n) 0 N pl (by omega) (by omega) (fun k k0 hk e _ => pn.2 k k0 hk e) (pn.1.imp id (fun q => q.2.2))
theorem X5_cut {N : Nat} {m : Nat} (hm : 1 ≤ m) : ∀ (d : Nat) (S : St) (n f : Nat), n = m + d → d < f → TrC S n → ∃ S', loopN (fun k x => fX5_cut_0s N k x.1 x.2) f (S, nI m) = some S' ∧ Fr S S' [105] [104] ∧ TrC S' m := by
  intro d
  induction d with
  | zero =>
    intro S n f hn hf h
    obtain ⟨f, rfl⟩ : ∃ f', f = f' + 1 := ⟨f - 1, by omega⟩
    have hn : n = m := by omega
    subst hn
    refine ⟨S, ?_, Fr.rf, h⟩
    show fX5_cut_0s N _ S (nI n) = _
    unfold fX5_cut_0s
    have h3 := h.2.2.1
    rw [h.1, if_pos (nI_le (Nat.le_refl _) (by omega))]
  | succ d ih =>
    intro S n f hn hf h
    obtain ⟨f, rfl⟩ : ∃ f', f = f' + 1 := ⟨f - 1, by omega⟩
    obtain ⟨h1, h2, h3, h4, h5, h6⟩ := id h
    obtain ⟨a1, a2, a3, a4, a5, a6, a7, a8⟩ := h4 (n - 1) (by omega) (by omega)
    obtain ⟨bi, hg⟩ := bk_i a5 (show tA S (n - 1) < 4002 by omega) (show tB S (n - 1) < 4002 by omega)
    obtain ⟨Lp, eL⟩ : ∃ Lp, Lp = loopN (fun k x => fX5_cut_0s N k x.1 x.2) f := ⟨_, rfl⟩
    show ∃ S', fX5_cut_0s N (loopN (fun k x => fX5_cut_0s N k x.1 x.2) f) S (nI m) = some S' ∧ _
    rw [← eL]
    unfold fX5_cut_0s
    rw [h1, if_neg (fun q => absurd ((nI_leI (by omega) (by omega)).mp q) (by omega)), show (1 : Int32) = nI 1 from rfl, if_neg (fun q => absurd ((nI_leI (by omega) (by omega)).mp q) (by omega)), show (4002 : Int32) = nI 4002 from rfl, if_neg (nI_nlt (by omega) (by omega)), bnd_eq, pk_sub (by omega)]
    obtain ⟨S4, e4⟩ : ∃ z, z = sI S 105 (nI (n - 1)) := ⟨_, rfl⟩
    rw [← e4]
    have z105 : S4.1 105 = nI (n - 1) := by rw [e4]; rfl
    have e2 : S4.2 = S.2 := by rw [e4]; rfl
    rw [z105, ckx_ok (vp_in_nI (by omega) (by omega)), ckx_ok (vp_in_nI (by omega) (by omega)), ckx_ok (vp_in_nI (by omega) (by omega)), nI_clamp (by omega), e2, a1, a2, a3, bdo_ok bi, ckx_ok (vp_in_nI (by omega) (by omega)), ckx_ok (vp_in_nI (by omega) (by omega)), bnd_eq, a8, nI_clamp (by omega), eL]
    obtain ⟨S5, e5⟩ : ∃ z, z = sA S4 104 (upd (S.2.1 104) (bk (tF S (n - 1)) (tA S (n - 1)) (tB S (n - 1))) (nI (prv S (bkt S (n - 1)) (n - 1)))) := ⟨_, rfl⟩
    rw [← e5]
    have f5 : Fr S S5 [105] [104] := by rw [e5, e4]; exact (Fr.I (by decide)).trans (Fr.A (by decide))
    have z104 : S5.2.1 104 = upd (S.2.1 104) (bkt S (n - 1)) (nI (prv S (bkt S (n - 1)) (n - 1))) := by rw [e5]; rfl
    have t1 : tF S5 = tF S := by funext k; unfold tF; rw [f5.2.1 100 (by decide)]
    have t2 : tA S5 = tA S := by funext k; unfold tA; rw [f5.2.1 101 (by decide)]
    have t3 : tB S5 = tB S := by funext k; unfold tB; rw [f5.2.1 102 (by decide)]
    have t4 : bkt S5 = bkt S := by funext k; unfold bkt; rw [t1, t2, t3]
    have t5 : ∀ g m, prv S5 g m = prv S g m := fun g m => prv_congr m (fun k _ _ => by rw [t4])
    have h' : TrC S5 (n - 1) := by
      refine ⟨by rw [e5]; exact z105, by omega, by omega, fun k k0 hk => ?_, fun g hg' => ?_, fun i j i0 hi j0 hj => ?_⟩
      · rw [t1, t2, t3, t4, t5, f5.2.1 100 (by decide), f5.2.1 101 (by decide), f5.2.1 102 (by decide), f5.2.1 103 (by decide)]
        exact h4 k k0 (by omega)
      · rw [z104, upd_at, t5]
        by_cases c : g = bkt S (n - 1)
        · rw [if_pos c, c]
        · rw [if_neg c, h5 g hg']
          have := prv_s S g (n - 1)
          rw [show n - 1 + 1 = n by omega, if_neg (fun q => c q.2.symm)] at this
          rw [this]
      · rw [t1, t2, t3]
        exact h6 i j i0 (by omega) j0 (by omega)
    obtain ⟨S', q1, q2, q3⟩ := ih S5 (n - 1) f (by omega) (by omega) h'
    exact ⟨S', q1, f5.trans q2, q3⟩
/-- the number of a tree -/
def tvF (S : St) : Nat → Nat → Nat
  | 0, _ => 0
  | f + 1, k => if k = 0 then 0 else code_ (tF S k) (tvF S f (tA S k)) (tvF S f (tB S k))
def tv (S : St) (k : Nat) : Nat := tvF S k k
theorem tvF_eq {S : St} {n : Nat} (h : TrC S n) : ∀ (k f : Nat), k < n → k ≤ f → tvF S f k = tv S k := by
  intro k
  induction k using Nat.strongRecOn with
  | _ k ih =>
    intro f hk hf
    by_cases c : k = 0
    · subst c
      cases f <;> rfl
    · obtain ⟨-, -, -, -, -, g7, g8, -⟩ := h.2.2.2.1 k (by omega) hk
      obtain ⟨f', rfl⟩ : ∃ f', f = f' + 1 := ⟨f - 1, by omega⟩
      obtain ⟨k', rfl⟩ : ∃ k', k = k' + 1 := ⟨k - 1, by omega⟩
      unfold tv
      show (if k' + 1 = 0 then 0 else code_ (tF S (k' + 1)) (tvF S f' (tA S (k' + 1))) (tvF S f' (tB S (k' + 1)))) = (if k' + 1 = 0 then 0 else code_ (tF S (k' + 1)) (tvF S k' (tA S (k' + 1))) (tvF S k' (tB S (k' + 1))))
      rw [ih _ g7 f' (by omega) (by omega), ih _ g7 k' (by omega) (by omega), ih _ g8 f' (by omega) (by omega), ih _ g8 k' (by omega) (by omega)]
theorem tv_0 (S : St) : tv S 0 = 0 := rfl
theorem tv_s {S : St} {n k : Nat} (h : TrC S n) (h0 : 0 < k) (hk : k < n) : tv S k = code_ (tF S k) (tv S (tA S k)) (tv S (tB S k)) := by
  obtain ⟨-, -, -, -, -, g7, g8, -⟩ := h.2.2.2.1 k h0 hk
  obtain ⟨k', rfl⟩ : ∃ k', k = k' + 1 := ⟨k - 1, by omega⟩
  rw [← tvF_eq h (tA S (k' + 1)) k' (by omega) (by omega), ← tvF_eq h (tB S (k' + 1)) k' (by omega) (by omega)]
  show (if k' + 1 = 0 then 0 else code_ (tF S (k' + 1)) (tvF S k' (tA S (k' + 1))) (tvF S k' (tB S (k' + 1)))) = _
  rw [if_neg (Nat.succ_ne_zero k')]
theorem tv_inj {S : St} {n : Nat} (h : TrC S n) : ∀ (i j : Nat), i < n → j < n → tv S i = tv S j → i = j := by
  intro i
  induction i using Nat.strongRecOn with
  | _ i ih =>
    intro j hi hj e
    have hent := h.2.2.2.1
    have huq := h.2.2.2.2.2
    by_cases c : i = 0 <;> by_cases d : j = 0
    · omega
    · rw [c, tv_0, tv_s h (by omega) hj] at e
      have := code_pos (tF S j) (tv S (tA S j)) (tv S (tB S j))
      omega
    · rw [d, tv_0, tv_s h (by omega) hi] at e
      have := code_pos (tF S i) (tv S (tA S i)) (tv S (tB S i))
      omega
    · obtain ⟨-, -, -, g5, g6, g7, g8, -⟩ := hent i (by omega) hi
      obtain ⟨-, -, -, k5, k6, k7, k8, -⟩ := hent j (by omega) hj
      rw [tv_s h (by omega) hi, tv_s h (by omega) hj] at e
      obtain ⟨e1, e2, e3⟩ := code_inj ⟨g5, g6⟩ ⟨k5, k6⟩ e
      exact huq i j (by omega) hi (by omega) hj e1 (ih _ g7 _ (by omega) (by omega) e2) (ih _ g8 _ (by omega) (by omega) e3)
theorem tv_ext {S S' : St} {n n' : Nat} (h : TrC S n) (h' : TrC S' n') (hn : n ≤ n') (he : TExt S S' n) : ∀ k, k < n → tv S' k = tv S k := by
  intro k
  induction k using Nat.strongRecOn with
  | _ k ih =>
    intro hk
    by_cases c : k = 0
    · rw [c]; rfl
    · obtain ⟨-, -, -, -, -, g7, g8, -⟩ := h.2.2.2.1 k (by omega) hk
      obtain ⟨e1, e2, e3⟩ := he k hk
      rw [tv_s h' (by omega) (by omega), tv_s h (by omega) hk, e1, e2, e3, ih _ g7 (by omega), ih _ g8 (by omega)]
