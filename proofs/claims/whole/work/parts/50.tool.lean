/-! tools: the functions run on states that are known well enough -/
theorem bnd_eq {α β : Type} (v : α) (K : α → Option β) : bnd v K = K v := rfl
theorem ckx_ok {β : Type} {i : Int32} {n : Nat} {K : Option β} (h : vp_in i n) : ckx i n K = K := if_neg h
theorem ckp_ok {β : Type} {c : Bool} {K : Option β} (h : c = true) : ckp c K = K := if_pos h
theorem bdo_ok {α β : Type} {o : Option α} {x : α} {K : α → Option β} (h : o = some x) : bdo o K = K x := by rw [h]; rfl
theorem bd2_ok {α γ β : Type} {o : Option (α × γ)} {x : α} {y : γ} {K : α → γ → Option β} (h : o = some (x, y)) : bd2 o K = K x y := by rw [h]; rfl
theorem bd2_some {α γ β : Type} {x : α} {y : γ} {K : α → γ → Option β} : bd2 (some (x, y)) K = K x y := rfl
theorem bdo_some {α β : Type} {x : α} {K : α → Option β} : bdo (some x) K = K x := rfl
theorem sI_1 (S : St) (k j : Nat) (v : Int32) : (sI S k v).1 j = if j = k then v else S.1 j := rfl
theorem sI_2 (S : St) (k : Nat) (v : Int32) : (sI S k v).2 = S.2 := rfl
theorem sA_1 (S : St) (k : Nat) (f : Nat → Int32) : (sA S k f).1 = S.1 := rfl
theorem sA_2 (S : St) (k j : Nat) (f : Nat → Int32) : (sA S k f).2.1 j = if j = k then f else S.2.1 j := rfl
theorem sA_3 (S : St) (k : Nat) (f : Nat → Int32) : (sA S k f).2.2 = S.2.2 := rfl
theorem upd_at (f : Nat → Int32) (k j : Nat) (x : Int32) : upd f k x j = if j = k then x else f j := rfl
/-- a loop that ends: an invariant, a measure, and what holds of the answer -/
theorem loop_tot {σ β : Type} {step : (σ → Option β) → σ → Option β} (μ : σ → Nat) (I : σ → Prop) (P : σ → β → Prop)
    (h : ∀ k x, I x → (∀ y, I y → μ y < μ x → ∃ R, k y = some R ∧ P y R) → ∃ R, step k x = some R ∧ P x R) : ∀ n x, I x → μ x < n → ∃ R, loopN step n x = some R ∧ P x R
  | 0, _, _, hm => absurd hm (Nat.not_lt_zero _)
  | n + 1, x, hI, hm => h (loopN step n) x hI (fun y hy hl => loop_tot μ I P h n y hy (by omega))
/-- the same, where the loop's states are given by parameters -/
theorem loop_par {σ β τ : Type} {step : (σ → Option β) → σ → Option β} (e : τ → σ) (μ : τ → Nat) (I : τ → Prop) (P : τ → β → Prop)
    (h : ∀ k a, I a → (∀ b, I b → μ b < μ a → ∃ R, k (e b) = some R ∧ P b R) → ∃ R, step k (e a) = some R ∧ P a R) : ∀ n a, I a → μ a < n → ∃ R, loopN step n (e a) = some R ∧ P a R
  | 0, _, _, hm => absurd hm (Nat.not_lt_zero _)
  | n + 1, a, hI, hm => h (loopN step n) a hI (fun b hb hl => loop_par e μ I P h n b hb (by omega))
/-- fuel that is enough for every loop here -/
def Big (N : Nat) : Prop := 2000000 ≤ N
theorem nI_zero : nI 0 = 0 := rfl
theorem nI_ne {n : Nat} (h0 : 0 < n) (h : n < 2 ^ 31) : ¬ nI n = 0 := nI_ne0 h0 h
theorem nI_sub1 {n : Nat} (h : 0 < n) : nI n - 1 = nI (n - 1) := by
  obtain ⟨m, rfl⟩ : ∃ m, n = m + 1 := ⟨n - 1, by omega⟩
  exact nI_pred m
/-! lists of levels in the reference: cells 1 .. n - 1; cell 0 is the list of boxes alone -/
def Lst (S : St) (n : Nat) : Prop := S.1 43 = nI n ∧ 0 < n ∧ n ≤ 270000 ∧ ∀ l, 0 < l → l < n → ∃ h t, S.2.1 41 l = nI h ∧ S.2.1 42 l = nI t ∧ h < 4010 ∧ t < l
def nH (S : St) (l : Nat) : Nat := if l = 0 then 0 else (S.2.1 41 l).toNatClampNeg
def nT (S : St) (l : Nat) : Nat := if l = 0 then 0 else (S.2.1 42 l).toNatClampNeg
def tlk (S : St) : Nat → Nat → Nat
  | 0, l => l
  | i + 1, l => tlk S i (nT S l)
def lvl (S : St) (l i : Nat) : Nat := nH S (tlk S i l)
theorem Lst.h41 {S : St} {n l : Nat} (h : Lst S n) (h0 : 0 < l) (hl : l < n) : S.2.1 41 l = nI (nH S l) ∧ nH S l < 4010 := by
  obtain ⟨a, t, e1, e2, h1, h2⟩ := h.2.2.2 l h0 hl
  have : nH S l = a := by unfold nH; rw [if_neg (by omega), e1]; exact nI_clamp (by omega)
  exact ⟨by rw [this]; exact e1, by omega⟩
theorem Lst.h42 {S : St} {n l : Nat} (h : Lst S n) (h0 : 0 < l) (hl : l < n) : S.2.1 42 l = nI (nT S l) ∧ nT S l < l := by
  obtain ⟨a, t, e1, e2, h1, h2⟩ := h.2.2.2 l h0 hl
  have := h.2.2.1
  have : nT S l = t := by unfold nT; rw [if_neg (by omega), e2]; exact nI_clamp (by omega)
  exact ⟨by rw [this]; exact e2, by omega⟩
theorem nT_le {S : St} {n l : Nat} (h : Lst S n) (hl : l < n) : nT S l ≤ l := by
  by_cases h0 : l = 0
  · subst h0; exact Nat.le_of_eq rfl
  · exact Nat.le_of_lt (h.h42 (by omega) hl).2
theorem tlk_lt {S : St} {n : Nat} (h : Lst S n) : ∀ (i l : Nat), l < n → tlk S i l < n
  | 0, _, hl => hl
  | i + 1, l, hl => tlk_lt h i _ (Nat.lt_of_le_of_lt (nT_le h hl) hl)
theorem tlk_0 (S : St) : ∀ i, tlk S i 0 = 0
  | 0 => rfl
  | i + 1 => tlk_0 S i
theorem X8_head {S : St} {N n l : Nat} (h : Lst S n) (hl : l < n) : fX8_head N S (nI l) = some (nI (nH S l), S) := by
  have hn := h.2.2.1
  unfold fX8_head
  by_cases h0 : l = 0
  · subst h0; rw [if_pos nI_zero]; rfl
  · rw [if_neg (nI_ne (by omega) (by omega)), ckx_ok (vp_in_nI (by omega) (by omega)), nI_clamp (by omega), (h.h41 (by omega) hl).1]
theorem X8_tail {S : St} {N n l : Nat} (h : Lst S n) (hl : l < n) : fX8_tail N S (nI l) = some (nI (nT S l), S) := by
  have hn := h.2.2.1
  unfold fX8_tail
  by_cases h0 : l = 0
  · subst h0; rw [if_pos nI_zero]; rfl
  · rw [if_neg (nI_ne (by omega) (by omega)), ckx_ok (vp_in_nI (by omega) (by omega)), nI_clamp (by omega), (h.h42 (by omega) hl).1]
theorem X8_behind {S : St} {N n l k : Nat} (hN : Big N) (h : Lst S n) (hl : l < n) (hk : k ≤ 64) : fX8_behind N S (nI l) (nI k) = some (nI (tlk S k l), S) := by
  have hn := h.2.2.1
  obtain ⟨R, e1, e2⟩ := loop_par (step := fun k x => fX8_behind_5s N k x.1 x.2.1 x.2.2.1 x.2.2.2) (fun a : Nat × Nat => (S, nI k, nI a.1, nI a.2)) (fun a => 64 - a.2)
    (fun a => a.2 ≤ k ∧ a.1 < n) (fun a R => R = (nI (tlk S (k - a.2) a.1), S)) (by
      rintro f ⟨t, i⟩ ⟨hi, ht⟩ ih
      dsimp only at hi ht ih ⊢
      unfold fX8_behind_5s
      by_cases c1 : k ≤ i
      · rw [if_pos (nI_le c1 (by omega))]
        exact ⟨_, rfl, by rw [show k - i = 0 by omega]; rfl⟩
      · rw [if_neg (fun q => c1 ((nI_leI (by omega) (by omega)).mp q))]
        by_cases c2 : t = 0
        · subst c2
          rw [if_pos nI_zero]
          exact ⟨_, rfl, by rw [tlk_0]⟩
        · rw [if_neg (nI_ne (by omega) (by omega)), ckx_ok (vp_in_nI (by omega) (by omega)), bnd_eq, bnd_eq, nI_clamp (by omega), (h.h42 (by omega) ht).1, nI_1]
          have hlt := (h.h42 (by omega) ht).2
          obtain ⟨R, e1, e2⟩ := ih (nT S t, i + 1) ⟨by show i + 1 ≤ k; omega, by show nT S t < n; omega⟩ (by show 64 - (i + 1) < 64 - i; omega)
          refine ⟨R, e1, e2.trans ?_⟩
          show _ = (nI (tlk S (k - i) t), S)
          rw [show k - i = (k - (i + 1)) + 1 by omega]
          rfl) N (l, 0) ⟨Nat.zero_le _, hl⟩ (by show 64 - 0 < N; unfold Big at hN; omega)
  rw [e2] at e1
  exact e1
/-- S' is S but for the numbers at is and the rows at as -/
def Fr (S S' : St) (is as : List Nat) : Prop := (∀ k, k ∉ is → S'.1 k = S.1 k) ∧ (∀ k, k ∉ as → S'.2.1 k = S.2.1 k) ∧ S'.2.2 = S.2.2
theorem Fr.rf {S : St} {is as : List Nat} : Fr S S is as := ⟨fun _ _ => rfl, fun _ _ => rfl, rfl⟩
theorem Fr.trans {S S1 S2 : St} {is as : List Nat} (h : Fr S S1 is as) (g : Fr S1 S2 is as) : Fr S S2 is as := ⟨fun k hk => (g.1 k hk).trans (h.1 k hk), fun k hk => (g.2.1 k hk).trans (h.2.1 k hk), g.2.2.trans h.2.2⟩
theorem Fr.mono {S S' : St} {is as is' as' : List Nat} (h : Fr S S' is as) (h1 : ∀ k ∈ is, k ∈ is') (h2 : ∀ k ∈ as, k ∈ as') : Fr S S' is' as' := ⟨fun k hk => h.1 k (fun q => hk (h1 k q)), fun k hk => h.2.1 k (fun q => hk (h2 k q)), h.2.2⟩
theorem Fr.I {S : St} {k : Nat} {v : Int32} {is as : List Nat} (h : k ∈ is) : Fr S (sI S k v) is as := ⟨fun j hj => by rw [sI_1, if_neg (fun e => hj (by rw [e]; exact h))], fun _ _ => rfl, rfl⟩
theorem Fr.A {S : St} {k : Nat} {f : Nat → Int32} {is as : List Nat} (h : k ∈ as) : Fr S (sA S k f) is as := ⟨fun _ _ => rfl, fun j hj => by rw [sA_2, if_neg (fun e => hj (by rw [e]; exact h))], rfl⟩
/-- more lists, the old ones as they were -/
def LExt (S S' : St) (n n' : Nat) : Prop := Lst S' n' ∧ n ≤ n' ∧ ∀ l, l < n → S'.2.1 41 l = S.2.1 41 l ∧ S'.2.1 42 l = S.2.1 42 l
theorem LExt.old {S S' : St} {n n' l : Nat} (h : LExt S S' n n') (hl : l < n) : nH S' l = nH S l ∧ nT S' l = nT S l := by
  unfold nH nT
  rw [(h.2.2 l hl).1, (h.2.2 l hl).2]
  exact ⟨rfl, rfl⟩
theorem LExt.tl_ {S S' : St} {n n' : Nat} (h : LExt S S' n n') (hS : Lst S n) : ∀ (i l : Nat), l < n → tlk S' i l = tlk S i l
  | 0, _, _ => rfl
  | i + 1, l, hl => by
    show tlk S' i (nT S' l) = tlk S i (nT S l)
    rw [(h.old hl).2]
    exact h.tl_ hS i _ (Nat.lt_of_le_of_lt (nT_le hS hl) hl)
theorem LExt.lv_ {S S' : St} {n n' : Nat} (h : LExt S S' n n') (hS : Lst S n) (i l : Nat) (hl : l < n) : lvl S' l i = lvl S l i := by
  unfold lvl
  rw [h.tl_ hS i l hl, (h.old (tlk_lt hS i l hl)).1]
theorem LExt.rf {S : St} {n : Nat} (h : Lst S n) : LExt S S n n := ⟨h, Nat.le_refl _, fun _ _ => ⟨rfl, rfl⟩⟩
theorem LExt.trans {S S1 S2 : St} {n n1 n2 : Nat} (h : LExt S S1 n n1) (g : LExt S1 S2 n1 n2) : LExt S S2 n n2 :=
  ⟨g.1, Nat.le_trans h.2.1 g.2.1, fun l hl => ⟨((g.2.2 l (Nat.lt_of_lt_of_le hl h.2.1)).1).trans (h.2.2 l hl).1, ((g.2.2 l (Nat.lt_of_lt_of_le hl h.2.1)).2).trans (h.2.2 l hl).2⟩⟩
/-- lists hold levels that there are -/
def Lin (S : St) (nl nv : Nat) : Prop := ∀ l, 0 < l → l < nl → nH S l < nv
theorem X8_list {S : St} {N n h t : Nat} (hL : Lst S n) (hn : n < 270000) (hh : h < 4010) (ht : t < n) : ∃ l S' n', fX8_list N S (nI h) (nI t) = some (nI l, S') ∧ LExt S S' n n' ∧ Fr S S' [43] [41, 42] ∧ n' ≤ n + 1 ∧ l < n' ∧ nH S' l = h ∧ nT S' l = t ∧ (∀ nv, h < nv → Lin S n nv → Lin S' n' nv) := by
  have main : ∃ l S' n', fX8_list_10 N S (nI h) (nI t) = some (nI l, S') ∧ LExt S S' n n' ∧ Fr S S' [43] [41, 42] ∧ n' ≤ n + 1 ∧ l < n' ∧ nH S' l = h ∧ nT S' l = t ∧ (∀ nv, h < nv → Lin S n nv → Lin S' n' nv) := by
    have e43 := hL.1
    have h0 := hL.2.1
    refine ⟨n, sI (sA (sA S 41 (upd (S.2.1 41) n (nI h))) 42 (upd (S.2.1 42) n (nI t))) 43 (nI (n + 1)), n + 1, ?_, ⟨⟨rfl, by omega, by omega, ?_⟩, by omega, ?_⟩, ((Fr.A (by decide)).trans (Fr.A (by decide))).trans (Fr.I (by decide)), Nat.le_refl _, Nat.lt_succ_self _, ?_, ?_, ?_⟩
    · unfold fX8_list_10
      rw [e43, ckx_ok (vp_in_nI (by omega) (by omega)), bnd_eq, sA_1, e43, ckx_ok (vp_in_nI (by omega) (by omega)), bnd_eq, bnd_eq, nI_clamp (by omega), sI_1, if_pos rfl, sA_1, sA_1, e43, nI_1, nI_pred]
      rfl
    · intro l h1 h2
      show ∃ h' t', upd (S.2.1 41) n (nI h) l = nI h' ∧ upd (S.2.1 42) n (nI t) l = nI t' ∧ h' < 4010 ∧ t' < l
      by_cases e : l = n
      · subst e
        exact ⟨h, t, if_pos rfl, if_pos rfl, hh, ht⟩
      · rw [upd_at, upd_at, if_neg e, if_neg e]
        exact hL.2.2.2 l h1 (by omega)
    · intro l hl
      exact ⟨if_neg (by omega), if_neg (by omega)⟩
    · show (if n = 0 then 0 else (upd (S.2.1 41) n (nI h) n).toNatClampNeg) = h
      rw [if_neg (by omega), upd_at, if_pos rfl, nI_clamp (by omega)]
    · show (if n = 0 then 0 else (upd (S.2.1 42) n (nI t) n).toNatClampNeg) = t
      rw [if_neg (by omega), upd_at, if_pos rfl, nI_clamp (by omega)]
    · intro nv hv hI l h1 h2
      show (if l = 0 then 0 else (upd (S.2.1 41) n (nI h) l).toNatClampNeg) < nv
      rw [if_neg (by omega), upd_at]
      by_cases e : l = n
      · rw [if_pos e, nI_clamp (by omega)]; exact hv
      · rw [if_neg e]
        have := hI l h1 (by omega)
        unfold nH at this
        rw [if_neg (by omega)] at this
        exact this
  unfold fX8_list
  by_cases c1 : h = 0
  · subst c1
    rw [if_pos nI_zero]
    by_cases c2 : t = 0
    · subst c2
      rw [if_pos nI_zero]
      exact ⟨0, S, n, rfl, LExt.rf hL, Fr.rf, by omega, ht, rfl, rfl, fun _ _ h => h⟩
    · rw [if_neg (nI_ne (by omega) (by omega))]
      exact main
  · rw [if_neg (nI_ne (by omega) (by omega))]
    exact main
/-- the list whose first k levels are those of l, and then those of rest -/
theorem lvl_z (S : St) (i : Nat) : lvl S 0 i = 0 := by
  unfold lvl
  rw [tlk_0]
  rfl
theorem lvl_s (S : St) (l i : Nat) : lvl S l (i + 1) = lvl S (nT S l) i := rfl
theorem tlk_add (S : St) : ∀ (i j l : Nat), tlk S (i + j) l = tlk S j (tlk S i l)
  | 0, j, l => by rw [Nat.zero_add]; rfl
  | i + 1, j, l => by
    rw [Nat.add_right_comm]
    exact tlk_add S i j (nT S l)
theorem tlk_s (S : St) (i l : Nat) : tlk S (i + 1) l = nT S (tlk S i l) := tlk_add S i 1 l
theorem X8_with2 {S0 S : St} {N n l k c : Nat} (hN : Big N) (hL : Lst S n) (hc : c < n) (hk : k ≤ 64) (hn : n + k ≤ 270000) (hh : ∀ i, i < k → lvl S0 l i < 4010) (hfr : ∀ i, i < k → S.2.1 44 i = nI (lvl S0 l i)) :
    ∃ l' S' n', fX8_with_47 N (S, nI c, nI k - 1) = some (nI l', S') ∧ LExt S S' n n' ∧ Fr S S' [43] [41, 42] ∧ n' ≤ n + k ∧ l' < n' ∧ (∀ i, lvl S' l' i = if i < k then lvl S0 l i else lvl S c (i - k)) ∧ (∀ nv, (∀ i, i < k → lvl S0 l i < nv) → Lin S n nv → Lin S' n' nv) := by
  have hn0 := hL.2.2.1
  obtain ⟨R, e1, l', n', e2, h1, h1f, h2, h3, h4, h5⟩ := loop_par (step := fun k x => fX8_with_47s N k x.1 x.2.1 x.2.2) (fun a : St × Nat × Nat => (a.1, nI a.2.1, nI a.2.2 - 1)) (fun a => a.2.2)
    (fun a => ∃ m, LExt S a.1 n m ∧ Fr S a.1 [43] [41, 42] ∧ m + a.2.2 ≤ n + k ∧ a.2.1 < m ∧ a.2.2 ≤ k ∧ (∀ i, lvl a.1 a.2.1 i = if i < k - a.2.2 then lvl S0 l (a.2.2 + i) else lvl S c (i - (k - a.2.2))) ∧ (∀ nv, (∀ i, i < k → lvl S0 l i < nv) → Lin S n nv → Lin a.1 m nv)) (fun a R => ∃ l' n', R.1 = nI l' ∧ LExt S R.2 n n' ∧ Fr S R.2 [43] [41, 42] ∧ n' ≤ n + k ∧ l' < n' ∧ (∀ i, lvl R.2 l' i = if i < k then lvl S0 l i else lvl S c (i - k)) ∧ (∀ nv, (∀ i, i < k → lvl S0 l i < nv) → Lin S n nv → Lin R.2 n' nv)) (by
      rintro f ⟨S2, x, j⟩ ⟨m, hx, hxf, hm, hxm, hj, hlv, hLn⟩ ih
      dsimp only at hx hxf hm hxm hj hlv hLn ih ⊢
      unfold fX8_with_47s
      by_cases c1 : j = 0
      · subst c1
        rw [if_pos (by decide)]
        refine ⟨_, rfl, x, m, rfl, hx, hxf, by omega, hxm, fun i => ?_, hLn⟩
        have := hlv i
        rw [Nat.sub_zero, Nat.zero_add] at this
        exact this
      · rw [nI_sub1 (by omega), if_neg (nI_pos (by omega)), ckx_ok (vp_in_nI (by omega) (by omega)), nI_clamp (by omega), hxf.2.1 44 (by decide), hfr (j - 1) (by omega)]
        obtain ⟨l2, S3, m3, e1, e2, e2f, e3, e4, e5, e6, e7⟩ := X8_list (N := N) hx.1 (by omega) (hh (j - 1) (by omega)) hxm
        rw [bd2_ok e1, bnd_eq, show nI (j - 1) + -1 = nI (j - 1) - 1 from (Int32.sub_eq_add_neg _ _).symm]
        refine ih (S3, l2, j - 1) ⟨m3, hx.trans e2, hxf.trans e2f, by show m3 + (j - 1) ≤ _; omega, e4, by show j - 1 ≤ k; omega, fun i => ?_, fun nv h1 h2 => e7 nv (h1 (j - 1) (by omega)) (hLn nv h1 h2)⟩ (by show j - 1 < j; omega)
        show lvl S3 l2 i = if i < k - (j - 1) then lvl S0 l (j - 1 + i) else lvl S c (i - (k - (j - 1)))
        cases i with
        | zero =>
          show nH S3 l2 = _
          rw [e5, if_pos (by omega), Nat.add_zero]
        | succ i =>
          rw [lvl_s, e6, e2.lv_ hx.1 i x hxm, hlv i]
          by_cases c2 : i < k - j
          · rw [if_pos c2, if_pos (by omega), show j - 1 + (i + 1) = j + i by omega]
          · rw [if_neg c2, if_neg (by omega), show i + 1 - (k - (j - 1)) = i - (k - j) by omega]) N (S, c, k) ⟨n, LExt.rf hL, Fr.rf, by show n + k ≤ n + k; omega, hc, Nat.le_refl _, fun i => by
          show lvl S c i = if i < k - k then lvl S0 l (k + i) else lvl S c (i - (k - k))
          rw [Nat.sub_self, if_neg (Nat.not_lt_zero _), Nat.sub_zero], fun _ _ h => h⟩ (by show k < N; unfold Big at hN; omega)
  obtain ⟨r1, r2⟩ := R
  dsimp only at e2 h1 h1f h4 h5
  subst e2
  exact ⟨l', r2, n', e1, h1, h1f, h2, h3, h4, h5⟩
theorem Lst.of {S S' : St} {n : Nat} (h : Lst S n) (h1 : S'.1 43 = S.1 43) (h2 : S'.2.1 41 = S.2.1 41) (h3 : S'.2.1 42 = S.2.1 42) : Lst S' n := by
  unfold Lst
  rw [h1, h2, h3]
  exact h
theorem Lst.hlt {S : St} {n l i : Nat} (h : Lst S n) (hl : l < n) : lvl S l i < 4010 := by
  unfold lvl
  have h1 := tlk_lt h i l hl
  by_cases c : tlk S i l = 0
  · rw [c]; unfold nH; rw [if_pos rfl]; decide
  · exact (h.h41 (by omega) h1).2
theorem X8_with {S : St} {N n l k c : Nat} (hN : Big N) (hL : Lst S n) (hl : l < n) (hc : c < n) (hk : k ≤ 64) (hn : n + k ≤ 270000) :
    ∃ l' S' n', fX8_with N S (nI l) (nI k) (nI c) = some (nI l', S') ∧ LExt S S' n n' ∧ Fr S S' [43] [41, 42, 44] ∧ n' ≤ n + k ∧ l' < n' ∧ (∀ i, lvl S' l' i = if i < k then lvl S l i else lvl S c (i - k)) ∧ (∀ nv, (∀ i, i < k → lvl S l i < nv) → Lin S n nv → Lin S' n' nv) := by
  have hn0 := hL.2.2.1
  have same : ∀ S2 : St, Fr S S2 [] [44] → Lst S2 n ∧ LExt S S2 n n ∧ (∀ q, nH S2 q = nH S q) ∧ (∀ q, nT S2 q = nT S q) := by
    intro S2 h2
    have g1 := h2.2.1 41 (by decide)
    have g2 := h2.2.1 42 (by decide)
    refine ⟨hL.of (h2.1 43 (by decide)) g1 g2, ⟨hL.of (h2.1 43 (by decide)) g1 g2, Nat.le_refl _, fun q _ => by rw [g1, g2]; exact ⟨rfl, rfl⟩⟩, fun q => by unfold nH; rw [g1], fun q => by unfold nT; rw [g2]⟩
  obtain ⟨R, e1, l', n', e2, h1, h1f, h2, h3, h4, h5⟩ := loop_par (step := fun k x => fX8_with_6s N k x.1 x.2.1 x.2.2.1 x.2.2.2.1 x.2.2.2.2) (fun a : St × Nat => (a.1, nI k, nI c, nI (tlk S a.2 l), nI a.2)) (fun a => 64 - a.2)
    (fun a => Fr S a.1 [] [44] ∧ a.2 ≤ k ∧ ∀ i, i < a.2 → a.1.2.1 44 i = nI (lvl S l i)) (fun a R => ∃ l' n', R.1 = nI l' ∧ LExt S R.2 n n' ∧ Fr S R.2 [43] [41, 42, 44] ∧ n' ≤ n + k ∧ l' < n' ∧ (∀ i, lvl R.2 l' i = if i < k then lvl S l i else lvl S c (i - k)) ∧ (∀ nv, (∀ i, i < k → lvl S l i < nv) → Lin S n nv → Lin R.2 n' nv)) (by
      rintro f ⟨S2, j⟩ ⟨hx, hj, hfr⟩ ih
      dsimp only at hx hj hfr ih ⊢
      obtain ⟨hL2, hE2, hH2, hT2⟩ := same S2 hx
      unfold fX8_with_6s
      by_cases c1 : k ≤ j
      · rw [if_pos (nI_le c1 (by omega)), bnd_eq]
        have hjk : j = k := by omega
        subst hjk
        obtain ⟨l2, S3, m3, e1, e2, e2f, e3, e4, e5, e6⟩ := X8_with2 (S0 := S) (l := l) hN hL2 hc hk hn (fun i _ => hL.hlt hl) hfr
        refine ⟨_, e1, l2, m3, rfl, hE2.trans e2, (hx.mono (fun _ h => by cases h) (by decide)).trans (e2f.mono (fun _ h => h) (by decide)), e3, e4, fun i => ?_, fun nv h1 h2 => e6 nv h1 (fun q q1 q2 => by rw [hH2]; exact h2 q q1 q2)⟩
        rw [e5 i]
        by_cases c2 : i < j
        · rw [if_pos c2, if_pos c2]
        · rw [if_neg c2, if_neg c2, hE2.lv_ hL _ c hc]
      · rw [if_neg (fun q => c1 ((nI_leI (by omega) (by omega)).mp q))]
        have ht := tlk_lt hL j l hl
        rw [bd2_ok (X8_head hL2 ht), ckx_ok (vp_in_nI (by omega) (by omega)), bnd_eq, nI_clamp (by omega)]
        have hx3 : Fr S (sA S2 44 (upd (S2.2.1 44) j (nI (nH S2 (tlk S j l))))) [] [44] := hx.trans (Fr.A (by decide))
        obtain ⟨hL3, hE3, hH3, hT3⟩ := same _ hx3
        rw [bd2_ok (X8_tail hL3 ht), bnd_eq, hT3, ← tlk_s, nI_1]
        refine ih (_, j + 1) ⟨hx3, by show j + 1 ≤ k; omega, fun i hi => ?_⟩ (by show 64 - (j + 1) < 64 - j; omega)
        show upd (S2.2.1 44) j (nI (nH S2 (tlk S j l))) i = nI (lvl S l i)
        rw [upd_at]
        by_cases e : i = j
        · subst e
          rw [if_pos rfl, hH2]
          rfl
        · rw [if_neg e]
          exact hfr i (by have : i < j + 1 := hi; omega)) N (S, 0) ⟨Fr.rf, Nat.zero_le _, fun i hi => absurd hi (Nat.not_lt_zero _)⟩ (by show 64 - 0 < N; unfold Big at hN; omega)
  obtain ⟨r1, r2⟩ := R
  dsimp only at e2 h1 h1f h4 h5
  subst e2
  exact ⟨l', r2, n', e1, h1, h1f, h2, h3, h4, h5⟩
