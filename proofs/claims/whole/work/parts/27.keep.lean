/-! what holds of every answer of a function that answers -/
abbrev tl (S : St) : Nat × Nat × Nat × Nat := S.2.2.2
def Kp {β : Type} (P : β → Prop) (o : Option β) : Prop := ∀ R, o = some R → P R
section KP
variable {α γ β σ : Type} {P : β → Prop}
theorem kp_bnd {v : α} {K : α → Option β} (h : ∀ x, x = v → Kp P (K x)) : Kp P (bnd v K) := fun R e => h v rfl R e
theorem kp_ckx {i : Int32} {n : Nat} {K : Option β} (h : vp_in i n → Kp P K) : Kp P (ckx i n K) := fun R e => h (ckx_el e).1 R (ckx_el e).2
theorem kp_ckp {c : Bool} {K : Option β} (h : c = true → Kp P K) : Kp P (ckp c K) := fun R e => h (ckp_el e).1 R (ckp_el e).2
theorem kp_ckc {sp dp n : Int32} {L0 L1 : Nat} {K : Option β} (h : (¬ sp < 0 ∧ ¬ dp < 0 ∧ ¬ n < 0 ∧ sp.toNatClampNeg + n.toNatClampNeg ≤ L0 ∧ dp.toNatClampNeg + n.toNatClampNeg ≤ L1) → Kp P K) : Kp P (ckc sp dp n L0 L1 K) := fun R e => h (ckc_el e).1 R (ckc_el e).2
theorem kp_bdo {o : Option α} {K : α → Option β} (h : ∀ x, o = some x → Kp P (K x)) : Kp P (bdo o K) := fun R e => by
  obtain ⟨x, h1, h2⟩ := bdo_el e
  exact h x h1 R h2
theorem kp_bd2 {o : Option (α × γ)} {K : α → γ → Option β} (h : ∀ x y, o = some (x, y) → Kp P (K x y)) : Kp P (bd2 o K) := fun R e => by
  obtain ⟨x, y, h1, h2⟩ := bd2_el e
  exact h x y h1 R h2
theorem kp_ite {c : Prop} {h0 : Decidable c} {A B : Option β} (h1 : c → Kp P A) (h2 : ¬ c → Kp P B) : Kp P (if c then A else B) := fun R e => by
  by_cases q : c
  · rw [if_pos q] at e; exact h1 q R e
  · rw [if_neg q] at e; exact h2 q R e
theorem kp_some {R : β} (h : P R) : Kp P (some R) := fun _ e => by cases e; exact h
theorem kp_loop {P : σ → β → Prop} {step : (σ → Option β) → σ → Option β} (h : ∀ k, (∀ x, Kp (P x) (k x)) → ∀ x, Kp (P x) (step k x)) : ∀ n x, Kp (P x) (loopN step n x)
  | 0, _ => fun _ e => by cases e
  | n + 1, x => h _ (kp_loop h n) x
end KP
theorem tX2_size (N : Nat) (S : St) : Kp (fun R => tl R.2 = tl S) (fX2_size N S ) := by
  unfold fX2_size
  exact kp_some rfl
theorem tX2_erasedNodes (N : Nat) (S : St) : Kp (fun R => tl R.2 = tl S) (fX2_erasedNodes N S ) := by
  unfold fX2_erasedNodes
  exact kp_some rfl
theorem tX2_population (N : Nat) (S : St) (p1 : Int32) : Kp (fun R => tl R.2 = tl S) (fX2_population N S p1) := by
  unfold fX2_population
  refine kp_ite (fun q1 => ?_) (fun q1 => ?_)
  · skip
    exact kp_some rfl
  · skip
    refine kp_ite (fun q2 => ?_) (fun q2 => ?_)
    · skip
      exact kp_some rfl
    · skip
      refine kp_ckx (fun h3 => ?_)
      exact kp_some rfl
theorem tX2_kindOf (N : Nat) (S : St) (p1 : Int32) : Kp (fun R => tl R.2 = tl S) (fX2_kindOf N S p1) := by
  unfold fX2_kindOf
  refine kp_ite (fun q1 => ?_) (fun q1 => ?_)
  · skip
    exact kp_some rfl
  · skip
    refine kp_ite (fun q2 => ?_) (fun q2 => ?_)
    · skip
      exact kp_some rfl
    · skip
      refine kp_ckx (fun h3 => ?_)
      exact kp_some rfl
theorem tX2_indexOf (N : Nat) (S : St) (p1 : Int32) : Kp (fun R => tl R.2 = tl S) (fX2_indexOf N S p1) := by
  unfold fX2_indexOf
  refine kp_ite (fun q1 => ?_) (fun q1 => ?_)
  · skip
    exact kp_some rfl
  · skip
    refine kp_ite (fun q2 => ?_) (fun q2 => ?_)
    · skip
      exact kp_some rfl
    · skip
      refine kp_ckx (fun h3 => ?_)
      exact kp_some rfl
theorem tX2_across (N : Nat) (S : St) (p1 : Int32) : Kp (fun R => tl R.2 = tl S) (fX2_across N S p1) := by
  unfold fX2_across
  refine kp_ite (fun q1 => ?_) (fun q1 => ?_)
  · skip
    exact kp_some rfl
  · skip
    refine kp_ite (fun q2 => ?_) (fun q2 => ?_)
    · skip
      exact kp_some rfl
    · skip
      refine kp_ckx (fun h3 => ?_)
      exact kp_some rfl
theorem tX2_make (N : Nat) (S : St) (p1 : Int32) (p2 : Int32) : Kp (fun R => tl R.2 = tl S) (fX2_make N S p1 p2) := by
  unfold fX2_make
  refine kp_ite (fun q1 => ?_) (fun q1 => ?_)
  · skip
    exact kp_some rfl
  · skip
    refine kp_ite (fun q2 => ?_) (fun q2 => ?_)
    · skip
      exact kp_some rfl
    · skip
      refine kp_ite (fun q3 => ?_) (fun q3 => ?_)
      · skip
        exact kp_some rfl
      · skip
        refine kp_ite (fun q4 => ?_) (fun q4 => ?_)
        · skip
          refine kp_ckx (fun h5 => ?_)
          refine kp_bnd (fun z6 ez6 => ?_)
          refine kp_ite (fun q7 => ?_) (fun q7 => ?_)
          · skip
            exact kp_some rfl
          · skip
            refine kp_ite (fun q8 => ?_) (fun q8 => ?_)
            · skip
              refine kp_bnd (fun S9 eS9 => ?_)
              have tS9 : tl S9 = tl S := by rw [eS9]; rfl
              refine kp_ckx (fun h10 => ?_)
              refine kp_bnd (fun S11 eS11 => ?_)
              have tS11 : tl S11 = tl S9 := by rw [eS11]; rfl
              refine kp_ckx (fun h12 => ?_)
              refine kp_bnd (fun S13 eS13 => ?_)
              have tS13 : tl S13 = tl S11 := by rw [eS13]; rfl
              refine kp_ckx (fun h14 => ?_)
              refine kp_ckx (fun h15 => ?_)
              refine kp_bnd (fun S16 eS16 => ?_)
              have tS16 : tl S16 = tl S13 := by rw [eS16]; rfl
              exact kp_some (tS16.trans (tS13.trans (tS11.trans tS9)))
            · skip
              exact kp_some rfl
        · skip
          exact kp_some rfl
theorem tX2_discard (N : Nat) (S : St) (p1 : Int32) : Kp (fun R => tl R = tl S) (fX2_discard N S p1) := by
  unfold fX2_discard
  refine kp_bd2 (fun v1 S3 h2 => ?_)
  have tS3 : tl S3 = tl S := tX2_kindOf N S p1 (v1, S3) h2
  refine kp_ite (fun q4 => ?_) (fun q4 => ?_)
  · skip
    exact kp_some tS3
  · skip
    refine kp_ite (fun q5 => ?_) (fun q5 => ?_)
    · skip
      exact kp_some tS3
    · skip
      refine kp_ite (fun q6 => ?_) (fun q6 => ?_)
      · skip
        refine kp_ckx (fun h7 => ?_)
        refine kp_ckx (fun h8 => ?_)
        refine kp_bnd (fun S9 eS9 => ?_)
        have tS9 : tl S9 = tl S3 := by rw [eS9]; rfl
        refine kp_ckx (fun h10 => ?_)
        refine kp_bnd (fun S11 eS11 => ?_)
        have tS11 : tl S11 = tl S9 := by rw [eS11]; rfl
        refine kp_ckx (fun h12 => ?_)
        refine kp_bnd (fun S13 eS13 => ?_)
        have tS13 : tl S13 = tl S11 := by rw [eS13]; rfl
        refine kp_bnd (fun S14 eS14 => ?_)
        have tS14 : tl S14 = tl S13 := by rw [eS14]; rfl
        exact kp_some (tS14.trans (tS13.trans (tS11.trans (tS9.trans tS3))))
      · skip
        exact kp_some tS3
theorem tX2_rouse (N : Nat) (S : St) (p1 : Int32) : Kp (fun R => tl R = tl S) (fX2_rouse N S p1) := by
  unfold fX2_rouse
  refine kp_ite (fun q1 => ?_) (fun q1 => ?_)
  · skip
    exact kp_some rfl
  · skip
    refine kp_ite (fun q2 => ?_) (fun q2 => ?_)
    · skip
      exact kp_some rfl
    · skip
      refine kp_ite (fun q3 => ?_) (fun q3 => ?_)
      · skip
        refine kp_ckx (fun h4 => ?_)
        refine kp_ite (fun q5 => ?_) (fun q5 => ?_)
        · skip
          refine kp_ckx (fun h6 => ?_)
          refine kp_ite (fun q7 => ?_) (fun q7 => ?_)
          · skip
            refine kp_ckx (fun h8 => ?_)
            refine kp_bnd (fun S9 eS9 => ?_)
            have tS9 : tl S9 = tl S := by rw [eS9]; rfl
            refine kp_ckx (fun h10 => ?_)
            refine kp_bnd (fun S11 eS11 => ?_)
            have tS11 : tl S11 = tl S9 := by rw [eS11]; rfl
            refine kp_bnd (fun S12 eS12 => ?_)
            have tS12 : tl S12 = tl S11 := by rw [eS12]; rfl
            exact kp_some (tS12.trans (tS11.trans tS9))
          · skip
            exact kp_some rfl
        · skip
          exact kp_some rfl
      · skip
        exact kp_some rfl
theorem tX2_link (N : Nat) (S : St) (p1 : Int32) (p2 : Int32) : Kp (fun R => tl R = tl S) (fX2_link N S p1 p2) := by
  unfold fX2_link
  refine kp_ite (fun q1 => ?_) (fun q1 => ?_)
  · skip
    exact kp_some rfl
  · skip
    refine kp_ite (fun q2 => ?_) (fun q2 => ?_)
    · skip
      exact kp_some rfl
    · skip
      refine kp_ite (fun q3 => ?_) (fun q3 => ?_)
      · skip
        exact kp_some rfl
      · skip
        refine kp_ite (fun q4 => ?_) (fun q4 => ?_)
        · skip
          refine kp_ckx (fun h5 => ?_)
          refine kp_bnd (fun S6 eS6 => ?_)
          have tS6 : tl S6 = tl S := by rw [eS6]; rfl
          refine kp_ckx (fun h7 => ?_)
          refine kp_bnd (fun S8 eS8 => ?_)
          have tS8 : tl S8 = tl S6 := by rw [eS8]; rfl
          refine kp_bdo (fun v9 h10 => ?_)
          refine kp_bdo (fun S13 h12 => ?_)
          have tS13 : tl S13 = tl S8 := tX2_rouse N S8 v9 S13 h12
          refine kp_bdo (fun v14 h15 => ?_)
          refine kp_bdo (fun S18 h17 => ?_)
          have tS18 : tl S18 = tl S13 := tX2_rouse N S13 v14 S18 h17
          exact kp_some (tS18.trans (tS13.trans (tS8.trans tS6)))
        · skip
          exact kp_some rfl
theorem tX2_replace (N : Nat) (S : St) (p1 : Int32) (p2 : Int32) : Kp (fun R => tl R = tl S) (fX2_replace N S p1 p2) := by
  unfold fX2_replace
  refine kp_bd2 (fun v1 S3 h2 => ?_)
  have tS3 : tl S3 = tl S := tX2_across N S p1 (v1, S3) h2
  refine kp_bdo (fun S6 h5 => ?_)
  have tS6 : tl S6 = tl S3 := tX2_link N S3 p2 v1 S6 h5
  exact kp_some (tS6.trans tS3)
theorem tX2_join (N : Nat) (S : St) (p1 : Int32) (p2 : Int32) : Kp (fun R => tl R = tl S) (fX2_join N S p1 p2) := by
  unfold fX2_join
  refine kp_bd2 (fun v1 S3 h2 => ?_)
  have tS3 : tl S3 = tl S := tX2_across N S p1 (v1, S3) h2
  refine kp_bd2 (fun v4 S6 h5 => ?_)
  have tS6 : tl S6 = tl S3 := tX2_across N S3 p2 (v4, S6) h5
  refine kp_bdo (fun S9 h8 => ?_)
  have tS9 : tl S9 = tl S6 := tX2_link N S6 v1 v4 S9 h8
  exact kp_some (tS9.trans (tS6.trans tS3))
theorem tX2_isErased (N : Nat) (S : St) (p1 : Int32) : Kp (fun R => tl R.2 = tl S) (fX2_isErased N S p1) := by
  unfold fX2_isErased
  refine kp_bd2 (fun v1 S3 h2 => ?_)
  have tS3 : tl S3 = tl S := tX2_across N S p1 (v1, S3) h2
  refine kp_bdo (fun v4 h5 => ?_)
  refine kp_bd2 (fun v6 S8 h7 => ?_)
  have tS8 : tl S8 = tl S3 := tX2_kindOf N S3 v4 (v6, S8) h7
  refine kp_ite (fun q9 => ?_) (fun q9 => ?_)
  · skip
    exact kp_some (tS8.trans tS3)
  · skip
    exact kp_some (tS8.trans tS3)
theorem tX2_yields (N : Nat) (S : St) (p1 : Int32) (p2 : Int32) : Kp (fun R => tl R.2 = tl S) (fX2_yields N S p1 p2) := by
  unfold fX2_yields
  refine kp_bd2 (fun v1 S3 h2 => ?_)
  have tS3 : tl S3 = tl S := tX2_kindOf N S p1 (v1, S3) h2
  refine kp_ite (fun q4 => ?_) (fun q4 => ?_)
  · skip
    exact kp_some tS3
  · skip
    refine kp_ite (fun q5 => ?_) (fun q5 => ?_)
    · skip
      exact kp_some tS3
    · skip
      refine kp_ite (fun q6 => ?_) (fun q6 => ?_)
      · skip
        exact kp_some tS3
      · skip
        refine kp_ite (fun q7 => ?_) (fun q7 => ?_)
        · skip
          refine kp_bdo (fun v12 h13 => ?_)
          refine kp_bd2 (fun v14 S16 h15 => ?_)
          have tS16 : tl S16 = tl S3 := tX2_isErased N S3 v12 (v14, S16) h15
          refine kp_ite (fun q17 => ?_) (fun q17 => ?_)
          · skip
            exact kp_some (tS16.trans tS3)
          · skip
            refine kp_bdo (fun v18 h19 => ?_)
            refine kp_bd2 (fun v20 S22 h21 => ?_)
            have tS22 : tl S22 = tl S16 := tX2_isErased N S16 v18 (v20, S22) h21
            refine kp_ite (fun q23 => ?_) (fun q23 => ?_)
            · skip
              exact kp_some (tS22.trans (tS16.trans tS3))
            · skip
              exact kp_some (tS22.trans (tS16.trans tS3))
        · skip
          refine kp_ite (fun q8 => ?_) (fun q8 => ?_)
          · skip
            refine kp_ite (fun q9 => ?_) (fun q9 => ?_)
            · skip
              exact kp_some tS3
            · skip
              refine kp_ite (fun q10 => ?_) (fun q10 => ?_)
              · skip
                exact kp_some tS3
              · skip
                refine kp_ite (fun q11 => ?_) (fun q11 => ?_)
                · skip
                  exact kp_some tS3
                · skip
                  exact kp_some tS3
          · skip
            exact kp_some tS3
theorem tX2_erase_64 (N : Nat) (k11 : St × Int32 × Int32 × Int32 → Option (St)) (hk11 : ∀ x, Kp (fun R => tl R = tl x.1) (k11 x)) (S : St) (x1 : Int32) (x2 : Int32) (x3 : Int32) : Kp (fun R => tl R = tl S) (fX2_erase_64 N k11 S x1 x2 x3) := by
  unfold fX2_erase_64
  refine kp_bnd (fun z1 ez1 => ?_)
  exact fun R h => (hk11 (S, x1, x2, z1) R h).trans rfl
theorem tX2_erase_11s (N : Nat) (k11 : St × Int32 × Int32 × Int32 → Option (St)) (hk11 : ∀ x, Kp (fun R => tl R = tl x.1) (k11 x)) (S : St) (x1 : Int32) (x2 : Int32) (x3 : Int32) : Kp (fun R => tl R = tl S) (fX2_erase_11s N k11 S x1 x2 x3) := by
  unfold fX2_erase_11s
  refine kp_ite (fun q1 => ?_) (fun q1 => ?_)
  · skip
    refine kp_bdo (fun S4 h3 => ?_)
    have tS4 : tl S4 = tl S := tX2_discard N S x1 S4 h3
    refine kp_bnd (fun S5 eS5 => ?_)
    have tS5 : tl S5 = tl S4 := by rw [eS5]; rfl
    exact kp_some (tS5.trans tS4)
  · skip
    refine kp_bdo (fun v6 h7 => ?_)
    refine kp_bd2 (fun v8 S10 h9 => ?_)
    have tS10 : tl S10 = tl S := tX2_isErased N S v6 (v8, S10) h9
    refine kp_ite (fun q11 => ?_) (fun q11 => ?_)
    · skip
      refine kp_bd2 (fun v12 S14 h13 => ?_)
      have tS14 : tl S14 = tl S10 := tX2_make N S10 (5 : Int32) (-1 : Int32) (v12, S14) h13
      refine kp_bdo (fun v15 h16 => ?_)
      refine kp_bdo (fun S19 h18 => ?_)
      have tS19 : tl S19 = tl S14 := tX2_replace N S14 v6 v15 S19 h18
      exact fun R h => (tX2_erase_64 N _ hk11 S19 x1 x2 x3 R h).trans (tS19.trans (tS14.trans tS10))
    · skip
      refine kp_bd2 (fun v20 S22 h21 => ?_)
      have tS22 : tl S22 = tl S10 := tX2_across N S10 v6 (v20, S22) h21
      refine kp_bdo (fun v23 h24 => ?_)
      refine kp_bdo (fun S27 h26 => ?_)
      have tS27 : tl S27 = tl S22 := tX2_discard N S22 v23 S27 h26
      exact fun R h => (tX2_erase_64 N _ hk11 S27 x1 x2 x3 R h).trans (tS27.trans (tS22.trans tS10))
theorem tX2_erase_11 (N : Nat) (x : St × Int32 × Int32 × Int32) : Kp (fun R => tl R = tl x.1) (fX2_erase_11 N x) := kp_loop (P := fun x R => tl R = tl x.1) (fun k hk x => tX2_erase_11s N k hk x.1 x.2.1 x.2.2.1 x.2.2.2) N x
theorem tX2_erase (N : Nat) (S : St) (p1 : Int32) : Kp (fun R => tl R = tl S) (fX2_erase N S p1) := by
  unfold fX2_erase
  refine kp_bd2 (fun v1 S3 h2 => ?_)
  have tS3 : tl S3 = tl S := tX2_kindOf N S p1 (v1, S3) h2
  refine kp_bdo (fun v4 h5 => ?_)
  refine kp_bnd (fun z6 ez6 => ?_)
  exact fun R h => (tX2_erase_11 N (S3, p1, v4, z6) R h).trans tS3
theorem tX2_calm (N : Nat) (S : St) (p1 : Int32) : Kp (fun R => tl R = tl S) (fX2_calm N S p1) := by
  unfold fX2_calm
  refine kp_ite (fun q1 => ?_) (fun q1 => ?_)
  · skip
    exact kp_some rfl
  · skip
    refine kp_ite (fun q2 => ?_) (fun q2 => ?_)
    · skip
      refine kp_ckx (fun h3 => ?_)
      refine kp_bnd (fun S4 eS4 => ?_)
      have tS4 : tl S4 = tl S := by rw [eS4]; rfl
      refine kp_ckx (fun h5 => ?_)
      refine kp_ite (fun q6 => ?_) (fun q6 => ?_)
      · skip
        refine kp_bdo (fun v7 h8 => ?_)
        refine kp_bd2 (fun v9 S11 h10 => ?_)
        have tS11 : tl S11 = tl S4 := tX2_across N S4 v7 (v9, S11) h10
        refine kp_bdo (fun v12 h13 => ?_)
        refine kp_bd2 (fun v14 S16 h15 => ?_)
        have tS16 : tl S16 = tl S11 := tX2_kindOf N S11 v12 (v14, S16) h15
        refine kp_ite (fun q17 => ?_) (fun q17 => ?_)
        · skip
          refine kp_bdo (fun S29 h28 => ?_)
          have tS29 : tl S29 = tl S16 := tX2_discard N S16 p1 S29 h28
          refine kp_bdo (fun S32 h31 => ?_)
          have tS32 : tl S32 = tl S29 := tX2_discard N S29 v12 S32 h31
          exact kp_some (tS32.trans (tS29.trans (tS16.trans (tS11.trans tS4))))
        · skip
          refine kp_bdo (fun v18 h19 => ?_)
          refine kp_bd2 (fun v20 S22 h21 => ?_)
          have tS22 : tl S22 = tl S16 := tX2_yields N S16 v12 v18 (v20, S22) h21
          refine kp_ite (fun q23 => ?_) (fun q23 => ?_)
          · skip
            exact kp_some (tS22.trans (tS16.trans (tS11.trans tS4)))
          · skip
            refine kp_bdo (fun S26 h25 => ?_)
            have tS26 : tl S26 = tl S22 := tX2_erase N S22 v12 S26 h25
            exact kp_some (tS26.trans (tS22.trans (tS16.trans (tS11.trans tS4))))
      · skip
        exact kp_some tS4
    · skip
      exact kp_some rfl
theorem tX2_eraseAll_2s (N : Nat) (k2 : St × Int32 → Option (St)) (hk2 : ∀ x, Kp (fun R => tl R = tl x.1) (k2 x)) (S : St) (x1 : Int32) : Kp (fun R => tl R = tl S) (fX2_eraseAll_2s N k2 S x1) := by
  unfold fX2_eraseAll_2s
  refine kp_ite (fun q1 => ?_) (fun q1 => ?_)
  · skip
    exact kp_some rfl
  · skip
    refine kp_ite (fun q2 => ?_) (fun q2 => ?_)
    · skip
      exact kp_some rfl
    · skip
      refine kp_ite (fun q3 => ?_) (fun q3 => ?_)
      · skip
        exact kp_some rfl
      · skip
        refine kp_bnd (fun S4 eS4 => ?_)
        have tS4 : tl S4 = tl S := by rw [eS4]; rfl
        refine kp_ckx (fun h5 => ?_)
        refine kp_bdo (fun S8 h7 => ?_)
        have tS8 : tl S8 = tl S4 := tX2_calm N S4 (S4.2.1 46 (S4.1 48 : Int32).toNatClampNeg) S8 h7
        refine kp_bnd (fun z9 ez9 => ?_)
        exact fun R h => (hk2 (S8, z9) R h).trans (tS8.trans tS4)
theorem tX2_eraseAll_2 (N : Nat) (x : St × Int32) : Kp (fun R => tl R = tl x.1) (fX2_eraseAll_2 N x) := kp_loop (P := fun x R => tl R = tl x.1) (fun k hk x => tX2_eraseAll_2s N k hk x.1 x.2) N x
theorem tX2_eraseAll (N : Nat) (S : St) : Kp (fun R => tl R = tl S) (fX2_eraseAll N S ) := by
  unfold fX2_eraseAll
  refine kp_bnd (fun z1 ez1 => ?_)
  exact fun R h => (tX2_eraseAll_2 N (S, z1) R h).trans rfl
theorem tX2_clear_42s (N : Nat) (k42 : St × Int32 → Option (St)) (hk42 : ∀ x, Kp (fun R => tl R = tl x.1) (k42 x)) (S : St) (x1 : Int32) : Kp (fun R => tl R = tl S) (fX2_clear_42s N k42 S x1) := by
  unfold fX2_clear_42s
  refine kp_ite (fun q1 => ?_) (fun q1 => ?_)
  · skip
    refine kp_bnd (fun S2 eS2 => ?_)
    have tS2 : tl S2 = tl S := by rw [eS2]; rfl
    refine kp_bnd (fun S3 eS3 => ?_)
    have tS3 : tl S3 = tl S2 := by rw [eS3]; rfl
    refine kp_bnd (fun S4 eS4 => ?_)
    have tS4 : tl S4 = tl S3 := by rw [eS4]; rfl
    exact kp_some (tS4.trans (tS3.trans tS2))
  · skip
    refine kp_ckx (fun h5 => ?_)
    refine kp_bnd (fun S6 eS6 => ?_)
    have tS6 : tl S6 = tl S := by rw [eS6]; rfl
    refine kp_bnd (fun z7 ez7 => ?_)
    exact fun R h => (hk42 (S6, z7) R h).trans tS6
theorem tX2_clear_42 (N : Nat) (x : St × Int32) : Kp (fun R => tl R = tl x.1) (fX2_clear_42 N x) := kp_loop (P := fun x R => tl R = tl x.1) (fun k hk x => tX2_clear_42s N k hk x.1 x.2) N x
theorem tX2_clear_2s (N : Nat) (k2 : St × Int32 → Option (St)) (hk2 : ∀ x, Kp (fun R => tl R = tl x.1) (k2 x)) (S : St) (x1 : Int32) : Kp (fun R => tl R = tl S) (fX2_clear_2s N k2 S x1) := by
  unfold fX2_clear_2s
  refine kp_ite (fun q1 => ?_) (fun q1 => ?_)
  · skip
    refine kp_bnd (fun z2 ez2 => ?_)
    exact fun R h => (tX2_clear_42 N (S, z2) R h).trans rfl
  · skip
    refine kp_ckx (fun h3 => ?_)
    refine kp_bnd (fun S4 eS4 => ?_)
    have tS4 : tl S4 = tl S := by rw [eS4]; rfl
    refine kp_ckx (fun h5 => ?_)
    refine kp_bnd (fun S6 eS6 => ?_)
    have tS6 : tl S6 = tl S4 := by rw [eS6]; rfl
    refine kp_ckx (fun h7 => ?_)
    refine kp_bnd (fun S8 eS8 => ?_)
    have tS8 : tl S8 = tl S6 := by rw [eS8]; rfl
    refine kp_bnd (fun z9 ez9 => ?_)
    exact fun R h => (hk2 (S8, z9) R h).trans (tS8.trans (tS6.trans tS4))
theorem tX2_clear_2 (N : Nat) (x : St × Int32) : Kp (fun R => tl R = tl x.1) (fX2_clear_2 N x) := kp_loop (P := fun x R => tl R = tl x.1) (fun k hk x => tX2_clear_2s N k hk x.1 x.2) N x
theorem tX2_clear (N : Nat) (S : St) : Kp (fun R => tl R = tl S) (fX2_clear N S ) := by
  unfold fX2_clear
  refine kp_bnd (fun z1 ez1 => ?_)
  exact fun R h => (tX2_clear_2 N (S, z1) R h).trans rfl
theorem tX3_clear (N : Nat) (S : St) : Kp (fun R => tl R = tl S) (fX3_clear N S ) := by
  unfold fX3_clear
  refine kp_bnd (fun S1 eS1 => ?_)
  have tS1 : tl S1 = tl S := by rw [eS1]; rfl
  refine kp_bnd (fun S2 eS2 => ?_)
  have tS2 : tl S2 = tl S1 := by rw [eS2]; rfl
  refine kp_bnd (fun S3 eS3 => ?_)
  have tS3 : tl S3 = tl S2 := by rw [eS3]; rfl
  exact kp_some (tS3.trans (tS2.trans tS1))
theorem tX3_betas (N : Nat) (S : St) : Kp (fun R => tl R.2 = tl S) (fX3_betas N S ) := by
  unfold fX3_betas
  exact kp_some rfl
theorem tX3_annihilations (N : Nat) (S : St) : Kp (fun R => tl R.2 = tl S) (fX3_annihilations N S ) := by
  unfold fX3_annihilations
  exact kp_some rfl
theorem tX3_passings (N : Nat) (S : St) : Kp (fun R => tl R.2 = tl S) (fX3_passings N S ) := by
  unfold fX3_passings
  exact kp_some rfl
theorem tX3_sameIndex (N : Nat) (S : St) (p1 : Int32) (p2 : Int32) : Kp (fun R => tl R.2 = tl S) (fX3_sameIndex N S p1 p2) := by
  unfold fX3_sameIndex
  refine kp_bd2 (fun v1 S3 h2 => ?_)
  have tS3 : tl S3 = tl S := tX2_indexOf N S p1 (v1, S3) h2
  refine kp_bd2 (fun v4 S6 h5 => ?_)
  have tS6 : tl S6 = tl S3 := tX2_indexOf N S3 p2 (v4, S6) h5
  refine kp_ite (fun q7 => ?_) (fun q7 => ?_)
  · skip
    exact kp_some (tS6.trans tS3)
  · skip
    exact kp_some (tS6.trans tS3)
theorem tX3_isBeta_38 (N : Nat) (S : St) (x3 : Int32) (x4 : Int32) : Kp (fun R => tl R.2 = tl S) (fX3_isBeta_38 N S x3 x4) := by
  unfold fX3_isBeta_38
  refine kp_ite (fun q1 => ?_) (fun q1 => ?_)
  · skip
    refine kp_ite (fun q2 => ?_) (fun q2 => ?_)
    · skip
      exact kp_some rfl
    · skip
      exact kp_some rfl
  · skip
    exact kp_some rfl
theorem tX3_isBeta (N : Nat) (S : St) (p1 : Int32) (p2 : Int32) : Kp (fun R => tl R.2 = tl S) (fX3_isBeta N S p1 p2) := by
  unfold fX3_isBeta
  refine kp_bd2 (fun v1 S3 h2 => ?_)
  have tS3 : tl S3 = tl S := tX2_kindOf N S p1 (v1, S3) h2
  refine kp_bd2 (fun v4 S6 h5 => ?_)
  have tS6 : tl S6 = tl S3 := tX2_kindOf N S3 p2 (v4, S6) h5
  refine kp_bd2 (fun v7 S9 h8 => ?_)
  have tS9 : tl S9 = tl S6 := tX3_sameIndex N S6 p1 p2 (v7, S9) h8
  refine kp_ite (fun q10 => ?_) (fun q10 => ?_)
  · skip
    exact kp_some (tS9.trans (tS6.trans tS3))
  · skip
    refine kp_ite (fun q11 => ?_) (fun q11 => ?_)
    · skip
      refine kp_ite (fun q12 => ?_) (fun q12 => ?_)
      · skip
        exact kp_some (tS9.trans (tS6.trans tS3))
      · skip
        exact fun R h => (tX3_isBeta_38 N S9 v1 v4 R h).trans (tS9.trans (tS6.trans tS3))
    · skip
      exact fun R h => (tX3_isBeta_38 N S9 v1 v4 R h).trans (tS9.trans (tS6.trans tS3))
theorem tX3_isAnnihilation (N : Nat) (S : St) (p1 : Int32) (p2 : Int32) : Kp (fun R => tl R.2 = tl S) (fX3_isAnnihilation N S p1 p2) := by
  unfold fX3_isAnnihilation
  refine kp_bd2 (fun v1 S3 h2 => ?_)
  have tS3 : tl S3 = tl S := tX2_kindOf N S p1 (v1, S3) h2
  refine kp_bd2 (fun v4 S6 h5 => ?_)
  have tS6 : tl S6 = tl S3 := tX3_sameIndex N S3 p1 p2 (v4, S6) h5
  refine kp_ite (fun q7 => ?_) (fun q7 => ?_)
  · skip
    exact kp_some (tS6.trans tS3)
  · skip
    refine kp_bd2 (fun v8 S10 h9 => ?_)
    have tS10 : tl S10 = tl S6 := tX2_kindOf N S6 p2 (v8, S10) h9
    refine kp_ite (fun q11 => ?_) (fun q11 => ?_)
    · skip
      refine kp_bdo (fun v12 h13 => ?_)
      refine kp_ite (fun q14 => ?_) (fun q14 => ?_)
      · skip
        exact kp_some (tS10.trans (tS6.trans tS3))
      · skip
        exact kp_some (tS10.trans (tS6.trans tS3))
    · skip
      exact kp_some (tS10.trans (tS6.trans tS3))
theorem tX3_passes (N : Nat) (S : St) (p1 : Int32) (p2 : Int32) : Kp (fun R => tl R.2 = tl S) (fX3_passes N S p1 p2) := by
  unfold fX3_passes
  refine kp_bd2 (fun v1 S3 h2 => ?_)
  have tS3 : tl S3 = tl S := tX2_kindOf N S p1 (v1, S3) h2
  refine kp_bdo (fun v4 h5 => ?_)
  refine kp_ite (fun q6 => ?_) (fun q6 => ?_)
  · skip
    exact kp_some tS3
  · skip
    refine kp_bd2 (fun v7 S9 h8 => ?_)
    have tS9 : tl S9 = tl S3 := tX2_indexOf N S3 p1 (v7, S9) h8
    refine kp_bd2 (fun v10 S12 h11 => ?_)
    have tS12 : tl S12 = tl S9 := tX2_indexOf N S9 p2 (v10, S12) h11
    refine kp_ite (fun q13 => ?_) (fun q13 => ?_)
    · skip
      exact kp_some (tS12.trans (tS9.trans tS3))
    · skip
      exact kp_some (tS12.trans (tS9.trans tS3))
theorem tX3_passedIndex (N : Nat) (S : St) (p1 : Int32) (p2 : Int32) : Kp (fun R => tl R.2 = tl S) (fX3_passedIndex N S p1 p2) := by
  unfold fX3_passedIndex
  refine kp_bd2 (fun v1 S3 h2 => ?_)
  have tS3 : tl S3 = tl S := tX2_indexOf N S p2 (v1, S3) h2
  refine kp_bd2 (fun v4 S6 h5 => ?_)
  have tS6 : tl S6 = tl S3 := tX2_kindOf N S3 p1 (v4, S6) h5
  refine kp_ite (fun q7 => ?_) (fun q7 => ?_)
  · skip
    exact kp_some (tS6.trans tS3)
  · skip
    refine kp_ite (fun q8 => ?_) (fun q8 => ?_)
    · skip
      exact kp_some (tS6.trans tS3)
    · skip
      exact kp_some (tS6.trans tS3)
theorem tX3_hasRoom_17 (N : Nat) (S : St) (x1 : Int32) (x2 : Int32) (y0 : Int32) : Kp (fun R => tl R.2 = tl S) (fX3_hasRoom_17 N S x1 x2 y0) := by
  unfold fX3_hasRoom_17
  refine kp_bd2 (fun v1 S3 h2 => ?_)
  have tS3 : tl S3 = tl S := tX2_size N S  (v1, S3) h2
  refine kp_bd2 (fun v4 S6 h5 => ?_)
  have tS6 : tl S6 = tl S3 := tX2_kindOf N S3 x2 (v4, S6) h5
  refine kp_bdo (fun v7 h8 => ?_)
  refine kp_bnd (fun z9 ez9 => ?_)
  refine kp_ite (fun q10 => ?_) (fun q10 => ?_)
  · skip
    exact kp_some (tS6.trans tS3)
  · skip
    refine kp_bd2 (fun v11 S13 h12 => ?_)
    have tS13 : tl S13 = tl S6 := tX3_passedIndex N S6 x1 x2 (v11, S13) h12
    refine kp_ite (fun q14 => ?_) (fun q14 => ?_)
    · skip
      exact kp_some (tS13.trans (tS6.trans tS3))
    · skip
      exact kp_some (tS13.trans (tS6.trans tS3))
theorem tX3_hasRoom (N : Nat) (S : St) (p1 : Int32) (p2 : Int32) : Kp (fun R => tl R.2 = tl S) (fX3_hasRoom N S p1 p2) := by
  unfold fX3_hasRoom
  refine kp_bd2 (fun v1 S3 h2 => ?_)
  have tS3 : tl S3 = tl S := tX2_kindOf N S p1 (v1, S3) h2
  refine kp_ite (fun q4 => ?_) (fun q4 => ?_)
  · skip
    exact fun R h => (tX3_hasRoom_17 N S3 p1 p2 (2 : Int32) R h).trans tS3
  · skip
    exact fun R h => (tX3_hasRoom_17 N S3 p1 p2 (1 : Int32) R h).trans tS3
theorem tX3_refusal (N : Nat) (S : St) (p1 : Int32) (p2 : Int32) : Kp (fun R => tl R.2 = tl S) (fX3_refusal N S p1 p2) := by
  unfold fX3_refusal
  refine kp_bd2 (fun v1 S3 h2 => ?_)
  have tS3 : tl S3 = tl S := tX3_isBeta N S p1 p2 (v1, S3) h2
  refine kp_ite (fun q4 => ?_) (fun q4 => ?_)
  · skip
    refine kp_bd2 (fun v5 S7 h6 => ?_)
    have tS7 : tl S7 = tl S3 := tX3_isAnnihilation N S3 p1 p2 (v5, S7) h6
    refine kp_ite (fun q8 => ?_) (fun q8 => ?_)
    · skip
      refine kp_bd2 (fun v9 S11 h10 => ?_)
      have tS11 : tl S11 = tl S7 := tX3_passes N S7 p1 p2 (v9, S11) h10
      refine kp_ite (fun q12 => ?_) (fun q12 => ?_)
      · skip
        refine kp_bd2 (fun v13 S15 h14 => ?_)
        have tS15 : tl S15 = tl S11 := tX3_passes N S11 p2 p1 (v13, S15) h14
        refine kp_ite (fun q16 => ?_) (fun q16 => ?_)
        · skip
          exact kp_some (tS15.trans (tS11.trans (tS7.trans tS3)))
        · skip
          refine kp_bd2 (fun v17 S19 h18 => ?_)
          have tS19 : tl S19 = tl S15 := tX3_hasRoom N S15 p2 p1 (v17, S19) h18
          refine kp_ite (fun q20 => ?_) (fun q20 => ?_)
          · skip
            exact kp_some (tS19.trans (tS15.trans (tS11.trans (tS7.trans tS3))))
          · skip
            exact kp_some (tS19.trans (tS15.trans (tS11.trans (tS7.trans tS3))))
      · skip
        refine kp_bd2 (fun v21 S23 h22 => ?_)
        have tS23 : tl S23 = tl S11 := tX3_hasRoom N S11 p1 p2 (v21, S23) h22
        refine kp_ite (fun q24 => ?_) (fun q24 => ?_)
        · skip
          exact kp_some (tS23.trans (tS11.trans (tS7.trans tS3)))
        · skip
          exact kp_some (tS23.trans (tS11.trans (tS7.trans tS3)))
    · skip
      exact kp_some (tS7.trans tS3)
  · skip
    exact kp_some tS3
theorem tX3_joinPorts_15s (N : Nat) (k15 : St × Int32 × Int32 × Int32 × Int32 → Option (St)) (hk15 : ∀ x, Kp (fun R => tl R = tl x.1) (k15 x)) (S : St) (x1 : Int32) (x2 : Int32) (x3 : Int32) (x4 : Int32) : Kp (fun R => tl R = tl S) (fX3_joinPorts_15s N k15 S x1 x2 x3 x4) := by
  unfold fX3_joinPorts_15s
  refine kp_ite (fun q1 => ?_) (fun q1 => ?_)
  · skip
    refine kp_bdo (fun S4 h3 => ?_)
    have tS4 : tl S4 = tl S := tX2_discard N S x1 S4 h3
    refine kp_bdo (fun S7 h6 => ?_)
    have tS7 : tl S7 = tl S4 := tX2_discard N S4 x2 S7 h6
    exact kp_some (tS7.trans tS4)
  · skip
    refine kp_bdo (fun v8 h9 => ?_)
    refine kp_bdo (fun v10 h11 => ?_)
    refine kp_bdo (fun S14 h13 => ?_)
    have tS14 : tl S14 = tl S := tX2_join N S v8 v10 S14 h13
    refine kp_bnd (fun z15 ez15 => ?_)
    exact fun R h => (hk15 (S14, x1, x2, x3, z15) R h).trans tS14
theorem tX3_joinPorts_15 (N : Nat) (x : St × Int32 × Int32 × Int32 × Int32) : Kp (fun R => tl R = tl x.1) (fX3_joinPorts_15 N x) := kp_loop (P := fun x R => tl R = tl x.1) (fun k hk x => tX3_joinPorts_15s N k hk x.1 x.2.1 x.2.2.1 x.2.2.2.1 x.2.2.2.2) N x
theorem tX3_joinPorts (N : Nat) (S : St) (p1 : Int32) (p2 : Int32) : Kp (fun R => tl R = tl S) (fX3_joinPorts N S p1 p2) := by
  unfold fX3_joinPorts
  refine kp_bd2 (fun v1 S3 h2 => ?_)
  have tS3 : tl S3 = tl S := tX2_kindOf N S p1 (v1, S3) h2
  refine kp_bdo (fun v4 h5 => ?_)
  refine kp_bnd (fun z6 ez6 => ?_)
  exact fun R h => (tX3_joinPorts_15 N (S3, p1, p2, v4, z6) R h).trans tS3
theorem tX3_pass_206 (N : Nat) (k113 : St × Int32 × Int32 × Int32 × Int32 × Int32 × Int32 × Int32 × Int32 → Option (St)) (hk113 : ∀ x, Kp (fun R => tl R = tl x.1) (k113 x)) (S : St) (x1 : Int32) (x2 : Int32) (x3 : Int32) (x4 : Int32) (x5 : Int32) (x6 : Int32) (x7 : Int32) (x8 : Int32) : Kp (fun R => tl R = tl S) (fX3_pass_206 N k113 S x1 x2 x3 x4 x5 x6 x7 x8) := by
  unfold fX3_pass_206
  refine kp_bnd (fun z1 ez1 => ?_)
  exact fun R h => (hk113 (S, x1, x2, x3, x4, x5, x6, x7, z1) R h).trans rfl
theorem tX3_pass_113s (N : Nat) (k113 : St × Int32 × Int32 × Int32 × Int32 × Int32 × Int32 × Int32 × Int32 → Option (St)) (hk113 : ∀ x, Kp (fun R => tl R = tl x.1) (k113 x)) (S : St) (x1 : Int32) (x2 : Int32) (x3 : Int32) (x4 : Int32) (x5 : Int32) (x6 : Int32) (x7 : Int32) (x8 : Int32) : Kp (fun R => tl R = tl S) (fX3_pass_113s N k113 S x1 x2 x3 x4 x5 x6 x7 x8) := by
  unfold fX3_pass_113s
  refine kp_bdo (fun v1 h2 => ?_)
  refine kp_ite (fun q3 => ?_) (fun q3 => ?_)
  · skip
    refine kp_bdo (fun S6 h5 => ?_)
    have tS6 : tl S6 = tl S := tX2_discard N S x1 S6 h5
    refine kp_bdo (fun S9 h8 => ?_)
    have tS9 : tl S9 = tl S6 := tX2_discard N S6 x2 S9 h8
    refine kp_bnd (fun S10 eS10 => ?_)
    have tS10 : tl S10 = tl S9 := by rw [eS10]; rfl
    exact kp_some (tS10.trans (tS9.trans tS6))
  · skip
    refine kp_bd2 (fun v11 S13 h12 => ?_)
    have tS13 : tl S13 = tl S := tX2_indexOf N S x1 (v11, S13) h12
    refine kp_bd2 (fun v14 S16 h15 => ?_)
    have tS16 : tl S16 = tl S13 := tX2_make N S13 x4 v11 (v14, S16) h15
    refine kp_bdo (fun v17 h18 => ?_)
    refine kp_bdo (fun v19 h20 => ?_)
    refine kp_bdo (fun S23 h22 => ?_)
    have tS23 : tl S23 = tl S16 := tX2_replace N S16 v17 v19 S23 h22
    refine kp_bdo (fun v24 h25 => ?_)
    refine kp_bdo (fun v26 h27 => ?_)
    refine kp_bdo (fun S30 h29 => ?_)
    have tS30 : tl S30 = tl S23 := tX2_link N S23 v24 v26 S30 h29
    refine kp_ite (fun q31 => ?_) (fun q31 => ?_)
    · skip
      refine kp_bdo (fun v32 h33 => ?_)
      refine kp_bdo (fun v34 h35 => ?_)
      refine kp_bdo (fun S38 h37 => ?_)
      have tS38 : tl S38 = tl S30 := tX2_link N S30 v32 v34 S38 h37
      exact fun R h => (tX3_pass_206 N _ hk113 S38 x1 x2 x3 x4 x5 x6 x7 x8 R h).trans (tS38.trans (tS30.trans (tS23.trans (tS16.trans tS13))))
    · skip
      exact fun R h => (tX3_pass_206 N _ hk113 S30 x1 x2 x3 x4 x5 x6 x7 x8 R h).trans (tS30.trans (tS23.trans (tS16.trans tS13)))
theorem tX3_pass_113 (N : Nat) (x : St × Int32 × Int32 × Int32 × Int32 × Int32 × Int32 × Int32 × Int32) : Kp (fun R => tl R = tl x.1) (fX3_pass_113 N x) := kp_loop (P := fun x R => tl R = tl x.1) (fun k hk x => tX3_pass_113s N k hk x.1 x.2.1 x.2.2.1 x.2.2.2.1 x.2.2.2.2.1 x.2.2.2.2.2.1 x.2.2.2.2.2.2.1 x.2.2.2.2.2.2.2.1 x.2.2.2.2.2.2.2.2) N x
theorem tX3_pass_110 (N : Nat) (S : St) (x1 : Int32) (x2 : Int32) (x3 : Int32) (x4 : Int32) (x5 : Int32) (x6 : Int32) (x7 : Int32) : Kp (fun R => tl R = tl S) (fX3_pass_110 N S x1 x2 x3 x4 x5 x6 x7) := by
  unfold fX3_pass_110
  refine kp_bnd (fun z1 ez1 => ?_)
  exact fun R h => (tX3_pass_113 N (S, x1, x2, x3, x4, x5, x6, x7, z1) R h).trans rfl
theorem tX3_pass_66 (N : Nat) (S : St) (x1 : Int32) (x2 : Int32) (x3 : Int32) (x4 : Int32) (x5 : Int32) (x6 : Int32) (y0 : Int32) : Kp (fun R => tl R = tl S) (fX3_pass_66 N S x1 x2 x3 x4 x5 x6 y0) := by
  unfold fX3_pass_66
  refine kp_bdo (fun v1 h2 => ?_)
  refine kp_bdo (fun v3 h4 => ?_)
  refine kp_bdo (fun S7 h6 => ?_)
  have tS7 : tl S7 = tl S := tX2_replace N S v1 v3 S7 h6
  refine kp_ite (fun q8 => ?_) (fun q8 => ?_)
  · skip
    refine kp_bdo (fun v9 h10 => ?_)
    refine kp_bdo (fun v11 h12 => ?_)
    refine kp_bdo (fun S15 h14 => ?_)
    have tS15 : tl S15 = tl S7 := tX2_replace N S7 v9 v11 S15 h14
    exact fun R h => (tX3_pass_110 N S15 x1 x2 x3 x4 x5 x6 y0 R h).trans (tS15.trans tS7)
  · skip
    exact fun R h => (tX3_pass_110 N S7 x1 x2 x3 x4 x5 x6 y0 R h).trans tS7
theorem tX3_pass (N : Nat) (S : St) (p1 : Int32) (p2 : Int32) : Kp (fun R => tl R = tl S) (fX3_pass N S p1 p2) := by
  unfold fX3_pass
  refine kp_bd2 (fun v1 S3 h2 => ?_)
  have tS3 : tl S3 = tl S := tX2_kindOf N S p2 (v1, S3) h2
  refine kp_bd2 (fun v4 S6 h5 => ?_)
  have tS6 : tl S6 = tl S3 := tX2_kindOf N S3 p1 (v4, S6) h5
  refine kp_bdo (fun v7 h8 => ?_)
  refine kp_bd2 (fun v9 S11 h10 => ?_)
  have tS11 : tl S11 = tl S6 := tX3_passedIndex N S6 p1 p2 (v9, S11) h10
  refine kp_bd2 (fun v12 S14 h13 => ?_)
  have tS14 : tl S14 = tl S11 := tX2_make N S11 v1 v9 (v12, S14) h13
  refine kp_ite (fun q15 => ?_) (fun q15 => ?_)
  · skip
    refine kp_bd2 (fun v16 S18 h17 => ?_)
    have tS18 : tl S18 = tl S14 := tX3_passedIndex N S14 p1 p2 (v16, S18) h17
    refine kp_bd2 (fun v19 S21 h20 => ?_)
    have tS21 : tl S21 = tl S18 := tX2_make N S18 v1 v16 (v19, S21) h20
    exact fun R h => (tX3_pass_66 N S21 p1 p2 v1 v4 v7 v12 v19 R h).trans (tS21.trans (tS18.trans (tS14.trans (tS11.trans (tS6.trans tS3)))))
  · skip
    exact fun R h => (tX3_pass_66 N S14 p1 p2 v1 v4 v7 v12 (-1 : Int32) R h).trans (tS14.trans (tS11.trans (tS6.trans tS3)))
theorem tX3_act (N : Nat) (S : St) (p1 : Int32) (p2 : Int32) : Kp (fun R => tl R = tl S) (fX3_act N S p1 p2) := by
  unfold fX3_act
  refine kp_bd2 (fun v1 S3 h2 => ?_)
  have tS3 : tl S3 = tl S := tX3_isBeta N S p1 p2 (v1, S3) h2
  refine kp_ite (fun q4 => ?_) (fun q4 => ?_)
  · skip
    refine kp_bd2 (fun v5 S7 h6 => ?_)
    have tS7 : tl S7 = tl S3 := tX3_isAnnihilation N S3 p1 p2 (v5, S7) h6
    refine kp_ite (fun q8 => ?_) (fun q8 => ?_)
    · skip
      refine kp_bd2 (fun v9 S11 h10 => ?_)
      have tS11 : tl S11 = tl S7 := tX3_passes N S7 p1 p2 (v9, S11) h10
      refine kp_ite (fun q12 => ?_) (fun q12 => ?_)
      · skip
        refine kp_bd2 (fun v13 S15 h14 => ?_)
        have tS15 : tl S15 = tl S11 := tX3_passes N S11 p2 p1 (v13, S15) h14
        refine kp_ite (fun q16 => ?_) (fun q16 => ?_)
        · skip
          exact kp_some (tS15.trans (tS11.trans (tS7.trans tS3)))
        · skip
          refine kp_bdo (fun S19 h18 => ?_)
          have tS19 : tl S19 = tl S15 := tX3_pass N S15 p2 p1 S19 h18
          exact kp_some (tS19.trans (tS15.trans (tS11.trans (tS7.trans tS3))))
      · skip
        refine kp_bdo (fun S22 h21 => ?_)
        have tS22 : tl S22 = tl S11 := tX3_pass N S11 p1 p2 S22 h21
        exact kp_some (tS22.trans (tS11.trans (tS7.trans tS3)))
    · skip
      refine kp_bdo (fun S25 h24 => ?_)
      have tS25 : tl S25 = tl S7 := tX3_joinPorts N S7 p1 p2 S25 h24
      refine kp_bnd (fun S26 eS26 => ?_)
      have tS26 : tl S26 = tl S25 := by rw [eS26]; rfl
      exact kp_some (tS26.trans (tS25.trans (tS7.trans tS3)))
  · skip
    refine kp_bdo (fun S29 h28 => ?_)
    have tS29 : tl S29 = tl S3 := tX3_joinPorts N S3 p1 p2 S29 h28
    refine kp_bnd (fun S30 eS30 => ?_)
    have tS30 : tl S30 = tl S29 := by rw [eS30]; rfl
    exact kp_some (tS30.trans (tS29.trans tS3))
theorem tX5_size (N : Nat) (S : St) : Kp (fun R => tl R.2 = tl S) (fX5_size N S ) := by
  unfold fX5_size
  exact kp_some rfl
theorem tX5_form (N : Nat) (S : St) (p1 : Int32) : Kp (fun R => tl R.2 = tl S) (fX5_form N S p1) := by
  unfold fX5_form
  refine kp_ite (fun q1 => ?_) (fun q1 => ?_)
  · skip
    exact kp_some rfl
  · skip
    refine kp_ite (fun q2 => ?_) (fun q2 => ?_)
    · skip
      exact kp_some rfl
    · skip
      refine kp_ckx (fun h3 => ?_)
      exact kp_some rfl
theorem tX5_left (N : Nat) (S : St) (p1 : Int32) : Kp (fun R => tl R.2 = tl S) (fX5_left N S p1) := by
  unfold fX5_left
  refine kp_ite (fun q1 => ?_) (fun q1 => ?_)
  · skip
    exact kp_some rfl
  · skip
    refine kp_ite (fun q2 => ?_) (fun q2 => ?_)
    · skip
      exact kp_some rfl
    · skip
      refine kp_ckx (fun h3 => ?_)
      exact kp_some rfl
theorem tX5_right (N : Nat) (S : St) (p1 : Int32) : Kp (fun R => tl R.2 = tl S) (fX5_right N S p1) := by
  unfold fX5_right
  refine kp_ite (fun q1 => ?_) (fun q1 => ?_)
  · skip
    exact kp_some rfl
  · skip
    refine kp_ite (fun q2 => ?_) (fun q2 => ?_)
    · skip
      exact kp_some rfl
    · skip
      refine kp_ckx (fun h3 => ?_)
      exact kp_some rfl
theorem tX5_add (N : Nat) (S : St) (p1 : Int32) (p2 : Int32) (p3 : Int32) (p4 : Int32) : Kp (fun R => tl R.2 = tl S) (fX5_add N S p1 p2 p3 p4) := by
  unfold fX5_add
  refine kp_ite (fun q1 => ?_) (fun q1 => ?_)
  · skip
    exact kp_some rfl
  · skip
    refine kp_ite (fun q2 => ?_) (fun q2 => ?_)
    · skip
      exact kp_some rfl
    · skip
      refine kp_ite (fun q3 => ?_) (fun q3 => ?_)
      · skip
        refine kp_bnd (fun z4 ez4 => ?_)
        refine kp_ckx (fun h5 => ?_)
        refine kp_bnd (fun S6 eS6 => ?_)
        have tS6 : tl S6 = tl S := by rw [eS6]; rfl
        refine kp_ckx (fun h7 => ?_)
        refine kp_bnd (fun S8 eS8 => ?_)
        have tS8 : tl S8 = tl S6 := by rw [eS8]; rfl
        refine kp_ckx (fun h9 => ?_)
        refine kp_bnd (fun S10 eS10 => ?_)
        have tS10 : tl S10 = tl S8 := by rw [eS10]; rfl
        refine kp_ckx (fun h11 => ?_)
        refine kp_ckx (fun h12 => ?_)
        refine kp_bnd (fun S13 eS13 => ?_)
        have tS13 : tl S13 = tl S10 := by rw [eS13]; rfl
        refine kp_ckx (fun h14 => ?_)
        refine kp_bnd (fun S15 eS15 => ?_)
        have tS15 : tl S15 = tl S13 := by rw [eS15]; rfl
        refine kp_bnd (fun S16 eS16 => ?_)
        have tS16 : tl S16 = tl S15 := by rw [eS16]; rfl
        exact kp_some (tS16.trans (tS15.trans (tS13.trans (tS10.trans (tS8.trans tS6)))))
      · skip
        exact kp_some rfl
theorem tX5_tree_94 (N : Nat) (S : St) (x1 : Int32) (x2 : Int32) (x3 : Int32) (x4 : Int32) : Kp (fun R => tl R.2 = tl S) (fX5_tree_94 N S x1 x2 x3 x4) := by
  unfold fX5_tree_94
  refine kp_bd2 (fun v1 S3 h2 => ?_)
  have tS3 : tl S3 = tl S := tX5_add N S x4 x1 x2 x3 (v1, S3) h2
  exact kp_some tS3
theorem tX5_tree_79 (N : Nat) (k20 : St × Int32 × Int32 × Int32 × Int32 × Int32 × Int32 → Option (Int32 × St)) (hk20 : ∀ x, Kp (fun R => tl R.2 = tl x.1) (k20 x)) (S : St) (x1 : Int32) (x2 : Int32) (x3 : Int32) (x4 : Int32) (x5 : Int32) (x6 : Int32) : Kp (fun R => tl R.2 = tl S) (fX5_tree_79 N k20 S x1 x2 x3 x4 x5 x6) := by
  unfold fX5_tree_79
  refine kp_ckx (fun h1 => ?_)
  refine kp_bnd (fun z2 ez2 => ?_)
  refine kp_bnd (fun z3 ez3 => ?_)
  exact fun R h => (hk20 (S, x1, x2, x3, x4, z2, z3) R h).trans rfl
theorem tX5_tree_20s (N : Nat) (k20 : St × Int32 × Int32 × Int32 × Int32 × Int32 × Int32 → Option (Int32 × St)) (hk20 : ∀ x, Kp (fun R => tl R.2 = tl x.1) (k20 x)) (S : St) (x1 : Int32) (x2 : Int32) (x3 : Int32) (x4 : Int32) (x5 : Int32) (x6 : Int32) : Kp (fun R => tl R.2 = tl S) (fX5_tree_20s N k20 S x1 x2 x3 x4 x5 x6) := by
  unfold fX5_tree_20s
  refine kp_ite (fun q1 => ?_) (fun q1 => ?_)
  · skip
    exact fun R h => (tX5_tree_94 N S x1 x2 x3 x4 R h).trans rfl
  · skip
    refine kp_ite (fun q2 => ?_) (fun q2 => ?_)
    · skip
      exact fun R h => (tX5_tree_94 N S x1 x2 x3 x4 R h).trans rfl
    · skip
      refine kp_ite (fun q3 => ?_) (fun q3 => ?_)
      · skip
        exact fun R h => (tX5_tree_94 N S x1 x2 x3 x4 R h).trans rfl
      · skip
        refine kp_ckx (fun h4 => ?_)
        refine kp_ite (fun q5 => ?_) (fun q5 => ?_)
        · skip
          refine kp_ckx (fun h6 => ?_)
          refine kp_ite (fun q7 => ?_) (fun q7 => ?_)
          · skip
            refine kp_ckx (fun h8 => ?_)
            refine kp_ite (fun q9 => ?_) (fun q9 => ?_)
            · skip
              exact kp_some rfl
            · skip
              exact fun R h => (tX5_tree_79 N _ hk20 S x1 x2 x3 x4 x5 x6 R h).trans rfl
          · skip
            exact fun R h => (tX5_tree_79 N _ hk20 S x1 x2 x3 x4 x5 x6 R h).trans rfl
        · skip
          exact fun R h => (tX5_tree_79 N _ hk20 S x1 x2 x3 x4 x5 x6 R h).trans rfl
theorem tX5_tree_20 (N : Nat) (x : St × Int32 × Int32 × Int32 × Int32 × Int32 × Int32) : Kp (fun R => tl R.2 = tl x.1) (fX5_tree_20 N x) := kp_loop (P := fun x R => tl R.2 = tl x.1) (fun k hk x => tX5_tree_20s N k hk x.1 x.2.1 x.2.2.1 x.2.2.2.1 x.2.2.2.2.1 x.2.2.2.2.2.1 x.2.2.2.2.2.2) N x
theorem tX5_tree (N : Nat) (S : St) (p1 : Int32) (p2 : Int32) (p3 : Int32) : Kp (fun R => tl R.2 = tl S) (fX5_tree N S p1 p2 p3) := by
  unfold fX5_tree
  refine kp_bdo (fun v1 h2 => ?_)
  refine kp_ckx (fun h3 => ?_)
  refine kp_bnd (fun z4 ez4 => ?_)
  refine kp_bnd (fun z5 ez5 => ?_)
  exact fun R h => (tX5_tree_20 N (S, p1, p2, p3, v1, z4, z5) R h).trans rfl
theorem tX5_cut_0s (N : Nat) (k0 : St × Int32 → Option (St)) (hk0 : ∀ x, Kp (fun R => tl R = tl x.1) (k0 x)) (S : St) (x1 : Int32) : Kp (fun R => tl R = tl S) (fX5_cut_0s N k0 S x1) := by
  unfold fX5_cut_0s
  refine kp_ite (fun q1 => ?_) (fun q1 => ?_)
  · skip
    exact kp_some rfl
  · skip
    refine kp_ite (fun q2 => ?_) (fun q2 => ?_)
    · skip
      exact kp_some rfl
    · skip
      refine kp_ite (fun q3 => ?_) (fun q3 => ?_)
      · skip
        exact kp_some rfl
      · skip
        refine kp_bnd (fun S4 eS4 => ?_)
        have tS4 : tl S4 = tl S := by rw [eS4]; rfl
        refine kp_ckx (fun h5 => ?_)
        refine kp_ckx (fun h6 => ?_)
        refine kp_ckx (fun h7 => ?_)
        refine kp_bdo (fun v8 h9 => ?_)
        refine kp_ckx (fun h10 => ?_)
        refine kp_ckx (fun h11 => ?_)
        refine kp_bnd (fun S12 eS12 => ?_)
        have tS12 : tl S12 = tl S4 := by rw [eS12]; rfl
        exact fun R h => (hk0 (S12, x1) R h).trans (tS12.trans tS4)
theorem tX5_cut_0 (N : Nat) (x : St × Int32) : Kp (fun R => tl R = tl x.1) (fX5_cut_0 N x) := kp_loop (P := fun x R => tl R = tl x.1) (fun k hk x => tX5_cut_0s N k hk x.1 x.2) N x
theorem tX5_cut (N : Nat) (S : St) (p1 : Int32) : Kp (fun R => tl R = tl S) (fX5_cut N S p1) := by
  unfold fX5_cut
  exact fun R h => (tX5_cut_0 N (S, p1) R h).trans rfl
theorem tX4_begin_18 (N : Nat) (S : St) (y1 : Int32) : Kp (fun R => tl R = tl S) (fX4_begin_18 N S y1) := by
  unfold fX4_begin_18
  refine kp_bnd (fun S1 eS1 => ?_)
  have tS1 : tl S1 = tl S := by rw [eS1]; rfl
  refine kp_bnd (fun S2 eS2 => ?_)
  have tS2 : tl S2 = tl S1 := by rw [eS2]; rfl
  refine kp_bnd (fun S3 eS3 => ?_)
  have tS3 : tl S3 = tl S2 := by rw [eS3]; rfl
  refine kp_bnd (fun S4 eS4 => ?_)
  have tS4 : tl S4 = tl S3 := by rw [eS4]; rfl
  refine kp_bnd (fun S5 eS5 => ?_)
  have tS5 : tl S5 = tl S4 := by rw [eS5]; rfl
  refine kp_bnd (fun S6 eS6 => ?_)
  have tS6 : tl S6 = tl S5 := by rw [eS6]; rfl
  refine kp_bnd (fun S7 eS7 => ?_)
  have tS7 : tl S7 = tl S6 := by rw [eS7]; rfl
  refine kp_bnd (fun S8 eS8 => ?_)
  have tS8 : tl S8 = tl S7 := by rw [eS8]; rfl
  exact kp_some (tS8.trans (tS7.trans (tS6.trans (tS5.trans (tS4.trans (tS3.trans (tS2.trans tS1)))))))
theorem tX4_begin (N : Nat) (S : St) (p2 : Int32) : Kp (fun R => tl R = tl S) (fX4_begin N S p2) := by
  unfold fX4_begin
  refine kp_bnd (fun S1 eS1 => ?_)
  have tS1 : tl S1 = tl S := by rw [eS1]; rfl
  refine kp_ite (fun q2 => ?_) (fun q2 => ?_)
  · skip
    exact fun R h => (tX4_begin_18 N S1 (Int32.ofNat 600) R h).trans tS1
  · skip
    exact fun R h => (tX4_begin_18 N S1 p2 R h).trans tS1
theorem tX4_byteAt (N : Nat) (S : St) (p1 : Int32) : Kp (fun R => tl R.2 = tl S) (fX4_byteAt N S p1) := by
  unfold fX4_byteAt
  refine kp_ite (fun q1 => ?_) (fun q1 => ?_)
  · skip
    exact kp_some rfl
  · skip
    refine kp_ite (fun q2 => ?_) (fun q2 => ?_)
    · skip
      exact kp_some rfl
    · skip
      refine kp_ckp (fun h3 => ?_)
      refine kp_ite (fun q4 => ?_) (fun q4 => ?_)
      · skip
        exact kp_some rfl
      · skip
        refine kp_ckp (fun h5 => ?_)
        refine kp_ckx (fun h6 => ?_)
        exact kp_some rfl
theorem tX4_skipBlanks_0s (N : Nat) (k0 : St → Option (St)) (hk0 : ∀ x, Kp (fun R => tl R = tl x) (k0 x)) (S : St) : Kp (fun R => tl R = tl S) (fX4_skipBlanks_0s N k0 S ) := by
  unfold fX4_skipBlanks_0s
  refine kp_ite (fun q1 => ?_) (fun q1 => ?_)
  · skip
    exact kp_some rfl
  · skip
    refine kp_bd2 (fun v2 S4 h3 => ?_)
    have tS4 : tl S4 = tl S := tX4_byteAt N S (S.1 90) (v2, S4) h3
    refine kp_bdo (fun v5 h6 => ?_)
    refine kp_ite (fun q7 => ?_) (fun q7 => ?_)
    · skip
      exact kp_some tS4
    · skip
      refine kp_bnd (fun S8 eS8 => ?_)
      have tS8 : tl S8 = tl S4 := by rw [eS8]; rfl
      exact fun R h => (hk0 (S8) R h).trans (tS8.trans tS4)
theorem tX4_skipBlanks_0 (N : Nat) (x : St) : Kp (fun R => tl R = tl x) (fX4_skipBlanks_0 N x) := kp_loop (P := fun x R => tl R = tl x) (fun k hk x => tX4_skipBlanks_0s N k hk x) N x
theorem tX4_skipBlanks (N : Nat) (S : St) : Kp (fun R => tl R = tl S) (fX4_skipBlanks N S ) := by
  unfold fX4_skipBlanks
  exact fun R h => (tX4_skipBlanks_0 N (S) R h).trans rfl
theorem tX4_nameSize_23s (N : Nat) (k23 : St × Int32 → Option (Int32 × St)) (hk23 : ∀ x, Kp (fun R => tl R.2 = tl x.1) (k23 x)) (S : St) (x1 : Int32) : Kp (fun R => tl R.2 = tl S) (fX4_nameSize_23s N k23 S x1) := by
  unfold fX4_nameSize_23s
  refine kp_ite (fun q1 => ?_) (fun q1 => ?_)
  · skip
    exact kp_some rfl
  · skip
    refine kp_bd2 (fun v2 S4 h3 => ?_)
    have tS4 : tl S4 = tl S := tX4_byteAt N S x1 (v2, S4) h3
    refine kp_bdo (fun v5 h6 => ?_)
    refine kp_ite (fun q7 => ?_) (fun q7 => ?_)
    · skip
      exact kp_some tS4
    · skip
      refine kp_bnd (fun z8 ez8 => ?_)
      exact fun R h => (hk23 (S4, z8) R h).trans tS4
theorem tX4_nameSize_23 (N : Nat) (x : St × Int32) : Kp (fun R => tl R.2 = tl x.1) (fX4_nameSize_23 N x) := kp_loop (P := fun x R => tl R.2 = tl x.1) (fun k hk x => tX4_nameSize_23s N k hk x.1 x.2) N x
theorem tX4_nameSize (N : Nat) (S : St) : Kp (fun R => tl R.2 = tl S) (fX4_nameSize N S ) := by
  unfold fX4_nameSize
  refine kp_bd2 (fun v1 S3 h2 => ?_)
  have tS3 : tl S3 = tl S := tX4_byteAt N S (S.1 90) (v1, S3) h2
  refine kp_bdo (fun v4 h5 => ?_)
  refine kp_ite (fun q6 => ?_) (fun q6 => ?_)
  · skip
    exact kp_some tS3
  · skip
    refine kp_bnd (fun z7 ez7 => ?_)
    exact fun R h => (tX4_nameSize_23 N (S3, z7) R h).trans tS3
theorem tX4_countName (N : Nat) (S : St) : Kp (fun R => tl R.2 = tl S) (fX4_countName N S ) := by
  unfold fX4_countName
  refine kp_bnd (fun S1 eS1 => ?_)
  have tS1 : tl S1 = tl S := by rw [eS1]; rfl
  refine kp_ite (fun q2 => ?_) (fun q2 => ?_)
  · skip
    exact kp_some tS1
  · skip
    exact kp_some tS1
theorem tX4_nameOf_4s (N : Nat) (k4 : St × Int32 × Int32 × Int32 → Option (Int32 × St)) (hk4 : ∀ x, Kp (fun R => tl R.2 = tl x.1) (k4 x)) (S : St) (x1 : Int32) (x2 : Int32) (x3 : Int32) : Kp (fun R => tl R.2 = tl S) (fX4_nameOf_4s N k4 S x1 x2 x3) := by
  unfold fX4_nameOf_4s
  refine kp_ite (fun q1 => ?_) (fun q1 => ?_)
  · skip
    exact kp_some rfl
  · skip
    refine kp_bd2 (fun v2 S4 h3 => ?_)
    have tS4 : tl S4 = tl S := tX4_byteAt N S (S.1 90 + x3) (v2, S4) h3
    refine kp_bnd (fun z5 ez5 => ?_)
    refine kp_bnd (fun z6 ez6 => ?_)
    exact fun R h => (hk4 (S4, x1, z5, z6) R h).trans tS4
theorem tX4_nameOf_4 (N : Nat) (x : St × Int32 × Int32 × Int32) : Kp (fun R => tl R.2 = tl x.1) (fX4_nameOf_4 N x) := kp_loop (P := fun x R => tl R.2 = tl x.1) (fun k hk x => tX4_nameOf_4s N k hk x.1 x.2.1 x.2.2.1 x.2.2.2) N x
theorem tX4_nameOf (N : Nat) (S : St) (p1 : Int32) : Kp (fun R => tl R.2 = tl S) (fX4_nameOf N S p1) := by
  unfold fX4_nameOf
  refine kp_bnd (fun z1 ez1 => ?_)
  refine kp_bnd (fun z2 ez2 => ?_)
  exact fun R h => (tX4_nameOf_4 N (S, p1, z1, z2) R h).trans rfl
theorem tX4_push (N : Nat) (S : St) (p1 : Int32) : Kp (fun R => tl R = tl S) (fX4_push N S p1) := by
  unfold fX4_push
  refine kp_ite (fun q1 => ?_) (fun q1 => ?_)
  · skip
    exact kp_some rfl
  · skip
    refine kp_ckx (fun h2 => ?_)
    refine kp_bnd (fun S3 eS3 => ?_)
    have tS3 : tl S3 = tl S := by rw [eS3]; rfl
    refine kp_ckx (fun h4 => ?_)
    refine kp_bnd (fun S5 eS5 => ?_)
    have tS5 : tl S5 = tl S3 := by rw [eS5]; rfl
    refine kp_ckx (fun h6 => ?_)
    refine kp_bnd (fun S7 eS7 => ?_)
    have tS7 : tl S7 = tl S5 := by rw [eS7]; rfl
    refine kp_bnd (fun S8 eS8 => ?_)
    have tS8 : tl S8 = tl S7 := by rw [eS8]; rfl
    exact kp_some (tS8.trans (tS7.trans (tS5.trans tS3)))
theorem tX4_openLambda_65 (N : Nat) (S : St) (x1 : Int32) (y1 : Int32) : Kp (fun R => tl R = tl S) (fX4_openLambda_65 N S x1 y1) := by
  unfold fX4_openLambda_65
  refine kp_bnd (fun S1 eS1 => ?_)
  have tS1 : tl S1 = tl S := by rw [eS1]; rfl
  refine kp_ite (fun q2 => ?_) (fun q2 => ?_)
  · skip
    refine kp_bd2 (fun v3 S5 h4 => ?_)
    have tS5 : tl S5 = tl S1 := tX4_nameOf N S1 x1 (v3, S5) h4
    refine kp_bnd (fun S6 eS6 => ?_)
    have tS6 : tl S6 = tl S5 := by rw [eS6]; rfl
    refine kp_bdo (fun S9 h8 => ?_)
    have tS9 : tl S9 = tl S6 := tX4_skipBlanks N S6  S9 h8
    refine kp_bd2 (fun v10 S12 h11 => ?_)
    have tS12 : tl S12 = tl S9 := tX4_byteAt N S9 (S9.1 90) (v10, S12) h11
    refine kp_ite (fun q13 => ?_) (fun q13 => ?_)
    · skip
      refine kp_bnd (fun S14 eS14 => ?_)
      have tS14 : tl S14 = tl S12 := by rw [eS14]; rfl
      refine kp_bdo (fun S17 h16 => ?_)
      have tS17 : tl S17 = tl S14 := tX4_push N S14 v3 S17 h16
      exact kp_some (tS17.trans (tS14.trans (tS12.trans (tS9.trans (tS6.trans (tS5.trans tS1))))))
    · skip
      refine kp_bnd (fun S18 eS18 => ?_)
      have tS18 : tl S18 = tl S12 := by rw [eS18]; rfl
      exact kp_some (tS18.trans (tS12.trans (tS9.trans (tS6.trans (tS5.trans tS1)))))
  · skip
    exact kp_some tS1
theorem tX4_openLambda_57 (N : Nat) (S : St) (x1 : Int32) : Kp (fun R => tl R = tl S) (fX4_openLambda_57 N S x1) := by
  unfold fX4_openLambda_57
  exact fun R h => (tX4_openLambda_65 N S x1 (1 : Int32) R h).trans rfl
theorem tX4_openLambda (N : Nat) (S : St) : Kp (fun R => tl R = tl S) (fX4_openLambda N S ) := by
  unfold fX4_openLambda
  refine kp_ite (fun q1 => ?_) (fun q1 => ?_)
  · skip
    refine kp_ite (fun q2 => ?_) (fun q2 => ?_)
    · skip
      refine kp_bnd (fun S3 eS3 => ?_)
      have tS3 : tl S3 = tl S := by rw [eS3]; rfl
      refine kp_bdo (fun S6 h5 => ?_)
      have tS6 : tl S6 = tl S3 := tX4_skipBlanks N S3  S6 h5
      refine kp_bd2 (fun v7 S9 h8 => ?_)
      have tS9 : tl S9 = tl S6 := tX4_nameSize N S6  (v7, S9) h8
      refine kp_ite (fun q10 => ?_) (fun q10 => ?_)
      · skip
        exact fun R h => (tX4_openLambda_57 N S9 v7 R h).trans (tS9.trans (tS6.trans tS3))
      · skip
        refine kp_ite (fun q11 => ?_) (fun q11 => ?_)
        · skip
          refine kp_bd2 (fun v12 S14 h13 => ?_)
          have tS14 : tl S14 = tl S9 := tX4_countName N S9  (v12, S14) h13
          exact fun R h => (tX4_openLambda_65 N S14 v7 v12 R h).trans (tS14.trans (tS9.trans (tS6.trans tS3)))
        · skip
          exact fun R h => (tX4_openLambda_57 N S9 v7 R h).trans (tS9.trans (tS6.trans tS3))
    · skip
      refine kp_bnd (fun S15 eS15 => ?_)
      have tS15 : tl S15 = tl S := by rw [eS15]; rfl
      exact kp_some tS15
  · skip
    refine kp_bnd (fun S16 eS16 => ?_)
    have tS16 : tl S16 = tl S := by rw [eS16]; rfl
    exact kp_some tS16
theorem tX4_partIndex (N : Nat) (S : St) : Kp (fun R => tl R.2 = tl S) (fX4_partIndex N S ) := by
  unfold fX4_partIndex
  refine kp_ite (fun q1 => ?_) (fun q1 => ?_)
  · skip
    exact kp_some rfl
  · skip
    exact kp_some rfl
theorem tX4_openParenthesis (N : Nat) (S : St) : Kp (fun R => tl R = tl S) (fX4_openParenthesis N S ) := by
  unfold fX4_openParenthesis
  refine kp_ite (fun q1 => ?_) (fun q1 => ?_)
  · skip
    refine kp_bnd (fun S2 eS2 => ?_)
    have tS2 : tl S2 = tl S := by rw [eS2]; rfl
    refine kp_bdo (fun S5 h4 => ?_)
    have tS5 : tl S5 = tl S2 := tX4_push N S2 (0 : Int32) S5 h4
    refine kp_bd2 (fun v6 S8 h7 => ?_)
    have tS8 : tl S8 = tl S5 := tX4_partIndex N S5  (v6, S8) h7
    refine kp_bnd (fun S9 eS9 => ?_)
    have tS9 : tl S9 = tl S8 := by rw [eS9]; rfl
    refine kp_bnd (fun S10 eS10 => ?_)
    have tS10 : tl S10 = tl S9 := by rw [eS10]; rfl
    exact kp_some (tS10.trans (tS9.trans (tS8.trans (tS5.trans tS2))))
  · skip
    refine kp_bnd (fun S11 eS11 => ?_)
    have tS11 : tl S11 = tl S := by rw [eS11]; rfl
    exact kp_some tS11
theorem tX4_addWord (N : Nat) (S : St) (p1 : Int32) (p2 : Int32) (p3 : Int32) : Kp (fun R => tl R = tl S) (fX4_addWord N S p1 p2 p3) := by
  unfold fX4_addWord
  refine kp_ite (fun q1 => ?_) (fun q1 => ?_)
  · skip
    exact kp_some rfl
  · skip
    refine kp_ckx (fun h2 => ?_)
    refine kp_bnd (fun S3 eS3 => ?_)
    have tS3 : tl S3 = tl S := by rw [eS3]; rfl
    refine kp_ckx (fun h4 => ?_)
    refine kp_bnd (fun S5 eS5 => ?_)
    have tS5 : tl S5 = tl S3 := by rw [eS5]; rfl
    refine kp_ckx (fun h6 => ?_)
    refine kp_bnd (fun S7 eS7 => ?_)
    have tS7 : tl S7 = tl S5 := by rw [eS7]; rfl
    refine kp_bnd (fun S8 eS8 => ?_)
    have tS8 : tl S8 = tl S7 := by rw [eS8]; rfl
    exact kp_some (tS8.trans (tS7.trans (tS5.trans tS3)))
theorem tX4_closeLambdas_0s (N : Nat) (k0 : St → Option (St)) (hk0 : ∀ x, Kp (fun R => tl R = tl x) (k0 x)) (S : St) : Kp (fun R => tl R = tl S) (fX4_closeLambdas_0s N k0 S ) := by
  unfold fX4_closeLambdas_0s
  refine kp_ite (fun q1 => ?_) (fun q1 => ?_)
  · skip
    exact kp_some rfl
  · skip
    refine kp_ckx (fun h2 => ?_)
    refine kp_ite (fun q3 => ?_) (fun q3 => ?_)
    · skip
      exact kp_some rfl
    · skip
      refine kp_bnd (fun S4 eS4 => ?_)
      have tS4 : tl S4 = tl S := by rw [eS4]; rfl
      refine kp_bdo (fun S7 h6 => ?_)
      have tS7 : tl S7 = tl S4 := tX4_addWord N S4 (1 : Int32) (S4.1 92) (S4.1 87) S7 h6
      exact fun R h => (hk0 (S7) R h).trans (tS7.trans tS4)
theorem tX4_closeLambdas_0 (N : Nat) (x : St) : Kp (fun R => tl R = tl x) (fX4_closeLambdas_0 N x) := kp_loop (P := fun x R => tl R = tl x) (fun k hk x => tX4_closeLambdas_0s N k hk x) N x
theorem tX4_closeLambdas (N : Nat) (S : St) : Kp (fun R => tl R = tl S) (fX4_closeLambdas N S ) := by
  unfold fX4_closeLambdas
  exact fun R h => (tX4_closeLambdas_0 N (S) R h).trans rfl
theorem tX4_endPart (N : Nat) (S : St) : Kp (fun R => tl R = tl S) (fX4_endPart N S ) := by
  unfold fX4_endPart
  refine kp_bnd (fun S1 eS1 => ?_)
  have tS1 : tl S1 = tl S := by rw [eS1]; rfl
  refine kp_ite (fun q2 => ?_) (fun q2 => ?_)
  · skip
    exact kp_some tS1
  · skip
    refine kp_bdo (fun S5 h4 => ?_)
    have tS5 : tl S5 = tl S1 := tX4_addWord N S1 (2 : Int32) (S1.1 92) (-1 : Int32) S5 h4
    exact kp_some (tS5.trans tS1)
theorem tX4_closeParenthesis (N : Nat) (S : St) : Kp (fun R => tl R = tl S) (fX4_closeParenthesis N S ) := by
  unfold fX4_closeParenthesis
  refine kp_ite (fun q1 => ?_) (fun q1 => ?_)
  · skip
    refine kp_bnd (fun S16 eS16 => ?_)
    have tS16 : tl S16 = tl S := by rw [eS16]; rfl
    exact kp_some tS16
  · skip
    refine kp_bdo (fun S4 h3 => ?_)
    have tS4 : tl S4 = tl S := tX4_closeLambdas N S  S4 h3
    refine kp_ite (fun q5 => ?_) (fun q5 => ?_)
    · skip
      refine kp_bnd (fun S15 eS15 => ?_)
      have tS15 : tl S15 = tl S4 := by rw [eS15]; rfl
      exact kp_some (tS15.trans tS4)
    · skip
      refine kp_bnd (fun S6 eS6 => ?_)
      have tS6 : tl S6 = tl S4 := by rw [eS6]; rfl
      refine kp_bnd (fun S7 eS7 => ?_)
      have tS7 : tl S7 = tl S6 := by rw [eS7]; rfl
      refine kp_ckx (fun h8 => ?_)
      refine kp_bnd (fun S9 eS9 => ?_)
      have tS9 : tl S9 = tl S7 := by rw [eS9]; rfl
      refine kp_ckx (fun h10 => ?_)
      refine kp_bnd (fun S11 eS11 => ?_)
      have tS11 : tl S11 = tl S9 := by rw [eS11]; rfl
      refine kp_bdo (fun S14 h13 => ?_)
      have tS14 : tl S14 = tl S11 := tX4_endPart N S11  S14 h13
      exact kp_some (tS14.trans (tS11.trans (tS9.trans (tS7.trans (tS6.trans tS4)))))
theorem tX4_slotOf_7s (N : Nat) (k7 : St × Int32 × Int32 → Option (Int32 × St)) (hk7 : ∀ x, Kp (fun R => tl R.2 = tl x.1) (k7 x)) (S : St) (x1 : Int32) (x2 : Int32) : Kp (fun R => tl R.2 = tl S) (fX4_slotOf_7s N k7 S x1 x2) := by
  unfold fX4_slotOf_7s
  refine kp_ite (fun q1 => ?_) (fun q1 => ?_)
  · skip
    exact kp_some rfl
  · skip
    refine kp_ckx (fun h2 => ?_)
    refine kp_ite (fun q3 => ?_) (fun q3 => ?_)
    · skip
      exact kp_some rfl
    · skip
      refine kp_bnd (fun z4 ez4 => ?_)
      exact fun R h => (hk7 (S, x1, z4) R h).trans rfl
theorem tX4_slotOf_7 (N : Nat) (x : St × Int32 × Int32) : Kp (fun R => tl R.2 = tl x.1) (fX4_slotOf_7 N x) := kp_loop (P := fun x R => tl R.2 = tl x.1) (fun k hk x => tX4_slotOf_7s N k hk x.1 x.2.1 x.2.2) N x
theorem tX4_slotOf (N : Nat) (S : St) (p1 : Int32) : Kp (fun R => tl R.2 = tl S) (fX4_slotOf N S p1) := by
  unfold fX4_slotOf
  refine kp_bnd (fun z1 ez1 => ?_)
  exact fun R h => (tX4_slotOf_7 N (S, p1, z1) R h).trans rfl
theorem tX4_takeVariable (N : Nat) (S : St) : Kp (fun R => tl R = tl S) (fX4_takeVariable N S ) := by
  unfold fX4_takeVariable
  refine kp_bd2 (fun v1 S3 h2 => ?_)
  have tS3 : tl S3 = tl S := tX4_nameSize N S  (v1, S3) h2
  refine kp_ite (fun q4 => ?_) (fun q4 => ?_)
  · skip
    refine kp_bd2 (fun v5 S7 h6 => ?_)
    have tS7 : tl S7 = tl S3 := tX4_nameOf N S3 v1 (v5, S7) h6
    refine kp_bd2 (fun v8 S10 h9 => ?_)
    have tS10 : tl S10 = tl S7 := tX4_slotOf N S7 v5 (v8, S10) h9
    refine kp_ite (fun q11 => ?_) (fun q11 => ?_)
    · skip
      refine kp_bnd (fun S27 eS27 => ?_)
      have tS27 : tl S27 = tl S10 := by rw [eS27]; rfl
      exact kp_some (tS27.trans (tS10.trans (tS7.trans tS3)))
    · skip
      refine kp_bd2 (fun v12 S14 h13 => ?_)
      have tS14 : tl S14 = tl S10 := tX4_countName N S10  (v12, S14) h13
      refine kp_bnd (fun S15 eS15 => ?_)
      have tS15 : tl S15 = tl S14 := by rw [eS15]; rfl
      refine kp_ite (fun q16 => ?_) (fun q16 => ?_)
      · skip
        refine kp_bnd (fun S17 eS17 => ?_)
        have tS17 : tl S17 = tl S15 := by rw [eS17]; rfl
        refine kp_bd2 (fun v18 S20 h19 => ?_)
        have tS20 : tl S20 = tl S17 := tX4_partIndex N S17  (v18, S20) h19
        refine kp_bdo (fun S23 h22 => ?_)
        have tS23 : tl S23 = tl S20 := tX4_addWord N S20 (0 : Int32) v18 v8 S23 h22
        refine kp_bdo (fun S26 h25 => ?_)
        have tS26 : tl S26 = tl S23 := tX4_endPart N S23  S26 h25
        exact kp_some (tS26.trans (tS23.trans (tS20.trans (tS17.trans (tS15.trans (tS14.trans (tS10.trans (tS7.trans tS3))))))))
      · skip
        exact kp_some (tS15.trans (tS14.trans (tS10.trans (tS7.trans tS3))))
  · skip
    refine kp_bnd (fun S28 eS28 => ?_)
    have tS28 : tl S28 = tl S3 := by rw [eS28]; rfl
    exact kp_some (tS28.trans tS3)
theorem tX4_takeNext (N : Nat) (S : St) : Kp (fun R => tl R = tl S) (fX4_takeNext N S ) := by
  unfold fX4_takeNext
  refine kp_bd2 (fun v1 S3 h2 => ?_)
  have tS3 : tl S3 = tl S := tX4_byteAt N S (S.1 90) (v1, S3) h2
  refine kp_bdo (fun v4 h5 => ?_)
  refine kp_ite (fun q6 => ?_) (fun q6 => ?_)
  · skip
    refine kp_ite (fun q7 => ?_) (fun q7 => ?_)
    · skip
      refine kp_bdo (fun S25 h24 => ?_)
      have tS25 : tl S25 = tl S3 := tX4_openLambda N S3  S25 h24
      exact kp_some (tS25.trans tS3)
    · skip
      refine kp_ite (fun q8 => ?_) (fun q8 => ?_)
      · skip
        refine kp_bdo (fun S22 h21 => ?_)
        have tS22 : tl S22 = tl S3 := tX4_openParenthesis N S3  S22 h21
        exact kp_some (tS22.trans tS3)
      · skip
        refine kp_ite (fun q9 => ?_) (fun q9 => ?_)
        · skip
          refine kp_bdo (fun S19 h18 => ?_)
          have tS19 : tl S19 = tl S3 := tX4_closeParenthesis N S3  S19 h18
          exact kp_some (tS19.trans tS3)
        · skip
          refine kp_bdo (fun v10 h11 => ?_)
          refine kp_ite (fun q12 => ?_) (fun q12 => ?_)
          · skip
            refine kp_bnd (fun S13 eS13 => ?_)
            have tS13 : tl S13 = tl S3 := by rw [eS13]; rfl
            exact kp_some (tS13.trans tS3)
          · skip
            refine kp_bdo (fun S16 h15 => ?_)
            have tS16 : tl S16 = tl S3 := tX4_takeVariable N S3  S16 h15
            exact kp_some (tS16.trans tS3)
  · skip
    refine kp_bnd (fun S26 eS26 => ?_)
    have tS26 : tl S26 = tl S3 := by rw [eS26]; rfl
    exact kp_some (tS26.trans tS3)
theorem tX4_endText (N : Nat) (S : St) : Kp (fun R => tl R = tl S) (fX4_endText N S ) := by
  unfold fX4_endText
  refine kp_ite (fun q1 => ?_) (fun q1 => ?_)
  · skip
    refine kp_bnd (fun S7 eS7 => ?_)
    have tS7 : tl S7 = tl S := by rw [eS7]; rfl
    exact kp_some tS7
  · skip
    refine kp_bdo (fun S4 h3 => ?_)
    have tS4 : tl S4 = tl S := tX4_closeLambdas N S  S4 h3
    refine kp_ite (fun q5 => ?_) (fun q5 => ?_)
    · skip
      exact kp_some tS4
    · skip
      refine kp_bnd (fun S6 eS6 => ?_)
      have tS6 : tl S6 = tl S4 := by rw [eS6]; rfl
      exact kp_some (tS6.trans tS4)
theorem tX4_scan_44 (N : Nat) (S : St) : Kp (fun R => tl R.2 = tl S) (fX4_scan_44 N S ) := by
  unfold fX4_scan_44
  refine kp_ite (fun q1 => ?_) (fun q1 => ?_)
  · skip
    refine kp_bdo (fun S4 h3 => ?_)
    have tS4 : tl S4 = tl S := tX4_endText N S  S4 h3
    exact kp_some tS4
  · skip
    exact kp_some rfl
theorem tX4_scan_8s (N : Nat) (k8 : St × Int32 → Option (Int32 × St)) (hk8 : ∀ x, Kp (fun R => tl R.2 = tl x.1) (k8 x)) (S : St) (x3 : Int32) : Kp (fun R => tl R.2 = tl S) (fX4_scan_8s N k8 S x3) := by
  unfold fX4_scan_8s
  refine kp_ite (fun q1 => ?_) (fun q1 => ?_)
  · skip
    exact fun R h => (tX4_scan_44 N S R h).trans rfl
  · skip
    refine kp_ite (fun q2 => ?_) (fun q2 => ?_)
    · skip
      exact fun R h => (tX4_scan_44 N S R h).trans rfl
    · skip
      refine kp_ite (fun q3 => ?_) (fun q3 => ?_)
      · skip
        refine kp_bdo (fun S6 h5 => ?_)
        have tS6 : tl S6 = tl S := tX4_takeNext N S  S6 h5
        refine kp_bnd (fun z7 ez7 => ?_)
        exact fun R h => (hk8 (S6, z7) R h).trans tS6
      · skip
        exact fun R h => (tX4_scan_44 N S R h).trans rfl
theorem tX4_scan_8 (N : Nat) (x : St × Int32) : Kp (fun R => tl R.2 = tl x.1) (fX4_scan_8 N x) := kp_loop (P := fun x R => tl R.2 = tl x.1) (fun k hk x => tX4_scan_8s N k hk x.1 x.2) N x
theorem tX4_scan (N : Nat) (S : St) (p2 : Int32) : Kp (fun R => tl R.2 = tl S) (fX4_scan N S p2) := by
  unfold fX4_scan
  refine kp_bdo (fun S3 h2 => ?_)
  have tS3 : tl S3 = tl S := tX4_begin N S p2 S3 h2
  refine kp_bnd (fun z4 ez4 => ?_)
  exact fun R h => (tX4_scan_8 N (S3, z4) R h).trans tS3
theorem tX4_place (N : Nat) (S : St) : Kp (fun R => tl R.2 = tl S) (fX4_place N S ) := by
  unfold fX4_place
  exact kp_some rfl
theorem tX4_wordCount (N : Nat) (S : St) : Kp (fun R => tl R.2 = tl S) (fX4_wordCount N S ) := by
  unfold fX4_wordCount
  exact kp_some rfl
theorem tX4_wordKind (N : Nat) (S : St) (p1 : Int32) : Kp (fun R => tl R.2 = tl S) (fX4_wordKind N S p1) := by
  unfold fX4_wordKind
  refine kp_ite (fun q1 => ?_) (fun q1 => ?_)
  · skip
    exact kp_some rfl
  · skip
    refine kp_ite (fun q2 => ?_) (fun q2 => ?_)
    · skip
      exact kp_some rfl
    · skip
      refine kp_ckx (fun h3 => ?_)
      exact kp_some rfl
theorem tX4_wordIndex (N : Nat) (S : St) (p1 : Int32) : Kp (fun R => tl R.2 = tl S) (fX4_wordIndex N S p1) := by
  unfold fX4_wordIndex
  refine kp_ite (fun q1 => ?_) (fun q1 => ?_)
  · skip
    exact kp_some rfl
  · skip
    refine kp_ite (fun q2 => ?_) (fun q2 => ?_)
    · skip
      exact kp_some rfl
    · skip
      refine kp_ckx (fun h3 => ?_)
      exact kp_some rfl
theorem tX4_wordSlot (N : Nat) (S : St) (p1 : Int32) : Kp (fun R => tl R.2 = tl S) (fX4_wordSlot N S p1) := by
  unfold fX4_wordSlot
  refine kp_ite (fun q1 => ?_) (fun q1 => ?_)
  · skip
    exact kp_some rfl
  · skip
    refine kp_ite (fun q2 => ?_) (fun q2 => ?_)
    · skip
      exact kp_some rfl
    · skip
      refine kp_ckx (fun h3 => ?_)
      exact kp_some rfl
theorem tX1_clear (N : Nat) (S : St) : Kp (fun R => tl R = tl S) (fX1_clear N S ) := by
  unfold fX1_clear
  refine kp_bnd (fun S1 eS1 => ?_)
  have tS1 : tl S1 = tl S := by rw [eS1]; rfl
  refine kp_bnd (fun S2 eS2 => ?_)
  have tS2 : tl S2 = tl S1 := by rw [eS2]; rfl
  refine kp_bdo (fun S5 h4 => ?_)
  have tS5 : tl S5 = tl S2 := tX5_cut N S2 (1 : Int32) S5 h4
  exact kp_some (tS5.trans (tS2.trans tS1))
theorem tX1_changes (N : Nat) (S : St) : Kp (fun R => tl R.2 = tl S) (fX1_changes N S ) := by
  unfold fX1_changes
  exact kp_some rfl
theorem tX1_level (N : Nat) (S : St) (p1 : Int32) : Kp (fun R => tl R.2 = tl S) (fX1_level N S p1) := by
  unfold fX1_level
  refine kp_ite (fun q1 => ?_) (fun q1 => ?_)
  · skip
    exact kp_some rfl
  · skip
    refine kp_ite (fun q2 => ?_) (fun q2 => ?_)
    · skip
      exact kp_some rfl
    · skip
      refine kp_ite (fun q3 => ?_) (fun q3 => ?_)
      · skip
        exact kp_some rfl
      · skip
        refine kp_ckx (fun h4 => ?_)
        exact kp_some rfl
theorem tX1_note (N : Nat) (S : St) (p1 : Int32) (p2 : Int32) : Kp (fun R => tl R = tl S) (fX1_note N S p1 p2) := by
  unfold fX1_note
  refine kp_ite (fun q1 => ?_) (fun q1 => ?_)
  · skip
    exact kp_some rfl
  · skip
    refine kp_ckx (fun h2 => ?_)
    refine kp_bnd (fun S3 eS3 => ?_)
    have tS3 : tl S3 = tl S := by rw [eS3]; rfl
    refine kp_ckx (fun h4 => ?_)
    refine kp_bnd (fun S5 eS5 => ?_)
    have tS5 : tl S5 = tl S3 := by rw [eS5]; rfl
    refine kp_bd2 (fun v6 S8 h7 => ?_)
    have tS8 : tl S8 = tl S5 := tX1_level N S5 p2 (v6, S8) h7
    refine kp_ckx (fun h9 => ?_)
    refine kp_bnd (fun S10 eS10 => ?_)
    have tS10 : tl S10 = tl S8 := by rw [eS10]; rfl
    refine kp_bd2 (fun v11 S13 h12 => ?_)
    have tS13 : tl S13 = tl S10 := tX5_size N S10  (v11, S13) h12
    refine kp_ckx (fun h14 => ?_)
    refine kp_bnd (fun S15 eS15 => ?_)
    have tS15 : tl S15 = tl S13 := by rw [eS15]; rfl
    refine kp_bnd (fun S16 eS16 => ?_)
    have tS16 : tl S16 = tl S15 := by rw [eS16]; rfl
    exact kp_some (tS16.trans (tS15.trans (tS13.trans (tS10.trans (tS8.trans (tS5.trans tS3))))))
theorem tX1_set_24s (N : Nat) (k24 : St × Int32 × Int32 → Option (St)) (hk24 : ∀ x, Kp (fun R => tl R = tl x.1) (k24 x)) (S : St) (x1 : Int32) (x2 : Int32) : Kp (fun R => tl R = tl S) (fX1_set_24s N k24 S x1 x2) := by
  unfold fX1_set_24s
  refine kp_ite (fun q1 => ?_) (fun q1 => ?_)
  · skip
    refine kp_ckx (fun h2 => ?_)
    refine kp_bnd (fun S3 eS3 => ?_)
    have tS3 : tl S3 = tl S := by rw [eS3]; rfl
    exact kp_some tS3
  · skip
    refine kp_ckx (fun h4 => ?_)
    refine kp_bnd (fun S5 eS5 => ?_)
    have tS5 : tl S5 = tl S := by rw [eS5]; rfl
    refine kp_bnd (fun S6 eS6 => ?_)
    have tS6 : tl S6 = tl S5 := by rw [eS6]; rfl
    exact fun R h => (hk24 (S6, x1, x2) R h).trans (tS6.trans tS5)
theorem tX1_set_24 (N : Nat) (x : St × Int32 × Int32) : Kp (fun R => tl R = tl x.1) (fX1_set_24 N x) := kp_loop (P := fun x R => tl R = tl x.1) (fun k hk x => tX1_set_24s N k hk x.1 x.2.1 x.2.2) N x
theorem tX1_set (N : Nat) (S : St) (p1 : Int32) (p2 : Int32) : Kp (fun R => tl R = tl S) (fX1_set N S p1 p2) := by
  unfold fX1_set
  refine kp_ite (fun q1 => ?_) (fun q1 => ?_)
  · skip
    exact kp_some rfl
  · skip
    refine kp_ite (fun q2 => ?_) (fun q2 => ?_)
    · skip
      exact kp_some rfl
    · skip
      refine kp_ite (fun q3 => ?_) (fun q3 => ?_)
      · skip
        exact fun R h => (tX1_set_24 N (S, p1, p2) R h).trans rfl
      · skip
        refine kp_ite (fun q4 => ?_) (fun q4 => ?_)
        · skip
          exact kp_some rfl
        · skip
          exact fun R h => (tX1_set_24 N (S, p1, p2) R h).trans rfl
theorem tX1_insert (N : Nat) (S : St) (p1 : Int32) (p2 : Int32) : Kp (fun R => tl R = tl S) (fX1_insert N S p1 p2) := by
  unfold fX1_insert
  refine kp_ite (fun q1 => ?_) (fun q1 => ?_)
  · skip
    refine kp_ite (fun q2 => ?_) (fun q2 => ?_)
    · skip
      exact kp_some rfl
    · skip
      refine kp_ite (fun q3 => ?_) (fun q3 => ?_)
      · skip
        exact kp_some rfl
      · skip
        refine kp_ckc (fun h4 => ?_)
        refine kp_bnd (fun S5 eS5 => ?_)
        have tS5 : tl S5 = tl S := by rw [eS5]; rfl
        refine kp_ckx (fun h6 => ?_)
        refine kp_bnd (fun S7 eS7 => ?_)
        have tS7 : tl S7 = tl S5 := by rw [eS7]; rfl
        refine kp_bnd (fun S8 eS8 => ?_)
        have tS8 : tl S8 = tl S7 := by rw [eS8]; rfl
        exact kp_some (tS8.trans (tS7.trans tS5))
  · skip
    refine kp_bdo (fun S11 h10 => ?_)
    have tS11 : tl S11 = tl S := tX1_set N S p1 p2 S11 h10
    exact kp_some tS11
theorem tX1_addBox (N : Nat) (S : St) (p1 : Int32) : Kp (fun R => tl R = tl S) (fX1_addBox N S p1) := by
  unfold fX1_addBox
  refine kp_bdo (fun S3 h2 => ?_)
  have tS3 : tl S3 = tl S := tX1_note N S (0 : Int32) p1 S3 h2
  refine kp_bdo (fun S6 h5 => ?_)
  have tS6 : tl S6 = tl S3 := tX1_insert N S3 p1 (0 : Int32) S6 h5
  exact kp_some (tS6.trans tS3)
theorem tX1_delete (N : Nat) (S : St) (p1 : Int32) : Kp (fun R => tl R = tl S) (fX1_delete N S p1) := by
  unfold fX1_delete
  refine kp_ite (fun q1 => ?_) (fun q1 => ?_)
  · skip
    exact kp_some rfl
  · skip
    refine kp_ite (fun q2 => ?_) (fun q2 => ?_)
    · skip
      exact kp_some rfl
    · skip
      refine kp_ite (fun q3 => ?_) (fun q3 => ?_)
      · skip
        exact kp_some rfl
      · skip
        refine kp_ckc (fun h4 => ?_)
        refine kp_bnd (fun S5 eS5 => ?_)
        have tS5 : tl S5 = tl S := by rw [eS5]; rfl
        refine kp_bnd (fun S6 eS6 => ?_)
        have tS6 : tl S6 = tl S5 := by rw [eS6]; rfl
        exact kp_some (tS6.trans tS5)
theorem tX1_drop (N : Nat) (S : St) (p1 : Int32) : Kp (fun R => tl R = tl S) (fX1_drop N S p1) := by
  unfold fX1_drop
  refine kp_bdo (fun S3 h2 => ?_)
  have tS3 : tl S3 = tl S := tX1_note N S (1 : Int32) p1 S3 h2
  refine kp_bdo (fun S6 h5 => ?_)
  have tS6 : tl S6 = tl S3 := tX1_delete N S3 p1 S6 h5
  exact kp_some (tS6.trans tS3)
theorem tX1_pairUp (N : Nat) (S : St) (p1 : Int32) : Kp (fun R => tl R = tl S) (fX1_pairUp N S p1) := by
  unfold fX1_pairUp
  refine kp_bdo (fun S3 h2 => ?_)
  have tS3 : tl S3 = tl S := tX1_note N S (2 : Int32) p1 S3 h2
  refine kp_bd2 (fun v4 S6 h5 => ?_)
  have tS6 : tl S6 = tl S3 := tX1_level N S3 p1 (v4, S6) h5
  refine kp_bd2 (fun v7 S9 h8 => ?_)
  have tS9 : tl S9 = tl S6 := tX1_level N S6 ((p1 + (1 : Int32))) (v7, S9) h8
  refine kp_bd2 (fun v10 S12 h11 => ?_)
  have tS12 : tl S12 = tl S9 := tX5_tree N S9 (3 : Int32) v4 v7 (v10, S12) h11
  refine kp_bdo (fun S15 h14 => ?_)
  have tS15 : tl S15 = tl S12 := tX1_set N S12 p1 v10 S15 h14
  refine kp_bdo (fun S18 h17 => ?_)
  have tS18 : tl S18 = tl S15 := tX1_delete N S15 ((p1 + (1 : Int32))) S18 h17
  exact kp_some (tS18.trans (tS15.trans (tS12.trans (tS9.trans (tS6.trans tS3)))))
theorem tX1_split (N : Nat) (S : St) (p1 : Int32) : Kp (fun R => tl R.2 = tl S) (fX1_split N S p1) := by
  unfold fX1_split
  refine kp_bd2 (fun v1 S3 h2 => ?_)
  have tS3 : tl S3 = tl S := tX1_level N S p1 (v1, S3) h2
  refine kp_bd2 (fun v4 S6 h5 => ?_)
  have tS6 : tl S6 = tl S3 := tX5_form N S3 v1 (v4, S6) h5
  refine kp_ite (fun q7 => ?_) (fun q7 => ?_)
  · skip
    refine kp_bdo (fun S10 h9 => ?_)
    have tS10 : tl S10 = tl S6 := tX1_note N S6 (3 : Int32) p1 S10 h9
    refine kp_bd2 (fun v11 S13 h12 => ?_)
    have tS13 : tl S13 = tl S10 := tX5_left N S10 v1 (v11, S13) h12
    refine kp_bdo (fun S16 h15 => ?_)
    have tS16 : tl S16 = tl S13 := tX1_set N S13 p1 v11 S16 h15
    refine kp_bd2 (fun v17 S19 h18 => ?_)
    have tS19 : tl S19 = tl S16 := tX5_right N S16 v1 (v17, S19) h18
    refine kp_bdo (fun S22 h21 => ?_)
    have tS22 : tl S22 = tl S19 := tX1_insert N S19 ((p1 + (1 : Int32))) v17 S22 h21
    exact kp_some (tS22.trans (tS19.trans (tS16.trans (tS13.trans (tS10.trans (tS6.trans tS3))))))
  · skip
    exact kp_some (tS6.trans tS3)
theorem tX1_enterFan_22 (N : Nat) (S : St) (x1 : Int32) (y1 : Int32) (y3 : Int32) : Kp (fun R => tl R = tl S) (fX1_enterFan_22 N S x1 y1 y3) := by
  unfold fX1_enterFan_22
  refine kp_bd2 (fun v1 S3 h2 => ?_)
  have tS3 : tl S3 = tl S := tX1_level N S x1 (v1, S3) h2
  refine kp_bd2 (fun v4 S6 h5 => ?_)
  have tS6 : tl S6 = tl S3 := tX5_tree N S3 y3 v1 (0 : Int32) (v4, S6) h5
  refine kp_bdo (fun S9 h8 => ?_)
  have tS9 : tl S9 = tl S6 := tX1_set N S6 y1 v4 S9 h8
  exact kp_some (tS9.trans (tS6.trans tS3))
theorem tX1_enterFan (N : Nat) (S : St) (p1 : Int32) (p2 : Int32) : Kp (fun R => tl R = tl S) (fX1_enterFan N S p1 p2) := by
  unfold fX1_enterFan
  refine kp_bdo (fun S3 h2 => ?_)
  have tS3 : tl S3 = tl S := tX1_note N S (4 : Int32) p1 S3 h2
  refine kp_ite (fun q4 => ?_) (fun q4 => ?_)
  · skip
    exact fun R h => (tX1_enterFan_22 N S3 p1 p1 (1 : Int32) R h).trans tS3
  · skip
    exact fun R h => (tX1_enterFan_22 N S3 p1 p1 (2 : Int32) R h).trans tS3
theorem tX1_leaveFan_27 (N : Nat) (S : St) (x1 : Int32) (x2 : Int32) (x3 : Int32) : Kp (fun R => tl R.2 = tl S) (fX1_leaveFan_27 N S x1 x2 x3) := by
  unfold fX1_leaveFan_27
  refine kp_bdo (fun S3 h2 => ?_)
  have tS3 : tl S3 = tl S := tX1_note N S (4 : Int32) x1 S3 h2
  refine kp_bd2 (fun v4 S6 h5 => ?_)
  have tS6 : tl S6 = tl S3 := tX5_left N S3 x2 (v4, S6) h5
  refine kp_bdo (fun S9 h8 => ?_)
  have tS9 : tl S9 = tl S6 := tX1_set N S6 x1 v4 S9 h8
  refine kp_ite (fun q10 => ?_) (fun q10 => ?_)
  · skip
    exact kp_some (tS9.trans (tS6.trans tS3))
  · skip
    exact kp_some (tS9.trans (tS6.trans tS3))
theorem tX1_leaveFan (N : Nat) (S : St) (p1 : Int32) : Kp (fun R => tl R.2 = tl S) (fX1_leaveFan N S p1) := by
  unfold fX1_leaveFan
  refine kp_bd2 (fun v1 S3 h2 => ?_)
  have tS3 : tl S3 = tl S := tX1_level N S p1 (v1, S3) h2
  refine kp_bd2 (fun v4 S6 h5 => ?_)
  have tS6 : tl S6 = tl S3 := tX5_form N S3 v1 (v4, S6) h5
  refine kp_ite (fun q7 => ?_) (fun q7 => ?_)
  · skip
    exact fun R h => (tX1_leaveFan_27 N S6 p1 v1 v4 R h).trans (tS6.trans tS3)
  · skip
    refine kp_ite (fun q8 => ?_) (fun q8 => ?_)
    · skip
      exact fun R h => (tX1_leaveFan_27 N S6 p1 v1 v4 R h).trans (tS6.trans tS3)
    · skip
      exact kp_some (tS6.trans tS3)
theorem tX1_undo_155 (N : Nat) (S : St) : Kp (fun R => tl R = tl S) (fX1_undo_155 N S ) := by
  unfold fX1_undo_155
  refine kp_ckx (fun h1 => ?_)
  refine kp_bdo (fun S4 h3 => ?_)
  have tS4 : tl S4 = tl S := tX5_cut N S (S.2.1 26 (S.1 27 : Int32).toNatClampNeg) S4 h3
  exact kp_some tS4
theorem tX1_undo (N : Nat) (S : St) : Kp (fun R => tl R = tl S) (fX1_undo N S ) := by
  unfold fX1_undo
  refine kp_ite (fun q1 => ?_) (fun q1 => ?_)
  · skip
    exact kp_some rfl
  · skip
    refine kp_ite (fun q2 => ?_) (fun q2 => ?_)
    · skip
      refine kp_bnd (fun S3 eS3 => ?_)
      have tS3 : tl S3 = tl S := by rw [eS3]; rfl
      refine kp_ckx (fun h4 => ?_)
      refine kp_bnd (fun z5 ez5 => ?_)
      refine kp_ckx (fun h6 => ?_)
      refine kp_bnd (fun z7 ez7 => ?_)
      refine kp_ckx (fun h8 => ?_)
      refine kp_ite (fun q9 => ?_) (fun q9 => ?_)
      · skip
        refine kp_bdo (fun S12 h11 => ?_)
        have tS12 : tl S12 = tl S3 := tX1_delete N S3 z5 S12 h11
        exact fun R h => (tX1_undo_155 N S12 R h).trans (tS12.trans tS3)
      · skip
        refine kp_ite (fun q13 => ?_) (fun q13 => ?_)
        · skip
          refine kp_bdo (fun S16 h15 => ?_)
          have tS16 : tl S16 = tl S3 := tX1_insert N S3 z5 z7 S16 h15
          exact fun R h => (tX1_undo_155 N S16 R h).trans (tS16.trans tS3)
        · skip
          refine kp_ite (fun q17 => ?_) (fun q17 => ?_)
          · skip
            refine kp_bd2 (fun v18 S20 h19 => ?_)
            have tS20 : tl S20 = tl S3 := tX1_level N S3 z5 (v18, S20) h19
            refine kp_bd2 (fun v21 S23 h22 => ?_)
            have tS23 : tl S23 = tl S20 := tX5_right N S20 v18 (v21, S23) h22
            refine kp_bdo (fun S26 h25 => ?_)
            have tS26 : tl S26 = tl S23 := tX1_insert N S23 ((z5 + (1 : Int32))) v21 S26 h25
            refine kp_bdo (fun S29 h28 => ?_)
            have tS29 : tl S29 = tl S26 := tX1_set N S26 z5 z7 S29 h28
            exact fun R h => (tX1_undo_155 N S29 R h).trans (tS29.trans (tS26.trans (tS23.trans (tS20.trans tS3))))
          · skip
            refine kp_ite (fun q30 => ?_) (fun q30 => ?_)
            · skip
              refine kp_bdo (fun S33 h32 => ?_)
              have tS33 : tl S33 = tl S3 := tX1_set N S3 z5 z7 S33 h32
              refine kp_bdo (fun S36 h35 => ?_)
              have tS36 : tl S36 = tl S33 := tX1_delete N S33 ((z5 + (1 : Int32))) S36 h35
              exact fun R h => (tX1_undo_155 N S36 R h).trans (tS36.trans (tS33.trans tS3))
            · skip
              refine kp_bdo (fun S39 h38 => ?_)
              have tS39 : tl S39 = tl S3 := tX1_set N S3 z5 z7 S39 h38
              exact fun R h => (tX1_undo_155 N S39 R h).trans (tS39.trans tS3)
    · skip
      exact kp_some rfl
theorem tX1_undoTo_7s (N : Nat) (k7 : St × Int32 → Option (St)) (hk7 : ∀ x, Kp (fun R => tl R = tl x.1) (k7 x)) (S : St) (x2 : Int32) : Kp (fun R => tl R = tl S) (fX1_undoTo_7s N k7 S x2) := by
  unfold fX1_undoTo_7s
  refine kp_ite (fun q1 => ?_) (fun q1 => ?_)
  · skip
    exact kp_some rfl
  · skip
    refine kp_bdo (fun S4 h3 => ?_)
    have tS4 : tl S4 = tl S := tX1_undo N S  S4 h3
    refine kp_bnd (fun z5 ez5 => ?_)
    exact fun R h => (hk7 (S4, z5) R h).trans tS4
theorem tX1_undoTo_7 (N : Nat) (x : St × Int32) : Kp (fun R => tl R = tl x.1) (fX1_undoTo_7 N x) := kp_loop (P := fun x R => tl R = tl x.1) (fun k hk x => tX1_undoTo_7s N k hk x.1 x.2) N x
theorem tX1_undoTo (N : Nat) (S : St) (p1 : Int32) : Kp (fun R => tl R = tl S) (fX1_undoTo N S p1) := by
  unfold fX1_undoTo
  refine kp_bnd (fun z1 ez1 => ?_)
  exact fun R h => (tX1_undoTo_7 N (S, z1) R h).trans rfl
theorem tX0_buildName_33s (N : Nat) (k33 : St × Int32 × Int32 × Int32 → Option (St)) (hk33 : ∀ x, Kp (fun R => tl R = tl x.1) (k33 x)) (S : St) (x2 : Int32) (x3 : Int32) (x4 : Int32) : Kp (fun R => tl R = tl S) (fX0_buildName_33s N k33 S x2 x3 x4) := by
  unfold fX0_buildName_33s
  refine kp_ite (fun q1 => ?_) (fun q1 => ?_)
  · skip
    refine kp_bdo (fun v2 h3 => ?_)
    refine kp_ckx (fun h4 => ?_)
    refine kp_bnd (fun S5 eS5 => ?_)
    have tS5 : tl S5 = tl S := by rw [eS5]; rfl
    refine kp_ckx (fun h6 => ?_)
    refine kp_bdo (fun v7 h8 => ?_)
    refine kp_ckx (fun h9 => ?_)
    refine kp_bnd (fun S10 eS10 => ?_)
    have tS10 : tl S10 = tl S5 := by rw [eS10]; rfl
    refine kp_bnd (fun S11 eS11 => ?_)
    have tS11 : tl S11 = tl S10 := by rw [eS11]; rfl
    exact kp_some (tS11.trans (tS10.trans tS5))
  · skip
    refine kp_ckx (fun h12 => ?_)
    refine kp_ckx (fun h13 => ?_)
    refine kp_bnd (fun S14 eS14 => ?_)
    have tS14 : tl S14 = tl S := by rw [eS14]; rfl
    refine kp_bnd (fun z15 ez15 => ?_)
    exact fun R h => (hk33 (S14, x2, x3, z15) R h).trans tS14
theorem tX0_buildName_33 (N : Nat) (x : St × Int32 × Int32 × Int32) : Kp (fun R => tl R = tl x.1) (fX0_buildName_33 N x) := kp_loop (P := fun x R => tl R = tl x.1) (fun k hk x => tX0_buildName_33s N k hk x.1 x.2.1 x.2.2.1 x.2.2.2) N x
theorem tX0_buildName (N : Nat) (S : St) (p1 : Int32) (p2 : Int32) : Kp (fun R => tl R = tl S) (fX0_buildName N S p1 p2) := by
  unfold fX0_buildName
  refine kp_ite (fun q1 => ?_) (fun q1 => ?_)
  · skip
    exact kp_some rfl
  · skip
    refine kp_ite (fun q2 => ?_) (fun q2 => ?_)
    · skip
      exact kp_some rfl
    · skip
      refine kp_ite (fun q3 => ?_) (fun q3 => ?_)
      · skip
        refine kp_bd2 (fun v4 S6 h5 => ?_)
        have tS6 : tl S6 = tl S := tX2_make N S (3 : Int32) p1 (v4, S6) h5
        refine kp_bnd (fun z7 ez7 => ?_)
        exact fun R h => (tX0_buildName_33 N (S6, p2, v4, z7) R h).trans tS6
      · skip
        exact kp_some rfl
theorem tX0_buildLambda_68 (N : Nat) (S : St) (x2 : Int32) (x3 : Int32) (x4 : Int32) (x5 : Int32) : Kp (fun R => tl R = tl S) (fX0_buildLambda_68 N S x2 x3 x4 x5) := by
  unfold fX0_buildLambda_68
  refine kp_bdo (fun v1 h2 => ?_)
  refine kp_ckx (fun h3 => ?_)
  refine kp_bdo (fun S6 h5 => ?_)
  have tS6 : tl S6 = tl S := tX2_link N S v1 (S.2.1 1 (x3 : Int32).toNatClampNeg) S6 h5
  refine kp_bdo (fun v7 h8 => ?_)
  refine kp_bdo (fun S11 h10 => ?_)
  have tS11 : tl S11 = tl S6 := tX2_link N S6 v7 x5 S11 h10
  refine kp_bdo (fun v12 h13 => ?_)
  refine kp_ckx (fun h14 => ?_)
  refine kp_bnd (fun S15 eS15 => ?_)
  have tS15 : tl S15 = tl S11 := by rw [eS15]; rfl
  refine kp_ckx (fun h16 => ?_)
  refine kp_ckx (fun h17 => ?_)
  refine kp_bnd (fun S18 eS18 => ?_)
  have tS18 : tl S18 = tl S15 := by rw [eS18]; rfl
  exact kp_some (tS18.trans (tS15.trans (tS11.trans tS6)))
theorem tX0_buildLambda (N : Nat) (S : St) (p1 : Int32) (p2 : Int32) : Kp (fun R => tl R = tl S) (fX0_buildLambda N S p1 p2) := by
  unfold fX0_buildLambda
  refine kp_ite (fun q1 => ?_) (fun q1 => ?_)
  · skip
    exact kp_some rfl
  · skip
    refine kp_ite (fun q2 => ?_) (fun q2 => ?_)
    · skip
      exact kp_some rfl
    · skip
      refine kp_ite (fun q3 => ?_) (fun q3 => ?_)
      · skip
        refine kp_bnd (fun z4 ez4 => ?_)
        refine kp_bd2 (fun v5 S7 h6 => ?_)
        have tS7 : tl S7 = tl S := tX2_make N S (0 : Int32) p1 (v5, S7) h6
        refine kp_ckx (fun h8 => ?_)
        refine kp_ckx (fun h9 => ?_)
        refine kp_bnd (fun z10 ez10 => ?_)
        refine kp_ite (fun q11 => ?_) (fun q11 => ?_)
        · skip
          refine kp_bd2 (fun v12 S14 h13 => ?_)
          have tS14 : tl S14 = tl S7 := tX2_make N S7 (5 : Int32) (-1 : Int32) (v12, S14) h13
          refine kp_bdo (fun v15 h16 => ?_)
          exact fun R h => (tX0_buildLambda_68 N S14 p2 z4 v5 v15 R h).trans (tS14.trans tS7)
        · skip
          exact fun R h => (tX0_buildLambda_68 N S7 p2 z4 v5 z10 R h).trans tS7
      · skip
        exact kp_some rfl
theorem tX0_bracket (N : Nat) (S : St) (p1 : Int32) (p2 : Int32) : Kp (fun R => tl R.2 = tl S) (fX0_bracket N S p1 p2) := by
  unfold fX0_bracket
  refine kp_bd2 (fun v1 S3 h2 => ?_)
  have tS3 : tl S3 = tl S := tX2_make N S (4 : Int32) p1 (v1, S3) h2
  refine kp_bdo (fun v4 h5 => ?_)
  refine kp_bdo (fun S8 h7 => ?_)
  have tS8 : tl S8 = tl S3 := tX2_link N S3 v4 p2 S8 h7
  refine kp_bdo (fun v9 h10 => ?_)
  exact kp_some (tS8.trans tS3)
theorem tX0_share (N : Nat) (S : St) (p1 : Int32) (p2 : Int32) (p3 : Int32) : Kp (fun R => tl R.2 = tl S) (fX0_share N S p1 p2 p3) := by
  unfold fX0_share
  refine kp_ite (fun q1 => ?_) (fun q1 => ?_)
  · skip
    exact kp_some rfl
  · skip
    refine kp_bd2 (fun v2 S4 h3 => ?_)
    have tS4 : tl S4 = tl S := tX2_make N S (2 : Int32) p1 (v2, S4) h3
    refine kp_bdo (fun v5 h6 => ?_)
    refine kp_bdo (fun S9 h8 => ?_)
    have tS9 : tl S9 = tl S4 := tX2_link N S4 v5 p2 S9 h8
    refine kp_bdo (fun v10 h11 => ?_)
    refine kp_bdo (fun S14 h13 => ?_)
    have tS14 : tl S14 = tl S9 := tX2_link N S9 v10 p3 S14 h13
    refine kp_bdo (fun v15 h16 => ?_)
    exact kp_some (tS14.trans (tS9.trans tS4))
theorem tX0_buildApplication_141 (N : Nat) (k87 : St × Int32 × Int32 × Int32 × Int32 → Option (St)) (hk87 : ∀ x, Kp (fun R => tl R = tl x.1) (k87 x)) (S : St) (x1 : Int32) (x2 : Int32) (x3 : Int32) (x5 : Int32) : Kp (fun R => tl R = tl S) (fX0_buildApplication_141 N k87 S x1 x2 x3 x5) := by
  unfold fX0_buildApplication_141
  refine kp_bnd (fun z1 ez1 => ?_)
  exact fun R h => (hk87 (S, x1, x2, x3, z1) R h).trans rfl
theorem tX0_buildApplication_87s (N : Nat) (k87 : St × Int32 × Int32 × Int32 × Int32 → Option (St)) (hk87 : ∀ x, Kp (fun R => tl R = tl x.1) (k87 x)) (S : St) (x1 : Int32) (x2 : Int32) (x3 : Int32) (x5 : Int32) : Kp (fun R => tl R = tl S) (fX0_buildApplication_87s N k87 S x1 x2 x3 x5) := by
  unfold fX0_buildApplication_87s
  refine kp_ite (fun q1 => ?_) (fun q1 => ?_)
  · skip
    refine kp_bnd (fun S2 eS2 => ?_)
    have tS2 : tl S2 = tl S := by rw [eS2]; rfl
    exact kp_some tS2
  · skip
    refine kp_ckx (fun h3 => ?_)
    refine kp_ckx (fun h4 => ?_)
    refine kp_bnd (fun z5 ez5 => ?_)
    refine kp_ite (fun q6 => ?_) (fun q6 => ?_)
    · skip
      exact fun R h => (tX0_buildApplication_141 N _ hk87 S x1 x2 x3 x5 R h).trans rfl
    · skip
      refine kp_ckx (fun h7 => ?_)
      refine kp_ckx (fun h8 => ?_)
      refine kp_ckx (fun h9 => ?_)
      refine kp_bd2 (fun v10 S12 h11 => ?_)
      have tS12 : tl S12 = tl S := tX0_bracket N S x1 z5 (v10, S12) h11
      refine kp_bd2 (fun v13 S15 h14 => ?_)
      have tS15 : tl S15 = tl S12 := tX0_share N S12 x1 (S.2.2.1 (x3 : Int32).toNatClampNeg (x5 : Int32).toNatClampNeg) v10 (v13, S15) h14
      refine kp_ckx (fun h16 => ?_)
      refine kp_bnd (fun S17 eS17 => ?_)
      have tS17 : tl S17 = tl S15 := by rw [eS17]; rfl
      exact fun R h => (tX0_buildApplication_141 N _ hk87 S17 x1 x2 x3 x5 R h).trans (tS17.trans (tS15.trans tS12))
theorem tX0_buildApplication_87 (N : Nat) (x : St × Int32 × Int32 × Int32 × Int32) : Kp (fun R => tl R = tl x.1) (fX0_buildApplication_87 N x) := kp_loop (P := fun x R => tl R = tl x.1) (fun k hk x => tX0_buildApplication_87s N k hk x.1 x.2.1 x.2.2.1 x.2.2.2.1 x.2.2.2.2) N x
theorem tX0_buildApplication (N : Nat) (S : St) (p1 : Int32) : Kp (fun R => tl R = tl S) (fX0_buildApplication N S p1) := by
  unfold fX0_buildApplication
  refine kp_ite (fun q1 => ?_) (fun q1 => ?_)
  · skip
    refine kp_bnd (fun z2 ez2 => ?_)
    refine kp_bnd (fun z3 ez3 => ?_)
    refine kp_bd2 (fun v4 S6 h5 => ?_)
    have tS6 : tl S6 = tl S := tX2_make N S (1 : Int32) p1 (v4, S6) h5
    refine kp_bdo (fun v7 h8 => ?_)
    refine kp_ckx (fun h9 => ?_)
    refine kp_bdo (fun S12 h11 => ?_)
    have tS12 : tl S12 = tl S6 := tX2_link N S6 v7 (S6.2.1 1 (z3 : Int32).toNatClampNeg) S12 h11
    refine kp_bdo (fun v13 h14 => ?_)
    refine kp_ckx (fun h15 => ?_)
    refine kp_bdo (fun S18 h17 => ?_)
    have tS18 : tl S18 = tl S12 := tX2_link N S12 v13 (S12.2.1 1 (z2 : Int32).toNatClampNeg) S18 h17
    refine kp_bdo (fun v19 h20 => ?_)
    refine kp_ckx (fun h21 => ?_)
    refine kp_bnd (fun S22 eS22 => ?_)
    have tS22 : tl S22 = tl S18 := by rw [eS22]; rfl
    refine kp_bnd (fun z23 ez23 => ?_)
    exact fun R h => (tX0_buildApplication_87 N (S22, p1, z2, z3, z23) R h).trans (tS22.trans (tS18.trans (tS12.trans tS6)))
  · skip
    exact kp_some rfl
theorem tX0_build_100 (N : Nat) (k18 : St × Int32 × Int32 → Option (St)) (hk18 : ∀ x, Kp (fun R => tl R = tl x.1) (k18 x)) (S : St) (x2 : Int32) (x3 : Int32) : Kp (fun R => tl R = tl S) (fX0_build_100 N k18 S x2 x3) := by
  unfold fX0_build_100
  refine kp_bnd (fun z1 ez1 => ?_)
  exact fun R h => (hk18 (S, x2, z1) R h).trans rfl
theorem tX0_build_18s (N : Nat) (k18 : St × Int32 × Int32 → Option (St)) (hk18 : ∀ x, Kp (fun R => tl R = tl x.1) (k18 x)) (S : St) (x2 : Int32) (x3 : Int32) : Kp (fun R => tl R = tl S) (fX0_build_18s N k18 S x2 x3) := by
  unfold fX0_build_18s
  refine kp_bd2 (fun v1 S3 h2 => ?_)
  have tS3 : tl S3 = tl S := tX4_wordCount N S  (v1, S3) h2
  refine kp_ite (fun q4 => ?_) (fun q4 => ?_)
  · skip
    refine kp_ite (fun q5 => ?_) (fun q5 => ?_)
    · skip
      exact kp_some tS3
    · skip
      refine kp_bdo (fun v6 h7 => ?_)
      refine kp_ckx (fun h8 => ?_)
      refine kp_bdo (fun S11 h10 => ?_)
      have tS11 : tl S11 = tl S3 := tX2_link N S3 v6 (S3.2.1 1 ((0 : Int32) : Int32).toNatClampNeg) S11 h10
      exact kp_some (tS11.trans tS3)
  · skip
    refine kp_bd2 (fun v12 S14 h13 => ?_)
    have tS14 : tl S14 = tl S3 := tX4_wordIndex N S3 x3 (v12, S14) h13
    refine kp_bd2 (fun v15 S17 h16 => ?_)
    have tS17 : tl S17 = tl S14 := tX4_wordSlot N S14 x3 (v15, S17) h16
    refine kp_bd2 (fun v18 S20 h19 => ?_)
    have tS20 : tl S20 = tl S17 := tX4_wordKind N S17 x3 (v18, S20) h19
    refine kp_ite (fun q21 => ?_) (fun q21 => ?_)
    · skip
      refine kp_bdo (fun S24 h23 => ?_)
      have tS24 : tl S24 = tl S20 := tX0_buildName N S20 v12 v15 S24 h23
      exact fun R h => (tX0_build_100 N _ hk18 S24 x2 x3 R h).trans (tS24.trans (tS20.trans (tS17.trans (tS14.trans tS3))))
    · skip
      refine kp_ite (fun q25 => ?_) (fun q25 => ?_)
      · skip
        refine kp_bdo (fun S28 h27 => ?_)
        have tS28 : tl S28 = tl S20 := tX0_buildLambda N S20 v12 v15 S28 h27
        exact fun R h => (tX0_build_100 N _ hk18 S28 x2 x3 R h).trans (tS28.trans (tS20.trans (tS17.trans (tS14.trans tS3))))
      · skip
        refine kp_bdo (fun S31 h30 => ?_)
        have tS31 : tl S31 = tl S20 := tX0_buildApplication N S20 v12 S31 h30
        exact fun R h => (tX0_build_100 N _ hk18 S31 x2 x3 R h).trans (tS31.trans (tS20.trans (tS17.trans (tS14.trans tS3))))
theorem tX0_build_18 (N : Nat) (x : St × Int32 × Int32) : Kp (fun R => tl R = tl x.1) (fX0_build_18 N x) := kp_loop (P := fun x R => tl R = tl x.1) (fun k hk x => tX0_build_18s N k hk x.1 x.2.1 x.2.2) N x
theorem tX0_build (N : Nat) (S : St) : Kp (fun R => tl R = tl S) (fX0_build N S ) := by
  unfold fX0_build
  refine kp_bnd (fun S1 eS1 => ?_)
  have tS1 : tl S1 = tl S := by rw [eS1]; rfl
  refine kp_bd2 (fun v2 S4 h3 => ?_)
  have tS4 : tl S4 = tl S1 := tX2_make N S1 (6 : Int32) (-1 : Int32) (v2, S4) h3
  refine kp_bnd (fun z5 ez5 => ?_)
  exact fun R h => (tX0_build_18 N (S4, v2, z5) R h).trans (tS4.trans tS1)
theorem tX6_begin (N : Nat) (S : St) : Kp (fun R => tl R = tl S) (fX6_begin N S ) := by
  unfold fX6_begin
  refine kp_bdo (fun S3 h2 => ?_)
  have tS3 : tl S3 = tl S := tX1_clear N S  S3 h2
  refine kp_bnd (fun S4 eS4 => ?_)
  have tS4 : tl S4 = tl S3 := by rw [eS4]; rfl
  refine kp_bnd (fun S5 eS5 => ?_)
  have tS5 : tl S5 = tl S4 := by rw [eS5]; rfl
  refine kp_bnd (fun S6 eS6 => ?_)
  have tS6 : tl S6 = tl S5 := by rw [eS6]; rfl
  refine kp_bnd (fun S7 eS7 => ?_)
  have tS7 : tl S7 = tl S6 := by rw [eS7]; rfl
  refine kp_bnd (fun S8 eS8 => ?_)
  have tS8 : tl S8 = tl S7 := by rw [eS8]; rfl
  refine kp_bdo (fun v9 h10 => ?_)
  refine kp_bnd (fun S11 eS11 => ?_)
  have tS11 : tl S11 = tl S8 := by rw [eS11]; rfl
  exact kp_some (tS11.trans (tS8.trans (tS7.trans (tS6.trans (tS5.trans (tS4.trans tS3))))))
theorem tX6_told (N : Nat) (S : St) : Kp (fun R => tl R.2 = tl S) (fX6_told N S ) := by
  unfold fX6_told
  exact kp_some rfl
theorem tX6_letterAt (N : Nat) (S : St) (p1 : Int32) : Kp (fun R => tl R.2 = tl S) (fX6_letterAt N S p1) := by
  unfold fX6_letterAt
  refine kp_ite (fun q1 => ?_) (fun q1 => ?_)
  · skip
    exact kp_some rfl
  · skip
    refine kp_ite (fun q2 => ?_) (fun q2 => ?_)
    · skip
      exact kp_some rfl
    · skip
      refine kp_ite (fun q3 => ?_) (fun q3 => ?_)
      · skip
        exact kp_some rfl
      · skip
        refine kp_ckx (fun h4 => ?_)
        exact kp_some rfl
theorem tX6_nodeLeft (N : Nat) (S : St) : Kp (fun R => tl R.2 = tl S) (fX6_nodeLeft N S ) := by
  unfold fX6_nodeLeft
  refine kp_bdo (fun v1 h2 => ?_)
  exact kp_some rfl
theorem tX6_nodeAhead (N : Nat) (S : St) : Kp (fun R => tl R.2 = tl S) (fX6_nodeAhead N S ) := by
  unfold fX6_nodeAhead
  refine kp_bd2 (fun v1 S3 h2 => ?_)
  have tS3 : tl S3 = tl S := tX2_across N S (S.1 124) (v1, S3) h2
  refine kp_bdo (fun v4 h5 => ?_)
  exact kp_some tS3
theorem tX6_stepBack_81 (N : Nat) (S : St) : Kp (fun R => tl R = tl S) (fX6_stepBack_81 N S ) := by
  unfold fX6_stepBack_81
  refine kp_bnd (fun S1 eS1 => ?_)
  have tS1 : tl S1 = tl S := by rw [eS1]; rfl
  refine kp_ckx (fun h2 => ?_)
  refine kp_bnd (fun S3 eS3 => ?_)
  have tS3 : tl S3 = tl S1 := by rw [eS3]; rfl
  exact kp_some (tS3.trans tS1)
theorem tX6_stepBack (N : Nat) (S : St) : Kp (fun R => tl R = tl S) (fX6_stepBack N S ) := by
  unfold fX6_stepBack
  refine kp_ite (fun q1 => ?_) (fun q1 => ?_)
  · skip
    exact kp_some rfl
  · skip
    refine kp_ite (fun q2 => ?_) (fun q2 => ?_)
    · skip
      refine kp_bdo (fun v3 h4 => ?_)
      refine kp_bd2 (fun v5 S7 h6 => ?_)
      have tS7 : tl S7 = tl S := tX2_kindOf N S v3 (v5, S7) h6
      refine kp_ite (fun q8 => ?_) (fun q8 => ?_)
      · skip
        refine kp_ite (fun q9 => ?_) (fun q9 => ?_)
        · skip
          exact fun R h => (tX6_stepBack_81 N S7 R h).trans tS7
        · skip
          refine kp_ite (fun q10 => ?_) (fun q10 => ?_)
          · skip
            exact fun R h => (tX6_stepBack_81 N S7 R h).trans tS7
          · skip
            refine kp_bnd (fun S11 eS11 => ?_)
            have tS11 : tl S11 = tl S7 := by rw [eS11]; rfl
            refine kp_bnd (fun S12 eS12 => ?_)
            have tS12 : tl S12 = tl S11 := by rw [eS12]; rfl
            exact fun R h => (tX6_stepBack_81 N S12 R h).trans (tS12.trans (tS11.trans tS7))
      · skip
        refine kp_bdo (fun S15 h14 => ?_)
        have tS15 : tl S15 = tl S7 := tX1_undo N S7  S15 h14
        exact fun R h => (tX6_stepBack_81 N S15 R h).trans (tS15.trans tS7)
    · skip
      exact kp_some rfl
theorem tX6_isMeeting (N : Nat) (S : St) (p1 : Int32) : Kp (fun R => tl R.2 = tl S) (fX6_isMeeting N S p1) := by
  unfold fX6_isMeeting
  refine kp_bdo (fun v1 h2 => ?_)
  refine kp_ite (fun q3 => ?_) (fun q3 => ?_)
  · skip
    refine kp_bdo (fun v4 h5 => ?_)
    refine kp_bd2 (fun v6 S8 h7 => ?_)
    have tS8 : tl S8 = tl S := tX2_kindOf N S v4 (v6, S8) h7
    refine kp_ite (fun q9 => ?_) (fun q9 => ?_)
    · skip
      exact kp_some tS8
    · skip
      refine kp_bdo (fun v10 h11 => ?_)
      refine kp_ite (fun q12 => ?_) (fun q12 => ?_)
      · skip
        exact kp_some tS8
      · skip
        exact kp_some tS8
  · skip
    exact kp_some rfl
theorem tX6_leaveBy (N : Nat) (S : St) (p1 : Int32) (p2 : Int32) : Kp (fun R => tl R.2 = tl S) (fX6_leaveBy N S p1 p2) := by
  unfold fX6_leaveBy
  refine kp_bdo (fun v1 h2 => ?_)
  refine kp_bnd (fun S3 eS3 => ?_)
  have tS3 : tl S3 = tl S := by rw [eS3]; rfl
  exact kp_some tS3
theorem tX6_atBracket (N : Nat) (S : St) (p1 : Int32) (p2 : Int32) (p3 : Int32) : Kp (fun R => tl R.2 = tl S) (fX6_atBracket N S p1 p2 p3) := by
  unfold fX6_atBracket
  refine kp_ite (fun q1 => ?_) (fun q1 => ?_)
  · skip
    refine kp_bd2 (fun v8 S10 h9 => ?_)
    have tS10 : tl S10 = tl S := tX1_split N S p2 (v8, S10) h9
    refine kp_ite (fun q11 => ?_) (fun q11 => ?_)
    · skip
      exact kp_some tS10
    · skip
      refine kp_bd2 (fun v12 S14 h13 => ?_)
      have tS14 : tl S14 = tl S10 := tX6_leaveBy N S10 p1 (1 : Int32) (v12, S14) h13
      exact kp_some (tS14.trans tS10)
  · skip
    refine kp_bdo (fun S4 h3 => ?_)
    have tS4 : tl S4 = tl S := tX1_pairUp N S p2 S4 h3
    refine kp_bd2 (fun v5 S7 h6 => ?_)
    have tS7 : tl S7 = tl S4 := tX6_leaveBy N S4 p1 (0 : Int32) (v5, S7) h6
    exact kp_some (tS7.trans tS4)
theorem tX6_atFan (N : Nat) (S : St) (p1 : Int32) (p2 : Int32) (p3 : Int32) : Kp (fun R => tl R.2 = tl S) (fX6_atFan N S p1 p2 p3) := by
  unfold fX6_atFan
  refine kp_ite (fun q1 => ?_) (fun q1 => ?_)
  · skip
    refine kp_bd2 (fun v8 S10 h9 => ?_)
    have tS10 : tl S10 = tl S := tX1_leaveFan N S p2 (v8, S10) h9
    refine kp_ite (fun q11 => ?_) (fun q11 => ?_)
    · skip
      exact kp_some tS10
    · skip
      refine kp_bd2 (fun v12 S14 h13 => ?_)
      have tS14 : tl S14 = tl S10 := tX6_leaveBy N S10 p1 v8 (v12, S14) h13
      exact kp_some (tS14.trans tS10)
  · skip
    refine kp_bdo (fun S4 h3 => ?_)
    have tS4 : tl S4 = tl S := tX1_enterFan N S p2 p3 S4 h3
    refine kp_bd2 (fun v5 S7 h6 => ?_)
    have tS7 : tl S7 = tl S4 := tX6_leaveBy N S4 p1 (0 : Int32) (v5, S7) h6
    exact kp_some (tS7.trans tS4)
theorem tX6_tell (N : Nat) (S : St) (p1 : Int32) : Kp (fun R => tl R.2 = tl S) (fX6_tell N S p1) := by
  unfold fX6_tell
  refine kp_ite (fun q1 => ?_) (fun q1 => ?_)
  · skip
    refine kp_ckx (fun h2 => ?_)
    refine kp_bnd (fun S3 eS3 => ?_)
    have tS3 : tl S3 = tl S := by rw [eS3]; rfl
    refine kp_bnd (fun S4 eS4 => ?_)
    have tS4 : tl S4 = tl S3 := by rw [eS4]; rfl
    exact kp_some (tS4.trans tS3)
  · skip
    exact kp_some rfl
theorem tX6_push (N : Nat) (S : St) (p1 : Int32) (p2 : Int32) : Kp (fun R => tl R = tl S) (fX6_push N S p1 p2) := by
  unfold fX6_push
  refine kp_ite (fun q1 => ?_) (fun q1 => ?_)
  · skip
    exact kp_some rfl
  · skip
    refine kp_ckx (fun h2 => ?_)
    refine kp_bnd (fun S3 eS3 => ?_)
    have tS3 : tl S3 = tl S := by rw [eS3]; rfl
    refine kp_ckx (fun h4 => ?_)
    refine kp_bnd (fun S5 eS5 => ?_)
    have tS5 : tl S5 = tl S3 := by rw [eS5]; rfl
    refine kp_bd2 (fun v6 S8 h7 => ?_)
    have tS8 : tl S8 = tl S5 := tX1_changes N S5  (v6, S8) h7
    refine kp_ckx (fun h9 => ?_)
    refine kp_bnd (fun S10 eS10 => ?_)
    have tS10 : tl S10 = tl S8 := by rw [eS10]; rfl
    refine kp_bnd (fun S11 eS11 => ?_)
    have tS11 : tl S11 = tl S10 := by rw [eS11]; rfl
    exact kp_some (tS11.trans (tS10.trans (tS8.trans (tS5.trans tS3))))
theorem tX6_readApplication (N : Nat) (S : St) (p1 : Int32) : Kp (fun R => tl R.2 = tl S) (fX6_readApplication N S p1) := by
  unfold fX6_readApplication
  refine kp_bd2 (fun v1 S3 h2 => ?_)
  have tS3 : tl S3 = tl S := tX6_tell N S (40 : Int32) (v1, S3) h2
  refine kp_ite (fun q4 => ?_) (fun q4 => ?_)
  · skip
    exact kp_some tS3
  · skip
    refine kp_bdo (fun S7 h6 => ?_)
    have tS7 : tl S7 = tl S3 := tX6_push N S3 (1 : Int32) p1 S7 h6
    refine kp_bd2 (fun v8 S10 h9 => ?_)
    have tS10 : tl S10 = tl S7 := tX6_leaveBy N S7 p1 (0 : Int32) (v8, S10) h9
    exact kp_some (tS10.trans (tS7.trans tS3))
theorem tX6_hasLevels_19s (N : Nat) (k19 : St × Int32 × Int32 × Int32 → Option (Int32 × St)) (hk19 : ∀ x, Kp (fun R => tl R.2 = tl x.1) (k19 x)) (S : St) (x1 : Int32) (x2 : Int32) (x3 : Int32) : Kp (fun R => tl R.2 = tl S) (fX6_hasLevels_19s N k19 S x1 x2 x3) := by
  unfold fX6_hasLevels_19s
  refine kp_ite (fun q1 => ?_) (fun q1 => ?_)
  · skip
    exact kp_some rfl
  · skip
    refine kp_ckx (fun h2 => ?_)
    refine kp_bd2 (fun v3 S5 h4 => ?_)
    have tS5 : tl S5 = tl S := tX1_level N S x3 (v3, S5) h4
    refine kp_ite (fun q6 => ?_) (fun q6 => ?_)
    · skip
      refine kp_bnd (fun z7 ez7 => ?_)
      exact fun R h => (hk19 (S5, x1, x2, z7) R h).trans tS5
    · skip
      exact kp_some tS5
theorem tX6_hasLevels_19 (N : Nat) (x : St × Int32 × Int32 × Int32) : Kp (fun R => tl R.2 = tl x.1) (fX6_hasLevels_19 N x) := kp_loop (P := fun x R => tl R.2 = tl x.1) (fun k hk x => tX6_hasLevels_19s N k hk x.1 x.2.1 x.2.2.1 x.2.2.2) N x
theorem tX6_hasLevels (N : Nat) (S : St) (p1 : Int32) (p2 : Int32) : Kp (fun R => tl R.2 = tl S) (fX6_hasLevels N S p1 p2) := by
  unfold fX6_hasLevels
  refine kp_ite (fun q1 => ?_) (fun q1 => ?_)
  · skip
    exact kp_some rfl
  · skip
    refine kp_ite (fun q2 => ?_) (fun q2 => ?_)
    · skip
      refine kp_bnd (fun z3 ez3 => ?_)
      exact fun R h => (tX6_hasLevels_19 N (S, p1, p2, z3) R h).trans rfl
    · skip
      exact kp_some rfl
theorem tX6_tellNumber_62 (N : Nat) (k30 : St × Int32 × Int32 × Int32 → Option (Int32 × St)) (hk30 : ∀ x, Kp (fun R => tl R.2 = tl x.1) (k30 x)) (S : St) (x1 : Int32) (x4 : Int32) (y0 : Int32) : Kp (fun R => tl R.2 = tl S) (fX6_tellNumber_62 N k30 S x1 x4 y0) := by
  unfold fX6_tellNumber_62
  refine kp_bnd (fun z1 ez1 => ?_)
  exact fun R h => (hk30 (S, x1, y0, z1) R h).trans rfl
theorem tX6_tellNumber_61 (N : Nat) (k30 : St × Int32 × Int32 × Int32 → Option (Int32 × St)) (hk30 : ∀ x, Kp (fun R => tl R.2 = tl x.1) (k30 x)) (S : St) (x1 : Int32) (x4 : Int32) : Kp (fun R => tl R.2 = tl S) (fX6_tellNumber_61 N k30 S x1 x4) := by
  unfold fX6_tellNumber_61
  exact fun R h => (tX6_tellNumber_62 N _ hk30 S x1 x4 (0 : Int32) R h).trans rfl
theorem tX6_tellNumber_30s (N : Nat) (k30 : St × Int32 × Int32 × Int32 → Option (Int32 × St)) (hk30 : ∀ x, Kp (fun R => tl R.2 = tl x.1) (k30 x)) (S : St) (x1 : Int32) (x3 : Int32) (x4 : Int32) : Kp (fun R => tl R.2 = tl S) (fX6_tellNumber_30s N k30 S x1 x3 x4) := by
  unfold fX6_tellNumber_30s
  refine kp_ite (fun q1 => ?_) (fun q1 => ?_)
  · skip
    refine kp_ckp (fun h2 => ?_)
    exact kp_some rfl
  · skip
    refine kp_ckp (fun h3 => ?_)
    refine kp_bd2 (fun v4 S6 h5 => ?_)
    have tS6 : tl S6 = tl S := tX6_tell N S (((((48 : Int32) + ((x1 / x4) - (x1 / x4) / (10 : Int32) * (10 : Int32))) : Int32).toUInt32 % 65536).toInt32) (v4, S6) h5
    refine kp_ite (fun q7 => ?_) (fun q7 => ?_)
    · skip
      exact fun R h => (tX6_tellNumber_61 N _ hk30 S6 x1 x4 R h).trans tS6
    · skip
      refine kp_ite (fun q8 => ?_) (fun q8 => ?_)
      · skip
        exact fun R h => (tX6_tellNumber_61 N _ hk30 S6 x1 x4 R h).trans tS6
      · skip
        exact fun R h => (tX6_tellNumber_62 N _ hk30 S6 x1 x4 (1 : Int32) R h).trans tS6
theorem tX6_tellNumber_30 (N : Nat) (x : St × Int32 × Int32 × Int32) : Kp (fun R => tl R.2 = tl x.1) (fX6_tellNumber_30 N x) := kp_loop (P := fun x R => tl R.2 = tl x.1) (fun k hk x => tX6_tellNumber_30s N k hk x.1 x.2.1 x.2.2.1 x.2.2.2) N x
theorem tX6_tellNumber_25 (N : Nat) (S : St) (x1 : Int32) (x2 : Int32) : Kp (fun R => tl R.2 = tl S) (fX6_tellNumber_25 N S x1 x2) := by
  unfold fX6_tellNumber_25
  refine kp_bnd (fun z1 ez1 => ?_)
  exact fun R h => (tX6_tellNumber_30 N (S, x1, z1, x2) R h).trans rfl
theorem tX6_tellNumber_2s (N : Nat) (k2 : St × Int32 × Int32 → Option (Int32 × St)) (hk2 : ∀ x, Kp (fun R => tl R.2 = tl x.1) (k2 x)) (S : St) (x1 : Int32) (x2 : Int32) : Kp (fun R => tl R.2 = tl S) (fX6_tellNumber_2s N k2 S x1 x2) := by
  unfold fX6_tellNumber_2s
  refine kp_ite (fun q1 => ?_) (fun q1 => ?_)
  · skip
    exact fun R h => (tX6_tellNumber_25 N S x1 x2 R h).trans rfl
  · skip
    refine kp_ite (fun q2 => ?_) (fun q2 => ?_)
    · skip
      exact fun R h => (tX6_tellNumber_25 N S x1 x2 R h).trans rfl
    · skip
      refine kp_bnd (fun z3 ez3 => ?_)
      exact fun R h => (hk2 (S, x1, z3) R h).trans rfl
theorem tX6_tellNumber_2 (N : Nat) (x : St × Int32 × Int32) : Kp (fun R => tl R.2 = tl x.1) (fX6_tellNumber_2 N x) := kp_loop (P := fun x R => tl R.2 = tl x.1) (fun k hk x => tX6_tellNumber_2s N k hk x.1 x.2.1 x.2.2) N x
theorem tX6_tellNumber (N : Nat) (S : St) (p1 : Int32) : Kp (fun R => tl R.2 = tl S) (fX6_tellNumber N S p1) := by
  unfold fX6_tellNumber
  refine kp_bnd (fun z1 ez1 => ?_)
  exact fun R h => (tX6_tellNumber_2 N (S, p1, z1) R h).trans rfl
theorem tX6_readVariable_66 (N : Nat) (k16 : St × Int32 × Int32 × Int32 → Option (Int32 × St)) (hk16 : ∀ x, Kp (fun R => tl R.2 = tl x.1) (k16 x)) (S : St) (x1 : Int32) (x2 : Int32) (x3 : Int32) : Kp (fun R => tl R.2 = tl S) (fX6_readVariable_66 N k16 S x1 x2 x3) := by
  unfold fX6_readVariable_66
  refine kp_bnd (fun z1 ez1 => ?_)
  exact fun R h => (hk16 (S, x1, x2, z1) R h).trans rfl
theorem tX6_readVariable_16s (N : Nat) (k16 : St × Int32 × Int32 × Int32 → Option (Int32 × St)) (hk16 : ∀ x, Kp (fun R => tl R.2 = tl x.1) (k16 x)) (S : St) (x1 : Int32) (x2 : Int32) (x3 : Int32) : Kp (fun R => tl R.2 = tl S) (fX6_readVariable_16s N k16 S x1 x2 x3) := by
  unfold fX6_readVariable_16s
  refine kp_ite (fun q1 => ?_) (fun q1 => ?_)
  · skip
    exact kp_some rfl
  · skip
    refine kp_ckx (fun h2 => ?_)
    refine kp_ite (fun q3 => ?_) (fun q3 => ?_)
    · skip
      refine kp_ckx (fun h4 => ?_)
      refine kp_bd2 (fun v5 S7 h6 => ?_)
      have tS7 : tl S7 = tl S := tX6_hasLevels N S (S.2.1 132 (x3 : Int32).toNatClampNeg) x2 (v5, S7) h6
      refine kp_ite (fun q8 => ?_) (fun q8 => ?_)
      · skip
        exact fun R h => (tX6_readVariable_66 N _ hk16 S7 x1 x2 x3 R h).trans tS7
      · skip
        refine kp_bd2 (fun v9 S11 h10 => ?_)
        have tS11 : tl S11 = tl S7 := tX6_tellNumber N S7 (((S7.1 133 - (1 : Int32)) - x3)) (v9, S11) h10
        refine kp_ite (fun q12 => ?_) (fun q12 => ?_)
        · skip
          exact kp_some (tS11.trans tS7)
        · skip
          exact kp_some (tS11.trans tS7)
    · skip
      exact fun R h => (tX6_readVariable_66 N _ hk16 S x1 x2 x3 R h).trans rfl
theorem tX6_readVariable_16 (N : Nat) (x : St × Int32 × Int32 × Int32) : Kp (fun R => tl R.2 = tl x.1) (fX6_readVariable_16 N x) := kp_loop (P := fun x R => tl R.2 = tl x.1) (fun k hk x => tX6_readVariable_16s N k hk x.1 x.2.1 x.2.2.1 x.2.2.2) N x
theorem tX6_readVariable (N : Nat) (S : St) (p1 : Int32) : Kp (fun R => tl R.2 = tl S) (fX6_readVariable N S p1) := by
  unfold fX6_readVariable
  refine kp_bd2 (fun v1 S3 h2 => ?_)
  have tS3 : tl S3 = tl S := tX2_indexOf N S p1 (v1, S3) h2
  refine kp_bnd (fun z4 ez4 => ?_)
  exact fun R h => (tX6_readVariable_16 N (S3, p1, v1, z4) R h).trans tS3
theorem tX6_forgetBinder (N : Nat) (S : St) : Kp (fun R => tl R = tl S) (fX6_forgetBinder N S ) := by
  unfold fX6_forgetBinder
  refine kp_ite (fun q1 => ?_) (fun q1 => ?_)
  · skip
    exact kp_some rfl
  · skip
    refine kp_ite (fun q2 => ?_) (fun q2 => ?_)
    · skip
      exact kp_some rfl
    · skip
      refine kp_bnd (fun S3 eS3 => ?_)
      have tS3 : tl S3 = tl S := by rw [eS3]; rfl
      refine kp_ckx (fun h4 => ?_)
      refine kp_bnd (fun S5 eS5 => ?_)
      have tS5 : tl S5 = tl S3 := by rw [eS5]; rfl
      exact kp_some (tS5.trans tS3)
theorem tX6_endTerm_112 (N : Nat) (k7 : St × Int32 → Option (Int32 × St)) (hk7 : ∀ x, Kp (fun R => tl R.2 = tl x.1) (k7 x)) (S : St) (x1 : Int32) : Kp (fun R => tl R.2 = tl S) (fX6_endTerm_112 N k7 S x1) := by
  unfold fX6_endTerm_112
  refine kp_bnd (fun S1 eS1 => ?_)
  have tS1 : tl S1 = tl S := by rw [eS1]; rfl
  refine kp_bnd (fun z2 ez2 => ?_)
  exact fun R h => (hk7 (S1, z2) R h).trans tS1
theorem tX6_endTerm_99 (N : Nat) (k7 : St × Int32 → Option (Int32 × St)) (hk7 : ∀ x, Kp (fun R => tl R.2 = tl x.1) (k7 x)) (S : St) (x1 : Int32) : Kp (fun R => tl R.2 = tl S) (fX6_endTerm_99 N k7 S x1) := by
  unfold fX6_endTerm_99
  refine kp_ckx (fun h1 => ?_)
  refine kp_ite (fun q2 => ?_) (fun q2 => ?_)
  · skip
    refine kp_bdo (fun S5 h4 => ?_)
    have tS5 : tl S5 = tl S := tX6_forgetBinder N S  S5 h4
    exact fun R h => (tX6_endTerm_112 N _ hk7 S5 x1 R h).trans tS5
  · skip
    exact fun R h => (tX6_endTerm_112 N _ hk7 S x1 R h).trans rfl
theorem tX6_endTerm_7s (N : Nat) (k7 : St × Int32 → Option (Int32 × St)) (hk7 : ∀ x, Kp (fun R => tl R.2 = tl x.1) (k7 x)) (S : St) (x1 : Int32) : Kp (fun R => tl R.2 = tl S) (fX6_endTerm_7s N k7 S x1) := by
  unfold fX6_endTerm_7s
  refine kp_ite (fun q1 => ?_) (fun q1 => ?_)
  · skip
    exact kp_some rfl
  · skip
    refine kp_ite (fun q2 => ?_) (fun q2 => ?_)
    · skip
      exact kp_some rfl
    · skip
      refine kp_ckx (fun h3 => ?_)
      refine kp_ite (fun q4 => ?_) (fun q4 => ?_)
      · skip
        refine kp_ckx (fun h11 => ?_)
        refine kp_bdo (fun S14 h13 => ?_)
        have tS14 : tl S14 = tl S := tX1_undoTo N S (S.2.1 129 (x1 : Int32).toNatClampNeg) S14 h13
        refine kp_ckx (fun h15 => ?_)
        refine kp_bnd (fun S16 eS16 => ?_)
        have tS16 : tl S16 = tl S14 := by rw [eS16]; rfl
        refine kp_ckx (fun h17 => ?_)
        refine kp_bdo (fun v18 h19 => ?_)
        refine kp_bnd (fun S20 eS20 => ?_)
        have tS20 : tl S20 = tl S16 := by rw [eS20]; rfl
        refine kp_bd2 (fun v21 S23 h22 => ?_)
        have tS23 : tl S23 = tl S20 := tX6_tell N S20 (32 : Int32) (v21, S23) h22
        refine kp_ite (fun q24 => ?_) (fun q24 => ?_)
        · skip
          exact kp_some (tS23.trans (tS20.trans (tS16.trans tS14)))
        · skip
          exact kp_some (tS23.trans (tS20.trans (tS16.trans tS14)))
      · skip
        refine kp_ckx (fun h5 => ?_)
        refine kp_ite (fun q6 => ?_) (fun q6 => ?_)
        · skip
          refine kp_bd2 (fun v7 S9 h8 => ?_)
          have tS9 : tl S9 = tl S := tX6_tell N S (41 : Int32) (v7, S9) h8
          refine kp_ite (fun q10 => ?_) (fun q10 => ?_)
          · skip
            exact kp_some tS9
          · skip
            exact fun R h => (tX6_endTerm_99 N _ hk7 S9 x1 R h).trans tS9
        · skip
          exact fun R h => (tX6_endTerm_99 N _ hk7 S x1 R h).trans rfl
theorem tX6_endTerm_7 (N : Nat) (x : St × Int32) : Kp (fun R => tl R.2 = tl x.1) (fX6_endTerm_7 N x) := kp_loop (P := fun x R => tl R.2 = tl x.1) (fun k hk x => tX6_endTerm_7s N k hk x.1 x.2) N x
theorem tX6_endTerm (N : Nat) (S : St) : Kp (fun R => tl R.2 = tl S) (fX6_endTerm N S ) := by
  unfold fX6_endTerm
  refine kp_bnd (fun z1 ez1 => ?_)
  exact fun R h => (tX6_endTerm_7 N (S, z1) R h).trans rfl
