/-! the reference tells the indexes of the trees -/
def Fi (N : Nat) : (St × Int32 × Int32 → Option (Int32 × St)) → St × Int32 × Int32 → Option (Int32 × St) := fun k x => fX8_build_9s N k x.1 x.2.1 x.2.2
theorem nI_m1 (d : Nat) : nI d + (-1 : Int32) = nI d - 1 := (Int32.sub_eq_add_neg _ _).symm
theorem IX_pass {N top : Nat} {wd : Nat → Wd} (ht : top < 300) (hp : ∀ q, q ≤ top → (wd q).1 ≤ 2 ∧ (((wd q).1 = 1 ∨ (wd q).1 = 2) → (wd q).2.2.2.2 < q ∧ (wd (wd q).2.2.2.2).2.1 = (wd q).2.1 + (if (wd q).1 = 2 then 1 else 0)) ∧ ((wd q).1 = 2 → (wd q).2.2.2.1 < q ∧ (wd (wd q).2.2.2.1).2.1 = (wd q).2.1)) (hpar : ∀ j, j ≤ top → j = top ∨ ∃ q, j < q ∧ q ≤ top ∧ Rf wd q j) :
    ∀ (d : Nat) (M : St) (f : Nat), d ≤ top + 1 → d < f → (∀ k, k ≤ top → M.2.1 3 k = nI (wd k).1 ∧ M.2.1 4 k = nI (wd k).2.2.2.1 ∧ M.2.1 5 k = nI (wd k).2.2.2.2) → (∀ j, j ≤ top → (j = top ∨ ∃ q, d ≤ q ∧ q ≤ top ∧ Rf wd q j) → M.2.1 30 j = nI (wd j).2.1) → ∃ M', loopN (Fi N) f (M, nI top, nI d - 1) = fX8_build_97 N (M', nI top, nI 0) ∧ Fr M M' [] [30] ∧ ∀ j, j ≤ top → M'.2.1 30 j = nI (wd j).2.1
  | 0, M, f, h1, h2, h3, h4 => by
    obtain ⟨f, rfl⟩ : ∃ f', f = f' + 1 := ⟨f - 1, by omega⟩
    refine ⟨M, ?_, Fr.rf, fun j hj => h4 j hj ?_⟩
    · show fX8_build_9s N (loopN (Fi N) f) M (nI top) (nI 0 - 1) = _
      unfold fX8_build_9s
      rw [if_pos (show nI 0 - 1 < 0 by decide), bnd_eq]
      rfl
    · rcases hpar j hj with q | ⟨q, -, q2, q3⟩
      · exact Or.inl q
      · exact Or.inr ⟨q, Nat.zero_le _, q2, q3⟩
  | d + 1, M, f, h1, h2, h3, h4 => by
    obtain ⟨f, rfl⟩ : ∃ f', f = f' + 1 := ⟨f - 1, by omega⟩
    obtain ⟨a1, a2, a3⟩ := h3 d (by omega)
    obtain ⟨p1, p2, p3⟩ := hp d (by omega)
    have id : M.2.1 30 d = nI (wd d).2.1 := h4 d (by omega) (by
      rcases hpar d (by omega) with q | ⟨q, q1, q2, q3⟩
      · exact Or.inl q
      · exact Or.inr ⟨q, q1, q2, q3⟩)
    have e89 : ∀ M', fX8_build_89 N (loopN (Fi N) f) M' (nI top) (nI d) = loopN (Fi N) f (M', nI top, nI d - 1) := fun M' => by
      unfold fX8_build_89
      rw [bnd_eq, nI_m1]
    have hd : nI (d + 1) - 1 = nI d := by rw [nI_sub1 (by omega)]; rfl
    have go : ∃ M2, fX8_build_9s N (loopN (Fi N) f) M (nI top) (nI d) = loopN (Fi N) f (M2, nI top, nI d - 1) ∧ Fr M M2 [] [30] ∧ ∀ j, j ≤ top → ((j = top ∨ ∃ q, d + 1 ≤ q ∧ q ≤ top ∧ Rf wd q j) ∨ Rf wd d j) → M2.2.1 30 j = nI (wd j).2.1 := by
      by_cases k2 : (wd d).1 = 2
      · obtain ⟨b1, b2⟩ := p2 (Or.inr k2)
        obtain ⟨c1, c2⟩ := p3 k2
        rw [if_pos k2] at b2
        obtain ⟨M1, e1⟩ : ∃ z, z = sA M 30 (upd (M.2.1 30) (wd d).2.2.2.1 (nI (wd d).2.1)) := ⟨_, rfl⟩
        have f1 : Fr M M1 [] [30] := by rw [e1]; exact Fr.A (by decide)
        have w1 : M1.2.1 30 = upd (M.2.1 30) (wd d).2.2.2.1 (nI (wd d).2.1) := by rw [e1]; rfl
        refine ⟨sA M1 30 (upd (M1.2.1 30) (wd d).2.2.2.2 (nI ((wd d).2.1 + 1))), ?_, f1.trans (Fr.A (by decide)), fun j hj q => ?_⟩
        · unfold fX8_build_9s
          have y5 : M1.2.1 5 d = nI (wd d).2.2.2.2 := by rw [f1.2.1 5 (by decide)]; exact a3
          have y30 : M1.2.1 30 d = nI (wd d).2.1 := by rw [w1, upd_at, if_neg (by omega)]; exact id
          rw [if_neg (nI_pos (by omega)), ckx_ok (vp_in_nI (by omega) (by omega)), nI_clamp (show d < 2 ^ 31 by omega), a1, if_pos (by rw [k2]; rfl), ckx_ok (vp_in_nI (by omega) (by omega)), ckx_ok (vp_in_nI (by omega) (by omega)), a2, ckx_ok (vp_in_nI (by omega) (by omega)), bnd_eq, nI_clamp (show (wd d).2.2.2.1 < 2 ^ 31 by omega), id, ← e1, ckx_ok (vp_in_nI (by omega) (by omega)), ckx_ok (vp_in_nI (by omega) (by omega)), y5, ckx_ok (vp_in_nI (by omega) (by omega)), bnd_eq, nI_clamp (show (wd d).2.2.2.2 < 2 ^ 31 by omega), y30, show nI (wd d).2.1 + (1 : Int32) = nI ((wd d).2.1 + 1) from nI_1 _, e89]
        · show upd (M1.2.1 30) (wd d).2.2.2.2 (nI ((wd d).2.1 + 1)) j = _
          rw [upd_at]
          by_cases jb : j = (wd d).2.2.2.2
          · rw [if_pos jb, jb, b2]
          · rw [if_neg jb, w1, upd_at]
            by_cases ja : j = (wd d).2.2.2.1
            · rw [if_pos ja, ja, c2]
            · rw [if_neg ja]
              rcases q with q | q
              · exact h4 j hj q
              · rcases q with ⟨-, q⟩ | ⟨-, q⟩
                · exact absurd q jb
                · exact absurd q ja
      · by_cases k1 : (wd d).1 = 1
        · obtain ⟨b1, b2⟩ := p2 (Or.inl k1)
          rw [if_neg k2] at b2
          refine ⟨sA M 30 (upd (M.2.1 30) (wd d).2.2.2.2 (nI (wd d).2.1)), ?_, Fr.A (by decide), fun j hj q => ?_⟩
          · unfold fX8_build_9s
            rw [if_neg (nI_pos (by omega)), ckx_ok (vp_in_nI (by omega) (by omega)), nI_clamp (show d < 2 ^ 31 by omega), a1, if_neg (show ¬ nI (wd d).1 = (2 : Int32) from fun q => k2 ((nI_eq (by omega) (by omega)).mp (show nI (wd d).1 = nI 2 from q))), ckx_ok (vp_in_nI (by omega) (by omega)), if_pos (by rw [k1]; rfl), ckx_ok (vp_in_nI (by omega) (by omega)), ckx_ok (vp_in_nI (by omega) (by omega)), a3, ckx_ok (vp_in_nI (by omega) (by omega)), bnd_eq, nI_clamp (show (wd d).2.2.2.2 < 2 ^ 31 by omega), id, e89]
          · show upd (M.2.1 30) (wd d).2.2.2.2 (nI (wd d).2.1) j = _
            rw [upd_at]
            by_cases jb : j = (wd d).2.2.2.2
            · rw [if_pos jb, jb, b2]; rfl
            · rw [if_neg jb]
              rcases q with q | q
              · exact h4 j hj q
              · rcases q with ⟨-, q⟩ | ⟨q, -⟩
                · exact absurd q jb
                · exact absurd q k2
        · refine ⟨M, ?_, Fr.rf, fun j hj q => ?_⟩
          · unfold fX8_build_9s
            rw [if_neg (nI_pos (by omega)), ckx_ok (vp_in_nI (by omega) (by omega)), nI_clamp (show d < 2 ^ 31 by omega), a1, if_neg (show ¬ nI (wd d).1 = (2 : Int32) from fun q => k2 ((nI_eq (by omega) (by omega)).mp (show nI (wd d).1 = nI 2 from q))), ckx_ok (vp_in_nI (by omega) (by omega)), if_neg (show ¬ nI (wd d).1 = (1 : Int32) from fun q => k1 ((nI_eq (by omega) (by omega)).mp (show nI (wd d).1 = nI 1 from q))), e89]
          · rcases q with q | q
            · exact h4 j hj q
            · rcases q with ⟨q, -⟩ | ⟨q, -⟩
              · rcases q with q | q
                · exact absurd q k1
                · exact absurd q k2
              · exact absurd q k2
    obtain ⟨M2, g1, g2, g3⟩ := go
    obtain ⟨M', u1, u2, u3⟩ := IX_pass (N := N) ht hp hpar d M2 f (by omega) (by omega) (fun k hk => by
      obtain ⟨y1, y2, y3⟩ := h3 k hk
      exact ⟨by rw [g2.2.1 3 (by decide)]; exact y1, by rw [g2.2.1 4 (by decide)]; exact y2, by rw [g2.2.1 5 (by decide)]; exact y3⟩) (fun j hj q => g3 j hj (by
      rcases q with q | ⟨q, q1, q2, q3⟩
      · exact Or.inl (Or.inl q)
      · by_cases z : q = d
        · rw [z] at q3; exact Or.inr q3
        · exact Or.inl (Or.inr ⟨q, by omega, q2, q3⟩)))
    refine ⟨M', ?_, g2.trans u2, u3⟩
    show fX8_build_9s N (loopN (Fi N) f) M (nI top) (nI (d + 1) - 1) = _
    rw [hd, g1, u1]
