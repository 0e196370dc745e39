/-! both programs build, word by word -/
def Fc (N : Nat) : (St × Int32 × Int32 → Option St) → St × Int32 × Int32 → Option St := fun k x => fX0_build_18s N k x.1 x.2.1 x.2.2
def Fm (N : Nat) : (St × Int32 × Int32 → Option (Int32 × St)) → St × Int32 × Int32 → Option (Int32 × St) := fun k x => fX8_build_97s N k x.1 x.2.1 x.2.2
theorem C_word {S M : St} {N k w : Nat} {wd : Wd} {x2 : Int32} (hw : S.1 83 = nI w) (hk : k < w) (hw2 : w ≤ 162) (h : WdR S M k wd) (hK : wd.1 ≤ 2) (kk : St × Int32 × Int32 → Option St) :
    fX0_build_18s N kk S x2 (nI k) = bdo (if wd.1 = 0 then fX0_buildName N S (nI wd.2.1) (nI wd.2.2.1) else if wd.1 = 1 then fX0_buildLambda N S (nI wd.2.1) (nI wd.2.2.1) else fX0_buildApplication N S (nI wd.2.1)) fun S' => kk (S', x2, nI (k + 1)) := by
  obtain ⟨h1, h2, h3, -⟩ := h
  have e1 : fX4_wordCount N S = some (nI w, S) := by unfold fX4_wordCount; rw [hw]
  have e2 : fX4_wordIndex N S (nI k) = some (nI wd.2.1, S) := by
    unfold fX4_wordIndex
    rw [if_neg (nI_pos (by omega)), hw, if_neg (fun q => absurd ((nI_leI (by omega) (by omega)).mp q) (by omega)), ckx_ok (vp_in_nI (by omega) (by omega)), nI_clamp (by omega), h2]
  have e3 : fX4_wordSlot N S (nI k) = some (S.2.1 82 k, S) := by
    unfold fX4_wordSlot
    rw [if_neg (nI_pos (by omega)), hw, if_neg (fun q => absurd ((nI_leI (by omega) (by omega)).mp q) (by omega)), ckx_ok (vp_in_nI (by omega) (by omega)), nI_clamp (by omega)]
  have e4 : fX4_wordKind N S (nI k) = some (nI wd.1, S) := by
    unfold fX4_wordKind
    rw [if_neg (nI_pos (by omega)), hw, if_neg (fun q => absurd ((nI_leI (by omega) (by omega)).mp q) (by omega)), ckx_ok (vp_in_nI (by omega) (by omega)), nI_clamp (by omega), h1]
  have e5 : ∀ S', fX0_build_100 N kk S' x2 (nI k) = kk (S', x2, nI (k + 1)) := fun S' => by
    unfold fX0_build_100
    rw [bnd_eq, show nI k + (1 : Int32) = nI (k + 1) from nI_1 _]
  unfold fX0_build_18s
  rw [bd2_ok e1, if_neg (fun q => absurd ((nI_leI (by omega) (by omega)).mp q) (by omega)), bd2_ok e2, bd2_ok e3, bd2_ok e4]
  by_cases c0 : wd.1 = 0
  · rw [if_pos (by rw [c0]; rfl), if_pos c0, h3 (by omega)]
    simp only [e5]
  · rw [if_neg (show ¬ nI wd.1 = (0 : Int32) from fun q => c0 ((nI_eq (by omega) (by omega)).mp (show nI wd.1 = nI 0 from q))), if_neg c0]
    by_cases c1 : wd.1 = 1
    · rw [if_pos (by rw [c1]; rfl), if_pos c1, h3 (by omega)]
      simp only [e5]
    · rw [if_neg (show ¬ nI wd.1 = (1 : Int32) from fun q => c1 ((nI_eq (by omega) (by omega)).mp (show nI wd.1 = nI 1 from q))), if_neg c1]
      simp only [e5]
theorem M_word {S M : St} {N k top : Nat} {wd : Wd} (hk : k ≤ top) (ht : top < 300) (h : WdR S M k wd) (hK : wd.1 ≤ 2) (kk : St × Int32 × Int32 → Option (Int32 × St)) :
    fX8_build_97s N kk M (nI top) (nI k) = bd2 (if wd.1 = 0 then fX8_ofVariable N M (nI k) else if wd.1 = 1 then fX8_ofBinder N M (nI k) else fX8_ofApplied N M (nI k)) fun v M1 => kk (sA M1 31 (upd (M1.2.1 31) k v), nI top, nI (k + 1)) := by
  obtain ⟨-, -, -, h3, -⟩ := h
  have e5 : ∀ v S', fX8_build_147 N kk S' (nI top) (nI k) (nI k) v = kk (sA S' 31 (upd (S'.2.1 31) k v), nI top, nI (k + 1)) := fun v S' => by
    unfold fX8_build_147
    rw [ckx_ok (vp_in_nI (by omega) (by omega)), bnd_eq, bnd_eq, nI_clamp (by omega), show nI k + (1 : Int32) = nI (k + 1) from nI_1 _]
  unfold fX8_build_97s
  rw [if_neg (nI_nlt (by omega) (by omega)), ckx_ok (vp_in_nI (by omega) (by omega)), nI_clamp (by omega), h3, ckx_ok (vp_in_nI (by omega) (by omega))]
  by_cases c0 : wd.1 = 0
  · rw [if_pos (by rw [c0]; rfl), if_pos c0]
    simp only [e5]
  · rw [if_neg (show ¬ nI wd.1 = (0 : Int32) from fun q => c0 ((nI_eq (by omega) (by omega)).mp (show nI wd.1 = nI 0 from q))), if_neg c0]
    by_cases c1 : wd.1 = 1
    · rw [if_pos (by rw [c1]; rfl), if_pos c1]
      simp only [e5]
    · rw [if_neg (show ¬ nI wd.1 = (1 : Int32) from fun q => c1 ((nI_eq (by omega) (by omega)).mp (show nI wd.1 = nI 1 from q))), if_neg c1]
      simp only [e5]
def itS (it : Itm) : SI := (it.1, it.2.1, it.2.2.1)
theorem its_cons {its : List Itm} {a : SI} {r : List SI} (h : its.map itS = a :: r) : ∃ it r', its = it :: r' ∧ itS it = a ∧ r'.map itS = r := by
  cases its with
  | nil => cases h
  | cons it r' =>
    have h : itS it :: r'.map itS = a :: r := h
    exact ⟨it, r', rfl, List.head_eq_of_cons_eq h, List.tail_eq_of_cons_eq h⟩
theorem B_words {S0 M0 : St} {N bn w top : Nat} {wd : Nat → Wd} {xh : Nat → Nat} (hN : Big N) {lab0 : Nat → Nat → Nat} {E0 : Nat → Nat → Nat → Prop} {tag0 : Nat → Nat → Nat × Nat} {be0 : Nat → Nat} (h0 : BS S0 M0 1 0 bn [] lab0 E0 tag0 xh be0 (fun j => j ∈ ([] : List Nat))) (hw : S0.1 83 = nI w) (hw2 : w ≤ 162) (htop : top + 1 = w) (hwd : ∀ k, k < w → WdR S0 M0 k (wd k)) (h30 : ∀ k, k < w → M0.2.1 30 k = nI (wd k).2.1) :
    ∀ (k : Nat) (st : List SI) (us : List Nat) (v : Nat), k ≤ w → Run wd xh bn k st us v → v + bn ≤ 80 → us.length ≤ bn →
    ∃ S M n c lab E tag be its, (∀ f x2, loopN (Fc N) (f + k) (S0, x2, nI 0) = loopN (Fc N) f (S, x2, nI k)) ∧ (∀ f, loopN (Fm N) (f + k) (M0, nI top, nI 0) = loopN (Fm N) f (M, nI top, nI k)) ∧ FrB S0 S ∧ Fr M0 M [21, 22, 28] [17, 18, 19, 27, 29, 31] ∧ BS S M n c bn its lab E tag xh be (fun j => j ∈ us) ∧ its.map itS = st ∧ n + nms its ≤ 1 + 2 * v + 2 * us.length + (v - st.length) * (1 + bn) ∧ c ≤ 2 * us.length
  | 0, st, us, v, _, h, _, _ => by
    obtain ⟨h1, h2, h3⟩ := h
    rw [h1, h2, h3]
    exact ⟨S0, M0, 1, 0, lab0, E0, tag0, be0, [], fun _ _ => rfl, fun _ => rfl, FrB.rf, Fr.rf, h0, rfl, by show 1 + 0 ≤ _; omega, Nat.zero_le _⟩
  | k + 1, st, us, v, hk, h, hv, hu => by
    obtain ⟨st0, us0, v0, g1, g2⟩ := h
    obtain ⟨l1, l2, l3⟩ := g1.len
    obtain ⟨sb1, sb2⟩ := g1.scb
    have hv0 : v0 + bn ≤ 80 ∧ us0.length ≤ bn := by
      rcases g2 with ⟨-, -, -, -, -, a3, a4⟩ | ⟨-, -, -, -, a3, a4⟩ | ⟨-, -, a3, a4⟩
      · rw [a3] at hu; omega
      · rw [a3] at hu
        have hu : us0.length + 1 ≤ bn := hu
        omega
      · rw [a3] at hu; omega
    obtain ⟨S, M, n, c, lab, E, tag, be, its, b1, b2, b3, b4, b5, b6, b7, b8⟩ := B_words hN h0 hw hw2 htop hwd h30 k st0 us0 v0 (by omega) g1 hv0.1 hv0.2
    have rm : (v0 - st0.length) * (1 + bn) ≤ 1700 := by
      have r1 : (v0 - st0.length) * (1 + bn) ≤ v0 * (81 - v0) := Nat.mul_le_mul (by omega) (by omega)
      exact Nat.le_trans r1 (names_room v0 (by omega))
    have wr : WdR S M k (wd k) := by
      obtain ⟨z1, z2, z3, z4, z5, z6⟩ := hwd k (by omega)
      refine ⟨?_, ?_, fun q => ?_, ?_, ?_, ?_⟩
      · rw [b3.2.1 80 (by decide)]; exact z1
      · rw [b3.2.1 81 (by decide)]; exact z2
      · rw [b3.2.1 82 (by decide)]; exact z3 q
      · rw [b4.2.1 3 (by decide)]; exact z4
      · rw [b4.2.1 4 (by decide)]; exact z5
      · rw [b4.2.1 5 (by decide)]; exact z6
    have w83 : S.1 83 = nI w := by rw [b3.1 83 (by decide)]; exact hw
    have q30 : M.2.1 30 k = nI (wd k).2.1 := by rw [b4.2.1 30 (by decide)]; exact h30 k (by omega)
    have hti : ∀ it ∈ its, it.2.2.1 ≠ k := fun it hit => by
      have := (l3 (itS it) (by rw [← b6]; exact List.mem_map_of_mem hit)).1
      have this : it.2.2.1 < k := this
      omega
    have il : its.length = st0.length := by rw [← b6, List.length_map]
    have lc : ∀ {S'}, (if (wd k).1 = 0 then fX0_buildName N S (nI (wd k).2.1) (nI (wd k).2.2.1) else if (wd k).1 = 1 then fX0_buildLambda N S (nI (wd k).2.1) (nI (wd k).2.2.1) else fX0_buildApplication N S (nI (wd k).2.1)) = some S' → (wd k).1 ≤ 2 → ∀ f x2, loopN (Fc N) (f + (k + 1)) (S0, x2, nI 0) = loopN (Fc N) f (S', x2, nI (k + 1)) := fun {S'} e hK f x2 => by
      rw [show f + (k + 1) = (f + 1) + k by omega, b1 (f + 1) x2]
      show fX0_build_18s N (loopN (Fc N) f) S x2 (nI k) = _
      rw [C_word w83 (by omega) hw2 wr hK, bdo_ok e]
    have lm : ∀ {v M1}, (if (wd k).1 = 0 then fX8_ofVariable N M (nI k) else if (wd k).1 = 1 then fX8_ofBinder N M (nI k) else fX8_ofApplied N M (nI k)) = some (v, M1) → (wd k).1 ≤ 2 → ∀ f, loopN (Fm N) (f + (k + 1)) (M0, nI top, nI 0) = loopN (Fm N) f (sA M1 31 (upd (M1.2.1 31) k v), nI top, nI (k + 1)) := fun {v M1} e hK f => by
      rw [show f + (k + 1) = (f + 1) + k by omega, b2 (f + 1)]
      show fX8_build_97s N (loopN (Fm N) f) M (nI top) (nI k) = _
      rw [M_word (by omega) (by omega) wr hK, bd2_ok e]
    obtain ⟨z1, z2, z3, z4, z5, z6⟩ := wr
    rcases g2 with ⟨a1, ⟨sc, a2, a6, a7⟩, a8, a9, a10, a3, a4⟩ | ⟨a1, ⟨sc, r, a2, a5⟩, a6, a7, a3, a4⟩ | ⟨a1, ⟨sc, r, a2, a5, a6⟩, a3, a4⟩
    · obtain ⟨S', M1, lab', E', tag', it, c1, c2, c3, c4, c5, c6, c7, c8, c9⟩ := B_name (N := N) (x := (wd k).2.1) (s := (wd k).2.2.1) (i := (wd k).2.2.2.1) (t := k) (sc := sc) hN b5 (by omega) (by omega) a9 a7 a6 a8 (by omega) hti q30 z5
      refine ⟨S', _, n + 1, c, lab', E', tag', be, it :: its, lc (by rw [if_pos a1]; exact c1) (by omega), lm (by rw [if_pos a1]; exact c2) (by omega), b3.trans c3, b4.trans c4, by rw [a3]; exact c5, ?_, ?_, by rw [a3]; exact b8⟩
      · show itS it :: its.map itS = st
        rw [b6, a2]
        congr 1
        exact Prod.ext c7 (Prod.ext c8 c9)
      · rw [a2, a3, a4]
        show n + 1 + nms (it :: its) ≤ 1 + 2 * (v0 + 1) + 2 * us0.length + (v0 + 1 - (st0.length + 1)) * (1 + bn)
        rw [show v0 + 1 - (st0.length + 1) = v0 - st0.length by omega]
        omega
    · rw [a2] at b6
      obtain ⟨it0, r', e1, e2, e3⟩ := its_cons b6
      subst e1
      have e21 : it0.1 = (wd k).2.1 := congrArg (fun x : SI => x.1) e2
      have e22 : it0.2.1 = sc ++ [((wd k).2.2.1, (wd k).2.2.2.1)] := congrArg (fun x : SI => x.2.1) e2
      have e23 : it0.2.2.1 = (wd k).2.2.2.2 := congrArg (fun x : SI => x.2.2) e2
      have il : r'.length + 1 = st0.length := il
      have l43 : r'.length < 43 := by
        have := b5.2.2.1
        have := Run.height g1
        omega
      obtain ⟨S', M1, n', c', lab', E', tag', be', it, c1, c2, c3, c4, c5, c6, c7, c8, c9, c10⟩ := B_lam (N := N) (x := (wd k).2.1) (s := (wd k).2.2.1) (i := (wd k).2.2.2.1) (t := k) (sc := sc) hN b5 (by omega) (by omega) l43 e21 e22 a6 a7 (by omega) hti q30 z5 (by rw [e23]; exact z6)
      refine ⟨S', _, n', c', lab', E', tag', be', it :: r', lc (by rw [if_neg (by omega), if_pos a1]; exact c1) (by omega), lm (by rw [if_neg (by omega), if_pos a1]; exact c2) (by omega), b3.trans c3, b4.trans c4, ?_, ?_, ?_, ?_⟩
      · have : (fun j => j ∈ us) = fun j => j ∈ us0 ∨ j = (wd k).2.2.2.1 := by
          funext j
          rw [a3]
          refine propext ⟨fun q => ?_, fun q => ?_⟩
          · rcases List.mem_cons.mp q with q | q
            · exact Or.inr q
            · exact Or.inl q
          · rcases q with q | q
            · exact List.mem_cons_of_mem _ q
            · rw [q]; exact List.mem_cons_self ..
        rw [this]; exact c5
      · show itS it :: r'.map itS = st
        rw [e3, a5]
        congr 1
        exact Prod.ext c8 (Prod.ext c9 c10)
      · rw [a5, a3, a4]
        rw [a2] at b7
        show n' + nms (it :: r') ≤ 1 + 2 * v0 + 2 * (us0.length + 1) + (v0 - (r.length + 1)) * (1 + bn)
        have b7 : n + nms (it0 :: r') ≤ 1 + 2 * v0 + 2 * us0.length + (v0 - (r.length + 1)) * (1 + bn) := b7
        omega
      · rw [a3]
        show c' ≤ 2 * (us0.length + 1)
        omega
    · rw [a2] at b6
      obtain ⟨it0, r1, e1, e2, e3⟩ := its_cons b6
      subst e1
      obtain ⟨it1, r', e4, e5, e6⟩ := its_cons e3
      subst e4
      have e21 : it0.1 = (wd k).2.1 + 1 := congrArg (fun x : SI => x.1) e2
      have e22 : it0.2.1 = sc := congrArg (fun x : SI => x.2.1) e2
      have e23 : it0.2.2.1 = (wd k).2.2.2.2 := congrArg (fun x : SI => x.2.2) e2
      have e51 : it1.1 = (wd k).2.1 := congrArg (fun x : SI => x.1) e5
      have e52 : it1.2.1 = sc := congrArg (fun x : SI => x.2.1) e5
      have e53 : it1.2.2.1 = (wd k).2.2.2.1 := congrArg (fun x : SI => x.2.2) e5
      have il : r'.length + 2 = st0.length := il
      have hh := Run.height g1
      have scl : sc.length ≤ bn := by
        have z := sb1 _ (by rw [a2]; exact List.mem_cons_self ..)
        have z : ScB bn sc := z
        have := Sc_len (bn := bn) sc 0 z.1 (fun e he => ⟨Nat.zero_le _, (z.2 e he).2⟩)
        omega
      obtain ⟨S', M1, n', lab', E', tag', it, c1, c2, c3, c4, c5, c6, c7, c8, c9⟩ := B_app (N := N) (x := (wd k).2.1) (t := k) (sc := sc) hN b5 (by omega) (by omega) (by omega) e51 e21 e52 e22 a6 (by omega) hti q30 (by rw [e53]; exact z5) (by rw [e23]; exact z6)
      refine ⟨S', _, n', c, lab', E', tag', be, it :: r', lc (by rw [if_neg (by omega), if_neg (by omega)]; exact c1) (by omega), lm (by rw [if_neg (by omega), if_neg (by omega)]; exact c2) (by omega), b3.trans c3, b4.trans c4, by rw [a3]; exact c5, ?_, ?_, by rw [a3]; exact b8⟩
      · show itS it :: r'.map itS = st
        rw [e6, a5]
        congr 1
        exact Prod.ext c7 (Prod.ext c8 c9)
      · rw [a5, a3, a4]
        rw [a2] at b7 l1
        show n' + nms (it :: r') ≤ 1 + 2 * v0 + 2 * us0.length + (v0 - (r.length + 1)) * (1 + bn)
        have b7 : n + nms (it0 :: it1 :: r') ≤ 1 + 2 * v0 + 2 * us0.length + (v0 - (r.length + 2)) * (1 + bn) := b7
        have l1 : r.length + 2 ≤ v0 := l1
        have : (v0 - (r.length + 1)) * (1 + bn) = (v0 - (r.length + 2)) * (1 + bn) + (1 + bn) := by
          rw [show v0 - (r.length + 1) = (v0 - (r.length + 2)) + 1 by omega, Nat.succ_mul]
        omega
