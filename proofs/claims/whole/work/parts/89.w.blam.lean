/-! both programs build: an abstraction -/
def lk42 (S : St) (p q : Nat) : St := sA (sA S 42 (upd (S.2.1 42) p (nI q))) 42 (upd ((sA S 42 (upd (S.2.1 42) p (nI q))).2.1 42) q (nI p))
def mk5 (S : St) (s v : Nat) : St := sA (sA (sA (sI S 44 (nI (s - 1))) 40 (upd ((sI S 44 (nI (s - 1))).2.1 40) v (nI 5))) 41 (upd ((sA (sI S 44 (nI (s - 1))) 40 (upd ((sI S 44 (nI (s - 1))).2.1 40) v (nI 5))).2.1 41) v (-1))) 45 (upd ((sA (sA (sI S 44 (nI (s - 1))) 40 (upd ((sI S 44 (nI (s - 1))).2.1 40) v (nI 5))) 41 (upd ((sA (sI S 44 (nI (s - 1))) 40 (upd ((sI S 44 (nI (s - 1))).2.1 40) v (nI 5))).2.1 41) v (-1))).2.1 45) 5 ((sA (sA (sI S 44 (nI (s - 1))) 40 (upd ((sI S 44 (nI (s - 1))).2.1 40) v (nI 5))) 41 (upd ((sA (sI S 44 (nI (s - 1))) 40 (upd ((sI S 44 (nI (s - 1))).2.1 40) v (nI 5))).2.1 41) v (-1))).2.1 45 5 + 1))
theorem rouse_no {S : St} {N v : Nat} (hv : v < 3002) (h : S.2.1 40 v ≠ 5) : fX2_rouse N S (nI v) = some S := by
  unfold fX2_rouse
  rw [if_neg (nI_pos (by omega)), show (3002 : Int32) = nI 3002 from rfl, if_neg (fun q => absurd ((nI_leI (by omega) (by omega)).mp q) (by omega))]
  by_cases c : S.1 48 < nI 3002
  · rw [if_pos c, ckx_ok (vp_in_nI (by omega) (by omega)), nI_clamp (by omega), if_neg h]
  · rw [if_neg c]
theorem link_no {S : St} {N a i b j : Nat} (ha : a < 3002) (hi : i < 4) (hb : b < 3002) (hj : j < 4) (ka : S.2.1 40 a ≠ 5) (kb : S.2.1 40 b ≠ 5) : fX2_link N S (nI (4 * a + i)) (nI (4 * b + j)) = some (lk42 S (4 * a + i) (4 * b + j)) := by
  unfold fX2_link
  rw [if_neg (nI_pos (by omega)), show Int32.ofNat 12008 = nI 12008 from rfl, if_neg (fun q => absurd ((nI_leI (by omega) (by omega)).mp q) (by omega)), if_neg (nI_pos (by omega)), if_pos (nI_lt (by omega) (by omega)), ckx_ok (vp_in_nI (by omega) (by omega)), bnd_eq, ckx_ok (vp_in_nI (by omega) (by omega)), bnd_eq, nI_clamp (show 4 * a + i < 2 ^ 31 by omega), nI_clamp (show 4 * b + j < 2 ^ 31 by omega)]
  have e : sA (sA S 42 (upd (S.2.1 42) (4 * a + i) (nI (4 * b + j)))) 42 (upd ((sA S 42 (upd (S.2.1 42) (4 * a + i) (nI (4 * b + j)))).2.1 42) (4 * b + j) (nI (4 * a + i))) = lk42 S (4 * a + i) (4 * b + j) := rfl
  rw [e]
  have r1 : fX2_rouse N (lk42 S (4 * a + i) (4 * b + j)) (nI a) = some (lk42 S (4 * a + i) (4 * b + j)) := rouse_no ha ka
  have r2 : fX2_rouse N (lk42 S (4 * a + i) (4 * b + j)) (nI b) = some (lk42 S (4 * a + i) (4 * b + j)) := rouse_no hb kb
  rw [bdo_ok (nA (by omega)), show (4 * a + i) / 4 = a by omega, bdo_ok r1, bdo_ok (nA (by omega)), show (4 * b + j) / 4 = b by omega, bdo_ok r2]
theorem make_5 {S : St} {N s v : Nat} (h44 : S.1 44 = nI s) (h1 : 1 ≤ s) (h2 : s ≤ 3002) (h43 : S.2.1 43 (s - 1) = nI v) (hv : v < 3002) : fX2_make N S (nI 5) (-1) = some (nI v, mk5 S s v) := by
  unfold fX2_make
  rw [h44, show (1 : Int32) = nI 1 from rfl, if_neg (nI_nlt (by omega) (by omega)), show (3002 : Int32) = nI 3002 from rfl, if_neg (nI_nlt (by omega) (by omega)), if_neg (nI_pos (by omega)), show (7 : Int32) = nI 7 from rfl, if_pos (nI_lt (by omega) (by omega)), pk_sub (by omega), ckx_ok (vp_in_nI (by omega) (by omega)), bnd_eq, nI_clamp (by omega), h43, if_neg (nI_pos (by omega)), if_pos (nI_lt hv (by omega)), bnd_eq, ckx_ok (vp_in_nI (by omega) (by omega)), bnd_eq, ckx_ok (vp_in_nI (by omega) (by omega)), bnd_eq, ckx_ok (vp_in_nI (by omega) (by omega)), ckx_ok (vp_in_nI (by omega) (by omega)), bnd_eq, nI_clamp (show v < 2 ^ 31 by omega), nI_clamp (show 5 < 2 ^ 31 by omega)]
  rfl
theorem mk5_lk {S : St} {s v p q : Nat} : lk42 (mk5 S s v) p q = mk5 (lk42 S p q) s v := by
  refine Prod.ext rfl (Prod.ext ?_ rfl)
  funext k
  by_cases k42 : k = 42
  · subst k42; rfl
  · by_cases k40 : k = 40
    · subst k40; rfl
    · by_cases k41 : k = 41
      · subst k41; rfl
      · by_cases k45 : k = 45
        · subst k45; rfl
        · have l : (lk42 (mk5 S s v) p q).2.1 k = S.2.1 k := by
            show (if k = 42 then _ else if k = 42 then _ else if k = 45 then _ else if k = 41 then _ else if k = 40 then _ else S.2.1 k) = _
            rw [if_neg k42, if_neg k42, if_neg k45, if_neg k41, if_neg k40]
          have r : (mk5 (lk42 S p q) s v).2.1 k = S.2.1 k := by
            show (if k = 45 then _ else if k = 41 then _ else if k = 40 then _ else if k = 42 then _ else if k = 42 then _ else S.2.1 k) = _
            rw [if_neg k45, if_neg k41, if_neg k40, if_neg k42, if_neg k42]
          rw [l, r]
theorem OB_loop {N t v w t0 i bn : Nat} (ht : t < 300) (ht0 : t0 < 300) (tt : t0 ≠ t) (hb : bn ≤ 80) (hv : v < 3010) {f0 : Nat → Int32} : ∀ (d k : Nat) (M : St) (f : Nat), k + d = bn → d < f → M.1 14 = nI bn → M.2.1 4 t = nI i → i < bn → (∀ j, j < bn → M.2.1 29 (80 * t0 + j) = f0 j) → w = 80 * t0 → ∃ M', loopN (fun k x => fX8_ofBinder_87s N k x.1 x.2.1 x.2.2.1 x.2.2.2.1 x.2.2.2.2) f (M, nI t, nI v, nI w, nI k) = some (nI (3 * v), M') ∧ Fr M M' [] [29] ∧ (∀ j, k ≤ j → j < bn → M'.2.1 29 (80 * t + j) = if j = i then -1 else f0 j) ∧ (∀ q, q < 80 * t + k ∨ 80 * t + bn ≤ q → M'.2.1 29 q = M.2.1 29 q)
  | 0, k, M, f, hk, hf, h14, h4, hi, h0, hw => by
    obtain ⟨f, rfl⟩ : ∃ f', f = f' + 1 := ⟨f - 1, by omega⟩
    refine ⟨M, ?_, Fr.rf, fun j q1 q2 => by omega, fun _ _ => rfl⟩
    show fX8_ofBinder_87s N _ M (nI t) (nI v) (nI w) (nI k) = _
    unfold fX8_ofBinder_87s
    rw [h14, if_pos (nI_le (by omega) (by omega)), show (3 : Int32) = nI 3 from rfl, pk_mul]
  | d + 1, k, M, f, hk, hf, h14, h4, hi, h0, hw => by
    obtain ⟨f, rfl⟩ : ∃ f', f = f' + 1 := ⟨f - 1, by omega⟩
    obtain ⟨M1, e1⟩ : ∃ z, z = sA M 29 (upd (M.2.1 29) (80 * t + k) (if k = i then -1 else f0 k)) := ⟨_, rfl⟩
    have f1 : Fr M M1 [] [29] := by rw [e1]; exact Fr.A (by decide)
    have w1 : M1.2.1 29 = upd (M.2.1 29) (80 * t + k) (if k = i then -1 else f0 k) := by rw [e1]; rfl
    obtain ⟨M', a1, a2, a3, a4⟩ := OB_loop (f0 := f0) ht ht0 tt hb hv d (k + 1) M1 f (by omega) (by omega) (by rw [f1.1 14 (by decide)]; exact h14) (by rw [f1.2.1 4 (by decide)]; exact h4) hi (fun j hj => by rw [w1, upd_at, if_neg (by omega)]; exact h0 j hj) hw
    refine ⟨M', ?_, f1.trans a2, fun j q1 q2 => ?_, fun q hq => ?_⟩
    · obtain ⟨L, eL⟩ : ∃ L, L = loopN (fun k x => fX8_ofBinder_87s N k x.1 x.2.1 x.2.2.1 x.2.2.2.1 x.2.2.2.2) f := ⟨_, rfl⟩
      show fX8_ofBinder_87s N (loopN (fun k x => fX8_ofBinder_87s N k x.1 x.2.1 x.2.2.1 x.2.2.2.1 x.2.2.2.2) f) M (nI t) (nI v) (nI w) (nI k) = _
      rw [← eL] at a1 ⊢
      have fin : ∀ y2 : Int32, y2 = (if k = i then -1 else f0 k) → fX8_ofBinder_131 N L M (nI t) (nI v) (nI w) (nI k) (nI (80 * t + k)) y2 = some (nI (3 * v), M') := by
        intro y2 ey
        unfold fX8_ofBinder_131
        rw [ckx_ok (vp_in_nI (by omega) (by omega)), bnd_eq, bnd_eq, nI_clamp (by omega), ey, ← e1, nI_1]
        exact a1
      unfold fX8_ofBinder_87s
      rw [h14, if_neg (fun q => absurd ((nI_leI (by omega) (by omega)).mp q) (by omega)), ckx_ok (vp_in_nI (by omega) (by omega)), nI_clamp (show t < 2 ^ 31 by omega), h4, show (80 : Int32) = nI 80 from rfl, pk_mul, nI_add]
      by_cases c : k = i
      · rw [if_pos (by rw [c])]
        exact fin _ (by rw [if_pos c])
      · rw [if_neg (fun q => c ((nI_eq (by omega) (by omega)).mp q)), nI_add, ckx_ok (vp_in_nI (by omega) (by omega)), nI_clamp (by omega)]
        exact fin _ (by rw [if_neg c, hw, h0 k (by omega)])
    · by_cases c : j = k
      · rw [a4 _ (Or.inl (by omega)), w1, upd_at, if_pos (by rw [c]), c]
      · exact a3 j (by omega) q2
    · rw [a4 q (by omega), w1, upd_at, if_neg (by omega)]
theorem cfn_app (f : Nat → Option Pt) : ∀ a b : Sc, cfn f (a ++ b) = cfn f a + cfn f b
  | [], b => by show cfn f b = 0 + cfn f b; omega
  | e :: a, b => by
    have := cfn_app f a b
    show (if (f e.2).isSome = true then 1 else 0) + cfn f (a ++ b) = (if (f e.2).isSome = true then 1 else 0) + cfn f a + cfn f b
    omega
theorem cfn_mono {f g : Nat → Option Pt} (h : ∀ i, f i = none → g i = none) : ∀ sc : Sc, cfn g sc ≤ cfn f sc
  | [] => Nat.le_refl _
  | e :: r => by
    have := cfn_mono h r
    show (if (g e.2).isSome = true then 1 else 0) + cfn g r ≤ (if (f e.2).isSome = true then 1 else 0) + cfn f r
    cases q : f e.2 with
    | none => rw [h _ q]; omega
    | some p =>
      rw [if_pos (show (some p).isSome = true from rfl)]
      split <;> omega
theorem scI_app {a b : Sc} {s : Nat} : scI (a ++ b) s = (match scI a s with | some i => some i | none => scI b s) := by
  induction a with
  | nil => rfl
  | cons e r ih =>
    show (if e.1 = s then some e.2 else scI (r ++ b) s) = (match (if e.1 = s then some e.2 else scI r s) with | some i => some i | none => scI b s)
    by_cases c : e.1 = s
    · rw [if_pos c, if_pos c]
    · rw [if_neg c, if_neg c]; exact ih
theorem B_lam_fin {S M S3 M3 : St} {N n n' c bn : Nat} {top : Itm} {r : List Itm} {lab lab' : Nat → Nat → Nat} {E E' : Nat → Nat → Nat → Prop} {tag : Nat → Nat → Nat × Nat} {xh be : Nat → Nat} {U : Nat → Prop} {D : Nat → Nat → Prop} (hN : Big N) {x s i t : Nat} {sc : Sc} (h2 : StR S M lab E tag xh bn n (top :: r)) (hx : top.1 = x) (hsc : top.2.1 = sc ++ [(s, i)]) (hr : r.length < 43) (hbn : bn ≤ 80) (hn1 : 1 ≤ n) (k0 : cK S 0 = 6) (l0 : lab 0 0 = 0) (e0 : ∀ i, ¬ E 0 0 i) (t0 : tag 0 0 = (1000, 0)) (h3 : S.1 3 = nI (r.length + 1)) (h14 : M.1 14 = nI bn) (ht : t < 300) (hti : ∀ it ∈ top :: r, it.2.2.1 ≠ t) (h4 : M.2.1 4 t = nI i)
    (hnn : n + 1 ≤ n') (hn3 : n < 3002) (g : BG S3 M3 n' c D lab' E' xh be U) (hD : D = fun v k => Dst r v k ∨ (v = n ∧ k = 0) ∨ ∃ j, j ≠ i ∧ top.2.2.2.2 j = some (v, k)) (fS : Fr S S3 [44, 48] [40, 41, 42, 45, 46, 47]) (fM : Fr M M3 [21, 22, 28] [17, 18, 19, 27]) (kp : ∀ v, v < n → cK S3 v = cK S v ∧ lab' v = lab v ∧ E' v = E v) (kn : cK S3 n = 0) (ln : lab' n 0 = x) (en : ∀ j, E' n 0 j ↔ top.2.2.2.2 j ≠ none ∧ j ≠ i) :
    ∃ S' M1 tag' it, (ckx (nI r.length) 43 <| bnd (sA S3 1 (upd (S3.2.1 1) (nI r.length : Int32).toNatClampNeg (nI (4 * n + 0)))) fun S15 => ckx (nI r.length) 43 <| ckx (nI s) 40 <| bnd (sF S15 (nI r.length : Int32).toNatClampNeg (upd (S15.2.2.1 (nI r.length : Int32).toNatClampNeg) (nI s : Int32).toNatClampNeg (-1 : Int32))) fun S18 => some S18) = some S' ∧ fX8_ofBinder_87 N (M3, nI t, nI n, nI (80 * top.2.2.1), 0) = some (nI (3 * n), M1) ∧ FrB S S' ∧ Fr M (sA M1 31 (upd (M1.2.1 31) t (nI (3 * n)))) [21, 22, 28] [17, 18, 19, 27, 29, 31] ∧ BS S' (sA M1 31 (upd (M1.2.1 31) t (nI (3 * n)))) n' c bn (it :: r) lab' E' tag' xh be U ∧ nms (it :: r) ≤ nms (top :: r) ∧ it.1 = x ∧ it.2.1 = sc ∧ it.2.2.1 = t := by
  have hb := hN
  unfold Big at hb
  obtain ⟨x0, sc0, tx, rp, f⟩ := top
  have hx : x0 = x := hx
  have hsc : sc0 = sc ++ [(s, i)] := hsc
  subst hx hsc
  obtain ⟨⟨a1, a2, a3, a4, a5, a6, a7, a8, a9⟩, h2r⟩ := h2
  have a1 : ScO (sc ++ [(s, i)]) ∧ ∀ e ∈ sc ++ [(s, i)], e.1 < 40 ∧ e.2 < bn := a1
  have a2 : x0 ≤ 62 := a2
  have a3 : tx < 300 := a3
  have a7 : ∀ s', s' < 40 → S.2.2.1 r.length s' = pI4 ((scI (sc ++ [(s, i)]) s').bind f) := a7
  have a9 : ∀ j, j < bn → M.2.1 29 (80 * tx + j) = pI3 (f j) := a9
  have hO : ScO sc := (List.pairwise_append.mp a1.1).1
  have hlast : ∀ e ∈ sc, e.1 < s ∧ e.2 < i := fun e he => (List.pairwise_append.mp a1.1).2.2 e he _ (List.mem_singleton.mpr rfl)
  have hsi := a1.2 (s, i) (List.mem_append_right _ (List.mem_singleton.mpr rfl))
  have si : s < 40 := hsi.1
  have ii : i < bn := hsi.2
  have ttx : tx ≠ t := hti _ (List.mem_cons_self ..)
  obtain ⟨M1, b1, b2, b3, b4⟩ := OB_loop (N := N) (t := t) (v := n) (w := 80 * tx) (t0 := tx) (i := i) (f0 := fun j => pI3 (f j)) ht a3 ttx hbn (by omega) bn 0 M3 N (by omega) (by omega) (by rw [fM.1 14 (by decide)]; exact h14) (by rw [fM.2.1 4 (by decide)]; exact h4) ii (fun j hj => by rw [fM.2.1 29 (by decide)]; exact a9 j hj) rfl
  obtain ⟨S4, e4⟩ : ∃ z, z = sF (sA S3 1 (upd (S3.2.1 1) r.length (nI (4 * n + 0)))) r.length (upd (S3.2.2.1 r.length) s (-1)) := ⟨_, rfl⟩
  have FS : FrB S S4 := by
    refine (fS.b (by decide) (by decide)).trans ?_
    rw [e4]
    exact ((Fr.A (is := []) (as := [1]) (by decide)).b (by decide) (by decide)).trans FrB.F
  have FM : Fr M (sA M1 31 (upd (M1.2.1 31) t (nI (3 * n)))) [21, 22, 28] [17, 18, 19, 27, 29, 31] := ((fM.mono (by decide) (by decide)).trans (b2.mono (by decide) (by decide))).trans (Fr.A (by decide))
  have w1 : S4.2.1 1 = upd (S.2.1 1) r.length (nI (4 * n + 0)) := by rw [e4]; show upd (S3.2.1 1) _ _ = _; rw [fS.2.1 1 (by decide)]
  have sf : S3.2.2.1 = S.2.2.1 := by rw [fS.2.2]
  have wF : ∀ j, S4.2.2.1 j = if j = r.length then upd (S.2.2.1 r.length) s (-1) else S.2.2.1 j := by
    intro j
    rw [e4, ← sf]; rfl
  obtain ⟨g1, g2⟩ := g.of (S' := S4) (M' := sA M1 31 (upd (M1.2.1 31) t (nI (3 * n)))) (fun k hk => by rw [e4]; rfl) (fun k hk => by
      have : k ≠ 1 := fun z => by rw [z] at hk; exact absurd hk (by decide)
      rw [e4]
      show (if k = 1 then _ else S3.2.1 k) = _
      rw [if_neg this]) (fun k hk => by
      show M1.1 k = M3.1 k
      exact b2.1 k (fun h => List.not_mem_nil h)) (fun k hk => by
      have : k ≠ 31 ∧ k ≠ 29 := ⟨fun z => by rw [z] at hk; exact absurd hk (by decide), fun z => by rw [z] at hk; exact absurd hk (by decide)⟩
      show (if k = 31 then _ else M1.2.1 k) = _
      rw [if_neg this.1]
      exact b2.2.1 k (fun h => this.2 (List.mem_singleton.mp h)))
  have ed : D = Dst ((x0, sc, t, ((n, 0) : Pt), fun j => if j = i then none else f j) :: r) := by
    rw [hD, Dst_cons]
    funext v p
    refine propext ⟨fun q => q.imp id (fun q => ?_), fun q => q.imp id (fun q => ?_)⟩
    · rcases q with ⟨q1, q2⟩ | ⟨j, q1, q2⟩
      · exact Or.inl (by show ((n, 0) : Pt) = (v, p); rw [q1, q2])
      · exact Or.inr ⟨j, by show (if j = i then none else f j) = some (v, p); rw [if_neg q1]; exact q2⟩
    · rcases q with q | ⟨j, q⟩
      · have q : ((n, 0) : Pt) = (v, p) := q
        exact Or.inl ⟨(congrArg Prod.fst q).symm, (congrArg Prod.snd q).symm⟩
      · have q : (if j = i then none else f j) = some (v, p) := q
        by_cases z : j = i
        · rw [if_pos z] at q; cases q
        · rw [if_neg z] at q; exact Or.inr ⟨j, z, q⟩
  rw [ed] at g1
  have kp4 : Keep n (cK S) (cK S4) lab lab' E E' tag (fun v p => if v = n then (r.length, 0) else tag v p) := by
    intro v hv
    obtain ⟨z1, z2, z3⟩ := kp v hv
    refine ⟨by rw [g2]; exact z1, z2, z3, ?_⟩
    funext p
    show (if v = n then _ else _) = _
    rw [if_neg (by omega)]
  have kn4 : cK S4 n = 0 := by rw [g2]; exact kn
  have z0 := kp 0 (by omega)
  refine ⟨S4, M1, fun v p => if v = n then (r.length, 0) else tag v p, (x0, sc, t, ((n, 0) : Pt), fun j => if j = i then none else f j), ?_, b1, FS, FM, ⟨g1, ⟨⟨⟨hO, fun e he => a1.2 e (List.mem_append_left _ he)⟩, a2, ht, ⟨by show n < n'; omega, by show 0 < nP (cK S4 n); rw [kn4]; decide, ?_, ln, ?_, fun j => ?_⟩, fun j p e => ?_, ?_, fun s' hs' => ?_, ?_, fun j hj => ?_⟩, StR.of kp4 (by omega) r (fun j hj => ?_) (fun it hit => ?_) h2r⟩, ?_, by rw [FM.1 14 (by decide)]; exact h14, hbn, by omega, ?_, ?_, ?_, ?_⟩, ?_, rfl, rfl, rfl⟩
  · rw [ckx_ok (vp_in_nI (by omega) (by omega)), bnd_eq, ckx_ok (vp_in_nI (by omega) (by omega)), ckx_ok (vp_in_nI (by omega) (by omega)), bnd_eq, nI_clamp (by omega), nI_clamp (by omega), e4]
    rfl
  · show (if n = n then (r.length, 0) else tag n 0) = _
    rw [if_pos rfl]
  · show ¬ outP (cK S4 n) 0
    rw [kn4]; unfold outP; omega
  · show E' n 0 j ↔ (if j = i then none else f j) ≠ none
    rw [en j]
    by_cases z : j = i
    · rw [if_pos z]; exact ⟨fun q => absurd z q.2, fun q => absurd rfl q⟩
    · rw [if_neg z]; exact ⟨fun q => q.1, fun q => ⟨q, z⟩⟩
  · have e : (if j = i then none else f j) = some p := e
    by_cases z : j = i
    · rw [if_pos z] at e; cases e
    · rw [if_neg z] at e
      obtain ⟨q1, q2, q3, q4, q5, q6, q7, s', q8⟩ := (a5.of kp4 (show n ≤ n' by omega)) j p e
      refine ⟨q1, q2, q3, q4, q5, q6, q7, s', ?_⟩
      rcases List.mem_append.mp q8 with y | y
      · exact y
      · exact absurd (congrArg Prod.snd (List.mem_singleton.mp y)) z
  · show S4.2.1 1 r.length = nI (4 * n + 0)
    rw [w1, upd_at, if_pos rfl]
  · show S4.2.2.1 r.length s' = pI4 ((scI sc s').bind (fun j => if j = i then none else f j))
    rw [wF, if_pos rfl, upd_at]
    by_cases z : s' = s
    · rw [if_pos z, scI_none (fun e he => by have := (hlast e he).1; omega)]; rfl
    · rw [if_neg z, a7 s' hs', scI_app]
      cases q : scI sc s' with
      | none =>
        show pI4 (Option.bind (if s = s' then some i else none) f) = pI4 none
        rw [if_neg (fun y => z y.symm)]; rfl
      | some j =>
        have := (hlast _ (scI_some q)).2
        show pI4 (f j) = pI4 (if j = i then none else f j)
        rw [if_neg (by omega)]
  · show upd (M1.2.1 31) t (nI (3 * n)) t = nI (3 * n + 0)
    rw [upd_at, if_pos rfl]; rfl
  · show M1.2.1 29 (80 * t + j) = pI3 (if j = i then none else f j)
    rw [b3 j (by omega) hj]
    by_cases z : j = i
    · rw [if_pos z, if_pos z]; rfl
    · rw [if_neg z, if_neg z]
  · rw [w1, upd_at, if_neg (by omega), wF, if_neg (by omega)]
    exact ⟨rfl, rfl⟩
  · have := hti it (List.mem_cons_of_mem _ hit)
    refine ⟨?_, fun j hj => ?_⟩
    · show upd (M1.2.1 31) t (nI (3 * n)) it.2.2.1 = _
      rw [upd_at, if_neg this, b2.2.1 31 (by decide), fM.2.1 31 (by decide)]
    · show M1.2.1 29 (80 * it.2.2.1 + j) = _
      rw [b4 _ (by omega), fM.2.1 29 (by decide)]
  · rw [e4]
    show S3.1 3 = nI (r.length + 1)
    rw [fS.1 3 (by decide)]; exact h3
  · rw [(kp4 0 (by omega)).1]; exact k0
  · rw [z0.2.1]; exact l0
  · intro j; rw [z0.2.2]; exact e0 j
  · show (if (0 : Nat) = n then _ else tag 0 0) = _
    rw [if_neg (by omega)]; exact t0
  · show cfn (fun j => if j = i then none else f j) sc + nms r ≤ cfn f (sc ++ [(s, i)]) + nms r
    have m := cfn_mono (f := f) (g := fun j => if j = i then none else f j) (fun j q => by
      by_cases z : j = i
      · exact if_pos z
      · exact (if_neg z).trans q) sc
    rw [cfn_app]
    omega
