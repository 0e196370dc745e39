/-! both programs read: the other tokens -/
theorem J_end {S M : St} {N x p w a b : Nat} {wd : Nat → Wd} (hw : w < 162) (hp : p < 1000) (ha : a < 2 ^ 31) (h83 : S.1 83 = nI w) (h6 : M.1 6 = nI w) (h92 : S.1 92 = nI x) (h93 : S.1 93 = nI p) (hwd : ∀ k, k < w → WdR S M k (wd k)) :
    ∃ S' M' w' wd' t', fX4_endPart N S = some S' ∧ fX8_joined N M (TI p a) (nI b) = some (nI t', M') ∧ Fr S S' [83, 93] [80, 81, 82] ∧ Fr M M' [6] [3, 4, 5] ∧ S'.1 83 = nI w' ∧ M'.1 6 = nI w' ∧ S'.1 93 = nI (p + 1) ∧ (∀ k, k < w' → WdR S' M' k (wd' k)) ∧ (p = 0 → w' = w ∧ wd' = wd ∧ t' = b) ∧ (p ≠ 0 → w' = w + 1 ∧ wd' = updW wd w (2, x, 0, a, b) ∧ t' = w) := by
  have f1 : Fr S (sI S 93 (nI (p + 1))) [83, 93] [80, 81, 82] := Fr.I (by decide)
  have f0 : Fr S (sI S 93 (nI (p + 1))) [93] [] := Fr.I (by decide)
  by_cases c : p = 0
  · refine ⟨sI S 93 (nI (p + 1)), M, w, wd, b, ?_, ?_, f1, Fr.rf, by rw [sI_ne (by decide)]; exact h83, h6, sI_at, fun k hk => (hwd k hk).of f0 (Fr.rf (is := []) (as := [])) (by decide) (by decide), fun _ => ⟨rfl, rfl, rfl⟩, fun q => absurd c q⟩
    · unfold fX4_endPart
      rw [bnd_eq, h93, show nI p + (1 : Int32) = nI (p + 1) from nI_1 _, sI_at, c, if_pos (show nI (0 + 1) ≤ 1 by decide)]
    · unfold fX8_joined TI
      rw [if_pos c, if_neg (by decide)]
  · obtain ⟨S', M', c1, c2, c3, c4, c5, c6, c7⟩ := J_add (N := N) (S := sI S 93 (nI (p + 1))) (M := M) (K := 2) (x := x) (a := a) (b := b) (s := 0) (sl := -1) (wd := wd) hw (by rw [sI_ne (by decide)]; exact h83) h6 (fun k hk => (hwd k hk).of f0 (Fr.rf (is := []) (as := [])) (by decide) (by decide)) (fun q => absurd q (by omega))
    refine ⟨S', M', w + 1, _, w, ?_, ?_, f1.trans (c3.mono (by decide) (by decide)), c4, c5, c6, by rw [c3.1 93 (by decide), sI_at], c7, fun q => absurd q c, fun _ => ⟨rfl, rfl, rfl⟩⟩
    · have c1' : fX4_addWord N (sI S 93 (nI (p + 1))) 2 ((sI S 93 (nI (p + 1))).1 92) (-1) = some S' := by rw [sI_ne (by decide), h92]; exact c1
      unfold fX4_endPart
      rw [bnd_eq, h93, show nI p + (1 : Int32) = nI (p + 1) from nI_1 _, sI_at, if_neg (show ¬ nI (p + 1) ≤ 1 from fun q => absurd ((nI_leI (b := 1) (by omega) (by omega)).mp q) (by omega)), bdo_ok c1']
    · have c2' : fX8_tree N M 2 (nI a) (nI b) = some (nI w, M') := c2
      unfold fX8_joined TI
      rw [if_neg c, if_pos (nI_pos' ha), bd2_ok c2']
theorem X4_part {S : St} {N x p : Nat} (hp : p < 1000) (h92 : S.1 92 = nI x) (h93 : S.1 93 = nI p) : fX4_partIndex N S = some (nI (x + (if p = 0 then 0 else 1)), S) := by
  unfold fX4_partIndex
  rw [h92, h93]
  by_cases c : p = 0
  · rw [if_pos (show nI p = 0 by rw [c]; rfl), if_pos c, Nat.add_zero]
  · rw [if_neg (nI_ne (by omega) (by omega)), if_neg c, show nI x + (1 : Int32) = nI (x + 1) from nI_1 _]
theorem L_par {S M : St} {bs : Nat → Nat} {L N x p t q : Nat} {o : List Ent} (h : TP S M bs L) (hq : q < L) (hP : PSt S M o x p t q) : ∃ S' M', fX4_openParenthesis N S = some S' ∧ fX8_opens N M 0 (TI p t) = some M' ∧ Fr S S' CI4 CA4 ∧ Fr M M' MI4 MA4 ∧ (PFt S' M' ∨ ∃ o' x', PSt S' M' o' x' 0 0 (q + 1)) := by
  obtain ⟨w, nm, bn, wd, xh, us, v, hn, hv⟩ := hP
  obtain ⟨⟨n1, n1'⟩, ⟨n2, n2'⟩, ⟨n3, n3'⟩, ⟨n4, n4'⟩, n5, n6, ⟨n7, n7'⟩, n8, n9, n10, n11⟩ := id hn
  have hL := h.1
  have hl := hv.1
  have hp : p ≤ q := hv.2.2.2.2.2.2.2
  by_cases c40 : o.length < 40
  · obtain ⟨S5, p1, p2, p3, p4, p5, p6⟩ := X4_push (N := N) (S := sI S 90 (nI (q + 1))) (z := 0) (x := x) (p := p) c40 (by rw [sI_ne (by decide)]; exact n2) (by rw [sI_ne (by decide)]; exact n5) (by rw [sI_ne (by decide)]; exact n6)
    obtain ⟨M1, o1, o2, o3, o4, o5, o6⟩ := X8_opens (N := N) (a := 0) (z := TI p t) c40 n2' n3'
    have u90 : Fr S (sI S 90 (nI (q + 1))) [90] [] := Fr.I (by decide)
    have s92 : S5.1 92 = nI x := by rw [p2.1 92 (by decide), sI_ne (by decide)]; exact n5
    have s93 : S5.1 93 = nI p := by rw [p2.1 93 (by decide), sI_ne (by decide)]; exact n6
    obtain ⟨S6, e6⟩ : ∃ z, z = sI S5 92 (nI (x + (if p = 0 then 0 else 1))) := ⟨_, rfl⟩
    obtain ⟨S7, e7⟩ : ∃ z, z = sI S6 93 0 := ⟨_, rfl⟩
    have f7 : Fr S5 S7 [92, 93] [] := by rw [e7, e6]; exact (Fr.I (by decide)).trans (Fr.I (by decide))
    refine ⟨S7, M1, ?_, o1, ((u90.mono (by decide) (by decide)).trans (p2.mono (by decide) (by decide))).trans (f7.mono (by decide) (by decide)), o2.mono (by decide) (by decide), Or.inr ⟨.inr (x, p, t) :: o, x + (if p = 0 then 0 else 1), w, nm, bn, wd, xh, us, v, ?_, (PV_par hv c40).q (by omega)⟩⟩
    · unfold fX4_openParenthesis
      rw [n2, show (40 : Int32) = nI 40 from rfl, if_pos (nI_lt c40 (by omega)), bnd_eq, n3, show nI q + (1 : Int32) = nI (q + 1) from nI_1 _, bdo_ok p1, bd2_ok (X4_part (show p < 1000 by omega) s92 s93), bnd_eq, ← e6, bnd_eq, ← e7]
    · refine ⟨⟨?_, ?_⟩, ⟨?_, o3⟩, ⟨?_, o4⟩, ⟨?_, ?_⟩, ?_, ?_, ⟨?_, ?_⟩, ?_, ?_, ⟨⟨?_, ?_, ?_, ?_, ?_⟩, OR.of (fun j hj => ⟨?_, ?_, ?_, ?_, ?_⟩) (fun j hj => ⟨?_, ?_⟩) n10⟩, fun k hk => ((n11 k hk).of u90 o2 (by decide) (by decide)).of ((p2.mono (is' := [87, 92, 93]) (as' := [84, 85, 86]) (by decide) (by decide)).trans (f7.mono (by decide) (by decide))) (Fr.rf (is := []) (as := [])) (by decide) (by decide)⟩
      · rw [f7.1 83 (by decide), p2.1 83 (by decide), u90.1 83 (by decide)]; exact n1
      · rw [o2.1 6 (by decide)]; exact n1'
      · rw [f7.1 87 (by decide)]; exact p3
      · rw [f7.1 90 (by decide), p2.1 90 (by decide), sI_at]
      · rw [f7.1 91 (by decide), p2.1 91 (by decide), u90.1 91 (by decide)]; exact n4
      · rw [o2.1 10 (by decide)]; exact n4'
      · rw [e7, sI_ne (by decide), e6, sI_at]
      · rw [e7, sI_at]; rfl
      · rw [f7.1 94 (by decide), p2.1 94 (by decide), u90.1 94 (by decide)]; exact n7
      · rw [o2.1 8 (by decide)]; exact n7'
      · rw [o2.1 13 (by decide)]; exact n8
      · rw [o2.1 14 (by decide)]; exact n9
      · rw [f7.2.1 84 (by decide), p4, upd_at, if_pos rfl]
      · rw [f7.2.1 85 (by decide), p5, upd_at, if_pos rfl]
      · rw [f7.2.1 86 (by decide), p6, upd_at, if_pos rfl]
      · rw [o5, upd_at, if_pos rfl]
      · rw [o6, upd_at, if_pos rfl]; rfl
      · rw [f7.2.1 84 (by decide), p4, upd_at, if_neg (by omega), u90.2.1 84 (by decide)]
      · rw [f7.2.1 85 (by decide), p5, upd_at, if_neg (by omega), u90.2.1 85 (by decide)]
      · rw [f7.2.1 86 (by decide), p6, upd_at, if_neg (by omega), u90.2.1 86 (by decide)]
      · rw [o5, upd_at, if_neg (by omega)]
      · rw [o6, upd_at, if_neg (by omega)]
      · rw [o2.2.1 11 (by decide)]
      · rw [o2.2.1 12 (by decide)]
  · have l40 : o.length = 40 := by omega
    refine ⟨sI S 94 (nI 3), sI (sI M 8 (nI 3)) 7 (nI q), ?_, ?_, Fr.I (by decide), (Fr.I (by decide)).trans (Fr.I (by decide)), Or.inl (PF_mk (by omega) (by omega) (by omega) n3)⟩
    · unfold fX4_openParenthesis
      rw [n2, show (40 : Int32) = nI 40 from rfl, if_neg (nI_nlt (by omega) (by omega)), bnd_eq]
      rfl
    · have bb : fX8_bad N M 3 (M.1 7) = some (sI (sI M 8 (nI 3)) 7 (nI q)) := by rw [n3']; exact X8_bad n7'
      unfold fX8_opens
      rw [n2', l40, if_pos (show nI 40 = 40 from rfl), bdo_ok bb]
/-- behind what is closed -/
theorem L_close {S M : St} {bs : Nat → Nat} {L N x p t q : Nat} {o : List Ent} (hN : Big N) (h : TP S M bs L) (hq : q < L) (hp : p ≠ 0) (hP : PSt S M o x p t q) : ∃ S' M' y, fX4_closeParenthesis N S = some S' ∧ (∀ k4, fX8_term_123 N k4 M (nI t) 1 41 = k4 (M', y, 1)) ∧ Fr S S' CI4 CA4 ∧ Fr M M' MI4 MA4 ∧ (PFt S' M' ∨ ∃ o' x' p' t', y = TI p' t' ∧ PSt S' M' o' x' p' t' (q + 1)) := by
  have hb := hN
  unfold Big at hb
  obtain ⟨w, nm, bn, wd, xh, us, v, hn, hv⟩ := hP
  have hL := h.1
  have hl := hv.1
  have hpq : p ≤ q := hv.2.2.2.2.2.2.2
  obtain ⟨S1, M1, o1, t1, w1, wd1, us1, c1, c2, c3, c4, c5, c6, c7⟩ := J_close (N := N) hp o S M t w wd us N N (by omega) (by omega) hn hv
  have k1 : fX4_closeLambdas N S = some S1 := c1
  have k2 : fX8_closed N M (nI t) = some (nI t1, M1) := c2
  obtain ⟨⟨n1, n1'⟩, ⟨n2, n2'⟩, ⟨n3, n3'⟩, ⟨n4, n4'⟩, n5, n6, ⟨n7, n7'⟩, n8, n9, n10, n11⟩ := id c5
  have opC : fX4_closeParenthesis N S = if S1.1 87 = 0 then some (sI S1 94 1) else (bnd (sI S1 90 ((S1.1 90 + (1 : Int32)))) fun S6 => bnd (sI S6 87 ((S6.1 87 - (1 : Int32)))) fun S7 => ckx (S7.1 87) 40 <| bnd (sI S7 92 (S7.2.1 85 (S7.1 87 : Int32).toNatClampNeg)) fun S9 => ckx (S9.1 87) 40 <| bnd (sI S9 93 (S9.2.1 86 (S9.1 87 : Int32).toNatClampNeg)) fun S11 => bdo (fX4_endPart N S11) fun S14 => some S14) := by
    unfold fX4_closeParenthesis
    rw [hn.2.2.2.2.2.1, if_neg (nI_ne (by omega) (by omega)), bdo_ok k1, bnd_eq]
  have opM : ∀ k4, fX8_term_123 N k4 M (nI t) 1 41 = if M1.1 9 ≤ 0 then fX8_term_141 N k4 M1 (nI t1) 1 41 (0 : Int32) else fX8_term_141 N k4 M1 (nI t1) 1 41 (1 : Int32) := fun k4 => by
    unfold fX8_term_123
    rw [bd2_ok k2]
  rcases c7 with c7 | ⟨a, r, c7⟩
  · subst c7
    have n2 : S1.1 87 = nI 0 := n2
    have n2' : M1.1 9 = nI 0 := n2'
    rw [n2, if_pos (show nI 0 = 0 from rfl)] at opC
    have bb : fX8_bad N M1 1 (M1.1 7) = some (sI (sI M1 8 (nI 1)) 7 (nI q)) := by rw [n3']; exact X8_bad n7'
    refine ⟨_, sI (sI M1 8 (nI 1)) 7 (nI q), nI t1, opC, fun k4 => ?_, c3.trans (Fr.I (by decide)), (c4.trans (Fr.I (by decide))).trans (Fr.I (by decide)), Or.inl (PF_mk (f := 1) (q := q) (by omega) (by omega) (by omega) n3)⟩
    rw [opM, n2', if_pos (show nI 0 ≤ 0 by decide)]
    unfold fX8_term_141
    rw [if_pos rfl]
    unfold fX8_term_152
    rw [if_neg (by decide), bdo_ok bb]
    rfl
  · subst c7
    have n2 : S1.1 87 = nI (r.length + 1) := n2
    have n2' : M1.1 9 = nI (r.length + 1) := n2'
    obtain ⟨⟨r1, r2, r3, r4, r5⟩, ro⟩ := n10
    have hl1 : r.length + 1 ≤ 40 := c6.1
    have aq : a.2.1 ≤ q := c6.2.2.2.1.1
    have w1le : w1 ≤ 158 := by
      rcases c6.w with z | z
      · exact z
      · exact absurd z.1 hp
    have at1 : a.2.1 ≠ 0 → a.2.2 < 2 ^ 31 := fun z => by
      have := c6.2.1.len.2.2 (a.1, scope r, a.2.2) (by
        unfold SK
        rw [if_neg hp]
        show (a.1, scope r, a.2.2) ∈ [(x, scope (.inr a :: r), t1)] ++ ((if a.2.1 = 0 then [] else [(a.1, scope r, a.2.2)]) ++ SKo r)
        rw [if_neg z]
        exact List.mem_append_right _ (List.mem_append_left _ (List.mem_singleton.mpr rfl)))
      have this : a.2.2 < w1 := this.1
      omega
    obtain ⟨S2, e2⟩ : ∃ z, z = sI S1 90 (nI (q + 1)) := ⟨_, rfl⟩
    obtain ⟨S3, e3⟩ : ∃ z, z = sI S2 87 (nI r.length) := ⟨_, rfl⟩
    obtain ⟨S4, e4⟩ : ∃ z, z = sI S3 92 (nI a.1) := ⟨_, rfl⟩
    obtain ⟨S5, e5⟩ : ∃ z, z = sI S4 93 (nI a.2.1) := ⟨_, rfl⟩
    have fs5 : Fr S1 S5 [87, 90, 92, 93] [] := by
      rw [e5, e4, e3, e2]
      exact (((Fr.I (by decide)).trans (Fr.I (by decide))).trans (Fr.I (by decide))).trans (Fr.I (by decide))
    obtain ⟨M2, m2⟩ : ∃ z, z = sI M1 9 (nI r.length) := ⟨_, rfl⟩
    have fm2 : Fr M1 M2 [9] [] := by rw [m2]; exact Fr.I (by decide)
    -- a default number where there is no tree
    obtain ⟨b, hbt, hb31⟩ : ∃ b, TI a.2.1 a.2.2 = TI a.2.1 b ∧ b < 2 ^ 31 ∧ (a.2.1 ≠ 0 → b = a.2.2) := by
      by_cases z : a.2.1 = 0
      · exact ⟨0, by unfold TI; rw [if_pos z, if_pos z], by omega, fun q => absurd z q⟩
      · exact ⟨a.2.2, rfl, at1 z, fun _ => rfl⟩
    obtain ⟨S6, M6, w6, wd6, t6, d1, d2, d3, d4, d5, d6, d7, d8, d9, d10⟩ := J_end (N := N) (S := S5) (M := M2) (x := a.1) (p := a.2.1) (w := w1) (a := b) (b := t1) (wd := wd1) (by omega) (by omega) hb31.1 (by rw [fs5.1 83 (by decide)]; exact n1) (by rw [fm2.1 6 (by decide)]; exact n1') (by rw [e5, sI_ne (by decide), e4, sI_at]) (by rw [e5, sI_at]) (fun k hk => (n11 k hk).of fs5 fm2 (by decide) (by decide))
    obtain ⟨M7, m7⟩ : ∃ z, z = sI M6 7 (nI (q + 1)) := ⟨_, rfl⟩
    have hm7 : M6.1 7 = nI q := by rw [d4.1 7 (by decide), fm2.1 7 (by decide)]; exact n3'
    have F6 : Fr S S6 CI4 CA4 := (c3.trans (fs5.mono (by decide) (by decide))).trans (d3.mono (by decide) (by decide))
    have G7 : Fr M M7 MI4 MA4 := by
      rw [m7]
      exact ((c4.trans (fm2.mono (by decide) (by decide))).trans (d4.mono (by decide) (by decide))).trans (Fr.I (by decide))
    have f67 : Fr M6 M7 [7] [] := by rw [m7]; exact Fr.I (by decide)
    refine ⟨S6, M7, nI t6, ?_, fun k4 => ?_, F6, G7, Or.inr ⟨r, a.1, a.2.1 + 1, t6, by unfold TI; rw [if_neg (by omega)], w6, nm, bn, wd6, xh, us1, v, ?_, ?_⟩⟩
    · rw [opC, n2, if_neg (nI_ne (by omega) (by omega)), bnd_eq, n3, show nI q + (1 : Int32) = nI (q + 1) from nI_1 _, ← e2, bnd_eq, show S2.1 87 = nI (r.length + 1) by rw [e2, sI_ne (by decide)]; exact n2, show nI (r.length + 1) - (1 : Int32) = nI r.length by rw [nI_sub1 (by omega)]; rfl, ← e3, show S3.1 87 = nI r.length by rw [e3, sI_at], ckx_ok (vp_in_nI (by omega) (by omega)), bnd_eq, nI_clamp (by omega), show S3.2.1 85 r.length = nI a.1 by rw [e3, e2]; exact r2, ← e4, show S4.1 87 = nI r.length by rw [e4, sI_ne (by decide), e3, sI_at], ckx_ok (vp_in_nI (by omega) (by omega)), bnd_eq, nI_clamp (by omega), show S4.2.1 86 r.length = nI a.2.1 by rw [e4, e3, e2]; exact r3, ← e5, bdo_ok d1]
    · have np : ¬ nI (r.length + 1) ≤ 0 := fun q => absurd ((nI_leI (b := 0) (by omega) (by omega)).mp q) (by omega)
      rw [opM, n2', if_neg np]
      unfold fX8_term_141
      rw [if_pos rfl]
      unfold fX8_term_152
      have r5' : M2.2.1 16 r.length = TI a.2.1 b := by rw [fm2.2.1 16 (by decide), ← hbt]; exact r5
      rw [if_pos rfl, n2', if_neg np, bnd_eq, show nI (r.length + 1) - (1 : Int32) = nI r.length by rw [nI_sub1 (by omega)]; rfl, ← m2, show M2.1 9 = nI r.length by rw [m2, sI_at], ckx_ok (vp_in_nI (by omega) (by omega)), nI_clamp (by omega), r5', bd2_ok d2, bnd_eq, hm7, show nI q + (1 : Int32) = nI (q + 1) from nI_1 _, ← m7]
      rfl
    · refine ⟨⟨d5, by rw [f67.1 6 (by decide)]; exact d6⟩, ⟨?_, ?_⟩, ⟨?_, by rw [m7, sI_at]⟩, ⟨?_, ?_⟩, ?_, d7, ⟨?_, ?_⟩, ?_, ?_, ((ro.fr fs5 fm2 (by decide) (by decide)).fr d3 d4 (by decide) (by decide)).fr (Fr.rf (is := []) (as := [])) f67 (by decide) (by decide), fun k hk => (d8 k hk).of (Fr.rf (is := []) (as := [])) f67 (by decide) (by decide)⟩
      · rw [d3.1 87 (by decide), e5, sI_ne (by decide), e4, sI_ne (by decide), e3, sI_at]
      · rw [f67.1 9 (by decide), d4.1 9 (by decide), m2, sI_at]
      · rw [d3.1 90 (by decide), e5, sI_ne (by decide), e4, sI_ne (by decide), e3, sI_ne (by decide), e2, sI_at]
      · rw [d3.1 91 (by decide), fs5.1 91 (by decide)]; exact n4
      · rw [f67.1 10 (by decide), d4.1 10 (by decide), fm2.1 10 (by decide)]; exact n4'
      · rw [d3.1 92 (by decide), e5, sI_ne (by decide), e4, sI_at]
      · rw [d3.1 94 (by decide), fs5.1 94 (by decide)]; exact n7
      · rw [f67.1 8 (by decide), d4.1 8 (by decide), fm2.1 8 (by decide)]; exact n7'
      · rw [f67.1 13 (by decide), d4.1 13 (by decide), fm2.1 13 (by decide)]; exact n8
      · rw [f67.1 14 (by decide), d4.1 14 (by decide), fm2.1 14 (by decide)]; exact n9
    · obtain ⟨z1, z2⟩ := PV_cpar c6 hp
      by_cases z : a.2.1 = 0
      · obtain ⟨y1, y2, y3⟩ := d9 z
        rw [y1, y2, y3, z]
        exact z1 z
      · obtain ⟨y1, y2, y3⟩ := d10 z
        rw [y1, y2, y3, hb31.2 z]
        exact z2 z
