/-! both programs read: an abstraction -/
def PSt (S M : St) (o : List Ent) (x p t q : Nat) : Prop := ∃ w nm bn wd xh us v, PN S M o x p w nm bn q wd ∧ PV o x p t w nm bn wd xh us v q
def PFt (S M : St) : Prop := ∃ f q, 0 < f ∧ f < 5 ∧ S.1 94 = nI f ∧ M.1 8 = nI f ∧ S.1 90 = nI q ∧ M.1 7 = nI q ∧ q ≤ 600
def TI (p t : Nat) : Int32 := if p = 0 then -1 else nI t
theorem X8_bad {M : St} {N k q : Nat} (h8 : M.1 8 = 0) : fX8_bad N M (nI k) (nI q) = some (sI (sI M 8 (nI k)) 7 (nI q)) := by
  unfold fX8_bad
  rw [h8, if_pos rfl, bnd_eq, bnd_eq]
theorem B_77 {M : St} {N k : Nat} {y : Int32} (h0 : 0 < k) (h5 : k < 5) (h8 : M.1 8 = nI k) : fX8_bind_77 N M y = some M := by
  unfold fX8_bind_77
  rw [h8, if_neg (show ¬ nI k = 0 from fun q => absurd ((nI_eq (b := 0) (by omega) (by omega)).mp q) (by omega))]
theorem B_51 {M : St} {N k : Nat} {y : Int32} (h0 : 0 < k) (h5 : k < 5) (h8 : M.1 8 = nI k) : fX8_bind_51 N M y = some M := by
  unfold fX8_bind_51
  rw [h8, if_neg (show ¬ nI k = 0 from fun q => absurd ((nI_eq (b := 0) (by omega) (by omega)).mp q) (by omega))]
  exact B_77 h0 h5 h8
theorem B_35 {M : St} {N k : Nat} (h0 : 0 < k) (h5 : k < 5) (h8 : M.1 8 = nI k) : fX8_bind_35 N M = some M := by
  unfold fX8_bind_35
  rw [h8, if_neg (show ¬ nI k = 0 from fun q => absurd ((nI_eq (b := 0) (by omega) (by omega)).mp q) (by omega))]
  exact B_51 h0 h5 h8
theorem PF_mk {S M : St} {f q : Nat} (h0 : 0 < f) (h5 : f < 5) (hq : q ≤ 600) (h90 : S.1 90 = nI q) : PFt (sI S 94 (nI f)) (sI (sI M 8 (nI f)) 7 (nI q)) := ⟨f, q, h0, h5, sI_at, by rw [sI_ne (by decide), sI_at], by rw [sI_ne (by decide)]; exact h90, sI_at, hq⟩
/-- both open: slot o.length -/
theorem X4_push {S : St} {N k x p : Nat} {z : Int32} (hk : k < 40) (h87 : S.1 87 = nI k) (h92 : S.1 92 = nI x) (h93 : S.1 93 = nI p) : ∃ S', fX4_push N S z = some S' ∧ Fr S S' [87] [84, 85, 86] ∧ S'.1 87 = nI (k + 1) ∧ S'.2.1 84 = upd (S.2.1 84) k z ∧ S'.2.1 85 = upd (S.2.1 85) k (nI x) ∧ S'.2.1 86 = upd (S.2.1 86) k (nI p) := by
  obtain ⟨S1, e1⟩ : ∃ y, y = sA S 84 (upd (S.2.1 84) k z) := ⟨_, rfl⟩
  obtain ⟨S2, e2⟩ : ∃ y, y = sA S1 85 (upd (S1.2.1 85) k (nI x)) := ⟨_, rfl⟩
  obtain ⟨S3, e3⟩ : ∃ y, y = sA S2 86 (upd (S2.2.1 86) k (nI p)) := ⟨_, rfl⟩
  obtain ⟨S4, e4⟩ : ∃ y, y = sI S3 87 (nI (k + 1)) := ⟨_, rfl⟩
  have a1 : S1.1 87 = nI k ∧ S1.1 92 = nI x := by rw [e1]; exact ⟨h87, h92⟩
  have a2 : S2.1 87 = nI k ∧ S2.1 93 = nI p := by rw [e2]; exact ⟨a1.1, by rw [e1]; exact h93⟩
  have a3 : S3.1 87 = nI k := by rw [e3]; exact a2.1
  refine ⟨S4, ?_, ?_, by rw [e4, sI_at], ?_, ?_, ?_⟩
  · unfold fX4_push
    rw [h87, show (40 : Int32) = nI 40 from rfl, if_neg (fun q => absurd ((nI_leI (by omega) (by omega)).mp q) (by omega)), ckx_ok (vp_in_nI (by omega) (by omega)), bnd_eq, nI_clamp (by omega), ← e1, a1.1, a1.2, ckx_ok (vp_in_nI (by omega) (by omega)), bnd_eq, nI_clamp (by omega), ← e2, a2.1, a2.2, ckx_ok (vp_in_nI (by omega) (by omega)), bnd_eq, nI_clamp (by omega), ← e3, a3, bnd_eq, show nI k + (1 : Int32) = nI (k + 1) from nI_1 _, ← e4]
  · rw [e4, e3, e2, e1]
    exact (((Fr.A (by decide)).trans (Fr.A (by decide))).trans (Fr.A (by decide))).trans (Fr.I (by decide))
  · rw [e4, sI_2, e3, sA_ne (by decide), e2, sA_ne (by decide), e1, sA_at]
  · rw [e4, sI_2, e3, sA_ne (by decide), e2, sA_at, e1, sA_ne (by decide)]
  · rw [e4, sI_2, e3, sA_at, e2, sA_ne (by decide), e1, sA_ne (by decide)]
theorem X8_opens {M : St} {N k q : Nat} {a z : Int32} (hk : k < 40) (h9 : M.1 9 = nI k) (h7 : M.1 7 = nI q) : ∃ M', fX8_opens N M a z = some M' ∧ Fr M M' [7, 9] [15, 16] ∧ M'.1 9 = nI (k + 1) ∧ M'.1 7 = nI (q + 1) ∧ M'.2.1 15 = upd (M.2.1 15) k a ∧ M'.2.1 16 = upd (M.2.1 16) k z := by
  obtain ⟨M1, e1⟩ : ∃ y, y = sA M 15 (upd (M.2.1 15) k a) := ⟨_, rfl⟩
  obtain ⟨M2, e2⟩ : ∃ y, y = sA M1 16 (upd (M1.2.1 16) k z) := ⟨_, rfl⟩
  obtain ⟨M3, e3⟩ : ∃ y, y = sI M2 9 (nI (k + 1)) := ⟨_, rfl⟩
  obtain ⟨M4, e4⟩ : ∃ y, y = sI M3 7 (nI (q + 1)) := ⟨_, rfl⟩
  have a1 : M1.1 9 = nI k := by rw [e1]; exact h9
  have a2 : M2.1 9 = nI k := by rw [e2]; exact a1
  have a3 : M3.1 7 = nI q := by rw [e3, sI_ne (by decide), e2, e1]; exact h7
  refine ⟨M4, ?_, ?_, by rw [e4, sI_ne (by decide), e3, sI_at], by rw [e4, sI_at], ?_, ?_⟩
  · unfold fX8_opens
    rw [h9, show (40 : Int32) = nI 40 from rfl, if_neg (fun q => absurd ((nI_eq (by omega) (by omega)).mp q) (by omega)), ckx_ok (vp_in_nI (by omega) (by omega)), bnd_eq, nI_clamp (by omega), ← e1, a1, ckx_ok (vp_in_nI (by omega) (by omega)), bnd_eq, nI_clamp (by omega), ← e2, a2, bnd_eq, show nI k + (1 : Int32) = nI (k + 1) from nI_1 _, ← e3, a3, bnd_eq, show nI q + (1 : Int32) = nI (q + 1) from nI_1 _, ← e4]
  · rw [e4, e3, e2, e1]
    exact (((Fr.A (by decide)).trans (Fr.A (by decide))).trans (Fr.I (by decide))).trans (Fr.I (by decide))
  · rw [e4, sI_2, e3, sI_2, e2, sA_ne (by decide), e1, sA_at]
  · rw [e4, sI_2, e3, sI_2, e2, sA_at, e1, sA_ne (by decide)]
theorem X4_countName {S : St} {N nm : Nat} (h91 : S.1 91 = nI nm) (hn : nm ≤ 80) : fX4_countName N S = some (if nm = 80 then 4 else 0, sI S 91 (nI (nm + 1))) := by
  unfold fX4_countName
  rw [bnd_eq, h91, show nI nm + (1 : Int32) = nI (nm + 1) from nI_1 _, sI_at, show (80 : Int32) = nI 80 from rfl]
  by_cases c : nm = 80
  · rw [if_neg (fun q => absurd ((nI_leI (by omega) (by omega)).mp q) (by omega)), if_pos c]
  · rw [if_pos (nI_le (by omega) (by omega)), if_neg c]
theorem PV.id {o : List Ent} {x p t w nm bn : Nat} {wd : Nat → Wd} {xh : Nat → Nat} {us : List Nat} {v q : Nat} (h : PV o x p t w nm bn wd xh us v q) : ∀ z e, lkE o z = some e → e.1 < 40 ∧ e.2 < bn ∧ e.2 < 2 ^ 31 := fun z e he => by
  obtain ⟨h1, h2, h3, h4, h5, h6, h7, h8⟩ := h
  have a := (h4.b h1).2 e (lkE_in he)
  exact ⟨a.1, a.2, by omega⟩
theorem nv_ne {bs : Nat → Nat} {p k : Nat} (hb : ∀ i, i < k → bs (p + i) < 256) (hl : 1 ≤ bs p) (h1 : 1 ≤ k) (h4 : k ≤ 4) : nI (nv bs p k) ≠ 0 := fun e => by
  have a := nv_lt k hb
  have b := nv_pos hl k h1
  have c : (256 : Nat) ^ k ≤ 256 ^ 4 := Nat.pow_le_pow_right (by omega) h4
  have d : (256 : Nat) ^ 4 = 2 ^ 32 := by decide
  have t := congrArg (fun z : Int32 => z.toBitVec.toNat) e
  have t : (nI (nv bs p k)).toBitVec.toNat = (nI 0).toBitVec.toNat := t
  rw [pk_tn (by omega), pk_tn (by omega)] at t
  omega
theorem L_lam {S M : St} {bs : Nat → Nat} {L N x t q : Nat} {o : List Ent} (hN : Big N) (h : TP S M bs L) (hq : q < L) (hP : PSt S M o x 0 t q) : ∃ S' M', fX4_openLambda N S = some S' ∧ fX8_bind N M = some M' ∧ Fr S S' CI4 CA4 ∧ Fr M M' MI4 MA4 ∧ (PFt S' M' ∨ ∃ o' t' q', PSt S' M' o' x 0 t' q' ∧ q < q' ∧ q' ≤ L) := by
  obtain ⟨w, nm, bn, wd, xh, us, v, hn, hv⟩ := hP
  obtain ⟨⟨n1, n1'⟩, ⟨n2, n2'⟩, ⟨n3, n3'⟩, ⟨n4, n4'⟩, n5, n6, ⟨n7, n7'⟩, n8, n9, n10, n11⟩ := id hn
  have hL := h.1
  have hl := hv.1
  have nm80 : nm ≤ 80 := hv.2.2.2.2.2.1
  by_cases c40 : o.length < 40
  · -- room for it
    obtain ⟨q2, eq2⟩ : ∃ z, z = sk bs (L - (q + 1)) (q + 1) := ⟨_, rfl⟩
    obtain ⟨g1, g2, g3, -⟩ := sk_ge (bs := bs) (L - (q + 1)) (q + 1)
    rw [← eq2] at g1 g2 g3
    have q2L : q2 ≤ L := by omega
    obtain ⟨S2, es2⟩ : ∃ z, z = sI S 90 (nI q2) := ⟨_, rfl⟩
    have fs2 : Fr S S2 [90] [] := by rw [es2]; exact Fr.I (by decide)
    have s90 : S2.1 90 = nI q2 := by rw [es2, sI_at]
    have skC : fX4_skipBlanks N (sI S 90 (nI (q + 1))) = some S2 := by
      rw [X4_skip hN (h.i (by decide)) (show q + 1 ≤ L by omega) sI_at, sI_sI, ← eq2, ← es2]
    obtain ⟨M1, o1, o2, o3, o4, o5, o6⟩ := X8_opens (N := N) (a := 1) (z := M.1 14) c40 n2' n3'
    obtain ⟨M2, em2⟩ : ∃ z, z = sI M1 7 (nI q2) := ⟨_, rfl⟩
    have fm2 : Fr M M2 [7, 9] [15, 16] := by rw [em2]; exact o2.trans (Fr.I (by decide))
    have h2 : TP S2 M2 bs L := h.of fs2 fm2 (by decide) (by decide) (by decide) (by decide)
    have hM1 : TP S M1 bs L := h.of (Fr.rf (is := []) (as := [])) o2 (by decide) (by decide) (by decide) (by decide)
    have skM : fX8_look N M1 = some (if q2 < L then nI (bs q2) else -1, M2) := by
      rw [X8_look hN hM1 (show q + 1 ≤ L by omega) o4, ← eq2, ← em2]
    have m8 : M2.1 8 = 0 := by rw [fm2.1 8 (by decide)]; exact n7'
    have m18 : M1.1 8 = 0 := by rw [o2.1 8 (by decide)]; exact n7'
    have m7 : M2.1 7 = nI q2 := by rw [em2, sI_at]
    have m10 : M2.1 10 = nI nm := by rw [fm2.1 10 (by decide)]; exact n4'
    have m13 : M2.1 13 = nI (lams o) := by rw [fm2.1 13 (by decide)]; exact n8
    have m14 : M2.1 14 = nI bn := by rw [fm2.1 14 (by decide)]; exact n9
    have O2 : OR S2 M2 o := OR.of (fun j hj => ⟨by rw [fs2.2.1 84 (by decide)], by rw [fs2.2.1 85 (by decide)], by rw [fs2.2.1 86 (by decide)], by rw [em2, sI_2, o5, upd_at, if_neg (by omega)], by rw [em2, sI_2, o6, upd_at, if_neg (by omega)]⟩) (fun j hj => ⟨by rw [fm2.2.1 11 (by decide)], by rw [fm2.2.1 12 (by decide)]⟩) n10
    have opC : fX4_openLambda N S = bd2 (fX4_nameSize N S2) fun v7 S9 => if v7 = 0 then fX4_openLambda_57 N S9 v7 else if v7 ≤ (4 : Int32) then bd2 (fX4_countName N S9) fun v12 S14 => fX4_openLambda_65 N S14 v7 v12 else fX4_openLambda_57 N S9 v7 := by
      unfold fX4_openLambda
      rw [n6, if_pos (show nI 0 ≤ 0 by decide), n2, show (40 : Int32) = nI 40 from rfl, if_pos (nI_lt c40 (by omega)), bnd_eq, n3, show nI q + (1 : Int32) = nI (q + 1) from nI_1 _, bdo_ok skC]
    have opM : fX8_bind N M = bdo (fX8_isLetter (if q2 < L then nI (bs q2) else -1)) fun v8 => if v8 = 0 then bdo (fX8_bad N M2 (1 : Int32) (M2.1 7)) fun S13 => fX8_bind_35 N S13 else fX8_bind_35 N M2 := by
      unfold fX8_bind
      rw [bdo_ok o1, m18, if_pos rfl, bd2_ok skM]
    have fault : ∀ S9 M9 (f q9 : Nat), Fr S S9 CI4 CA4 → Fr M M9 MI4 MA4 → PFt S9 M9 → fX4_openLambda N S = some S9 → fX8_bind N M = some M9 → ∃ S' M', fX4_openLambda N S = some S' ∧ fX8_bind N M = some M' ∧ Fr S S' CI4 CA4 ∧ Fr M M' MI4 MA4 ∧ (PFt S' M' ∨ ∃ o' t' q', PSt S' M' o' x 0 t' q' ∧ q < q' ∧ q' ≤ L) := fun S9 M9 f q9 a1 a2 a3 a4 a5 => ⟨S9, M9, a4, a5, a1, a2, Or.inl a3⟩
    have nsC := X4_nameSize (N := N) hN h2 q2L s90
    have F2 : Fr S S2 CI4 CA4 := fs2.mono (by decide) (by decide)
    have G2 : Fr M M2 MI4 MA4 := fm2.mono (by decide) (by decide)
    have e57 : ∀ y, fX4_openLambda_57 N S2 y = some (sI S2 94 (nI 1)) := fun y => by
      unfold fX4_openLambda_57 fX4_openLambda_65
      rw [bnd_eq, sI_at, if_neg (by decide)]
      rfl
    by_cases ltr : q2 < L ∧ isL (bs q2)
    · obtain ⟨lt, il⟩ := ltr
      have hb2 := (h.2.2.2.2 q2 lt).1
      have sz1 : 1 ≤ nsz bs L q2 := by unfold nsz; rw [if_pos ⟨lt, il⟩]; omega
      have szL : q2 + nsz bs L q2 ≤ L := by
        unfold nsz; rw [if_pos ⟨lt, il⟩]
        have := (dg_le (bs := bs) (L - (q2 + 1)) (q2 + 1)).1
        omega
      rw [if_pos lt, bdo_ok (M_letter_n hb2), if_pos il, if_neg (by decide)] at opM
      obtain ⟨R, M3, y1, y2, y3, y4, y5, y6, y7⟩ := X8_name (N := N) (x := 1) hN h2 O2 hl lt il m7 m8 m10 nm80 m13 (Or.inr rfl) (fun z e he => (hv.id z e he).2.2)
      have G3 : Fr M M3 MI4 MA4 := G2.trans (y2.mono (by decide) (by decide))
      have y1' : fX8_name N M2 1 = some (R, M3) := y1
      have b35 : fX8_bind_35 N M2 = fX8_bind_51 N M3 R := by
        unfold fX8_bind_35
        rw [m8, if_pos rfl, bd2_ok y1']
      rw [b35] at opM
      have nz : ¬ nI (nsz bs L q2) = 0 := fun q => absurd ((nI_eq (b := 0) (by omega) (by omega)).mp q) (by omega)
      rw [bd2_ok nsC, if_neg nz] at opC
      by_cases s4 : nsz bs L q2 ≤ 4
      · rw [show (4 : Int32) = nI 4 from rfl, if_pos (nI_le s4 (by omega))] at opC
        have s91 : S2.1 91 = nI nm := by rw [fs2.1 91 (by decide)]; exact n4
        rw [bd2_ok (X4_countName s91 nm80)] at opC
        by_cases c80 : nm = 80
        · -- too many names
          obtain ⟨z1, z2⟩ := y6 s4 (Or.inl rfl) c80
          have e65 : fX4_openLambda_65 N (sI S2 91 (nI (nm + 1))) (nI (nsz bs L q2)) 4 = some (sI (sI S2 91 (nI (nm + 1))) 94 (nI 4)) := by
            unfold fX4_openLambda_65
            rw [bnd_eq, sI_at, if_neg (by decide)]
            rfl
          rw [if_pos c80, e65] at opC
          rw [B_51 (k := 4) (by omega) (by omega) z1] at opM
          exact fault _ _ 0 0 ((F2.trans (Fr.I (by decide))).trans (Fr.I (by decide))) G3 ⟨4, q2, by omega, by omega, sI_at, z1, by rw [sI_ne (by decide), sI_ne (by decide)]; exact s90, z2, by omega⟩ opC opM
        · obtain ⟨z1, z2, z3, -⟩ := y7 s4 (Or.inl rfl) (by omega)
          have z3 := z3 rfl
          subst z3
          rw [if_neg c80] at opC
          -- the class, behind the name
          obtain ⟨q3, eq3⟩ : ∃ z, z = sk bs (L - (q2 + nsz bs L q2)) (q2 + nsz bs L q2) := ⟨_, rfl⟩
          obtain ⟨k1, k2, -, -⟩ := sk_ge (bs := bs) (L - (q2 + nsz bs L q2)) (q2 + nsz bs L q2)
          rw [← eq3] at k1 k2
          obtain ⟨S4, es4⟩ : ∃ z, z = sI (sI (sI S2 91 (nI (nm + 1))) 94 0) 90 (nI q3) := ⟨_, rfl⟩
          have fs4 : Fr S S4 [90, 91, 94] [] := by
            rw [es4]
            exact (((fs2.mono (by decide) (by decide)).trans (Fr.I (by decide))).trans (Fr.I (by decide))).trans (Fr.I (by decide))
          have TS3 : TP (sI (sI S2 91 (nI (nm + 1))) 94 0) M2 bs L := (h2.i (by decide)).i (by decide)
          have t90 : (sI (sI S2 91 (nI (nm + 1))) 94 0).1 90 = nI q2 := by rw [sI_ne (by decide), sI_ne (by decide)]; exact s90
          have nOf := X4_nameOf (N := N) hN TS3 t90 szL
          have skC3 : fX4_skipBlanks N (sI (sI (sI S2 91 (nI (nm + 1))) 94 0) 90 (nI (q2 + nsz bs L q2))) = some S4 := by
            rw [X4_skip hN (TS3.i (by decide)) szL sI_at, sI_sI, ← eq3, ← es4]
          have s490 : S4.1 90 = nI q3 := by rw [es4, sI_at]
          have fm3 : Fr M M3 [7, 8, 9, 10] [15, 16] := (fm2.mono (by decide) (by decide)).trans (y2.mono (by decide) (by decide))
          have T4 : TP S4 M3 bs L := h.of fs4 fm3 (by decide) (by decide) (by decide) (by decide)
          have e65 : fX4_openLambda_65 N (sI S2 91 (nI (nm + 1))) (nI (nsz bs L q2)) 0 = if (if q3 < L then nI (bs q3) else -1) = (46 : Int32) then bdo (fX4_push N (sI S4 90 (nI (q3 + 1))) (nI (nv bs q2 (nsz bs L q2)))) fun S17 => some S17 else some (sI S4 94 1) := by
            unfold fX4_openLambda_65
            rw [bnd_eq, sI_at, if_pos rfl, bd2_ok nOf, bnd_eq, t90, nI_add, bdo_ok skC3, s490, bd2_ok (C_byte T4 (by omega)), s490, bnd_eq, bnd_eq, show nI q3 + (1 : Int32) = nI (q3 + 1) from nI_1 _]
          rw [e65] at opC
          -- the reference, behind the name
          obtain ⟨M4, em4⟩ : ∃ z, z = sI M3 7 (nI q3) := ⟨_, rfl⟩
          have skM3 : fX8_look N M3 = some (if q3 < L then nI (bs q3) else -1, M4) := by
            rw [X8_look hN T4 szL z2, ← eq3, ← em4]
          have m48 : M4.1 8 = 0 := by rw [em4, sI_ne (by decide)]; exact z1
          have m47 : M4.1 7 = nI q3 := by rw [em4, sI_at]
          have G4 : Fr M M4 MI4 MA4 := by rw [em4]; exact G3.trans (Fr.I (by decide))
          have fm4 : Fr M M4 [7, 8, 9, 10] [15, 16] := by rw [em4]; exact fm3.trans (Fr.I (by decide))
          have F4 : Fr S S4 CI4 CA4 := fs4.mono (by decide) (by decide)
          have e51 : fX8_bind_51 N M3 (nI (nv bs q2 (nsz bs L q2))) = if (if q3 < L then nI (bs q3) else -1) = (46 : Int32) then fX8_bind_77 N M4 (nI (nv bs q2 (nsz bs L q2))) else bdo (fX8_bad N M4 (1 : Int32) (M4.1 7)) fun S8 => fX8_bind_77 N S8 (nI (nv bs q2 (nsz bs L q2))) := by
            unfold fX8_bind_51
            rw [z1, if_pos rfl, bd2_ok skM3]
          rw [e51] at opM
          by_cases dot : (if q3 < L then nI (bs q3) else -1) = (46 : Int32)
          · have q3L : q3 < L := Classical.byContradiction fun z => by
              rw [if_neg z] at dot
              exact absurd dot (by decide)
            rw [if_pos dot] at opC opM
            have u90 : Fr S (sI S4 90 (nI (q3 + 1))) [90, 91, 94] [] := fs4.trans (Fr.I (by decide))
            obtain ⟨S5, p1, p2, p3, p4, p5, p6⟩ := X4_push (N := N) (S := sI S4 90 (nI (q3 + 1))) (z := nI (nv bs q2 (nsz bs L q2))) (x := x) (p := 0) c40 (by rw [u90.1 87 (by decide)]; exact n2) (by rw [u90.1 92 (by decide)]; exact n5) (by rw [u90.1 93 (by decide)]; exact n6)
            rw [bdo_ok p1] at opC
            -- what the reference keeps
            have m413 : M4.1 13 = nI (lams o) := by rw [fm4.1 13 (by decide)]; exact n8
            have m414 : M4.1 14 = nI bn := by rw [fm4.1 14 (by decide)]; exact n9
            have ll := lams_le o
            obtain ⟨N1, r1⟩ : ∃ z, z = sI M4 7 (nI (q3 + 1)) := ⟨_, rfl⟩
            obtain ⟨N2, r2⟩ : ∃ z, z = sA N1 12 (upd (N1.2.1 12) (lams o) (nI (nv bs q2 (nsz bs L q2)))) := ⟨_, rfl⟩
            obtain ⟨N3, r3⟩ : ∃ z, z = sA N2 11 (upd (N2.2.1 11) (lams o) (nI bn)) := ⟨_, rfl⟩
            obtain ⟨N4, r4⟩ : ∃ z, z = sI N3 13 (nI (lams o + 1)) := ⟨_, rfl⟩
            obtain ⟨N5, r5⟩ : ∃ z, z = sI N4 14 (nI (bn + 1)) := ⟨_, rfl⟩
            have v1 : N1.1 13 = nI (lams o) := by rw [r1, sI_ne (by decide)]; exact m413
            have v2 : N2.1 13 = nI (lams o) := by rw [r2]; exact v1
            have v2' : N2.1 14 = nI bn := by rw [r2, r1]; show (sI M4 7 (nI (q3 + 1))).1 14 = _; rw [sI_ne (by decide)]; exact m414
            have v3 : N3.1 13 = nI (lams o) := by rw [r3]; exact v2
            have v4 : N4.1 14 = nI bn := by rw [r4, sI_ne (by decide), r3]; exact v2'
            have e77 : fX8_bind_77 N M4 (nI (nv bs q2 (nsz bs L q2))) = some N5 := by
              unfold fX8_bind_77
              rw [m48, if_pos rfl, bnd_eq, m47, show nI q3 + (1 : Int32) = nI (q3 + 1) from nI_1 _, ← r1, v1, ckx_ok (vp_in_nI (by omega) (by omega)), bnd_eq, nI_clamp (by omega), ← r2, v2, v2', ckx_ok (vp_in_nI (by omega) (by omega)), bnd_eq, nI_clamp (by omega), ← r3, v3, bnd_eq, show nI (lams o) + (1 : Int32) = nI (lams o + 1) from nI_1 _, ← r4, v4, bnd_eq, show nI bn + (1 : Int32) = nI (bn + 1) from nI_1 _, ← r5]
            rw [e77] at opM
            have fn5 : Fr M4 N5 [7, 13, 14] [11, 12] := by
              rw [r5, r4, r3, r2, r1]
              exact ((((Fr.I (by decide)).trans (Fr.A (by decide))).trans (Fr.A (by decide))).trans (Fr.I (by decide))).trans (Fr.I (by decide))
            have w12 : N5.2.1 12 = upd (M.2.1 12) (lams o) (nI (nv bs q2 (nsz bs L q2))) := by
              rw [r5, sI_2, r4, sI_2, r3, sA_ne (by decide), r2, sA_at, r1, sI_2, fm4.2.1 12 (by decide)]
            have w11 : N5.2.1 11 = upd (M.2.1 11) (lams o) (nI bn) := by
              rw [r5, sI_2, r4, sI_2, r3, sA_at, r2, sA_ne (by decide), r1, sI_2, fm4.2.1 11 (by decide)]
            have w15 : N5.2.1 15 = upd (M.2.1 15) o.length 1 := by
              rw [fn5.2.1 15 (by decide), em4, sI_2, y2.2.1 15 (by decide), em2, sI_2, o5]
            have w16 : N5.2.1 16 = upd (M.2.1 16) o.length (nI bn) := by
              rw [fn5.2.1 16 (by decide), em4, sI_2, y2.2.1 16 (by decide), em2, sI_2, o6, n9]
            have F5 : Fr S S5 CI4 CA4 := (u90.mono (by decide) (by decide)).trans (p2.mono (by decide) (by decide))
            have G5 : Fr M N5 MI4 MA4 := G4.trans (fn5.mono (by decide) (by decide))
            have ne0 : nI (nv bs q2 (nsz bs L q2)) ≠ 0 := nv_ne (fun i hi => (h.2.2.2.2 (q2 + i) (by omega)).1) (by unfold isL at il; omega) sz1 s4
            refine ⟨S5, N5, opC, opM, F5, G5, Or.inr ⟨.inl (nI (nv bs q2 (nsz bs L q2)), bn) :: o, t, q3 + 1, ⟨w, nm + 1, bn + 1, wd, updN xh bn x, us, v, ?_, (PV_lam hv c40 (by omega) _).q (by omega)⟩, by omega, by omega⟩⟩
            refine ⟨⟨?_, ?_⟩, ⟨p3, ?_⟩, ⟨?_, ?_⟩, ⟨?_, ?_⟩, ?_, ?_, ⟨?_, ?_⟩, ?_, by rw [r5, sI_at], ⟨⟨?_, ne0, ?_, ?_, ?_, ?_⟩, OR.of (fun j hj => ⟨?_, ?_, ?_, ?_, ?_⟩) (fun j hj => ⟨?_, ?_⟩) n10⟩, fun k hk => ?_⟩
            · rw [p2.1 83 (by decide), u90.1 83 (by decide)]; exact n1
            · rw [fn5.1 6 (by decide), fm4.1 6 (by decide)]; exact n1'
            · rw [fn5.1 9 (by decide), em4, sI_ne (by decide), y2.1 9 (by decide), em2, sI_ne (by decide)]; exact o3
            · rw [p2.1 90 (by decide), sI_at]
            · rw [r5, sI_ne (by decide), r4, sI_ne (by decide), r3, r2, r1]; show (sI M4 7 (nI (q3 + 1))).1 7 = _; exact sI_at
            · rw [p2.1 91 (by decide), sI_ne (by decide), es4, sI_ne (by decide), sI_ne (by decide), sI_at]
            · rw [fn5.1 10 (by decide), em4, sI_ne (by decide)]; exact y3
            · rw [p2.1 92 (by decide), u90.1 92 (by decide)]; exact n5
            · rw [p2.1 93 (by decide), u90.1 93 (by decide)]; exact n6
            · rw [p2.1 94 (by decide), sI_ne (by decide), es4, sI_ne (by decide), sI_at]
            · rw [fn5.1 8 (by decide)]; exact m48
            · rw [r5, sI_ne (by decide), r4, sI_at]; rfl
            · rw [p4, upd_at, if_pos rfl]
            · rw [w15, upd_at, if_pos rfl]
            · rw [w16, upd_at, if_pos rfl]
            · rw [w12, upd_at, if_pos rfl]
            · rw [w11, upd_at, if_pos rfl]
            · rw [p4, upd_at, if_neg (by omega), u90.2.1 84 (by decide)]
            · rw [p5, upd_at, if_neg (by omega), u90.2.1 85 (by decide)]
            · rw [p6, upd_at, if_neg (by omega), u90.2.1 86 (by decide)]
            · rw [w15, upd_at, if_neg (by omega)]
            · rw [w16, upd_at, if_neg (by omega)]
            · rw [w11, upd_at, if_neg (by omega)]
            · rw [w12, upd_at, if_neg (by omega)]
            · exact (((n11 k hk).of u90 fm4 (by decide) (by decide)).of p2 fn5 (by decide) (by decide))
          · rw [if_neg dot] at opC opM
            have bb : fX8_bad N M4 1 (M4.1 7) = some (sI (sI M4 8 (nI 1)) 7 (nI q3)) := by rw [m47]; exact X8_bad m48
            rw [bdo_ok bb, B_77 (k := 1) (by omega) (by omega) (by rw [sI_ne (by decide), sI_at])] at opM
            exact fault _ _ 0 0 (F4.trans (Fr.I (by decide))) ((G4.trans (Fr.I (by decide))).trans (Fr.I (by decide))) (PF_mk (f := 1) (q := q3) (by omega) (by omega) (by omega) s490) opC opM
      · -- a long name
        obtain ⟨z1, z2⟩ := y4 (by omega)
        rw [show (4 : Int32) = nI 4 from rfl, if_neg (fun q => s4 ((nI_leI (by omega) (by omega)).mp q)), e57] at opC
        rw [B_51 (k := 1) (by omega) (by omega) z1] at opM
        exact fault _ _ 0 0 (F2.trans (Fr.I (by decide))) G3 ⟨1, q2, by omega, by omega, sI_at, z1, by rw [sI_ne (by decide)]; exact s90, z2, by omega⟩ opC opM
    · -- no name
      have z0 : nsz bs L q2 = 0 := by unfold nsz; rw [if_neg ltr]
      rw [bd2_ok nsC, z0, if_pos (show nI 0 = 0 from rfl), e57] at opC
      have il : fX8_isLetter (if q2 < L then nI (bs q2) else -1) = some 0 := by
        by_cases c : q2 < L
        · rw [if_pos c, M_letter_n (h.2.2.2.2 q2 c).1, if_neg (fun z => ltr ⟨c, z⟩)]
        · rw [if_neg c]; exact C_letter_m
      have bb : fX8_bad N M2 1 (M2.1 7) = some (sI (sI M2 8 (nI 1)) 7 (nI q2)) := by rw [m7]; exact X8_bad m8
      rw [bdo_ok il, if_pos rfl, bdo_ok bb, B_35 (k := 1) (by omega) (by omega) (by rw [sI_ne (by decide), sI_at])] at opM
      exact fault _ _ 0 0 (F2.trans (Fr.I (by decide))) ((G2.trans (Fr.I (by decide))).trans (Fr.I (by decide))) (PF_mk (f := 1) (q := q2) (by omega) (by omega) (by omega) s90) opC opM
  · -- too deep
    have l40 : o.length = 40 := by omega
    refine ⟨sI S 94 (nI 3), sI (sI M 8 (nI 3)) 7 (nI q), ?_, ?_, Fr.I (by decide), (Fr.I (by decide)).trans (Fr.I (by decide)), Or.inl (PF_mk (by omega) (by omega) (by omega) n3)⟩
    · unfold fX4_openLambda
      rw [n6, if_pos (show nI 0 ≤ 0 by decide), n2, show (40 : Int32) = nI 40 from rfl, if_neg (nI_nlt (by omega) (by omega)), bnd_eq]
      rfl
    · have bb : fX8_bad N M 3 (M.1 7) = some (sI (sI M 8 (nI 3)) 7 (nI q)) := by rw [n3']; exact X8_bad n7'
      have oo : fX8_opens N M 1 (M.1 14) = some (sI (sI M 8 (nI 3)) 7 (nI q)) := by
        unfold fX8_opens
        rw [n2', l40, if_pos (show nI 40 = 40 from rfl), bdo_ok bb]
      unfold fX8_bind
      rw [bdo_ok oo, sI_ne (by decide), sI_at, if_neg (by decide), B_35 (k := 3) (by omega) (by omega) (by rw [sI_ne (by decide), sI_at])]
