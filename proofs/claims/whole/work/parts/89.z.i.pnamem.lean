/-! the reference reads a name -/
def Fn (N : Nat) : (St × Int32 × Int32 × Int32 × Int32 → Option (Int32 × St)) → St × Int32 × Int32 × Int32 × Int32 → Option (Int32 × St) := fun k x => fX8_name_10s N k x.1 x.2.1 x.2.2.1 x.2.2.2.1 x.2.2.2.2
def Fk (N : Nat) : (St × Int32 × Int32 × Int32 × Int32 × Int32 × Int32 → Option (Int32 × St)) → St × Int32 × Int32 × Int32 × Int32 × Int32 × Int32 → Option (Int32 × St) := fun k x => fX8_name_109s N k x.1 x.2.1 x.2.2.1 x.2.2.2.1 x.2.2.2.2.1 x.2.2.2.2.2.1 x.2.2.2.2.2.2
theorem MD_loop {S : St} {bs : Nat → Nat} {L N p : Nat} {x1 : Int32} : ∀ (d n f : Nat) (M : St) (V : Int32), p + n + d = L → 1 ≤ n → d < f → TP S M bs L → M.1 7 = nI (p + n) → (n ≤ 4 → V = nI (nv bs p n)) → ∃ V', loopN (Fn N) f (M, x1, nI p, V, nI n) = fX8_name_103 N (sI M 7 (nI (p + n + dg bs d (p + n)))) x1 (nI p) V' (nI (n + dg bs d (p + n))) ∧ (n + dg bs d (p + n) ≤ 4 → V' = nI (nv bs p (n + dg bs d (p + n))))
  | 0, n, f, M, V, hd, hn, hf, h, h7, hV => by
    obtain ⟨f, rfl⟩ : ∃ f', f = f' + 1 := ⟨f - 1, by omega⟩
    have hL := h.1
    refine ⟨V, ?_, fun q => hV q⟩
    show fX8_name_10s N (loopN (Fn N) f) M x1 (nI p) V (nI n) = fX8_name_103 N (sI M 7 (nI (p + n + 0))) x1 (nI p) V (nI (n + 0))
    unfold fX8_name_10s
    rw [h.2.2.2.1, h7, if_pos (nI_le (by omega) (by omega)), Nat.add_zero, Nat.add_zero, sI_self h7]
  | d + 1, n, f, M, V, hd, hn, hf, h, h7, hV => by
    obtain ⟨f, rfl⟩ : ∃ f', f = f' + 1 := ⟨f - 1, by omega⟩
    have hL := h.1
    obtain ⟨hb, -, h1⟩ := h.2.2.2.2 (p + n) (by omega)
    have ed : dg bs (d + 1) (p + n) = if isD (bs (p + n)) then dg bs d (p + n + 1) + 1 else 0 := rfl
    have op : fX8_name_10s N (loopN (Fn N) f) M x1 (nI p) V (nI n) = if sb (bs (p + n)) < (48 : Int32) then fX8_name_103 N M x1 (nI p) V (nI n) else if (57 : Int32) < sb (bs (p + n)) then fX8_name_103 N M x1 (nI p) V (nI n) else fX8_name_72 N (loopN (Fn N) f) M x1 (nI p) V (nI n) := by
      unfold fX8_name_10s
      rw [h.2.2.2.1, h7, if_neg (fun z => absurd ((nI_leI (by omega) (by omega)).mp z) (by omega)), if_neg (show ¬ nI n = 0 from fun z => absurd ((nI_eq (b := 0) (by omega) (by omega)).mp z) (by omega)), ckx_ok (vp_in_nI (by omega) (by omega)), nI_clamp (by omega), h1, ckx_ok (vp_in_nI (by omega) (by omega))]
    rw [ed]
    by_cases c : isD (bs (p + n))
    · have lo := sb_lo (bs (p + n)) (by unfold isD at c; omega)
      obtain ⟨V', a1, a2⟩ := MD_loop (N := N) (x1 := x1) d (n + 1) f (sI M 7 (nI (p + n + 1))) ((V <<< ((8 : Int32) &&& 31)) ||| sb (bs (p + n))) (by omega) (by omega) (by omega) (h.j (by decide)) sI_at (fun q => by
        have le : nv bs p n < 2 ^ 24 := by
          have z := nv_lt (bs := bs) (p := p) n (fun i hi => (h.2.2.2.2 (p + i) (by omega)).1)
          have : (256 : Nat) ^ n ≤ 256 ^ 3 := Nat.pow_le_pow_right (by omega) (by omega)
          have : (256 : Nat) ^ 3 = 2 ^ 24 := by decide
          omega
        rw [hV (by omega), lo, nI_or le hb]
        rfl)
      rw [if_pos c]
      refine ⟨V', ?_, fun q => ?_⟩
      · show fX8_name_10s N (loopN (Fn N) f) M x1 (nI p) V (nI n) = _
        rw [op, lo, show (48 : Int32) = nI 48 from rfl, show (57 : Int32) = nI 57 from rfl, if_neg (nI_nlt (by unfold isD at c; omega) (by omega)), if_neg (nI_nlt (by unfold isD at c; omega) (by omega))]
        unfold fX8_name_72
        rw [h7, ckx_ok (vp_in_nI (by omega) (by omega)), bnd_eq, bnd_eq, bnd_eq, nI_clamp (by omega), h1, show nI n + (1 : Int32) = nI (n + 1) from nI_1 _, show nI (p + n) + (1 : Int32) = nI (p + n + 1) from nI_1 _, a1, sI_sI, show p + (n + 1) + dg bs d (p + (n + 1)) = p + n + (dg bs d (p + n + 1) + 1) by rw [← Nat.add_assoc p n 1]; omega, show n + 1 + dg bs d (p + (n + 1)) = n + (dg bs d (p + n + 1) + 1) by rw [← Nat.add_assoc p n 1]; omega]
      · have := a2 (by rw [← Nat.add_assoc p n 1]; omega)
        rw [this]
        congr 2
        rw [← Nat.add_assoc p n 1]; omega
    · rw [if_neg c]
      refine ⟨V, ?_, fun q => by rw [Nat.add_zero]; exact hV (by omega)⟩
      show fX8_name_10s N (loopN (Fn N) f) M x1 (nI p) V (nI n) = _
      rw [op, Nat.add_zero, Nat.add_zero, sI_self h7]
      by_cases lo : bs (p + n) < 128
      · rw [sb_lo _ lo, show (48 : Int32) = nI 48 from rfl, show (57 : Int32) = nI 57 from rfl]
        by_cases l : bs (p + n) < 48
        · rw [if_pos (nI_lt l (by omega))]
        · rw [if_neg (nI_nlt (by omega) (by omega)), if_pos (nI_lt (by unfold isD at c; omega) (by omega))]
      · rw [if_pos (Int32.lt_trans (sb_hi _ hb (by omega)) (by decide))]
theorem ML_loop {M : St} {N l : Nat} {x1 x2 V x4 : Int32} (hl : l ≤ 80) (h13 : M.1 13 = nI l) : ∀ (d k f : Nat), k + d = l → d < f → loopN (Fk N) f (M, x1, x2, V, x4, bd M V k, nI k) = fX8_name_109s N (fun _ => none) M x1 x2 V x4 (bd M V l) (nI l)
  | 0, k, f, hd, hf => by
    obtain ⟨f, rfl⟩ : ∃ f', f = f' + 1 := ⟨f - 1, by omega⟩
    have hk : k = l := by omega
    rw [hk]
    show fX8_name_109s N (loopN (Fk N) f) M x1 x2 V x4 (bd M V l) (nI l) = _
    unfold fX8_name_109s
    rw [h13, if_pos (nI_le (by omega) (by omega)), if_pos (nI_le (by omega) (by omega))]
  | d + 1, k, f, hd, hf => by
    obtain ⟨f, rfl⟩ : ∃ f', f = f' + 1 := ⟨f - 1, by omega⟩
    have ih := ML_loop (N := N) (x1 := x1) (x2 := x2) (V := V) (x4 := x4) hl h13 d (k + 1) f (by omega) (by omega)
    rw [← ih]
    show fX8_name_109s N (loopN (Fk N) f) M x1 x2 V x4 (bd M V k) (nI k) = _
    have e41 : ∀ y, fX8_name_141 N (loopN (Fk N) f) M x1 x2 V x4 (nI k) y = loopN (Fk N) f (M, x1, x2, V, x4, y, nI (k + 1)) := fun y => by
      unfold fX8_name_141
      rw [bnd_eq, show nI k + (1 : Int32) = nI (k + 1) from nI_1 _]
    unfold fX8_name_109s
    rw [h13, if_neg (fun z => absurd ((nI_leI (by omega) (by omega)).mp z) (by omega)), ckx_ok (vp_in_nI (by omega) (by omega)), nI_clamp (by omega), ckx_ok (vp_in_nI (by omega) (by omega)), e41, e41]
    have eb : bd M V (k + 1) = if M.2.1 12 k = V then M.2.1 11 k else bd M V k := rfl
    rw [eb]
    by_cases c : M.2.1 12 k = V
    · rw [if_pos c, if_pos c]
    · rw [if_neg c, if_neg c]
/-- a name at p: what comes of it -/
theorem X8_name {S M : St} {bs : Nat → Nat} {L N p nm x : Nat} {o : List Ent} (hN : Big N) (h : TP S M bs L) (hO : OR S M o) (hl : o.length ≤ 40) (hp : p < L) (hc : isL (bs p)) (h7 : M.1 7 = nI p) (h8 : M.1 8 = 0) (h10 : M.1 10 = nI nm) (hnm : nm ≤ 80) (h13 : M.1 13 = nI (lams o)) (hx : x = 0 ∨ x = 1) (hid : ∀ z e, lkE o z = some e → e.2 < 2 ^ 31) :
    ∃ R M', fX8_name N M (nI x) = some (R, M') ∧ Fr M M' [7, 8, 10] [] ∧ M'.1 10 = nI (nm + 1) ∧
      (4 < nsz bs L p → M'.1 8 = 1 ∧ M'.1 7 = nI p) ∧
      (nsz bs L p ≤ 4 → x = 0 → lkE o (nI (nv bs p (nsz bs L p))) = none → M'.1 8 = 2 ∧ M'.1 7 = nI p) ∧
      (nsz bs L p ≤ 4 → x = 1 ∨ lkE o (nI (nv bs p (nsz bs L p))) ≠ none → nm = 80 → M'.1 8 = 4 ∧ M'.1 7 = nI p) ∧
      (nsz bs L p ≤ 4 → x = 1 ∨ lkE o (nI (nv bs p (nsz bs L p))) ≠ none → nm < 80 → M'.1 8 = 0 ∧ M'.1 7 = nI (p + nsz bs L p) ∧ (x = 1 → R = nI (nv bs p (nsz bs L p))) ∧ (x = 0 → ∀ e, lkE o (nI (nv bs p (nsz bs L p))) = some e → R = nI e.2)) := by
  have hb := hN
  unfold Big at hb
  have hL := h.1
  obtain ⟨hb', -, h1⟩ := h.2.2.2.2 p hp
  have lam := lams_le o
  have lo := sb_lo (bs p) (by unfold isL at hc; omega)
  have e1 : nsz bs L p = 1 + dg bs (L - (p + 1)) (p + 1) := if_pos ⟨hp, hc⟩
  obtain ⟨V, a1, a2⟩ := MD_loop (S := S) (N := N) (p := p) (x1 := nI x) (L - (p + 1)) 1 (N - 1) (sI M 7 (nI (p + 1))) (((0 : Int32) <<< ((8 : Int32) &&& 31)) ||| sb (bs p)) (by omega) (by omega) (by omega) (h.j (by decide)) sI_at (fun _ => by
    rw [lo, show (0 : Int32) = nI 0 from rfl, nI_or (by omega) hb']
    rfl)
  rw [← e1, sI_sI, show p + 1 + dg bs (L - (p + 1)) (p + 1) = p + nsz bs L p by omega] at a1
  rw [← e1] at a2
  obtain ⟨M1, em⟩ : ∃ z, z = sI M 7 (nI (p + nsz bs L p)) := ⟨_, rfl⟩
  have f1 : Fr M M1 [7, 8, 10] [] := by rw [em]; exact Fr.I (by decide)
  have m7 : M1.1 7 = nI (p + nsz bs L p) := by rw [em, sI_at]
  have m8 : M1.1 8 = 0 := by rw [em, sI_ne (by decide)]; exact h8
  have m10 : M1.1 10 = nI nm := by rw [em, sI_ne (by decide)]; exact h10
  have m13 : M1.1 13 = nI (lams o) := by rw [em, sI_ne (by decide)]; exact h13
  have bdm : bd M1 V (lams o) = bd M V (lams o) := by
    have : ∀ k, bd M1 V k = bd M V k := fun k => by
      induction k with
      | zero => rfl
      | succ k ih =>
        show (if M1.2.1 12 k = V then M1.2.1 11 k else bd M1 V k) = if M.2.1 12 k = V then M.2.1 11 k else bd M V k
        rw [ih, f1.2.1 12 (by decide), f1.2.1 11 (by decide)]
    exact this _
  have ns : nsz bs L p ≤ 601 := by
    have := (dg_le (bs := bs) (L - (p + 1)) (p + 1)).1
    omega
  have op : fX8_name N M (nI x) = fX8_name_109s N (fun _ => none) M1 (nI x) (nI p) V (nI (nsz bs L p)) (bd M1 V (lams o)) (nI (lams o)) := by
    unfold fX8_name
    rw [bnd_eq, bnd_eq, bnd_eq, h7]
    show loopN (Fn N) N (M, nI x, nI p, 0, 0) = _
    rw [show N = (N - 1) + 1 by omega]
    show fX8_name_10s ((N - 1) + 1) (loopN (Fn ((N - 1) + 1)) (N - 1)) M (nI x) (nI p) 0 0 = _
    rw [show (N - 1) + 1 = N by omega]
    unfold fX8_name_10s
    rw [h.2.2.2.1, h7, if_neg (fun z => absurd ((nI_leI (by omega) (by omega)).mp z) (by omega)), if_pos rfl, ckx_ok (vp_in_nI (by omega) (by omega)), nI_clamp (by omega), h1, bdo_ok (M_letter hb'), if_pos hc, if_neg (by decide)]
    unfold fX8_name_72
    rw [h7, ckx_ok (vp_in_nI (by omega) (by omega)), bnd_eq, bnd_eq, bnd_eq, nI_clamp (by omega), h1, show (0 : Int32) + 1 = nI 1 from rfl, show nI p + (1 : Int32) = nI (p + 1) from nI_1 _, a1, ← em]
    unfold fX8_name_103
    rw [bnd_eq, bnd_eq]
    exact ML_loop (N := N) (x1 := nI x) (x2 := nI p) (V := V) (x4 := nI (nsz bs L p)) (by omega) m13 (lams o) 0 N (by omega) (by omega)
  have e197 : ∀ M2 (x3 x5 : Int32), M2.1 10 = nI nm → fX8_name_197 N M2 (nI x) x3 x5 = some (if x = 0 then x5 else x3, sI M2 10 (nI (nm + 1))) := fun M2 x3 x5 q => by
    unfold fX8_name_197
    rw [bnd_eq, q, show nI nm + (1 : Int32) = nI (nm + 1) from nI_1 _]
    rcases hx with z | z
    · rw [z, if_pos rfl, if_pos (show nI 0 = (0 : Int32) from rfl)]
    · rw [z, if_neg (by decide), if_neg (by decide)]
  have bad : ∀ (k : Nat), fX8_bad N M1 (nI k) (nI p) = some (sI (sI M1 8 (nI k)) 7 (nI p)) := fun k => by
    unfold fX8_bad
    rw [m8, if_pos rfl, bnd_eq, bnd_eq]
  have bad1 : fX8_bad N M1 1 (nI p) = some (sI (sI M1 8 (nI 1)) 7 (nI p)) := bad 1
  have bad2 : fX8_bad N M1 2 (nI p) = some (sI (sI M1 8 (nI 2)) 7 (nI p)) := bad 2
  have bad4 : fX8_bad N M1 4 (nI p) = some (sI (sI M1 8 (nI 4)) 7 (nI p)) := bad 4
  have fb : ∀ (k : Nat), Fr M (sI (sI (sI M1 8 (nI k)) 7 (nI p)) 10 (nI (nm + 1))) [7, 8, 10] [] := fun k => ((f1.trans (Fr.I (by decide))).trans (Fr.I (by decide))).trans (Fr.I (by decide))
  have vb : ∀ (k : Nat), (sI (sI (sI M1 8 (nI k)) 7 (nI p)) 10 (nI (nm + 1))).1 8 = nI k ∧ (sI (sI (sI M1 8 (nI k)) 7 (nI p)) 10 (nI (nm + 1))).1 7 = nI p := fun k => ⟨by rw [sI_ne (by decide), sI_ne (by decide), sI_at], by rw [sI_ne (by decide), sI_at]⟩
  have i10 : ∀ (k : Nat), (sI (sI M1 8 (nI k)) 7 (nI p)).1 10 = nI nm := fun k => by rw [sI_ne (by decide), sI_ne (by decide)]; exact m10
  have op2 : fX8_name_109s N (fun _ => none) M1 (nI x) (nI p) V (nI (nsz bs L p)) (bd M1 V (lams o)) (nI (lams o)) = if nI (nsz bs L p) ≤ (4 : Int32) then (if nI x = 0 then (if 0 ≤ bd M V (lams o) then fX8_name_182 N M1 (nI x) (nI p) V (bd M V (lams o)) else bdo (fX8_bad N M1 (2 : Int32) (nI p)) fun S7 => fX8_name_197 N S7 (nI x) V (bd M V (lams o))) else fX8_name_182 N M1 (nI x) (nI p) V (bd M V (lams o))) else bdo (fX8_bad N M1 (1 : Int32) (nI p)) fun S10 => fX8_name_197 N S10 (nI x) V (bd M V (lams o)) := by
    unfold fX8_name_109s
    rw [m13, if_pos (nI_le (by omega) (by omega)), bdm]
  have e182 : ∀ x5 : Int32, fX8_name_182 N M1 (nI x) (nI p) V x5 = if nm = 80 then some (if x = 0 then x5 else V, sI (sI (sI M1 8 (nI 4)) 7 (nI p)) 10 (nI (nm + 1))) else some (if x = 0 then x5 else V, sI M1 10 (nI (nm + 1))) := fun x5 => by
    unfold fX8_name_182
    rw [m10, show (80 : Int32) = nI 80 from rfl]
    by_cases c : nm = 80
    · rw [if_pos c, if_pos (by rw [c]), bdo_ok bad4, e197 _ _ _ (i10 4)]
    · rw [if_neg c, if_neg (fun z => c ((nI_eq (by omega) (by omega)).mp z)), e197 _ _ _ m10]
  rw [op, op2]
  by_cases s4 : nsz bs L p ≤ 4
  · have hV := a2 s4
    rw [show (4 : Int32) = nI 4 from rfl, if_pos (nI_le s4 (by omega))]
    have blk := bd_lk (V := V) hO
    rw [hV] at blk
    rw [hV] at e182 ⊢
    have fin : (x = 1 ∨ lkE o (nI (nv bs p (nsz bs L p))) ≠ none) → ∃ R M', fX8_name_182 N M1 (nI x) (nI p) (nI (nv bs p (nsz bs L p))) (bd M (nI (nv bs p (nsz bs L p))) (lams o)) = some (R, M') ∧ Fr M M' [7, 8, 10] [] ∧ M'.1 10 = nI (nm + 1) ∧ (nm = 80 → M'.1 8 = 4 ∧ M'.1 7 = nI p) ∧ (nm < 80 → M'.1 8 = 0 ∧ M'.1 7 = nI (p + nsz bs L p) ∧ (x = 1 → R = nI (nv bs p (nsz bs L p))) ∧ (x = 0 → ∀ e, lkE o (nI (nv bs p (nsz bs L p))) = some e → R = nI e.2)) := fun _ => by
      rw [e182]
      by_cases c : nm = 80
      · rw [if_pos c]
        exact ⟨_, _, rfl, fb 4, sI_at, fun _ => vb 4, fun q => absurd q (by omega)⟩
      · rw [if_neg c]
        refine ⟨_, _, rfl, f1.trans (Fr.I (by decide)), sI_at, fun q => absurd q c, fun _ => ⟨by rw [sI_ne (by decide)]; exact m8, by rw [sI_ne (by decide)]; exact m7, fun q => by rw [if_neg (by omega)], fun q e he => ?_⟩⟩
        rw [if_pos q, blk, he]
    by_cases x0 : x = 0
    · rw [if_pos (show nI x = 0 by rw [x0]; rfl)]
      cases e : lkE o (nI (nv bs p (nsz bs L p))) with
      | none =>
        rw [e] at blk
        have blk : bd M (nI (nv bs p (nsz bs L p))) (lams o) = -1 := blk
        rw [blk, if_neg (by decide), bdo_ok bad2, e197 _ _ _ (i10 2)]
        have no : ∀ {P : Prop}, x = 1 ∨ (none : Option (Nat × Nat)) ≠ none → P := fun q => by
          rcases q with q | q
          · omega
          · exact absurd rfl q
        exact ⟨_, _, rfl, fb 2, sI_at, fun q => absurd q (by omega), fun _ _ _ => vb 2, fun _ q => no q, fun _ q => no q⟩
      | some w =>
        have wi := hid _ w e
        rw [e] at blk
        have blk : bd M (nI (nv bs p (nsz bs L p))) (lams o) = nI w.2 := blk
        rw [if_pos (by rw [blk]; exact nI_pos' wi)]
        obtain ⟨R, M', y1, y2, y3, y4, y5⟩ := fin (Or.inr (by rw [e]; intro q; cases q))
        rw [e] at y5
        exact ⟨R, M', y1, y2, y3, fun q => absurd q (by omega), fun _ _ q => (by cases q), fun _ _ => y4, fun _ _ => y5⟩
    · have x1 : x = 1 := by omega
      rw [if_neg (show ¬ nI x = 0 by rw [x1]; decide)]
      obtain ⟨R, M', y1, y2, y3, y4, y5⟩ := fin (Or.inl x1)
      exact ⟨R, M', y1, y2, y3, fun q => absurd q (by omega), fun _ q => absurd q x0, fun _ _ => y4, fun _ _ => y5⟩
  · rw [show (4 : Int32) = nI 4 from rfl, if_neg (fun z => s4 ((nI_leI (by omega) (by omega)).mp z)), bdo_ok bad1, e197 _ _ _ (i10 1)]
    exact ⟨_, _, rfl, fb 1, sI_at, fun _ => vb 1, fun q => absurd q s4, fun q => absurd q s4, fun q => absurd q s4⟩
