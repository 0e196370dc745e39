/-! the law's helpers: type, keep -/
theorem typ_e {N : Nat} {S : St} {x : Int64} {n : Int32} {u : Nat × St} (h : fX7_type N S x n = some (.inr u)) : u.1 = 1 ∨ u.1 = 2 := by
  unfold fX7_type fX7_type_11 at h
  by_cases c0 : n < 1
  · rw [if_pos c0] at h
    left; rw [← Sum.inr.inj (Option.some.inj h)]
  · rw [if_neg c0] at h
    by_cases c1 : n ≤ 8
    · rw [if_pos c1] at h
      by_cases c2 : S.1 141 + n ≤ 600
      · rw [if_pos c2] at h
        exfalso
        have key : ∀ (f : Nat) (S : St) (y : Int32), loopN (fun k x => fX7_type_48s N k x.1 x.2.1 x.2.2) f (S, x, y) ≠ some (.inr u) := by
          intro f
          induction f with
          | zero => intro S y e; cases e
          | succ f ih =>
            intro S y e
            have e : fX7_type_48s N (loopN (fun k x => fX7_type_48s N k x.1 x.2.1 x.2.2) f) S x y = some (.inr u) := e
            obtain ⟨Lp, eL⟩ : ∃ Lp, Lp = loopN (fun k x => fX7_type_48s N k x.1 x.2.1 x.2.2) f := ⟨_, rfl⟩
            rw [← eL] at e ih
            unfold fX7_type_48s at e
            by_cases d : y < 0
            · rw [if_pos d] at e; cases e
            · rw [if_neg d] at e
              obtain ⟨-, e⟩ := ckx_el e
              exact ih _ _ e
        exact key N S _ h
      · rw [if_neg c2] at h
        right; rw [← Sum.inr.inj (Option.some.inj h)]
    · rw [if_neg c1] at h
      left; rw [← Sum.inr.inj (Option.some.inj h)]
set_option maxHeartbeats 4000000 in
set_option maxRecDepth 100000 in
theorem cL_type_met (l : Launch) (hlS : l.stackTraces = false) (D : va_G) (cy : Nat → ClassId) (cL : ClassId) (a r sa : Nat → Nat) (q : Nat) (f : Nat → Int64) (sz N : Nat) (S : St) (p1 : Int64) (p3 : Int32) (Rr : (Int32 × St) ⊕ (Nat × St)) (hf : fX7_type N S p1 p3 = some Rr) : vx_Met l yL_type wsL_type ({ frames := 7, cells := 1, slots := 6, locals := 140 } : Room) (va_Pc [.ref (a 159), .long p1, .int p3, .ref q] (preH D cy cL (oW cL q f ++ wC cy a r S) sz sa)) (QH D cy cL a q f (va_A (oW cL q f ++ wC cy a r S) sz) (fun e => e) Rr) X0 1 6 (va_A (oW cL q f ++ wC cy a r S) sz) := by
  refine vx_ofWH (cc := cL_type) (maxL := 6) (ret := (some .int)) (hh := [(0, 11, 14, 13), (0, 11, 18, 15)]) (by decide) rfl ?_
  intro p e s m args below meth c s₁ B hml hv
  obtain ⟨rfl, ⟨⟨rfl, hP, hK0, hD0, hN⟩, hX⟩, hKL, hNc⟩ := hv
  have hlocks := B.notSynchronized
  have hr := B.returns
  have C : Cx p s m _ c cL_type 6 wsL_type RL D cy := ⟨B.exec, B.bytes, hml, findClass_of_methodNamed B.named, atoms_spec (ws := wsL_type) B.pre, hK0, hN⟩
  have hts := C.2.2.2.2.1
  have hT := vx_table (x := yL_count) B (hts _ (List.mem_cons_self ..))
  have hD := hD0.self (sz := s.heap.size)
  have hA : ∀ z : Nat, s.heap.size ≤ z → va_A (oW cL q f ++ wC cy a r S) s.heap.size z := fun z h => Or.inr h
  generalize va_A (oW cL q f ++ wC cy a r S) s.heap.size = A at hD hA hX ⊢
  have hS : va_S A s.heap s.heap [] := va_S.rf
  have hl := lv_entry ([.ref (a 159), .long p1, .int p3, .ref q]) (n := 6) (Nat.le_of_ble_eq_true rfl)
  rw [lg_entry_eq]
  generalize (lg_sl ([.ref (a 159), .long p1, .int p3, .ref q]) ++ List.replicate (6 - (lg_sl ([.ref (a 159), .long p1, .int p3, .ref q])).length) Slot.unset).toArray = ls at hl ⊢
  have hl : lv_has ls 6 [(0, .ref (a 159)), (1, .long p1), (3, .int p3), (4, .ref q)] := hl
  refine lv_aload C.1 C.2.1 dL_type_0 (lv_at hl 3 rfl) ?_
  refine lv_iconst (v := 0) C.1 C.2.1 dL_type_2 (by decide) ?_
  refine lv_aload_n C.1 C.2.1 dL_type_3 rfl (lv_at hl 0 rfl) ?_
  refine lv_lload_n C.1 C.2.1 dL_type_4 rfl (lv_at hl 1 rfl) ?_
  refine lv_iload_n C.1 C.2.1 dL_type_5 rfl (lv_at hl 2 rfl) ?_
  have hP : va_P D vwCl ((q, .inl (cL, 1, .inr (.inl f))) :: wC cy a r S) s.heap := hP
  have hD : va_D A ((q, .inl (cL, 1, .inr (.inl f))) :: wC cy a r S) := hD
  have hPc := w_tail hP
  have hDc := w_tailD hD
  have hFc := w_free hD hS hA
  refine vx_calli (vx_runV (As := [.long p1, .int p3]) (rest := [.int 0, .ref q]) ⟨C.1, C.2.1, C.2.2.1, C.2.2.2.1, hts⟩ (cX7_type_met l hlS D cy a r sa s.heap.size N S p1 p3 Rr hf) (cwV 2 hts gL_type_X7_type rfl rfl rfl (by decide +kernel) ⟨Nat.le_of_ble_eq_true rfl, Nat.le_of_ble_eq_true rfl⟩) ⟨preX_blind, va_recv hK0 hPc (ci := 7) (q0 := 7) rfl rfl, fun U hU hW => ⟨rfl, ⟨by rw [hU], by rw [hU]; exact hPc, va_K.moved hW.alike hK0, hDc.weaken (fun _ _ _ _ => trivial), NW.warm hW hN⟩, hX.go hW hFc (fun z _ _ => by rw [hU])⟩⟩ rfl rfl hl.1 rfl (lv_room (Nat.le_of_ble_eq_true rfl)) dL_type_6 ⟨Nat.le_of_ble_eq_true rfl, Nat.le_of_ble_eq_true rfl⟩) hS (fun z _ h => hFc z h) hFc (fun z _ h => hFc z h) (fun E ce q9 u t H1 locs1 ht hvm hu hBX hz1 hk1 hS1 hcell hcv hcl => ?_) (fun v u t H1 locs1 ht hvm hu hB hz1 hk1 hS1 => ?_)
  · obtain ⟨hE, hP1, hK1, hD1⟩ := hBX
    rw [ht] at hP1
    obtain ⟨hP, hD⟩ := w_join hP hD hk1 hFc hP1 hD1
    subst hu
    obtain ⟨ku, Su⟩ := u
    rcases typ_e hf with hk | hk
    · have hk : ku = 1 := hk
      subst hk
      have hE : E = xn 1 := hE
      subst hE
      refine vx_catch C.2.2.2.1 [] ⟨0, 11, 14, 13⟩ [⟨0, 11, 18, 15⟩] hT (fun z hz => by cases hz) (by decide) (by decide) (name := xn 1) (hts _ (by decide +kernel)) (va_Nw.use (xBad_ot (k := 1) (List.mem_cons_self ..)) (hX.2.2.2 1 (by decide) _ (List.mem_cons_self ..))) hcell hcv hcl ?_
      refine lv_astore (lv' := [(5, .ref q9), (0, .ref (a 159)), (1, .long p1), (3, .int p3), (4, .ref q)]) C.1 C.2.1 dL_type_14 hl (by decide) rfl (fun ls hl => ?_)
      refine lv_iconst (v := 1) C.1 C.2.1 dL_type_16 (by decide) ?_
      refine vx_ret (W.widen (k := 1) (n := 6) (by omega) (by omega) ?_)
      exact W.zret C.1 C.2.1 hr rfl (fun t ht hw => ⟨⟨1, .inr (1, Su), rfl, ⟨rfl, rfl⟩, r, by rw [ht]; exact hP, hD⟩, hS1.F ht⟩) hS1.2.2 dL_type_17 hlocks
    · have hk : ku = 2 := hk
      subst hk
      have hE : E = xn 2 := hE
      subst hE
      refine vx_catch C.2.2.2.1 [⟨0, 11, 14, 13⟩] ⟨0, 11, 18, 15⟩ [] hT (fun z hz => by
        rw [List.mem_singleton.mp hz]
        exact Or.inr ⟨by decide, xn 1, hts _ (by decide +kernel), hNc⟩) (by decide) (by decide) (name := xn 2) (hts _ (by decide +kernel)) (va_Nw.use (xBad_ot (k := 2) (List.mem_cons_self ..)) (hX.2.2.2 2 (by decide) _ (List.mem_cons_self ..))) hcell hcv hcl ?_
      refine lv_astore (lv' := [(5, .ref q9), (0, .ref (a 159)), (1, .long p1), (3, .int p3), (4, .ref q)]) C.1 C.2.1 dL_type_18 hl (by decide) rfl (fun ls hl => ?_)
      refine lv_iconst (v := 2) C.1 C.2.1 dL_type_20 (by decide) ?_
      refine vx_ret (W.widen (k := 1) (n := 6) (by omega) (by omega) ?_)
      exact W.zret C.1 C.2.1 hr rfl (fun t ht hw => ⟨⟨2, .inr (2, Su), rfl, ⟨rfl, rfl⟩, r, by rw [ht]; exact hP, hD⟩, hS1.F ht⟩) hS1.2.2 dL_type_21 hlocks
  · obtain ⟨hP1, hK1, hD1⟩ := hB
    rw [ht] at hP1
    obtain ⟨hP, hD⟩ := w_join hP hD hk1 hFc hP1 hD1
    refine lv_i2l (v := v.toInt64) C.1 C.2.1 dL_type_9 rfl ?_
    refine va_last C.1 C.2.1 hKL hP hD hS1 0 0 rfl rfl (show vp_in (0 : Int32) 1 from vp_in_nI (n := 0) (N := 1) (by omega) (by omega)) dL_type_10 (fun H2 locs2 hP hD hS2 => ?_)
    refine lv_goto (tgt := 22) C.1 C.2.1 dL_type_11 (by decide) ?_
    refine lv_iconst (v := 0) C.1 C.2.1 dL_type_22 (by decide) ?_
    subst hu
    refine vx_ret (W.widen (k := 1) (n := 6) (by omega) (by omega) ?_)
    exact W.zret C.1 C.2.1 hr rfl (fun t ht hw => ⟨⟨0, .inl (v, u), rfl, ⟨rfl, rfl⟩, r, by rw [ht]; exact hP, hD⟩, hS2.F ht⟩) hS2.2.2 dL_type_23 hlocks
theorem kee_e {N : Nat} {S : St} {x : Int32} {u : Nat × St} (h : fX7_keep N S x = some (.inr u)) : u = (1, S) := by
  unfold fX7_keep fX7_keep_12 at h
  by_cases c0 : x < 0
  · rw [if_pos c0] at h
    exact (Sum.inr.inj (Option.some.inj h)).symm
  · rw [if_neg c0] at h
    by_cases c1 : x ≤ S.1 141
    · rw [if_pos c1] at h
      cases h
    · rw [if_neg c1] at h
      exact (Sum.inr.inj (Option.some.inj h)).symm
def kS (R : St ⊕ (Nat × St)) : St := match R with
  | .inl u => u
  | .inr u => u.2
def kK (R : St ⊕ (Nat × St)) : Int32 := match R with
  | .inl _ => 0
  | .inr _ => 1
abbrev QK (D : va_G) (cy : Nat → ClassId) (a r : Nat → Nat) (A : Nat → Prop) (Rr : St ⊕ (Nat × St)) : Array Value → State → Outcome → State → Prop := va_Qi (fun v u => v = kK Rr ∧ u = kS Rr) (posE D cy (wC cy a r) A) A
set_option maxHeartbeats 4000000 in
set_option maxRecDepth 100000 in
theorem cL_keep_met (l : Launch) (hlS : l.stackTraces = false) (D : va_G) (cy : Nat → ClassId) (a r sa : Nat → Nat) (sz N : Nat) (S : St) (p1 : Int32) (Rr : St ⊕ (Nat × St)) (hf : fX7_keep N S p1 = some Rr) : vx_Met l yL_keep wsL_keep ({ frames := 7, cells := 1, slots := 6, locals := 130 } : Room) (va_Pc [.ref (a 159), .int p1] (preX D cy (wC cy a r S) sz sa)) (QK D cy a r (va_A (wC cy a r S) sz) Rr) X0 1 6 (va_A (wC cy a r S) sz) := by
  refine vx_ofWH (cc := cL_keep) (maxL := 3) (ret := (some .int)) (hh := [(0, 5, 8, 13)]) (by decide) rfl ?_
  intro p e s m args below meth c s₁ B hml hv
  obtain ⟨rfl, ⟨rfl, hP, hK0, hD0, hN⟩, hX⟩ := hv
  have hlocks := B.notSynchronized
  have hr := B.returns
  have C : Cx p s m _ c cL_keep 3 wsL_keep RL D cy := ⟨B.exec, B.bytes, hml, findClass_of_methodNamed B.named, atoms_spec (ws := wsL_keep) B.pre, hK0, hN⟩
  have hts := C.2.2.2.2.1
  have hT := vx_table (x := yL_count) B (hts _ (List.mem_cons_self ..))
  have hD := hD0.self (sz := s.heap.size)
  have hA : ∀ z : Nat, va_A (wC cy a r S) s.heap.size z → va_A (wC cy a r S) s.heap.size z := fun z h => h
  generalize hAe : va_A (wC cy a r S) s.heap.size = A at hD hX ⊢
  rw [hAe] at hA
  have hS : va_S A s.heap s.heap [] := va_S.rf
  have hl := lv_entry ([.ref (a 159), .int p1]) (n := 3) (Nat.le_of_ble_eq_true rfl)
  rw [lg_entry_eq]
  generalize (lg_sl ([.ref (a 159), .int p1]) ++ List.replicate (3 - (lg_sl ([.ref (a 159), .int p1])).length) Slot.unset).toArray = ls at hl ⊢
  have hl : lv_has ls 3 [(0, .ref (a 159)), (1, .int p1)] := hl
  refine lv_aload_n C.1 C.2.1 dL_keep_0 rfl (lv_at hl 0 rfl) ?_
  refine lv_iload_n C.1 C.2.1 dL_keep_1 rfl (lv_at hl 1 rfl) ?_
  have hM := cX7_keep_met l hlS D cy a r sa s.heap.size N S p1 Rr hf
  rw [hAe] at hM
  refine vx_callv (vx_runV (As := [.int p1]) (rest := []) ⟨C.1, C.2.1, C.2.2.1, C.2.2.2.1, hts⟩ hM (cwV 1 hts gL_keep_X7_keep rfl rfl rfl (by decide +kernel) ⟨Nat.le_of_ble_eq_true rfl, Nat.le_of_ble_eq_true rfl⟩) ⟨preX_blind, va_recv hK0 hP (ci := 7) (q0 := 7) rfl rfl, fun U hU hW => ⟨rfl, ⟨by rw [hU], by rw [hU]; exact hP, va_K.moved hW.alike hK0, hD.weaken (fun _ _ _ _ => trivial), NW.warm hW hN⟩, hX.go hW (fun z h => by rw [← hAe]; exact h) (fun z _ _ => by rw [hU])⟩⟩ rfl rfl hl.1 rfl (lv_room (Nat.le_of_ble_eq_true rfl)) dL_keep_2 ⟨Nat.le_of_ble_eq_true rfl, Nat.le_of_ble_eq_true rfl⟩) hS (fun z _ h => h) (fun z h => h) (fun z _ h => h) (fun E ce q9 u t H1 locs1 ht hvm hu hBX hz1 hk1 hS1 hcell hcv hcl => ?_) (fun u t H1 locs1 ht hvm hu hB hz1 hk1 hS1 => ?_)
  · obtain ⟨hE, hP1, hK1, hD1⟩ := hBX
    rw [ht] at hP1
    subst hu
    have hk := kee_e hf
    subst hk
    have hE : E = xn 1 := hE
    subst hE
    refine vx_catch C.2.2.2.1 [] ⟨0, 5, 8, 13⟩ [] hT (fun z hz => by cases hz) (by decide) (by decide) (name := xn 1) (hts _ (by decide +kernel)) (va_Nw.use (xBad_ot (k := 1) (List.mem_cons_self ..)) (hX.2.2.2 1 (by decide) _ (List.mem_cons_self ..))) hcell hcv hcl ?_
    refine lv_astore_n (lv' := [(2, .ref q9), (0, .ref (a 159)), (1, .int p1)]) C.1 C.2.1 dL_keep_8 rfl hl (by decide) rfl (fun ls hl => ?_)
    refine lv_iconst (v := 1) C.1 C.2.1 dL_keep_9 (by decide) ?_
    refine vx_ret (W.widen (k := 1) (n := 6) (by omega) (by omega) ?_)
    exact W.zret C.1 C.2.1 hr rfl (fun t ht hw => ⟨⟨1, S, rfl, ⟨rfl, rfl⟩, by rw [ht]; exact hP1, va_K.moved hw.alike hK0, hD1⟩, hS1.F ht⟩) hS1.2.2 dL_keep_10 hlocks
  · obtain ⟨hP1, hK1, hD1⟩ := hB
    rw [ht] at hP1
    subst hu
    refine lv_goto (tgt := 11) C.1 C.2.1 dL_keep_5 (by decide) ?_
    refine lv_iconst (v := 0) C.1 C.2.1 dL_keep_11 (by decide) ?_
    refine vx_ret (W.widen (k := 1) (n := 6) (by omega) (by omega) ?_)
    exact W.zret C.1 C.2.1 hr rfl (fun t ht hw => ⟨⟨0, u, rfl, ⟨rfl, rfl⟩, by rw [ht]; exact hP1, va_K.moved hw.alike hK0, hD1⟩, hS1.F ht⟩) hS1.2.2 dL_keep_12 hlocks
