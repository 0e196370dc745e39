/-! the law's helpers: a call of the class, its throws caught -/
abbrev oW (cL : ClassId) (q : Nat) (f : Nat → Int64) : va_W := [(q, .inl (cL, 1, .inr (.inl f)))]
theorem XP.blind {sa : Nat → Nat} {A : Nat → Prop} {U U' : State} (hv : U'.vm = U.vm) (hh : U'.heap = U.heap) (h : XP sa A U U.heap) : XP sa A U' U'.heap := by
  rw [hh]
  refine ⟨fun q hq => vk_R.same hv (h.1 q hq), h.2.1.moved ?_, h.2.2.1.moved ?_, fun k hk w hw => va_Nw.same (xBad_ot hw) hv.symm (h.2.2.2 k hk w hw)⟩ <;> (rw [hv]; exact Vm.Alike.refl _)
theorem preX_blind {D : va_G} {cy : Nat → ClassId} {av : List Value} {wl : va_W} {sz : Nat} {sa : Nat → Nat} : FrameBlind (va_Pc av (preX D cy wl sz sa)) := fun _ U _ _ h => ⟨h.1, ⟨h.2.1.1, h.2.1.2.1, va_K.moved (Vm.Alike.refl U.vm) h.2.1.2.2.1, h.2.1.2.2.2.1, NW.same rfl h.2.1.2.2.2.2⟩, XP.blind (U := U) rfl rfl h.2.2⟩
/-- the cell in front, the world behind -/
theorem w_tail {D : va_G} {cl : List vw_C} {o : Nat × va_E} {Y : va_W} {H : Heap} (hP : va_P D cl (o :: Y) H) : va_P D cl Y H := fun k q h => hP (k + 1) q h
theorem w_tailD {A : Nat → Prop} {o : Nat × va_E} {Y : va_W} (hD : va_D A (o :: Y)) : va_D A Y := ⟨fun i j p q h1 h2 h3 => by
  have := hD.1 (i + 1) (j + 1) p q h1 h2 h3
  omega, fun k q h => hD.2 (k + 1) q h⟩
theorem w_free {A : Nat → Prop} {o : Nat × va_E} {Y : va_W} {H0 H : Heap} {locs : List Loc} (hD : va_D A (o :: Y)) (hS : va_S A H0 H locs) (hA : ∀ q, H0.size ≤ q → A q) : ∀ q, va_A Y H.size q → A q := fun q h => by
  rcases h with ⟨k, e, h⟩ | h
  · exact hD.2 (k + 1) (q, e) h
  · exact hA q (Nat.le_trans hS.1 h)
theorem w_join {A : Nat → Prop} {D : va_G} {cl : List vw_C} {o : Nat × va_E} {Y Y1 : va_W} {H H1 : Heap} (hP : va_P D cl (o :: Y) H) (hD : va_D A (o :: Y)) (hk : ∀ q : Nat, q < H.size → ¬ va_A Y H.size q → H1[q]? = H[q]?) (hF : ∀ q, va_A Y H.size q → A q) (hP1 : va_P D cl Y1 H1) (hD1 : va_D (va_A Y H.size) Y1) : va_P D cl (o :: Y1) H1 ∧ va_D A (o :: Y1) := by
  have ol := (hP 0 o rfl).lt
  have on : ¬ va_A Y H.size o.1 := fun h => by
    rcases h with ⟨k, e, h⟩ | h
    · have := hD.1 0 (k + 1) o (o.1, e) rfl h rfl
      omega
    · omega
  refine ⟨fun k q h => ?_, ⟨fun i j p q h1 h2 h3 => ?_, fun k q h => ?_⟩⟩
  · cases k with
    | zero =>
      have e : o = q := Option.some.inj h
      rw [← e]
      exact (hP 0 o rfl).kept (hk o.1 ol on)
    | succ k => exact hP1 k q h
  · cases i with
    | zero =>
      cases j with
      | zero => rfl
      | succ j =>
        exfalso
        have e : o = p := Option.some.inj h1
        have := hD1.2 j q h2
        rw [← h3, ← e] at this
        exact on this
    | succ i =>
      cases j with
      | zero =>
        exfalso
        have e : o = q := Option.some.inj h2
        have := hD1.2 i p h1
        rw [h3, ← e] at this
        exact on this
      | succ j =>
        have := hD1.1 i j p q h1 h2 h3
        omega
  · cases k with
    | zero =>
      have e : o = q := Option.some.inj h
      rw [← e]
      exact hD.2 0 o rfl
    | succ k => exact hF q.1 (hD1.2 k q h)
/-- what a helper answers -/
def hK (Rr : (Int32 × St) ⊕ (Nat × St)) (km : Nat → Nat) : Int32 := match Rr with
  | .inl _ => 0
  | .inr u => nI (km u.1)
def hF (f : Nat → Int64) (Rr : (Int32 × St) ⊕ (Nat × St)) : Nat → Int64 := match Rr with
  | .inl u => vp_updL f 0 u.1.toInt64
  | .inr _ => f
def preH (D : va_G) (cy : Nat → ClassId) (cL : ClassId) (ws : va_W) (sz : Nat) (sa : Nat → Nat) (U : State) : Prop := preX D cy ws sz sa U ∧ va_K D vwCl [(cL, .long)] U ∧ va_Nc (xn 2) (xn 1) U
theorem preH_blind {D : va_G} {cy : Nat → ClassId} {cL : ClassId} {av : List Value} {wl : va_W} {sz : Nat} {sa : Nat → Nat} : FrameBlind (va_Pc av (preH D cy cL wl sz sa)) := fun a U g mk h => by
  obtain ⟨h1, h2, h3, h4⟩ := h
  exact ⟨h1, (preX_blind (av := av) a U g mk ⟨h1, h2⟩).2, va_K.moved (Vm.Alike.refl U.vm) h3, va_Nc.moved (Vm.Alike.refl U.vm) h4⟩
def posH (D : va_G) (cy : Nat → ClassId) (cL : ClassId) (a : Nat → Nat) (q : Nat) (f : Nat → Int64) (A : Nat → Prop) (u : (Int32 × St) ⊕ (Nat × St)) (t : State) : Prop := ∃ r : Nat → Nat, va_P D vwCl (oW cL q (hF f u) ++ wC cy a r (stQ u)) t.heap ∧ va_D A (oW cL q (hF f u) ++ wC cy a r (stQ u))
abbrev QH (D : va_G) (cy : Nat → ClassId) (cL : ClassId) (a : Nat → Nat) (q : Nat) (f : Nat → Int64) (A : Nat → Prop) (km : Nat → Nat) (Rr : (Int32 × St) ⊕ (Nat × St)) : Array Value → State → Outcome → State → Prop := va_Qi (fun v u => v = hK Rr km ∧ u = Rr) (posH D cy cL a q f A) A
abbrev X0 : String → State → State → Prop := vx_X (fun _ : Unit => False) (fun _ _ _ => True) (fun _ => False)
theorem cnt_e {N : Nat} {S : St} {x : Int32} {u : Nat × St} (h : fX7_count N S x = some (.inr u)) : u = (3, S) := by
  unfold fX7_count fX3_betas fX3_annihilations fX3_passings fX2_erasedNodes fX2_size at h
  by_cases c0 : x = 0
  · rw [if_pos c0] at h; cases h
  · rw [if_neg c0] at h
    by_cases c1 : x = 1
    · rw [if_pos c1] at h; cases h
    · rw [if_neg c1] at h
      by_cases c2 : x = 2
      · rw [if_pos c2] at h; cases h
      · rw [if_neg c2] at h
        by_cases c3 : x = 3
        · rw [if_pos c3] at h; cases h
        · rw [if_neg c3] at h
          by_cases c4 : x = 4
          · rw [if_pos c4] at h; cases h
          · rw [if_neg c4] at h
            by_cases c5 : x = 5
            · rw [if_pos c5] at h; cases h
            · rw [if_neg c5] at h
              by_cases c6 : x = 6
              · rw [if_pos c6] at h; cases h
              · rw [if_neg c6] at h
                by_cases c7 : x = 7
                · rw [if_pos c7] at h; cases h
                · rw [if_neg c7] at h
                  exact (Sum.inr.inj (Option.some.inj h)).symm
set_option maxHeartbeats 4000000 in
set_option maxRecDepth 100000 in
theorem cL_count_met (l : Launch) (hlS : l.stackTraces = false) (D : va_G) (cy : Nat → ClassId) (cL : ClassId) (a r sa : Nat → Nat) (q : Nat) (f : Nat → Int64) (sz N : Nat) (S : St) (p1 : Int32) (Rr : (Int32 × St) ⊕ (Nat × St)) (hf : fX7_count N S p1 = some Rr) (he : ∀ u, Rr = .inr u → u.1 = 3) : vx_Met l yL_count wsL_count ({ frames := 7, cells := 1, slots := 6, locals := 130 } : Room) (va_Pc [.ref (a 159), .int p1, .ref q] (preH D cy cL (oW cL q f ++ wC cy a r S) sz sa)) (QH D cy cL a q f (va_A (oW cL q f ++ wC cy a r S) sz) (fun _ => 1) Rr) X0 (1) (6) (va_A (oW cL q f ++ wC cy a r S) sz) := by
  refine vx_ofWH (cc := cL_count) (maxL := 4) (ret := (some .int)) (hh := [(0, 9, 12, 28)]) (by decide) rfl ?_
  intro p e s m args below meth c s₁ B hml hv
  obtain ⟨rfl, ⟨⟨rfl, hP, hK0, hD0, hN⟩, hX⟩, hKL, hNc⟩ := hv
  have hlocks := B.notSynchronized
  have hr := B.returns
  have C : Cx p s m _ c cL_count 4 wsL_count RL D cy := ⟨B.exec, B.bytes, hml, findClass_of_methodNamed B.named, atoms_spec (ws := wsL_count) B.pre, hK0, hN⟩
  have hts := C.2.2.2.2.1
  have hT := vx_table (x := yL_count) B (hts _ (List.mem_cons_self ..))
  have hD := hD0.self (sz := s.heap.size)
  have hA : ∀ z : Nat, s.heap.size ≤ z → va_A (oW cL q f ++ wC cy a r S) s.heap.size z := fun z h => Or.inr h
  generalize va_A (oW cL q f ++ wC cy a r S) s.heap.size = A at hD hA hX ⊢
  have hS : va_S A s.heap s.heap [] := va_S.rf
  have hl := lv_entry ([.ref (a 159), .int p1, .ref q]) (n := 4) (Nat.le_of_ble_eq_true rfl)
  rw [lg_entry_eq]
  generalize (lg_sl ([.ref (a 159), .int p1, .ref q]) ++ List.replicate (4 - (lg_sl ([.ref (a 159), .int p1, .ref q])).length) Slot.unset).toArray = ls at hl ⊢
  have hl : lv_has ls 4 [(0, .ref (a 159)), (1, .int p1), (2, .ref q)] := hl
  refine lv_aload_n C.1 C.2.1 dL_count_0 rfl (lv_at hl 2 rfl) ?_
  refine lv_iconst (v := 0) C.1 C.2.1 dL_count_1 (by decide) ?_
  refine lv_aload_n C.1 C.2.1 dL_count_2 rfl (lv_at hl 0 rfl) ?_
  refine lv_iload_n C.1 C.2.1 dL_count_3 rfl (lv_at hl 1 rfl) ?_
  have hP : va_P D vwCl ((q, .inl (cL, 1, .inr (.inl f))) :: wC cy a r S) s.heap := hP
  have hD : va_D A ((q, .inl (cL, 1, .inr (.inl f))) :: wC cy a r S) := hD
  have hPc := w_tail hP
  have hDc := w_tailD hD
  have hFc := w_free hD hS hA
  refine vx_calli (vx_runV (As := [.int p1]) (rest := [.int 0, .ref q]) ⟨C.1, C.2.1, C.2.2.1, C.2.2.2.1, hts⟩ (cX7_count_met l hlS D cy a r sa s.heap.size N S p1 Rr hf) (cwV 1 hts gL_count_X7_count rfl rfl rfl (by decide +kernel) ⟨Nat.le_of_ble_eq_true rfl, Nat.le_of_ble_eq_true rfl⟩) ⟨preX_blind, va_recv hK0 hPc (ci := 7) (q0 := 7) rfl rfl, fun U hU hW => ⟨rfl, ⟨by rw [hU], by rw [hU]; exact hPc, va_K.moved hW.alike hK0, hDc.weaken (fun _ _ _ _ => trivial), NW.warm hW hN⟩, hX.go hW hFc (fun z _ _ => by rw [hU])⟩⟩ rfl rfl hl.1 rfl (lv_room (Nat.le_of_ble_eq_true rfl)) dL_count_4 ⟨Nat.le_of_ble_eq_true rfl, Nat.le_of_ble_eq_true rfl⟩) hS (fun z _ h => hFc z h) hFc (fun z _ h => hFc z h) (fun E ce q9 u t H1 locs1 ht hvm hu hBX hz1 hk1 hS1 hcell hcv hcl => ?_) (fun v u t H1 locs1 ht hvm hu hB hz1 hk1 hS1 => ?_)
  · obtain ⟨hE, hP1, hK1, hD1⟩ := hBX
    rw [ht] at hP1
    obtain ⟨hP, hD⟩ := w_join hP hD hk1 hFc hP1 hD1
    have hk : u.1 = 3 := he u hu.symm
    rw [hk] at hE
    subst hE
    refine vx_catch C.2.2.2.1 [] ⟨0, 9, 12, 28⟩ [] hT (fun z hz => by cases hz) (by decide) (by decide) (name := xn 3) (hts _ (by decide +kernel)) (va_Nw.use (xBad_ot (k := 3) (List.mem_cons_self ..)) (hX.2.2.2 3 (by decide) _ (List.mem_cons_self ..))) hcell hcv hcl ?_
    refine lv_astore_n (lv' := [(3, .ref q9), (0, .ref (a 159)), (1, .int p1), (2, .ref q)]) C.1 C.2.1 dL_count_12 rfl hl (by decide) rfl (fun ls hl => ?_)
    refine lv_iconst (v := 1) C.1 C.2.1 dL_count_13 (by decide) ?_
    subst hu
    refine vx_ret (W.widen (k := 1) (n := 6) (by omega) (by omega) ?_)
    exact W.zret C.1 C.2.1 hr rfl (fun t ht hw => ⟨⟨1, .inr u, rfl, ⟨rfl, rfl⟩, r, by rw [ht]; exact hP, hD⟩, hS1.F ht⟩) hS1.2.2 dL_count_14 hlocks
  · obtain ⟨hP1, hK1, hD1⟩ := hB
    rw [ht] at hP1
    obtain ⟨hP, hD⟩ := w_join hP hD hk1 hFc hP1 hD1
    refine lv_i2l (v := v.toInt64) C.1 C.2.1 dL_count_7 rfl ?_
    refine va_last C.1 C.2.1 hKL hP hD hS1 0 0 rfl rfl (show vp_in (0 : Int32) 1 from vp_in_nI (n := 0) (N := 1) (by omega) (by omega)) dL_count_8 (fun H2 locs2 hP hD hS2 => ?_)
    refine lv_goto (tgt := 15) C.1 C.2.1 dL_count_9 (by decide) ?_
    refine lv_iconst (v := 0) C.1 C.2.1 dL_count_15 (by decide) ?_
    subst hu
    refine vx_ret (W.widen (k := 1) (n := 6) (by omega) (by omega) ?_)
    exact W.zret C.1 C.2.1 hr rfl (fun t ht hw => ⟨⟨0, .inl (v, u), rfl, ⟨rfl, rfl⟩, r, by rw [ht]; exact hP, hD⟩, hS2.F ht⟩) hS2.2.2 dL_count_16 hlocks
theorem let_e {N : Nat} {S : St} {x : Int32} {u : Nat × St} (h : fX7_letter N S x = some (.inr u)) : u.1 = 3 := by
  unfold fX7_letter fX7_letter_12 at h
  by_cases c0 : x < 0
  · rw [if_pos c0] at h
    rw [← Sum.inr.inj (Option.some.inj h)]
  · rw [if_neg c0] at h
    by_cases c1 : x < S.1 143
    · rw [if_pos c1] at h
      obtain ⟨v, S2, -, h⟩ := bd2_el h
      cases h
    · rw [if_neg c1] at h
      rw [← Sum.inr.inj (Option.some.inj h)]
theorem nod_e {N : Nat} {S : St} {x : Int32} {u : Nat × St} (h : fX7_nodes N S x = some (.inr u)) : u.1 = 3 := by
  unfold fX7_nodes fX7_nodes_9 at h
  by_cases c0 : x < 0
  · rw [if_pos c0] at h
    rw [← Sum.inr.inj (Option.some.inj h)]
  · rw [if_neg c0] at h
    by_cases c1 : x ≤ 5
    · rw [if_pos c1] at h
      obtain ⟨v, S2, -, h⟩ := bd2_el h
      cases h
    · rw [if_neg c1] at h
      rw [← Sum.inr.inj (Option.some.inj h)]
theorem run_e {N : Nat} {S : St} {x : Int32} {u : Nat × St} (h : fX7_run N S x = some (.inr u)) : u = (1, S) := by
  unfold fX7_run at h
  by_cases c0 : x < 0
  · rw [if_pos c0] at h
    exact (Sum.inr.inj (Option.some.inj h)).symm
  · rw [if_neg c0] at h
    by_cases c1 : x ≤ 100000
    · rw [if_pos c1] at h
      obtain ⟨v, S2, -, h⟩ := bd2_el h
      by_cases c2 : v = 0
      · rw [if_pos c2] at h
        obtain ⟨v3, S3, -, h⟩ := bd2_el h
        cases h
      · rw [if_neg c2] at h
        cases h
    · rw [if_neg c1] at h
      exact (Sum.inr.inj (Option.some.inj h)).symm
set_option maxHeartbeats 4000000 in
set_option maxRecDepth 100000 in
theorem cL_letter_met (l : Launch) (hlS : l.stackTraces = false) (D : va_G) (cy : Nat → ClassId) (cL : ClassId) (a r sa : Nat → Nat) (q : Nat) (f : Nat → Int64) (sz N : Nat) (S : St) (p1 : Int32) (Rr : (Int32 × St) ⊕ (Nat × St)) (hf : fX7_letter N S p1 = some Rr) (he : ∀ u, Rr = .inr u → u.1 = 3) : vx_Met l yL_letter wsL_letter ({ frames := 7, cells := 1, slots := 6, locals := 130 } : Room) (va_Pc [.ref (a 159), .int p1, .ref q] (preH D cy cL (oW cL q f ++ wC cy a r S) sz sa)) (QH D cy cL a q f (va_A (oW cL q f ++ wC cy a r S) sz) (fun _ => 1) Rr) X0 (1) (6) (va_A (oW cL q f ++ wC cy a r S) sz) := by
  refine vx_ofWH (cc := cL_letter) (maxL := 4) (ret := (some .int)) (hh := [(0, 9, 12, 28)]) (by decide) rfl ?_
  intro p e s m args below meth c s₁ B hml hv
  obtain ⟨rfl, ⟨⟨rfl, hP, hK0, hD0, hN⟩, hX⟩, hKL, hNc⟩ := hv
  have hlocks := B.notSynchronized
  have hr := B.returns
  have C : Cx p s m _ c cL_letter 4 wsL_letter RL D cy := ⟨B.exec, B.bytes, hml, findClass_of_methodNamed B.named, atoms_spec (ws := wsL_letter) B.pre, hK0, hN⟩
  have hts := C.2.2.2.2.1
  have hT := vx_table (x := yL_count) B (hts _ (List.mem_cons_self ..))
  have hD := hD0.self (sz := s.heap.size)
  have hA : ∀ z : Nat, s.heap.size ≤ z → va_A (oW cL q f ++ wC cy a r S) s.heap.size z := fun z h => Or.inr h
  generalize va_A (oW cL q f ++ wC cy a r S) s.heap.size = A at hD hA hX ⊢
  have hS : va_S A s.heap s.heap [] := va_S.rf
  have hl := lv_entry ([.ref (a 159), .int p1, .ref q]) (n := 4) (Nat.le_of_ble_eq_true rfl)
  rw [lg_entry_eq]
  generalize (lg_sl ([.ref (a 159), .int p1, .ref q]) ++ List.replicate (4 - (lg_sl ([.ref (a 159), .int p1, .ref q])).length) Slot.unset).toArray = ls at hl ⊢
  have hl : lv_has ls 4 [(0, .ref (a 159)), (1, .int p1), (2, .ref q)] := hl
  refine lv_aload_n C.1 C.2.1 dL_letter_0 rfl (lv_at hl 2 rfl) ?_
  refine lv_iconst (v := 0) C.1 C.2.1 dL_letter_1 (by decide) ?_
  refine lv_aload_n C.1 C.2.1 dL_letter_2 rfl (lv_at hl 0 rfl) ?_
  refine lv_iload_n C.1 C.2.1 dL_letter_3 rfl (lv_at hl 1 rfl) ?_
  have hP : va_P D vwCl ((q, .inl (cL, 1, .inr (.inl f))) :: wC cy a r S) s.heap := hP
  have hD : va_D A ((q, .inl (cL, 1, .inr (.inl f))) :: wC cy a r S) := hD
  have hPc := w_tail hP
  have hDc := w_tailD hD
  have hFc := w_free hD hS hA
  refine vx_calli (vx_runV (As := [.int p1]) (rest := [.int 0, .ref q]) ⟨C.1, C.2.1, C.2.2.1, C.2.2.2.1, hts⟩ (cX7_letter_met l hlS D cy a r sa s.heap.size N S p1 Rr hf) (cwV 1 hts gL_letter_X7_letter rfl rfl rfl (by decide +kernel) ⟨Nat.le_of_ble_eq_true rfl, Nat.le_of_ble_eq_true rfl⟩) ⟨preX_blind, va_recv hK0 hPc (ci := 7) (q0 := 7) rfl rfl, fun U hU hW => ⟨rfl, ⟨by rw [hU], by rw [hU]; exact hPc, va_K.moved hW.alike hK0, hDc.weaken (fun _ _ _ _ => trivial), NW.warm hW hN⟩, hX.go hW hFc (fun z _ _ => by rw [hU])⟩⟩ rfl rfl hl.1 rfl (lv_room (Nat.le_of_ble_eq_true rfl)) dL_letter_4 ⟨Nat.le_of_ble_eq_true rfl, Nat.le_of_ble_eq_true rfl⟩) hS (fun z _ h => hFc z h) hFc (fun z _ h => hFc z h) (fun E ce q9 u t H1 locs1 ht hvm hu hBX hz1 hk1 hS1 hcell hcv hcl => ?_) (fun v u t H1 locs1 ht hvm hu hB hz1 hk1 hS1 => ?_)
  · obtain ⟨hE, hP1, hK1, hD1⟩ := hBX
    rw [ht] at hP1
    obtain ⟨hP, hD⟩ := w_join hP hD hk1 hFc hP1 hD1
    have hk : u.1 = 3 := he u hu.symm
    rw [hk] at hE
    subst hE
    refine vx_catch C.2.2.2.1 [] ⟨0, 9, 12, 28⟩ [] hT (fun z hz => by cases hz) (by decide) (by decide) (name := xn 3) (hts _ (by decide +kernel)) (va_Nw.use (xBad_ot (k := 3) (List.mem_cons_self ..)) (hX.2.2.2 3 (by decide) _ (List.mem_cons_self ..))) hcell hcv hcl ?_
    refine lv_astore_n (lv' := [(3, .ref q9), (0, .ref (a 159)), (1, .int p1), (2, .ref q)]) C.1 C.2.1 dL_letter_12 rfl hl (by decide) rfl (fun ls hl => ?_)
    refine lv_iconst (v := 1) C.1 C.2.1 dL_letter_13 (by decide) ?_
    subst hu
    refine vx_ret (W.widen (k := 1) (n := 6) (by omega) (by omega) ?_)
    exact W.zret C.1 C.2.1 hr rfl (fun t ht hw => ⟨⟨1, .inr u, rfl, ⟨rfl, rfl⟩, r, by rw [ht]; exact hP, hD⟩, hS1.F ht⟩) hS1.2.2 dL_letter_14 hlocks
  · obtain ⟨hP1, hK1, hD1⟩ := hB
    rw [ht] at hP1
    obtain ⟨hP, hD⟩ := w_join hP hD hk1 hFc hP1 hD1
    refine lv_i2l (v := v.toInt64) C.1 C.2.1 dL_letter_7 rfl ?_
    refine va_last C.1 C.2.1 hKL hP hD hS1 0 0 rfl rfl (show vp_in (0 : Int32) 1 from vp_in_nI (n := 0) (N := 1) (by omega) (by omega)) dL_letter_8 (fun H2 locs2 hP hD hS2 => ?_)
    refine lv_goto (tgt := 15) C.1 C.2.1 dL_letter_9 (by decide) ?_
    refine lv_iconst (v := 0) C.1 C.2.1 dL_letter_15 (by decide) ?_
    subst hu
    refine vx_ret (W.widen (k := 1) (n := 6) (by omega) (by omega) ?_)
    exact W.zret C.1 C.2.1 hr rfl (fun t ht hw => ⟨⟨0, .inl (v, u), rfl, ⟨rfl, rfl⟩, r, by rw [ht]; exact hP, hD⟩, hS2.F ht⟩) hS2.2.2 dL_letter_16 hlocks
set_option maxHeartbeats 4000000 in
set_option maxRecDepth 100000 in
theorem cL_nodes_met (l : Launch) (hlS : l.stackTraces = false) (D : va_G) (cy : Nat → ClassId) (cL : ClassId) (a r sa : Nat → Nat) (q : Nat) (f : Nat → Int64) (sz N : Nat) (S : St) (p1 : Int32) (Rr : (Int32 × St) ⊕ (Nat × St)) (hf : fX7_nodes N S p1 = some Rr) (he : ∀ u, Rr = .inr u → u.1 = 3) : vx_Met l yL_nodes wsL_nodes ({ frames := 7, cells := 1, slots := 6, locals := 130 } : Room) (va_Pc [.ref (a 159), .int p1, .ref q] (preH D cy cL (oW cL q f ++ wC cy a r S) sz sa)) (QH D cy cL a q f (va_A (oW cL q f ++ wC cy a r S) sz) (fun _ => 1) Rr) X0 (1) (6) (va_A (oW cL q f ++ wC cy a r S) sz) := by
  refine vx_ofWH (cc := cL_nodes) (maxL := 4) (ret := (some .int)) (hh := [(0, 9, 12, 28)]) (by decide) rfl ?_
  intro p e s m args below meth c s₁ B hml hv
  obtain ⟨rfl, ⟨⟨rfl, hP, hK0, hD0, hN⟩, hX⟩, hKL, hNc⟩ := hv
  have hlocks := B.notSynchronized
  have hr := B.returns
  have C : Cx p s m _ c cL_nodes 4 wsL_nodes RL D cy := ⟨B.exec, B.bytes, hml, findClass_of_methodNamed B.named, atoms_spec (ws := wsL_nodes) B.pre, hK0, hN⟩
  have hts := C.2.2.2.2.1
  have hT := vx_table (x := yL_count) B (hts _ (List.mem_cons_self ..))
  have hD := hD0.self (sz := s.heap.size)
  have hA : ∀ z : Nat, s.heap.size ≤ z → va_A (oW cL q f ++ wC cy a r S) s.heap.size z := fun z h => Or.inr h
  generalize va_A (oW cL q f ++ wC cy a r S) s.heap.size = A at hD hA hX ⊢
  have hS : va_S A s.heap s.heap [] := va_S.rf
  have hl := lv_entry ([.ref (a 159), .int p1, .ref q]) (n := 4) (Nat.le_of_ble_eq_true rfl)
  rw [lg_entry_eq]
  generalize (lg_sl ([.ref (a 159), .int p1, .ref q]) ++ List.replicate (4 - (lg_sl ([.ref (a 159), .int p1, .ref q])).length) Slot.unset).toArray = ls at hl ⊢
  have hl : lv_has ls 4 [(0, .ref (a 159)), (1, .int p1), (2, .ref q)] := hl
  refine lv_aload_n C.1 C.2.1 dL_nodes_0 rfl (lv_at hl 2 rfl) ?_
  refine lv_iconst (v := 0) C.1 C.2.1 dL_nodes_1 (by decide) ?_
  refine lv_aload_n C.1 C.2.1 dL_nodes_2 rfl (lv_at hl 0 rfl) ?_
  refine lv_iload_n C.1 C.2.1 dL_nodes_3 rfl (lv_at hl 1 rfl) ?_
  have hP : va_P D vwCl ((q, .inl (cL, 1, .inr (.inl f))) :: wC cy a r S) s.heap := hP
  have hD : va_D A ((q, .inl (cL, 1, .inr (.inl f))) :: wC cy a r S) := hD
  have hPc := w_tail hP
  have hDc := w_tailD hD
  have hFc := w_free hD hS hA
  refine vx_calli (vx_runV (As := [.int p1]) (rest := [.int 0, .ref q]) ⟨C.1, C.2.1, C.2.2.1, C.2.2.2.1, hts⟩ (cX7_nodes_met l hlS D cy a r sa s.heap.size N S p1 Rr hf) (cwV 1 hts gL_nodes_X7_nodes rfl rfl rfl (by decide +kernel) ⟨Nat.le_of_ble_eq_true rfl, Nat.le_of_ble_eq_true rfl⟩) ⟨preX_blind, va_recv hK0 hPc (ci := 7) (q0 := 7) rfl rfl, fun U hU hW => ⟨rfl, ⟨by rw [hU], by rw [hU]; exact hPc, va_K.moved hW.alike hK0, hDc.weaken (fun _ _ _ _ => trivial), NW.warm hW hN⟩, hX.go hW hFc (fun z _ _ => by rw [hU])⟩⟩ rfl rfl hl.1 rfl (lv_room (Nat.le_of_ble_eq_true rfl)) dL_nodes_4 ⟨Nat.le_of_ble_eq_true rfl, Nat.le_of_ble_eq_true rfl⟩) hS (fun z _ h => hFc z h) hFc (fun z _ h => hFc z h) (fun E ce q9 u t H1 locs1 ht hvm hu hBX hz1 hk1 hS1 hcell hcv hcl => ?_) (fun v u t H1 locs1 ht hvm hu hB hz1 hk1 hS1 => ?_)
  · obtain ⟨hE, hP1, hK1, hD1⟩ := hBX
    rw [ht] at hP1
    obtain ⟨hP, hD⟩ := w_join hP hD hk1 hFc hP1 hD1
    have hk : u.1 = 3 := he u hu.symm
    rw [hk] at hE
    subst hE
    refine vx_catch C.2.2.2.1 [] ⟨0, 9, 12, 28⟩ [] hT (fun z hz => by cases hz) (by decide) (by decide) (name := xn 3) (hts _ (by decide +kernel)) (va_Nw.use (xBad_ot (k := 3) (List.mem_cons_self ..)) (hX.2.2.2 3 (by decide) _ (List.mem_cons_self ..))) hcell hcv hcl ?_
    refine lv_astore_n (lv' := [(3, .ref q9), (0, .ref (a 159)), (1, .int p1), (2, .ref q)]) C.1 C.2.1 dL_nodes_12 rfl hl (by decide) rfl (fun ls hl => ?_)
    refine lv_iconst (v := 1) C.1 C.2.1 dL_nodes_13 (by decide) ?_
    subst hu
    refine vx_ret (W.widen (k := 1) (n := 6) (by omega) (by omega) ?_)
    exact W.zret C.1 C.2.1 hr rfl (fun t ht hw => ⟨⟨1, .inr u, rfl, ⟨rfl, rfl⟩, r, by rw [ht]; exact hP, hD⟩, hS1.F ht⟩) hS1.2.2 dL_nodes_14 hlocks
  · obtain ⟨hP1, hK1, hD1⟩ := hB
    rw [ht] at hP1
    obtain ⟨hP, hD⟩ := w_join hP hD hk1 hFc hP1 hD1
    refine lv_i2l (v := v.toInt64) C.1 C.2.1 dL_nodes_7 rfl ?_
    refine va_last C.1 C.2.1 hKL hP hD hS1 0 0 rfl rfl (show vp_in (0 : Int32) 1 from vp_in_nI (n := 0) (N := 1) (by omega) (by omega)) dL_nodes_8 (fun H2 locs2 hP hD hS2 => ?_)
    refine lv_goto (tgt := 15) C.1 C.2.1 dL_nodes_9 (by decide) ?_
    refine lv_iconst (v := 0) C.1 C.2.1 dL_nodes_15 (by decide) ?_
    subst hu
    refine vx_ret (W.widen (k := 1) (n := 6) (by omega) (by omega) ?_)
    exact W.zret C.1 C.2.1 hr rfl (fun t ht hw => ⟨⟨0, .inl (v, u), rfl, ⟨rfl, rfl⟩, r, by rw [ht]; exact hP, hD⟩, hS2.F ht⟩) hS2.2.2 dL_nodes_16 hlocks
set_option maxHeartbeats 4000000 in
set_option maxRecDepth 100000 in
theorem cL_run_met (l : Launch) (hlS : l.stackTraces = false) (D : va_G) (cy : Nat → ClassId) (cL : ClassId) (a r sa : Nat → Nat) (q : Nat) (f : Nat → Int64) (sz N : Nat) (S : St) (p1 : Int32) (Rr : (Int32 × St) ⊕ (Nat × St)) (hf : fX7_run N S p1 = some Rr) (he : ∀ u, Rr = .inr u → u.1 = 1) : vx_Met l yL_run wsL_run ({ frames := 9, cells := gc (stQ Rr) - gc S + 1, slots := gs (stQ Rr) - gs S + 6, locals := 270 } : Room) (va_Pc [.ref (a 159), .int p1, .ref q] (preH D cy cL (oW cL q f ++ wC cy a r S) sz sa)) (QH D cy cL a q f (va_A (oW cL q f ++ wC cy a r S) sz) (fun _ => 1) Rr) X0 (gc (stQ Rr) - gc S + 1) (gs (stQ Rr) - gs S + 6) (va_A (oW cL q f ++ wC cy a r S) sz) := by
  refine vx_ofWH (cc := cL_run) (maxL := 4) (ret := (some .int)) (hh := [(0, 9, 12, 13)]) (by decide) rfl ?_
  intro p e s m args below meth c s₁ B hml hv
  obtain ⟨rfl, ⟨⟨rfl, hP, hK0, hD0, hN⟩, hX⟩, hKL, hNc⟩ := hv
  have hlocks := B.notSynchronized
  have hr := B.returns
  have C : Cx p s m _ c cL_run 4 wsL_run RL D cy := ⟨B.exec, B.bytes, hml, findClass_of_methodNamed B.named, atoms_spec (ws := wsL_run) B.pre, hK0, hN⟩
  have hts := C.2.2.2.2.1
  have hT := vx_table (x := yL_count) B (hts _ (List.mem_cons_self ..))
  have hD := hD0.self (sz := s.heap.size)
  have hA : ∀ z : Nat, s.heap.size ≤ z → va_A (oW cL q f ++ wC cy a r S) s.heap.size z := fun z h => Or.inr h
  generalize va_A (oW cL q f ++ wC cy a r S) s.heap.size = A at hD hA hX ⊢
  have hS : va_S A s.heap s.heap [] := va_S.rf
  have hl := lv_entry ([.ref (a 159), .int p1, .ref q]) (n := 4) (Nat.le_of_ble_eq_true rfl)
  rw [lg_entry_eq]
  generalize (lg_sl ([.ref (a 159), .int p1, .ref q]) ++ List.replicate (4 - (lg_sl ([.ref (a 159), .int p1, .ref q])).length) Slot.unset).toArray = ls at hl ⊢
  have hl : lv_has ls 4 [(0, .ref (a 159)), (1, .int p1), (2, .ref q)] := hl
  refine lv_aload_n C.1 C.2.1 dL_run_0 rfl (lv_at hl 2 rfl) ?_
  refine lv_iconst (v := 0) C.1 C.2.1 dL_run_1 (by decide) ?_
  refine lv_aload_n C.1 C.2.1 dL_run_2 rfl (lv_at hl 0 rfl) ?_
  refine lv_iload_n C.1 C.2.1 dL_run_3 rfl (lv_at hl 1 rfl) ?_
  have hP : va_P D vwCl ((q, .inl (cL, 1, .inr (.inl f))) :: wC cy a r S) s.heap := hP
  have hD : va_D A ((q, .inl (cL, 1, .inr (.inl f))) :: wC cy a r S) := hD
  have hPc := w_tail hP
  have hDc := w_tailD hD
  have hFc := w_free hD hS hA
  refine vx_calli (vx_runV (As := [.int p1]) (rest := [.int 0, .ref q]) ⟨C.1, C.2.1, C.2.2.1, C.2.2.2.1, hts⟩ (cX7_run_met l hlS D cy a r sa s.heap.size N S p1 Rr hf) (cwV 1 hts gL_run_X7_run rfl rfl rfl (by decide +kernel) ⟨Nat.le_of_ble_eq_true rfl, Nat.le_of_ble_eq_true rfl⟩) ⟨preX_blind, va_recv hK0 hPc (ci := 7) (q0 := 7) rfl rfl, fun U hU hW => ⟨rfl, ⟨by rw [hU], by rw [hU]; exact hPc, va_K.moved hW.alike hK0, hDc.weaken (fun _ _ _ _ => trivial), NW.warm hW hN⟩, hX.go hW hFc (fun z _ _ => by rw [hU])⟩⟩ rfl rfl hl.1 rfl (lv_room (Nat.le_of_ble_eq_true rfl)) dL_run_4 ⟨by show 0 + _ ≤ gc (stQ Rr) - gc S + 1; omega, by show 0 + _ ≤ gs (stQ Rr) - gs S + 6; omega⟩) hS (fun z _ h => hFc z h) hFc (fun z _ h => hFc z h) (fun E ce q9 u t H1 locs1 ht hvm hu hBX hz1 hk1 hS1 hcell hcv hcl => ?_) (fun v u t H1 locs1 ht hvm hu hB hz1 hk1 hS1 => ?_)
  · obtain ⟨hE, hP1, hK1, hD1⟩ := hBX
    rw [ht] at hP1
    obtain ⟨hP, hD⟩ := w_join hP hD hk1 hFc hP1 hD1
    have hk : u.1 = 1 := he u hu.symm
    rw [hk] at hE
    subst hE
    refine vx_catch C.2.2.2.1 [] ⟨0, 9, 12, 13⟩ [] hT (fun z hz => by cases hz) (by decide) (by decide) (name := xn 1) (hts _ (by decide +kernel)) (va_Nw.use (xBad_ot (k := 1) (List.mem_cons_self ..)) (hX.2.2.2 1 (by decide) _ (List.mem_cons_self ..))) hcell hcv hcl ?_
    refine lv_astore_n (lv' := [(3, .ref q9), (0, .ref (a 159)), (1, .int p1), (2, .ref q)]) C.1 C.2.1 dL_run_12 rfl hl (by decide) rfl (fun ls hl => ?_)
    refine lv_iconst (v := 1) C.1 C.2.1 dL_run_13 (by decide) ?_
    subst hu
    refine vx_ret (W.widen (k := gc (stQ (Sum.inr u : (Int32 × St) ⊕ (Nat × St))) - gc S + 1) (n := gs (stQ (Sum.inr u : (Int32 × St) ⊕ (Nat × St))) - gs S + 6) (by omega) (by omega) ?_)
    exact W.zret C.1 C.2.1 hr rfl (fun t ht hw => ⟨⟨1, .inr u, rfl, ⟨rfl, rfl⟩, r, by rw [ht]; exact hP, hD⟩, hS1.F ht⟩) hS1.2.2 dL_run_14 hlocks
  · obtain ⟨r2, hP1, hK1, hD1⟩ := hB
    rw [ht] at hP1
    obtain ⟨hP, hD⟩ := w_join hP hD hk1 hFc hP1 hD1
    refine lv_i2l (v := v.toInt64) C.1 C.2.1 dL_run_7 rfl ?_
    refine va_last C.1 C.2.1 hKL hP hD hS1 0 0 rfl rfl (show vp_in (0 : Int32) 1 from vp_in_nI (n := 0) (N := 1) (by omega) (by omega)) dL_run_8 (fun H2 locs2 hP hD hS2 => ?_)
    refine lv_goto (tgt := 15) C.1 C.2.1 dL_run_9 (by decide) ?_
    refine lv_iconst (v := 0) C.1 C.2.1 dL_run_15 (by decide) ?_
    subst hu
    refine vx_ret (W.widen (k := gc (stQ (Sum.inl (v, u) : (Int32 × St) ⊕ (Nat × St))) - gc S + 1) (n := gs (stQ (Sum.inl (v, u) : (Int32 × St) ⊕ (Nat × St))) - gs S + 6) (by omega) (by omega) ?_)
    exact W.zret C.1 C.2.1 hr rfl (fun t ht hw => ⟨⟨0, .inl (v, u), rfl, ⟨rfl, rfl⟩, r2, by rw [ht]; exact hP, hD⟩, hS2.F ht⟩) hS2.2.2 dL_run_16 hlocks
