theorem mX3_clear_15 : Cond.fieldLink RX3 15 "SharedLambda$Meetings" "betas" "I" ∈ wsX3_clear := by decide +kernel
theorem mX3_clear_19 : Cond.fieldLink RX3 19 "SharedLambda$Meetings" "annihilations" "I" ∈ wsX3_clear := by decide +kernel
theorem mX3_clear_22 : Cond.fieldLink RX3 22 "SharedLambda$Meetings" "passings" "I" ∈ wsX3_clear := by decide +kernel
theorem kX3_clear_3 : ∀ w ∈ u_ws RX3 TX3 4, w ∈ wsX3_clear := fun _ h => List.mem_cons_of_mem _ (List.mem_append_right _ h)
def fX3_clear (N : Nat) (S : St) : Option (St) :=
  bnd (sI S 61 (0 : Int32)) fun S1 =>
  bnd (sI S1 62 (0 : Int32)) fun S2 =>
  bnd (sI S2 63 (0 : Int32)) fun S3 =>
  some S3
set_option maxHeartbeats 4000000 in
set_option maxRecDepth 100000 in
theorem cX3_clear_met (l : Launch) (D : va_G) (cy : Nat → ClassId) (a r : Nat → Nat) (sz N : Nat) (S : St) (Rr : St) (hf : fX3_clear N S  = some Rr) : Met l yX3_clear wsX3_clear ({ frames := 0, cells := 0, slots := 0, locals := 0 } : Room) (va_Pc [.ref (a 79)] (preW D cy (wC cy a r S) sz)) (QV D cy (wC cy a r) (va_A (wC cy a r S) sz) Rr) 0 0 (va_A (wC cy a r S) sz) := by
  refine Met.ofW (cc := cX3_clear) (maxL := 1) (ret := none) (by decide) rfl ?_
  intro p e s m args below meth c s₁ B hml hv
  obtain ⟨rfl, rfl, hP, hK, hD0, hN⟩ := hv
  have hlocks := B.notSynchronized
  have hr := B.returns
  have C : Cx p s m _ c cX3_clear 1 wsX3_clear RX3 D cy := ⟨B.exec, B.bytes, hml, findClass_of_methodNamed B.named, atoms_spec (ws := wsX3_clear) B.pre, hK, hN⟩
  have hW := ww_start (w := wC cy a r) hP hD0
  generalize va_A (wC cy a r S) s.heap.size = A at hW ⊢
  have hl := lv_entry ([.ref (a 79)]) (n := 1) (Nat.le_of_ble_eq_true rfl)
  rw [lg_entry_eq]
  generalize (lg_sl ([.ref (a 79)]) ++ List.replicate (1 - (lg_sl ([.ref (a 79)])).length) Slot.unset).toArray = ls at hl ⊢
  have hl : lv_has ls 1 [(0, .ref (a 79))] := hl
  unfold fX3_clear at hf
  refine lv_aload_n C.1 C.2.1 dX3_clear_0 rfl (lv_at hl 0 rfl) ?_
  refine lv_iconst (v := 0) C.1 C.2.1 dX3_clear_1 (by decide) ?_
  obtain ⟨S1, eS1, hf⟩ := bnd_el hf
  refine fp_3_1 C kX3_clear_3 mX3_clear_15 hW dX3_clear_2 eS1 (fun H locs hW => ?_)
  refine lv_aload_n C.1 C.2.1 dX3_clear_5 rfl (lv_at hl 0 rfl) ?_
  refine lv_iconst (v := 0) C.1 C.2.1 dX3_clear_6 (by decide) ?_
  obtain ⟨S2, eS2, hf⟩ := bnd_el hf
  refine fp_3_2 C kX3_clear_3 mX3_clear_19 hW dX3_clear_7 eS2 (fun H locs hW => ?_)
  refine lv_aload_n C.1 C.2.1 dX3_clear_10 rfl (lv_at hl 0 rfl) ?_
  refine lv_iconst (v := 0) C.1 C.2.1 dX3_clear_11 (by decide) ?_
  obtain ⟨S3, eS3, hf⟩ := bnd_el hf
  refine fp_3_3 C kX3_clear_3 mX3_clear_22 hW dX3_clear_12 eS3 (fun H locs hW => ?_)
  exact mrV C hr hlocks hf hW dX3_clear_15
theorem mX3_betas_15 : Cond.fieldLink RX3 15 "SharedLambda$Meetings" "betas" "I" ∈ wsX3_betas := by decide +kernel
theorem kX3_betas_3 : ∀ w ∈ u_ws RX3 TX3 4, w ∈ wsX3_betas := fun _ h => List.mem_cons_of_mem _ (List.mem_append_right _ h)
def fX3_betas (N : Nat) (S : St) : Option (Int32 × St) :=
  some (S.1 61, S)
set_option maxHeartbeats 4000000 in
set_option maxRecDepth 100000 in
theorem cX3_betas_met (l : Launch) (D : va_G) (cy : Nat → ClassId) (a r : Nat → Nat) (sz N : Nat) (S : St) (Rr : Int32 × St) (hf : fX3_betas N S  = some Rr) : Met l yX3_betas wsX3_betas ({ frames := 0, cells := 0, slots := 0, locals := 0 } : Room) (va_Pc [.ref (a 79)] (preW D cy (wC cy a r S) sz)) (QI D cy (wC cy a r) (va_A (wC cy a r S) sz) Rr) 0 0 (va_A (wC cy a r S) sz) := by
  refine Met.ofW (cc := cX3_betas) (maxL := 1) (ret := (some .int)) (by decide) rfl ?_
  intro p e s m args below meth c s₁ B hml hv
  obtain ⟨rfl, rfl, hP, hK, hD0, hN⟩ := hv
  have hlocks := B.notSynchronized
  have hr := B.returns
  have C : Cx p s m _ c cX3_betas 1 wsX3_betas RX3 D cy := ⟨B.exec, B.bytes, hml, findClass_of_methodNamed B.named, atoms_spec (ws := wsX3_betas) B.pre, hK, hN⟩
  have hW := ww_start (w := wC cy a r) hP hD0
  generalize va_A (wC cy a r S) s.heap.size = A at hW ⊢
  have hl := lv_entry ([.ref (a 79)]) (n := 1) (Nat.le_of_ble_eq_true rfl)
  rw [lg_entry_eq]
  generalize (lg_sl ([.ref (a 79)]) ++ List.replicate (1 - (lg_sl ([.ref (a 79)])).length) Slot.unset).toArray = ls at hl ⊢
  have hl : lv_has ls 1 [(0, .ref (a 79))] := hl
  unfold fX3_betas at hf
  refine lv_aload_n C.1 C.2.1 dX3_betas_0 rfl (lv_at hl 0 rfl) ?_
  refine fg_3_1 C kX3_betas_3 mX3_betas_15 hW dX3_betas_1 ?_
  exact mrI C hr hlocks rfl hf hW dX3_betas_4
theorem mX3_annihilations_19 : Cond.fieldLink RX3 19 "SharedLambda$Meetings" "annihilations" "I" ∈ wsX3_annihilations := by decide +kernel
theorem kX3_annihilations_3 : ∀ w ∈ u_ws RX3 TX3 4, w ∈ wsX3_annihilations := fun _ h => List.mem_cons_of_mem _ (List.mem_append_right _ h)
def fX3_annihilations (N : Nat) (S : St) : Option (Int32 × St) :=
  some (S.1 62, S)
set_option maxHeartbeats 4000000 in
set_option maxRecDepth 100000 in
theorem cX3_annihilations_met (l : Launch) (D : va_G) (cy : Nat → ClassId) (a r : Nat → Nat) (sz N : Nat) (S : St) (Rr : Int32 × St) (hf : fX3_annihilations N S  = some Rr) : Met l yX3_annihilations wsX3_annihilations ({ frames := 0, cells := 0, slots := 0, locals := 0 } : Room) (va_Pc [.ref (a 79)] (preW D cy (wC cy a r S) sz)) (QI D cy (wC cy a r) (va_A (wC cy a r S) sz) Rr) 0 0 (va_A (wC cy a r S) sz) := by
  refine Met.ofW (cc := cX3_annihilations) (maxL := 1) (ret := (some .int)) (by decide) rfl ?_
  intro p e s m args below meth c s₁ B hml hv
  obtain ⟨rfl, rfl, hP, hK, hD0, hN⟩ := hv
  have hlocks := B.notSynchronized
  have hr := B.returns
  have C : Cx p s m _ c cX3_annihilations 1 wsX3_annihilations RX3 D cy := ⟨B.exec, B.bytes, hml, findClass_of_methodNamed B.named, atoms_spec (ws := wsX3_annihilations) B.pre, hK, hN⟩
  have hW := ww_start (w := wC cy a r) hP hD0
  generalize va_A (wC cy a r S) s.heap.size = A at hW ⊢
  have hl := lv_entry ([.ref (a 79)]) (n := 1) (Nat.le_of_ble_eq_true rfl)
  rw [lg_entry_eq]
  generalize (lg_sl ([.ref (a 79)]) ++ List.replicate (1 - (lg_sl ([.ref (a 79)])).length) Slot.unset).toArray = ls at hl ⊢
  have hl : lv_has ls 1 [(0, .ref (a 79))] := hl
  unfold fX3_annihilations at hf
  refine lv_aload_n C.1 C.2.1 dX3_annihilations_0 rfl (lv_at hl 0 rfl) ?_
  refine fg_3_2 C kX3_annihilations_3 mX3_annihilations_19 hW dX3_annihilations_1 ?_
  exact mrI C hr hlocks rfl hf hW dX3_annihilations_4
theorem mX3_passings_22 : Cond.fieldLink RX3 22 "SharedLambda$Meetings" "passings" "I" ∈ wsX3_passings := by decide +kernel
theorem kX3_passings_3 : ∀ w ∈ u_ws RX3 TX3 4, w ∈ wsX3_passings := fun _ h => List.mem_cons_of_mem _ (List.mem_append_right _ h)
def fX3_passings (N : Nat) (S : St) : Option (Int32 × St) :=
  some (S.1 63, S)
set_option maxHeartbeats 4000000 in
set_option maxRecDepth 100000 in
theorem cX3_passings_met (l : Launch) (D : va_G) (cy : Nat → ClassId) (a r : Nat → Nat) (sz N : Nat) (S : St) (Rr : Int32 × St) (hf : fX3_passings N S  = some Rr) : Met l yX3_passings wsX3_passings ({ frames := 0, cells := 0, slots := 0, locals := 0 } : Room) (va_Pc [.ref (a 79)] (preW D cy (wC cy a r S) sz)) (QI D cy (wC cy a r) (va_A (wC cy a r S) sz) Rr) 0 0 (va_A (wC cy a r S) sz) := by
  refine Met.ofW (cc := cX3_passings) (maxL := 1) (ret := (some .int)) (by decide) rfl ?_
  intro p e s m args below meth c s₁ B hml hv
  obtain ⟨rfl, rfl, hP, hK, hD0, hN⟩ := hv
  have hlocks := B.notSynchronized
  have hr := B.returns
  have C : Cx p s m _ c cX3_passings 1 wsX3_passings RX3 D cy := ⟨B.exec, B.bytes, hml, findClass_of_methodNamed B.named, atoms_spec (ws := wsX3_passings) B.pre, hK, hN⟩
  have hW := ww_start (w := wC cy a r) hP hD0
  generalize va_A (wC cy a r S) s.heap.size = A at hW ⊢
  have hl := lv_entry ([.ref (a 79)]) (n := 1) (Nat.le_of_ble_eq_true rfl)
  rw [lg_entry_eq]
  generalize (lg_sl ([.ref (a 79)]) ++ List.replicate (1 - (lg_sl ([.ref (a 79)])).length) Slot.unset).toArray = ls at hl ⊢
  have hl : lv_has ls 1 [(0, .ref (a 79))] := hl
  unfold fX3_passings at hf
  refine lv_aload_n C.1 C.2.1 dX3_passings_0 rfl (lv_at hl 0 rfl) ?_
  refine fg_3_3 C kX3_passings_3 mX3_passings_22 hW dX3_passings_1 ?_
  exact mrI C hr hlocks rfl hf hW dX3_passings_4
theorem mX3_sameIndex_9 : Cond.fieldLink RX3 9 "SharedLambda$Meetings" "graph" "LSharedLambda$Graph;" ∈ wsX3_sameIndex := by decide +kernel
theorem kX3_sameIndex_3 : ∀ w ∈ u_ws RX3 TX3 4, w ∈ wsX3_sameIndex := fun _ h => List.mem_cons_of_mem _ (List.mem_append_left _ (List.mem_append_right _ h))
def fX3_sameIndex (N : Nat) (S : St) (p1 : Int32) (p2 : Int32) : Option (Int32 × St) :=
  bd2 (fX2_indexOf N S p1) fun v1 S3 =>
  bd2 (fX2_indexOf N S3 p2) fun v4 S6 =>
  if v1 = v4 then
    some ((1 : Int32), S6)
  else
    some ((0 : Int32), S6)
set_option maxHeartbeats 4000000 in
set_option maxRecDepth 100000 in
theorem cX3_sameIndex_met (l : Launch) (D : va_G) (cy : Nat → ClassId) (a r : Nat → Nat) (sz N : Nat) (S : St) (p1 : Int32) (p2 : Int32) (Rr : Int32 × St) (hf : fX3_sameIndex N S p1 p2 = some Rr) : Met l yX3_sameIndex wsX3_sameIndex ({ frames := 1, cells := 0, slots := 0, locals := 21 } : Room) (va_Pc [.ref (a 79), .int p1, .int p2] (preW D cy (wC cy a r S) sz)) (QI D cy (wC cy a r) (va_A (wC cy a r S) sz) Rr) 0 0 (va_A (wC cy a r S) sz) := by
  refine Met.ofW (cc := cX3_sameIndex) (maxL := 3) (ret := (some .boolean)) (by decide) rfl ?_
  intro p e s m args below meth c s₁ B hml hv
  obtain ⟨rfl, rfl, hP, hK, hD0, hN⟩ := hv
  have hlocks := B.notSynchronized
  have hr := B.returns
  have C : Cx p s m _ c cX3_sameIndex 3 wsX3_sameIndex RX3 D cy := ⟨B.exec, B.bytes, hml, findClass_of_methodNamed B.named, atoms_spec (ws := wsX3_sameIndex) B.pre, hK, hN⟩
  have hW := ww_start (w := wC cy a r) hP hD0
  generalize va_A (wC cy a r S) s.heap.size = A at hW ⊢
  have hl := lv_entry ([.ref (a 79), .int p1, .int p2]) (n := 3) (Nat.le_of_ble_eq_true rfl)
  rw [lg_entry_eq]
  generalize (lg_sl ([.ref (a 79), .int p1, .int p2]) ++ List.replicate (3 - (lg_sl ([.ref (a 79), .int p1, .int p2])).length) Slot.unset).toArray = ls at hl ⊢
  have hl : lv_has ls 3 [(0, .ref (a 79)), (1, .int p1), (2, .int p2)] := hl
  unfold fX3_sameIndex at hf
  refine lv_aload_n C.1 C.2.1 dX3_sameIndex_0 rfl (lv_at hl 0 rfl) ?_
  refine fg_3_0 C kX3_sameIndex_3 mX3_sameIndex_9 hW dX3_sameIndex_1 ?_
  refine lv_iload_n C.1 C.2.1 dX3_sameIndex_4 rfl (lv_at hl 1 rfl) ?_
  obtain ⟨v1, S3, h2, hf⟩ := bd2_el hf
  refine mcVi (w := wC cy a r) (S := S) (As := [.int p1]) (rest := []) (q0 := 2) (ci := 2) C (cX2_indexOf_met l D cy a r _ N S p1 (v1, S3) h2) (cwV 1 C.2.2.2.2.1 gX3_sameIndex_X2_indexOf rfl rfl rfl (by decide +kernel) ⟨Nat.le_of_ble_eq_true rfl, Nat.le_of_ble_eq_true rfl⟩) rfl rfl rfl hl.1 (Nat.le_of_ble_eq_true rfl) hW dX3_sameIndex_5 ⟨Nat.zero_le _, Nat.zero_le _⟩ rfl (fun H locs hW => ?_)
  refine lv_aload_n C.1 C.2.1 dX3_sameIndex_8 rfl (lv_at hl 0 rfl) ?_
  refine fg_3_0 C kX3_sameIndex_3 mX3_sameIndex_9 hW dX3_sameIndex_9 ?_
  refine lv_iload_n C.1 C.2.1 dX3_sameIndex_12 rfl (lv_at hl 2 rfl) ?_
  obtain ⟨v4, S6, h5, hf⟩ := bd2_el hf
  refine mcVi (w := wC cy a r) (S := S3) (As := [.int p2]) (rest := [.int v1]) (q0 := 2) (ci := 2) C (cX2_indexOf_met l D cy a r _ N S3 p2 (v4, S6) h5) (cwV 1 C.2.2.2.2.1 gX3_sameIndex_X2_indexOf rfl rfl rfl (by decide +kernel) ⟨Nat.le_of_ble_eq_true rfl, Nat.le_of_ble_eq_true rfl⟩) rfl rfl rfl hl.1 (Nat.le_of_ble_eq_true rfl) hW dX3_sameIndex_13 ⟨Nat.zero_le _, Nat.zero_le _⟩ rfl (fun H locs hW => ?_)
  refine lv_icmp_ne (tgt := 23) C.1 C.2.1 dX3_sameIndex_16 (by decide) (fun q7 => ?_) (fun q7 => ?_)
  · replace hf := (if_neg q7).symm.trans hf
    refine lv_iconst (v := 0) C.1 C.2.1 dX3_sameIndex_23 (by decide) ?_
    exact mrI C hr hlocks rfl hf hW dX3_sameIndex_24
  · replace hf := (if_pos q7).symm.trans hf
    refine lv_iconst (v := 1) C.1 C.2.1 dX3_sameIndex_19 (by decide) ?_
    refine lv_goto (tgt := 24) C.1 C.2.1 dX3_sameIndex_20 (by decide) ?_
    exact mrI C hr hlocks rfl hf hW dX3_sameIndex_24
theorem mX3_isBeta_9 : Cond.fieldLink RX3 9 "SharedLambda$Meetings" "graph" "LSharedLambda$Graph;" ∈ wsX3_isBeta := by decide +kernel
theorem kX3_isBeta_3 : ∀ w ∈ u_ws RX3 TX3 4, w ∈ wsX3_isBeta := fun _ h => List.mem_cons_of_mem _ (List.mem_append_left _ (List.mem_append_right _ h))
def fX3_isBeta_38 (N : Nat) (S : St) (x3 : Int32) (x4 : Int32) : Option (Int32 × St) :=
  if x3 = (1 : Int32) then
    if x4 = 0 then
      some ((1 : Int32), S)
    else
      some ((0 : Int32), S)
  else
    some ((0 : Int32), S)
set_option maxHeartbeats 4000000 in
set_option maxRecDepth 100000 in
theorem lX3_isBeta_38 {p : Program} {l : Launch} {e : Env} {s : State} {m : MethodId} {args : Array Value} {below : List Frame} {meth : Method} {c : Code} {D : va_G} {cy : Nat → ClassId} {a r : Nat → Nat} {A : Nat → Prop} {Rr : Int32 × St} (C : Cx p s m args c cX3_isBeta 5 wsX3_isBeta RX3 D cy) (hr : meth.sig.returnType = some .boolean) (hlocks : meth.locks = false) (N : Nat) (S : St) (x3 : Int32) (x4 : Int32) (hf : fX3_isBeta_38 N S x3 x4 = some Rr) : ∀ (H : Heap) (locs : List Loc) (ls : Array Slot), WW D A s.heap (wC cy a r S) H locs → lv_has ls 5 [(3, .int x3), (4, .int x4)] → W p l e ({ frames := 2, cells := 0, slots := 0, locals := 43 } : Room) s m args below meth c H locs 0 0 (MQ below (QI D cy (wC cy a r) A Rr) args s 0 0 A) (F0 m 38 ls []) := by
  intro H locs ls hW hl
  unfold fX3_isBeta_38 at hf
  refine lv_iload_n C.1 C.2.1 dX3_isBeta_38 rfl (lv_at hl 0 rfl) ?_
  refine lv_iconst (v := 1) C.1 C.2.1 dX3_isBeta_39 (by decide) ?_
  refine lv_icmp_ne (tgt := 52) C.1 C.2.1 dX3_isBeta_40 (by decide) (fun q1 => ?_) (fun q1 => ?_)
  · replace hf := (if_neg q1).symm.trans hf
    refine lv_iconst (v := 0) C.1 C.2.1 dX3_isBeta_52 (by decide) ?_
    exact mrI C hr hlocks rfl hf hW dX3_isBeta_53
  · replace hf := (if_pos q1).symm.trans hf
    refine lv_iload C.1 C.2.1 dX3_isBeta_43 (lv_at hl 1 rfl) ?_
    refine lv_if_ne (tgt := 52) C.1 C.2.1 dX3_isBeta_45 (by decide) (fun q2 => ?_) (fun q2 => ?_)
    · replace hf := (if_neg q2).symm.trans hf
      refine lv_iconst (v := 0) C.1 C.2.1 dX3_isBeta_52 (by decide) ?_
      exact mrI C hr hlocks rfl hf hW dX3_isBeta_53
    · replace hf := (if_pos q2).symm.trans hf
      refine lv_iconst (v := 1) C.1 C.2.1 dX3_isBeta_48 (by decide) ?_
      refine lv_goto (tgt := 53) C.1 C.2.1 dX3_isBeta_49 (by decide) ?_
      exact mrI C hr hlocks rfl hf hW dX3_isBeta_53
def fX3_isBeta (N : Nat) (S : St) (p1 : Int32) (p2 : Int32) : Option (Int32 × St) :=
  bd2 (fX2_kindOf N S p1) fun v1 S3 =>
  bd2 (fX2_kindOf N S3 p2) fun v4 S6 =>
  bd2 (fX3_sameIndex N S6 p1 p2) fun v7 S9 =>
  if v7 = 0 then
    some ((0 : Int32), S9)
  else
    if v1 = 0 then
      if v4 = (1 : Int32) then
        some ((1 : Int32), S9)
      else
        fX3_isBeta_38 N S9 v1 v4
    else
      fX3_isBeta_38 N S9 v1 v4
set_option maxHeartbeats 4000000 in
set_option maxRecDepth 100000 in
theorem cX3_isBeta_met (l : Launch) (D : va_G) (cy : Nat → ClassId) (a r : Nat → Nat) (sz N : Nat) (S : St) (p1 : Int32) (p2 : Int32) (Rr : Int32 × St) (hf : fX3_isBeta N S p1 p2 = some Rr) : Met l yX3_isBeta wsX3_isBeta ({ frames := 2, cells := 0, slots := 0, locals := 43 } : Room) (va_Pc [.ref (a 79), .int p1, .int p2] (preW D cy (wC cy a r S) sz)) (QI D cy (wC cy a r) (va_A (wC cy a r S) sz) Rr) 0 0 (va_A (wC cy a r S) sz) := by
  refine Met.ofW (cc := cX3_isBeta) (maxL := 5) (ret := (some .boolean)) (by decide) rfl ?_
  intro p e s m args below meth c s₁ B hml hv
  obtain ⟨rfl, rfl, hP, hK, hD0, hN⟩ := hv
  have hlocks := B.notSynchronized
  have hr := B.returns
  have C : Cx p s m _ c cX3_isBeta 5 wsX3_isBeta RX3 D cy := ⟨B.exec, B.bytes, hml, findClass_of_methodNamed B.named, atoms_spec (ws := wsX3_isBeta) B.pre, hK, hN⟩
  have hW := ww_start (w := wC cy a r) hP hD0
  generalize va_A (wC cy a r S) s.heap.size = A at hW ⊢
  have hl := lv_entry ([.ref (a 79), .int p1, .int p2]) (n := 5) (Nat.le_of_ble_eq_true rfl)
  rw [lg_entry_eq]
  generalize (lg_sl ([.ref (a 79), .int p1, .int p2]) ++ List.replicate (5 - (lg_sl ([.ref (a 79), .int p1, .int p2])).length) Slot.unset).toArray = ls at hl ⊢
  have hl : lv_has ls 5 [(0, .ref (a 79)), (1, .int p1), (2, .int p2)] := hl
  unfold fX3_isBeta at hf
  refine lv_aload_n C.1 C.2.1 dX3_isBeta_0 rfl (lv_at hl 0 rfl) ?_
  refine fg_3_0 C kX3_isBeta_3 mX3_isBeta_9 hW dX3_isBeta_1 ?_
  refine lv_iload_n C.1 C.2.1 dX3_isBeta_4 rfl (lv_at hl 1 rfl) ?_
  obtain ⟨v1, S3, h2, hf⟩ := bd2_el hf
  refine mcVi (w := wC cy a r) (S := S) (As := [.int p1]) (rest := []) (q0 := 2) (ci := 2) C (cX2_kindOf_met l D cy a r _ N S p1 (v1, S3) h2) (cwV 1 C.2.2.2.2.1 gX3_isBeta_X2_kindOf rfl rfl rfl (by decide +kernel) ⟨Nat.le_of_ble_eq_true rfl, Nat.le_of_ble_eq_true rfl⟩) rfl rfl rfl hl.1 (Nat.le_of_ble_eq_true rfl) hW dX3_isBeta_5 ⟨Nat.zero_le _, Nat.zero_le _⟩ rfl (fun H locs hW => ?_)
  refine lv_istore_n (lv' := [(3, .int v1), (0, .ref (a 79)), (1, .int p1), (2, .int p2)]) C.1 C.2.1 dX3_isBeta_8 rfl hl (by decide) rfl (fun ls hl => ?_)
  refine lv_aload_n C.1 C.2.1 dX3_isBeta_9 rfl (lv_at hl 1 rfl) ?_
  refine fg_3_0 C kX3_isBeta_3 mX3_isBeta_9 hW dX3_isBeta_10 ?_
  refine lv_iload_n C.1 C.2.1 dX3_isBeta_13 rfl (lv_at hl 3 rfl) ?_
  obtain ⟨v4, S6, h5, hf⟩ := bd2_el hf
  refine mcVi (w := wC cy a r) (S := S3) (As := [.int p2]) (rest := []) (q0 := 2) (ci := 2) C (cX2_kindOf_met l D cy a r _ N S3 p2 (v4, S6) h5) (cwV 1 C.2.2.2.2.1 gX3_isBeta_X2_kindOf rfl rfl rfl (by decide +kernel) ⟨Nat.le_of_ble_eq_true rfl, Nat.le_of_ble_eq_true rfl⟩) rfl rfl rfl hl.1 (Nat.le_of_ble_eq_true rfl) hW dX3_isBeta_14 ⟨Nat.zero_le _, Nat.zero_le _⟩ rfl (fun H locs hW => ?_)
  refine lv_istore (lv' := [(4, .int v4), (3, .int v1), (0, .ref (a 79)), (1, .int p1), (2, .int p2)]) C.1 C.2.1 dX3_isBeta_17 hl (by decide) rfl (fun ls hl => ?_)
  refine lv_aload_n C.1 C.2.1 dX3_isBeta_19 rfl (lv_at hl 2 rfl) ?_
  refine lv_iload_n C.1 C.2.1 dX3_isBeta_20 rfl (lv_at hl 3 rfl) ?_
  refine lv_iload_n C.1 C.2.1 dX3_isBeta_21 rfl (lv_at hl 4 rfl) ?_
  obtain ⟨v7, S9, h8, hf⟩ := bd2_el hf
  refine mcVi (w := wC cy a r) (S := S6) (As := [.int p1, .int p2]) (rest := []) (q0 := 3) (ci := 3) C (cX3_sameIndex_met l D cy a r _ N S6 p1 p2 (v7, S9) h8) (cwV 2 C.2.2.2.2.1 gX3_isBeta_X3_sameIndex rfl rfl rfl (by decide +kernel) ⟨Nat.le_of_ble_eq_true rfl, Nat.le_of_ble_eq_true rfl⟩) rfl rfl rfl hl.1 (Nat.le_of_ble_eq_true rfl) hW dX3_isBeta_22 ⟨Nat.zero_le _, Nat.zero_le _⟩ rfl (fun H locs hW => ?_)
  refine lv_if_eq (tgt := 52) C.1 C.2.1 dX3_isBeta_25 (by decide) (fun q10 => ?_) (fun q10 => ?_)
  · replace hf := (if_pos q10).symm.trans hf
    refine lv_iconst (v := 0) C.1 C.2.1 dX3_isBeta_52 (by decide) ?_
    exact mrI C hr hlocks rfl hf hW dX3_isBeta_53
  · replace hf := (if_neg q10).symm.trans hf
    refine lv_iload_n C.1 C.2.1 dX3_isBeta_28 rfl (lv_at hl 1 rfl) ?_
    refine lv_if_ne (tgt := 38) C.1 C.2.1 dX3_isBeta_29 (by decide) (fun q11 => ?_) (fun q11 => ?_)
    · replace hf := (if_neg q11).symm.trans hf
      exact lX3_isBeta_38 C hr hlocks N _ _ _ hf _ _ _ hW (lv_sub hl [1, 0] rfl)
    · replace hf := (if_pos q11).symm.trans hf
      refine lv_iload C.1 C.2.1 dX3_isBeta_32 (lv_at hl 0 rfl) ?_
      refine lv_iconst (v := 1) C.1 C.2.1 dX3_isBeta_34 (by decide) ?_
      refine lv_icmp_eq (tgt := 48) C.1 C.2.1 dX3_isBeta_35 (by decide) (fun q12 => ?_) (fun q12 => ?_)
      · replace hf := (if_pos q12).symm.trans hf
        refine lv_iconst (v := 1) C.1 C.2.1 dX3_isBeta_48 (by decide) ?_
        refine lv_goto (tgt := 53) C.1 C.2.1 dX3_isBeta_49 (by decide) ?_
        exact mrI C hr hlocks rfl hf hW dX3_isBeta_53
      · replace hf := (if_neg q12).symm.trans hf
        exact lX3_isBeta_38 C hr hlocks N _ _ _ hf _ _ _ hW (lv_sub hl [1, 0] rfl)
theorem mX3_isAnnihilation_9 : Cond.fieldLink RX3 9 "SharedLambda$Meetings" "graph" "LSharedLambda$Graph;" ∈ wsX3_isAnnihilation := by decide +kernel
theorem mX3_isAnnihilation_i7 : Cond.initialized RX7 ∈ wsX3_isAnnihilation := by decide +kernel
theorem mX3_isAnnihilation_s_isControl : Cond.static yX7_isControl ∈ wsX3_isAnnihilation := by decide +kernel
theorem kX3_isAnnihilation_3 : ∀ w ∈ u_ws RX3 TX3 4, w ∈ wsX3_isAnnihilation := fun _ h => List.mem_cons_of_mem _ (List.mem_append_left _ (List.mem_append_right _ h))
def fX3_isAnnihilation (N : Nat) (S : St) (p1 : Int32) (p2 : Int32) : Option (Int32 × St) :=
  bd2 (fX2_kindOf N S p1) fun v1 S3 =>
  bd2 (fX3_sameIndex N S3 p1 p2) fun v4 S6 =>
  if v4 = 0 then
    some ((0 : Int32), S6)
  else
    bd2 (fX2_kindOf N S6 p2) fun v8 S10 =>
    if v1 = v8 then
      bdo (fX7_isControl v1) fun v12 =>
      if v12 = 0 then
        some ((0 : Int32), S10)
      else
        some ((1 : Int32), S10)
    else
      some ((0 : Int32), S10)
set_option maxHeartbeats 4000000 in
set_option maxRecDepth 100000 in
theorem cX3_isAnnihilation_met (l : Launch) (D : va_G) (cy : Nat → ClassId) (a r : Nat → Nat) (sz N : Nat) (S : St) (p1 : Int32) (p2 : Int32) (Rr : Int32 × St) (hf : fX3_isAnnihilation N S p1 p2 = some Rr) : Met l yX3_isAnnihilation wsX3_isAnnihilation ({ frames := 2, cells := 0, slots := 0, locals := 43 } : Room) (va_Pc [.ref (a 79), .int p1, .int p2] (preW D cy (wC cy a r S) sz)) (QI D cy (wC cy a r) (va_A (wC cy a r S) sz) Rr) 0 0 (va_A (wC cy a r S) sz) := by
  refine Met.ofW (cc := cX3_isAnnihilation) (maxL := 4) (ret := (some .boolean)) (by decide) rfl ?_
  intro p e s m args below meth c s₁ B hml hv
  obtain ⟨rfl, rfl, hP, hK, hD0, hN⟩ := hv
  have hlocks := B.notSynchronized
  have hr := B.returns
  have C : Cx p s m _ c cX3_isAnnihilation 4 wsX3_isAnnihilation RX3 D cy := ⟨B.exec, B.bytes, hml, findClass_of_methodNamed B.named, atoms_spec (ws := wsX3_isAnnihilation) B.pre, hK, hN⟩
  have hW := ww_start (w := wC cy a r) hP hD0
  generalize va_A (wC cy a r S) s.heap.size = A at hW ⊢
  have hl := lv_entry ([.ref (a 79), .int p1, .int p2]) (n := 4) (Nat.le_of_ble_eq_true rfl)
  rw [lg_entry_eq]
  generalize (lg_sl ([.ref (a 79), .int p1, .int p2]) ++ List.replicate (4 - (lg_sl ([.ref (a 79), .int p1, .int p2])).length) Slot.unset).toArray = ls at hl ⊢
  have hl : lv_has ls 4 [(0, .ref (a 79)), (1, .int p1), (2, .int p2)] := hl
  unfold fX3_isAnnihilation at hf
  refine lv_aload_n C.1 C.2.1 dX3_isAnnihilation_0 rfl (lv_at hl 0 rfl) ?_
  refine fg_3_0 C kX3_isAnnihilation_3 mX3_isAnnihilation_9 hW dX3_isAnnihilation_1 ?_
  refine lv_iload_n C.1 C.2.1 dX3_isAnnihilation_4 rfl (lv_at hl 1 rfl) ?_
  obtain ⟨v1, S3, h2, hf⟩ := bd2_el hf
  refine mcVi (w := wC cy a r) (S := S) (As := [.int p1]) (rest := []) (q0 := 2) (ci := 2) C (cX2_kindOf_met l D cy a r _ N S p1 (v1, S3) h2) (cwV 1 C.2.2.2.2.1 gX3_isAnnihilation_X2_kindOf rfl rfl rfl (by decide +kernel) ⟨Nat.le_of_ble_eq_true rfl, Nat.le_of_ble_eq_true rfl⟩) rfl rfl rfl hl.1 (Nat.le_of_ble_eq_true rfl) hW dX3_isAnnihilation_5 ⟨Nat.zero_le _, Nat.zero_le _⟩ rfl (fun H locs hW => ?_)
  refine lv_istore_n (lv' := [(3, .int v1), (0, .ref (a 79)), (1, .int p1), (2, .int p2)]) C.1 C.2.1 dX3_isAnnihilation_8 rfl hl (by decide) rfl (fun ls hl => ?_)
  refine lv_aload_n C.1 C.2.1 dX3_isAnnihilation_9 rfl (lv_at hl 1 rfl) ?_
  refine lv_iload_n C.1 C.2.1 dX3_isAnnihilation_10 rfl (lv_at hl 2 rfl) ?_
  refine lv_iload_n C.1 C.2.1 dX3_isAnnihilation_11 rfl (lv_at hl 3 rfl) ?_
  obtain ⟨v4, S6, h5, hf⟩ := bd2_el hf
  refine mcVi (w := wC cy a r) (S := S3) (As := [.int p1, .int p2]) (rest := []) (q0 := 3) (ci := 3) C (cX3_sameIndex_met l D cy a r _ N S3 p1 p2 (v4, S6) h5) (cwV 2 C.2.2.2.2.1 gX3_isAnnihilation_X3_sameIndex rfl rfl rfl (by decide +kernel) ⟨Nat.le_of_ble_eq_true rfl, Nat.le_of_ble_eq_true rfl⟩) rfl rfl rfl hl.1 (Nat.le_of_ble_eq_true rfl) hW dX3_isAnnihilation_12 ⟨Nat.zero_le _, Nat.zero_le _⟩ rfl (fun H locs hW => ?_)
  refine lv_if_eq (tgt := 41) C.1 C.2.1 dX3_isAnnihilation_15 (by decide) (fun q7 => ?_) (fun q7 => ?_)
  · replace hf := (if_pos q7).symm.trans hf
    refine lv_iconst (v := 0) C.1 C.2.1 dX3_isAnnihilation_41 (by decide) ?_
    exact mrI C hr hlocks rfl hf hW dX3_isAnnihilation_42
  · replace hf := (if_neg q7).symm.trans hf
    refine lv_iload_n C.1 C.2.1 dX3_isAnnihilation_18 rfl (lv_at hl 0 rfl) ?_
    refine lv_aload_n C.1 C.2.1 dX3_isAnnihilation_19 rfl (lv_at hl 1 rfl) ?_
    refine fg_3_0 C kX3_isAnnihilation_3 mX3_isAnnihilation_9 hW dX3_isAnnihilation_20 ?_
    refine lv_iload_n C.1 C.2.1 dX3_isAnnihilation_23 rfl (lv_at hl 3 rfl) ?_
    obtain ⟨v8, S10, h9, hf⟩ := bd2_el hf
    refine mcVi (w := wC cy a r) (S := S6) (As := [.int p2]) (rest := [.int v1]) (q0 := 2) (ci := 2) C (cX2_kindOf_met l D cy a r _ N S6 p2 (v8, S10) h9) (cwV 1 C.2.2.2.2.1 gX3_isAnnihilation_X2_kindOf rfl rfl rfl (by decide +kernel) ⟨Nat.le_of_ble_eq_true rfl, Nat.le_of_ble_eq_true rfl⟩) rfl rfl rfl hl.1 (Nat.le_of_ble_eq_true rfl) hW dX3_isAnnihilation_24 ⟨Nat.zero_le _, Nat.zero_le _⟩ rfl (fun H locs hW => ?_)
    refine lv_icmp_ne (tgt := 41) C.1 C.2.1 dX3_isAnnihilation_27 (by decide) (fun q11 => ?_) (fun q11 => ?_)
    · replace hf := (if_neg q11).symm.trans hf
      refine lv_iconst (v := 0) C.1 C.2.1 dX3_isAnnihilation_41 (by decide) ?_
      exact mrI C hr hlocks rfl hf hW dX3_isAnnihilation_42
    · replace hf := (if_pos q11).symm.trans hf
      refine lv_iload_n C.1 C.2.1 dX3_isAnnihilation_30 rfl (lv_at hl 0 rfl) ?_
      obtain ⟨v12, h13, hf⟩ := bdo_el hf
      refine mcSN (As := [.int v1]) (rest := []) C (cX7_isControl_met l v1 v12 h13) ⟨va_cnB 1 C.2.2.2.2.1 gX3_isAnnihilation_X7_isControl_n54 rfl rfl rfl (C.2.2.2.2.2.2 (RX3, 54, yX7_isControl) (by decide +kernel)) (C.2.2.2.2.1 _ mX3_isAnnihilation_i7) (by decide +kernel) ⟨Nat.le_of_ble_eq_true rfl, Nat.le_of_ble_eq_true rfl⟩, C.2.2.2.2.1 _ mX3_isAnnihilation_s_isControl, trivial⟩ rfl hl.1 (Nat.le_of_ble_eq_true rfl) dX3_isAnnihilation_31 ⟨Nat.zero_le _, Nat.zero_le _⟩ rfl ?_
      refine lv_if_eq (tgt := 41) C.1 C.2.1 dX3_isAnnihilation_34 (by decide) (fun q14 => ?_) (fun q14 => ?_)
      · replace hf := (if_pos q14).symm.trans hf
        refine lv_iconst (v := 0) C.1 C.2.1 dX3_isAnnihilation_41 (by decide) ?_
        exact mrI C hr hlocks rfl hf hW dX3_isAnnihilation_42
      · replace hf := (if_neg q14).symm.trans hf
        refine lv_iconst (v := 1) C.1 C.2.1 dX3_isAnnihilation_37 (by decide) ?_
        refine lv_goto (tgt := 42) C.1 C.2.1 dX3_isAnnihilation_38 (by decide) ?_
        exact mrI C hr hlocks rfl hf hW dX3_isAnnihilation_42
theorem mX3_passes_9 : Cond.fieldLink RX3 9 "SharedLambda$Meetings" "graph" "LSharedLambda$Graph;" ∈ wsX3_passes := by decide +kernel
theorem mX3_passes_i7 : Cond.initialized RX7 ∈ wsX3_passes := by decide +kernel
theorem mX3_passes_s_isControl : Cond.static yX7_isControl ∈ wsX3_passes := by decide +kernel
theorem kX3_passes_3 : ∀ w ∈ u_ws RX3 TX3 4, w ∈ wsX3_passes := fun _ h => List.mem_cons_of_mem _ (List.mem_append_left _ (List.mem_append_right _ h))
def fX3_passes (N : Nat) (S : St) (p1 : Int32) (p2 : Int32) : Option (Int32 × St) :=
  bd2 (fX2_kindOf N S p1) fun v1 S3 =>
  bdo (fX7_isControl v1) fun v4 =>
  if v4 = 0 then
    some ((0 : Int32), S3)
  else
    bd2 (fX2_indexOf N S3 p1) fun v7 S9 =>
    bd2 (fX2_indexOf N S9 p2) fun v10 S12 =>
    if v10 ≤ v7 then
      some ((0 : Int32), S12)
    else
      some ((1 : Int32), S12)
set_option maxHeartbeats 4000000 in
set_option maxRecDepth 100000 in
theorem cX3_passes_met (l : Launch) (D : va_G) (cy : Nat → ClassId) (a r : Nat → Nat) (sz N : Nat) (S : St) (p1 : Int32) (p2 : Int32) (Rr : Int32 × St) (hf : fX3_passes N S p1 p2 = some Rr) : Met l yX3_passes wsX3_passes ({ frames := 1, cells := 0, slots := 0, locals := 21 } : Room) (va_Pc [.ref (a 79), .int p1, .int p2] (preW D cy (wC cy a r S) sz)) (QI D cy (wC cy a r) (va_A (wC cy a r S) sz) Rr) 0 0 (va_A (wC cy a r S) sz) := by
  refine Met.ofW (cc := cX3_passes) (maxL := 3) (ret := (some .boolean)) (by decide) rfl ?_
  intro p e s m args below meth c s₁ B hml hv
  obtain ⟨rfl, rfl, hP, hK, hD0, hN⟩ := hv
  have hlocks := B.notSynchronized
  have hr := B.returns
  have C : Cx p s m _ c cX3_passes 3 wsX3_passes RX3 D cy := ⟨B.exec, B.bytes, hml, findClass_of_methodNamed B.named, atoms_spec (ws := wsX3_passes) B.pre, hK, hN⟩
  have hW := ww_start (w := wC cy a r) hP hD0
  generalize va_A (wC cy a r S) s.heap.size = A at hW ⊢
  have hl := lv_entry ([.ref (a 79), .int p1, .int p2]) (n := 3) (Nat.le_of_ble_eq_true rfl)
  rw [lg_entry_eq]
  generalize (lg_sl ([.ref (a 79), .int p1, .int p2]) ++ List.replicate (3 - (lg_sl ([.ref (a 79), .int p1, .int p2])).length) Slot.unset).toArray = ls at hl ⊢
  have hl : lv_has ls 3 [(0, .ref (a 79)), (1, .int p1), (2, .int p2)] := hl
  unfold fX3_passes at hf
  refine lv_aload_n C.1 C.2.1 dX3_passes_0 rfl (lv_at hl 0 rfl) ?_
  refine fg_3_0 C kX3_passes_3 mX3_passes_9 hW dX3_passes_1 ?_
  refine lv_iload_n C.1 C.2.1 dX3_passes_4 rfl (lv_at hl 1 rfl) ?_
  obtain ⟨v1, S3, h2, hf⟩ := bd2_el hf
  refine mcVi (w := wC cy a r) (S := S) (As := [.int p1]) (rest := []) (q0 := 2) (ci := 2) C (cX2_kindOf_met l D cy a r _ N S p1 (v1, S3) h2) (cwV 1 C.2.2.2.2.1 gX3_passes_X2_kindOf rfl rfl rfl (by decide +kernel) ⟨Nat.le_of_ble_eq_true rfl, Nat.le_of_ble_eq_true rfl⟩) rfl rfl rfl hl.1 (Nat.le_of_ble_eq_true rfl) hW dX3_passes_5 ⟨Nat.zero_le _, Nat.zero_le _⟩ rfl (fun H locs hW => ?_)
  obtain ⟨v4, h5, hf⟩ := bdo_el hf
  refine mcSN (As := [.int v1]) (rest := []) C (cX7_isControl_met l v1 v4 h5) ⟨va_cnB 1 C.2.2.2.2.1 gX3_passes_X7_isControl_n54 rfl rfl rfl (C.2.2.2.2.2.2 (RX3, 54, yX7_isControl) (by decide +kernel)) (C.2.2.2.2.1 _ mX3_passes_i7) (by decide +kernel) ⟨Nat.le_of_ble_eq_true rfl, Nat.le_of_ble_eq_true rfl⟩, C.2.2.2.2.1 _ mX3_passes_s_isControl, trivial⟩ rfl hl.1 (Nat.le_of_ble_eq_true rfl) dX3_passes_8 ⟨Nat.zero_le _, Nat.zero_le _⟩ rfl ?_
  refine lv_if_eq (tgt := 37) C.1 C.2.1 dX3_passes_11 (by decide) (fun q6 => ?_) (fun q6 => ?_)
  · replace hf := (if_pos q6).symm.trans hf
    refine lv_iconst (v := 0) C.1 C.2.1 dX3_passes_37 (by decide) ?_
    exact mrI C hr hlocks rfl hf hW dX3_passes_38
  · replace hf := (if_neg q6).symm.trans hf
    refine lv_aload_n C.1 C.2.1 dX3_passes_14 rfl (lv_at hl 0 rfl) ?_
    refine fg_3_0 C kX3_passes_3 mX3_passes_9 hW dX3_passes_15 ?_
    refine lv_iload_n C.1 C.2.1 dX3_passes_18 rfl (lv_at hl 1 rfl) ?_
    obtain ⟨v7, S9, h8, hf⟩ := bd2_el hf
    refine mcVi (w := wC cy a r) (S := S3) (As := [.int p1]) (rest := []) (q0 := 2) (ci := 2) C (cX2_indexOf_met l D cy a r _ N S3 p1 (v7, S9) h8) (cwV 1 C.2.2.2.2.1 gX3_passes_X2_indexOf rfl rfl rfl (by decide +kernel) ⟨Nat.le_of_ble_eq_true rfl, Nat.le_of_ble_eq_true rfl⟩) rfl rfl rfl hl.1 (Nat.le_of_ble_eq_true rfl) hW dX3_passes_19 ⟨Nat.zero_le _, Nat.zero_le _⟩ rfl (fun H locs hW => ?_)
    refine lv_aload_n C.1 C.2.1 dX3_passes_22 rfl (lv_at hl 0 rfl) ?_
    refine fg_3_0 C kX3_passes_3 mX3_passes_9 hW dX3_passes_23 ?_
    refine lv_iload_n C.1 C.2.1 dX3_passes_26 rfl (lv_at hl 2 rfl) ?_
    obtain ⟨v10, S12, h11, hf⟩ := bd2_el hf
    refine mcVi (w := wC cy a r) (S := S9) (As := [.int p2]) (rest := [.int v7]) (q0 := 2) (ci := 2) C (cX2_indexOf_met l D cy a r _ N S9 p2 (v10, S12) h11) (cwV 1 C.2.2.2.2.1 gX3_passes_X2_indexOf rfl rfl rfl (by decide +kernel) ⟨Nat.le_of_ble_eq_true rfl, Nat.le_of_ble_eq_true rfl⟩) rfl rfl rfl hl.1 (Nat.le_of_ble_eq_true rfl) hW dX3_passes_27 ⟨Nat.zero_le _, Nat.zero_le _⟩ rfl (fun H locs hW => ?_)
    refine lv_icmp_ge (tgt := 37) C.1 C.2.1 dX3_passes_30 (by decide) (fun q13 => ?_) (fun q13 => ?_)
    · replace hf := (if_pos q13).symm.trans hf
      refine lv_iconst (v := 0) C.1 C.2.1 dX3_passes_37 (by decide) ?_
      exact mrI C hr hlocks rfl hf hW dX3_passes_38
    · replace hf := (if_neg q13).symm.trans hf
      refine lv_iconst (v := 1) C.1 C.2.1 dX3_passes_33 (by decide) ?_
      refine lv_goto (tgt := 38) C.1 C.2.1 dX3_passes_34 (by decide) ?_
      exact mrI C hr hlocks rfl hf hW dX3_passes_38
theorem mX3_passedIndex_9 : Cond.fieldLink RX3 9 "SharedLambda$Meetings" "graph" "LSharedLambda$Graph;" ∈ wsX3_passedIndex := by decide +kernel
theorem kX3_passedIndex_3 : ∀ w ∈ u_ws RX3 TX3 4, w ∈ wsX3_passedIndex := fun _ h => List.mem_cons_of_mem _ (List.mem_append_left _ (List.mem_append_right _ h))
def fX3_passedIndex (N : Nat) (S : St) (p1 : Int32) (p2 : Int32) : Option (Int32 × St) :=
  bd2 (fX2_indexOf N S p2) fun v1 S3 =>
  bd2 (fX2_kindOf N S3 p1) fun v4 S6 =>
  if v4 = 3 then
    some ((v1 - (1 : Int32)), S6)
  else
    if v4 = 4 then
      some ((v1 + (1 : Int32)), S6)
    else
      some (v1, S6)
set_option maxHeartbeats 4000000 in
set_option maxRecDepth 100000 in
theorem cX3_passedIndex_met (l : Launch) (D : va_G) (cy : Nat → ClassId) (a r : Nat → Nat) (sz N : Nat) (S : St) (p1 : Int32) (p2 : Int32) (Rr : Int32 × St) (hf : fX3_passedIndex N S p1 p2 = some Rr) : Met l yX3_passedIndex wsX3_passedIndex ({ frames := 1, cells := 0, slots := 0, locals := 21 } : Room) (va_Pc [.ref (a 79), .int p1, .int p2] (preW D cy (wC cy a r S) sz)) (QI D cy (wC cy a r) (va_A (wC cy a r S) sz) Rr) 0 0 (va_A (wC cy a r S) sz) := by
  refine Met.ofW (cc := cX3_passedIndex) (maxL := 4) (ret := (some .int)) (by decide) rfl ?_
  intro p e s m args below meth c s₁ B hml hv
  obtain ⟨rfl, rfl, hP, hK, hD0, hN⟩ := hv
  have hlocks := B.notSynchronized
  have hr := B.returns
  have C : Cx p s m _ c cX3_passedIndex 4 wsX3_passedIndex RX3 D cy := ⟨B.exec, B.bytes, hml, findClass_of_methodNamed B.named, atoms_spec (ws := wsX3_passedIndex) B.pre, hK, hN⟩
  have hW := ww_start (w := wC cy a r) hP hD0
  generalize va_A (wC cy a r S) s.heap.size = A at hW ⊢
  have hl := lv_entry ([.ref (a 79), .int p1, .int p2]) (n := 4) (Nat.le_of_ble_eq_true rfl)
  rw [lg_entry_eq]
  generalize (lg_sl ([.ref (a 79), .int p1, .int p2]) ++ List.replicate (4 - (lg_sl ([.ref (a 79), .int p1, .int p2])).length) Slot.unset).toArray = ls at hl ⊢
  have hl : lv_has ls 4 [(0, .ref (a 79)), (1, .int p1), (2, .int p2)] := hl
  unfold fX3_passedIndex at hf
  refine lv_aload_n C.1 C.2.1 dX3_passedIndex_0 rfl (lv_at hl 0 rfl) ?_
  refine fg_3_0 C kX3_passedIndex_3 mX3_passedIndex_9 hW dX3_passedIndex_1 ?_
  refine lv_iload_n C.1 C.2.1 dX3_passedIndex_4 rfl (lv_at hl 2 rfl) ?_
  obtain ⟨v1, S3, h2, hf⟩ := bd2_el hf
  refine mcVi (w := wC cy a r) (S := S) (As := [.int p2]) (rest := []) (q0 := 2) (ci := 2) C (cX2_indexOf_met l D cy a r _ N S p2 (v1, S3) h2) (cwV 1 C.2.2.2.2.1 gX3_passedIndex_X2_indexOf rfl rfl rfl (by decide +kernel) ⟨Nat.le_of_ble_eq_true rfl, Nat.le_of_ble_eq_true rfl⟩) rfl rfl rfl hl.1 (Nat.le_of_ble_eq_true rfl) hW dX3_passedIndex_5 ⟨Nat.zero_le _, Nat.zero_le _⟩ rfl (fun H locs hW => ?_)
  refine lv_istore_n (lv' := [(3, .int v1), (0, .ref (a 79)), (1, .int p1), (2, .int p2)]) C.1 C.2.1 dX3_passedIndex_8 rfl hl (by decide) rfl (fun ls hl => ?_)
  refine lv_aload_n C.1 C.2.1 dX3_passedIndex_9 rfl (lv_at hl 1 rfl) ?_
  refine fg_3_0 C kX3_passedIndex_3 mX3_passedIndex_9 hW dX3_passedIndex_10 ?_
  refine lv_iload_n C.1 C.2.1 dX3_passedIndex_13 rfl (lv_at hl 2 rfl) ?_
  obtain ⟨v4, S6, h5, hf⟩ := bd2_el hf
  refine mcVi (w := wC cy a r) (S := S3) (As := [.int p1]) (rest := []) (q0 := 2) (ci := 2) C (cX2_kindOf_met l D cy a r _ N S3 p1 (v4, S6) h5) (cwV 1 C.2.2.2.2.1 gX3_passedIndex_X2_kindOf rfl rfl rfl (by decide +kernel) ⟨Nat.le_of_ble_eq_true rfl, Nat.le_of_ble_eq_true rfl⟩) rfl rfl rfl hl.1 (Nat.le_of_ble_eq_true rfl) hW dX3_passedIndex_14 ⟨Nat.zero_le _, Nat.zero_le _⟩ rfl (fun H locs hW => ?_)
  by_cases q7 : v4 = 3
  · refine lv_lookup (tgt := 44) (off := 27) C.1 C.2.1 dX3_passedIndex_17 (by decide) (by rw [q7]; try decide) (by decide) ?_
    replace hf := (if_pos q7).symm.trans hf
    refine lv_iload_n C.1 C.2.1 dX3_passedIndex_44 rfl (lv_at hl 0 rfl) ?_
    refine lv_iconst (v := 1) C.1 C.2.1 dX3_passedIndex_45 (by decide) ?_
    refine lv_isub C.1 C.2.1 dX3_passedIndex_46 ?_
    exact mrI C hr hlocks rfl hf hW dX3_passedIndex_47
  · replace hf := (if_neg q7).symm.trans hf
    by_cases q8 : v4 = 4
    · refine lv_lookup (tgt := 48) (off := 31) C.1 C.2.1 dX3_passedIndex_17 (by decide) (by rw [q8]; try decide) (by decide) ?_
      replace hf := (if_pos q8).symm.trans hf
      refine lv_iload_n C.1 C.2.1 dX3_passedIndex_48 rfl (lv_at hl 0 rfl) ?_
      refine lv_iconst (v := 1) C.1 C.2.1 dX3_passedIndex_49 (by decide) ?_
      refine lv_iadd C.1 C.2.1 dX3_passedIndex_50 ?_
      exact mrI C hr hlocks rfl hf hW dX3_passedIndex_51
    · replace hf := (if_neg q8).symm.trans hf
      refine lv_lookup (tgt := 52) (off := 35) C.1 C.2.1 dX3_passedIndex_17 (by decide) (by simp [Op.lookupswitch.offset_cons, Op.lookupswitch.offset_nil, lk_ne (k := 3) (by decide) (by decide) q7, lk_ne (k := 4) (by decide) (by decide) q8]) (by decide) ?_
      refine lv_iload_n C.1 C.2.1 dX3_passedIndex_52 rfl (lv_at hl 0 rfl) ?_
      exact mrI C hr hlocks rfl hf hW dX3_passedIndex_53
theorem mX3_hasRoom_9 : Cond.fieldLink RX3 9 "SharedLambda$Meetings" "graph" "LSharedLambda$Graph;" ∈ wsX3_hasRoom := by decide +kernel
theorem mX3_hasRoom_i7 : Cond.initialized RX7 ∈ wsX3_hasRoom := by decide +kernel
theorem mX3_hasRoom_s_otherPorts : Cond.static yX7_otherPorts ∈ wsX3_hasRoom := by decide +kernel
theorem kX3_hasRoom_3 : ∀ w ∈ u_ws RX3 TX3 4, w ∈ wsX3_hasRoom := fun _ h => List.mem_cons_of_mem _ (List.mem_append_left _ (List.mem_append_right _ h))
def fX3_hasRoom_17 (N : Nat) (S : St) (x1 : Int32) (x2 : Int32) (y0 : Int32) : Option (Int32 × St) :=
  bd2 (fX2_size N S) fun v1 S3 =>
  bd2 (fX2_kindOf N S3 x2) fun v4 S6 =>
  bdo (fX7_otherPorts v4) fun v7 =>
  bnd ((((v1 - (2 : Int32)) + y0) + v7)) fun z9 =>
  if (3000 : Int32) < z9 then
    some ((0 : Int32), S6)
  else
    bd2 (fX3_passedIndex N S6 x1 x2) fun v11 S13 =>
    if (63 : Int32) < v11 then
      some ((0 : Int32), S13)
    else
      some ((1 : Int32), S13)
set_option maxHeartbeats 4000000 in
set_option maxRecDepth 100000 in
theorem lX3_hasRoom_17 {p : Program} {l : Launch} {e : Env} {s : State} {m : MethodId} {args : Array Value} {below : List Frame} {meth : Method} {c : Code} {D : va_G} {cy : Nat → ClassId} {a r : Nat → Nat} {A : Nat → Prop} {Rr : Int32 × St} (C : Cx p s m args c cX3_hasRoom 5 wsX3_hasRoom RX3 D cy) (hr : meth.sig.returnType = some .boolean) (hlocks : meth.locks = false) (N : Nat) (S : St) (x1 : Int32) (x2 : Int32) (y0 : Int32) (hf : fX3_hasRoom_17 N S x1 x2 y0 = some Rr) : ∀ (H : Heap) (locs : List Loc) (ls : Array Slot), WW D A s.heap (wC cy a r S) H locs → lv_has ls 5 [(0, .ref (a 79)), (1, .int x1), (2, .int x2)] → W p l e ({ frames := 2, cells := 0, slots := 0, locals := 44 } : Room) s m args below meth c H locs 0 0 (MQ below (QI D cy (wC cy a r) A Rr) args s 0 0 A) (F0 m 17 ls [.int y0]) := by
  intro H locs ls hW hl
  unfold fX3_hasRoom_17 at hf
  refine lv_istore_n (lv' := [(3, .int y0), (0, .ref (a 79)), (1, .int x1), (2, .int x2)]) C.1 C.2.1 dX3_hasRoom_17 rfl hl (by decide) rfl (fun ls hl => ?_)
  refine lv_aload_n C.1 C.2.1 dX3_hasRoom_18 rfl (lv_at hl 1 rfl) ?_
  refine fg_3_0 C kX3_hasRoom_3 mX3_hasRoom_9 hW dX3_hasRoom_19 ?_
  obtain ⟨v1, S3, h2, hf⟩ := bd2_el hf
  refine mcVi (w := wC cy a r) (S := S) (As := []) (rest := []) (q0 := 2) (ci := 2) C (cX2_size_met l D cy a r _ N S  (v1, S3) h2) (cwV 0 C.2.2.2.2.1 gX3_hasRoom_X2_size rfl rfl rfl (by decide +kernel) ⟨Nat.le_of_ble_eq_true rfl, Nat.le_of_ble_eq_true rfl⟩) rfl rfl rfl hl.1 (Nat.le_of_ble_eq_true rfl) hW dX3_hasRoom_22 ⟨Nat.zero_le _, Nat.zero_le _⟩ rfl (fun H locs hW => ?_)
  refine lv_iconst (v := 2) C.1 C.2.1 dX3_hasRoom_25 (by decide) ?_
  refine lv_isub C.1 C.2.1 dX3_hasRoom_26 ?_
  refine lv_iload_n C.1 C.2.1 dX3_hasRoom_27 rfl (lv_at hl 0 rfl) ?_
  refine lv_iadd C.1 C.2.1 dX3_hasRoom_28 ?_
  refine lv_aload_n C.1 C.2.1 dX3_hasRoom_29 rfl (lv_at hl 1 rfl) ?_
  refine fg_3_0 C kX3_hasRoom_3 mX3_hasRoom_9 hW dX3_hasRoom_30 ?_
  refine lv_iload_n C.1 C.2.1 dX3_hasRoom_33 rfl (lv_at hl 3 rfl) ?_
  obtain ⟨v4, S6, h5, hf⟩ := bd2_el hf
  refine mcVi (w := wC cy a r) (S := S3) (As := [.int x2]) (rest := [.int (((v1 - (2 : Int32)) + y0))]) (q0 := 2) (ci := 2) C (cX2_kindOf_met l D cy a r _ N S3 x2 (v4, S6) h5) (cwV 1 C.2.2.2.2.1 gX3_hasRoom_X2_kindOf rfl rfl rfl (by decide +kernel) ⟨Nat.le_of_ble_eq_true rfl, Nat.le_of_ble_eq_true rfl⟩) rfl rfl rfl hl.1 (Nat.le_of_ble_eq_true rfl) hW dX3_hasRoom_34 ⟨Nat.zero_le _, Nat.zero_le _⟩ rfl (fun H locs hW => ?_)
  obtain ⟨v7, h8, hf⟩ := bdo_el hf
  refine mcSN (As := [.int v4]) (rest := [.int (((v1 - (2 : Int32)) + y0))]) C (cX7_otherPorts_met l v4 v7 h8) ⟨va_cnB 1 C.2.2.2.2.1 gX3_hasRoom_X7_otherPorts_n65 rfl rfl rfl (C.2.2.2.2.2.2 (RX3, 65, yX7_otherPorts) (by decide +kernel)) (C.2.2.2.2.1 _ mX3_hasRoom_i7) (by decide +kernel) ⟨Nat.le_of_ble_eq_true rfl, Nat.le_of_ble_eq_true rfl⟩, C.2.2.2.2.1 _ mX3_hasRoom_s_otherPorts, trivial⟩ rfl hl.1 (Nat.le_of_ble_eq_true rfl) dX3_hasRoom_37 ⟨Nat.zero_le _, Nat.zero_le _⟩ rfl ?_
  refine lv_iadd C.1 C.2.1 dX3_hasRoom_40 ?_
  obtain ⟨z9, ez9, hf⟩ := bnd_el hf
  refine lv_as ez9 ?_
  refine lv_istore (lv' := [(4, .int z9), (3, .int y0), (0, .ref (a 79)), (1, .int x1), (2, .int x2)]) C.1 C.2.1 dX3_hasRoom_41 hl (by decide) rfl (fun ls hl => ?_)
  refine lv_iload C.1 C.2.1 dX3_hasRoom_43 (lv_at hl 0 rfl) ?_
  refine lv_sipush (v := 3000) C.1 C.2.1 dX3_hasRoom_45 (by decide) ?_
  refine lv_icmp_gt (tgt := 66) C.1 C.2.1 dX3_hasRoom_48 (by decide) (fun q10 => ?_) (fun q10 => ?_)
  · replace hf := (if_pos q10).symm.trans hf
    refine lv_iconst (v := 0) C.1 C.2.1 dX3_hasRoom_66 (by decide) ?_
    exact mrI C hr hlocks rfl hf hW dX3_hasRoom_67
  · replace hf := (if_neg q10).symm.trans hf
    refine lv_aload_n C.1 C.2.1 dX3_hasRoom_51 rfl (lv_at hl 2 rfl) ?_
    refine lv_iload_n C.1 C.2.1 dX3_hasRoom_52 rfl (lv_at hl 3 rfl) ?_
    refine lv_iload_n C.1 C.2.1 dX3_hasRoom_53 rfl (lv_at hl 4 rfl) ?_
    obtain ⟨v11, S13, h12, hf⟩ := bd2_el hf
    refine mcVi (w := wC cy a r) (S := S6) (As := [.int x1, .int x2]) (rest := []) (q0 := 3) (ci := 3) C (cX3_passedIndex_met l D cy a r _ N S6 x1 x2 (v11, S13) h12) (cwV 2 C.2.2.2.2.1 gX3_hasRoom_X3_passedIndex rfl rfl rfl (by decide +kernel) ⟨Nat.le_of_ble_eq_true rfl, Nat.le_of_ble_eq_true rfl⟩) rfl rfl rfl hl.1 (Nat.le_of_ble_eq_true rfl) hW dX3_hasRoom_54 ⟨Nat.zero_le _, Nat.zero_le _⟩ rfl (fun H locs hW => ?_)
    refine lv_bipush (v := 63) C.1 C.2.1 dX3_hasRoom_57 (by decide) ?_
    refine lv_icmp_gt (tgt := 66) C.1 C.2.1 dX3_hasRoom_59 (by decide) (fun q14 => ?_) (fun q14 => ?_)
    · replace hf := (if_pos q14).symm.trans hf
      refine lv_iconst (v := 0) C.1 C.2.1 dX3_hasRoom_66 (by decide) ?_
      exact mrI C hr hlocks rfl hf hW dX3_hasRoom_67
    · replace hf := (if_neg q14).symm.trans hf
      refine lv_iconst (v := 1) C.1 C.2.1 dX3_hasRoom_62 (by decide) ?_
      refine lv_goto (tgt := 67) C.1 C.2.1 dX3_hasRoom_63 (by decide) ?_
      exact mrI C hr hlocks rfl hf hW dX3_hasRoom_67
def fX3_hasRoom (N : Nat) (S : St) (p1 : Int32) (p2 : Int32) : Option (Int32 × St) :=
  bd2 (fX2_kindOf N S p1) fun v1 S3 =>
  if v1 = (2 : Int32) then
    fX3_hasRoom_17 N S3 p1 p2 (2 : Int32)
  else
    fX3_hasRoom_17 N S3 p1 p2 (1 : Int32)
set_option maxHeartbeats 4000000 in
set_option maxRecDepth 100000 in
theorem cX3_hasRoom_met (l : Launch) (D : va_G) (cy : Nat → ClassId) (a r : Nat → Nat) (sz N : Nat) (S : St) (p1 : Int32) (p2 : Int32) (Rr : Int32 × St) (hf : fX3_hasRoom N S p1 p2 = some Rr) : Met l yX3_hasRoom wsX3_hasRoom ({ frames := 2, cells := 0, slots := 0, locals := 44 } : Room) (va_Pc [.ref (a 79), .int p1, .int p2] (preW D cy (wC cy a r S) sz)) (QI D cy (wC cy a r) (va_A (wC cy a r S) sz) Rr) 0 0 (va_A (wC cy a r S) sz) := by
  refine Met.ofW (cc := cX3_hasRoom) (maxL := 5) (ret := (some .boolean)) (by decide) rfl ?_
  intro p e s m args below meth c s₁ B hml hv
  obtain ⟨rfl, rfl, hP, hK, hD0, hN⟩ := hv
  have hlocks := B.notSynchronized
  have hr := B.returns
  have C : Cx p s m _ c cX3_hasRoom 5 wsX3_hasRoom RX3 D cy := ⟨B.exec, B.bytes, hml, findClass_of_methodNamed B.named, atoms_spec (ws := wsX3_hasRoom) B.pre, hK, hN⟩
  have hW := ww_start (w := wC cy a r) hP hD0
  generalize va_A (wC cy a r S) s.heap.size = A at hW ⊢
  have hl := lv_entry ([.ref (a 79), .int p1, .int p2]) (n := 5) (Nat.le_of_ble_eq_true rfl)
  rw [lg_entry_eq]
  generalize (lg_sl ([.ref (a 79), .int p1, .int p2]) ++ List.replicate (5 - (lg_sl ([.ref (a 79), .int p1, .int p2])).length) Slot.unset).toArray = ls at hl ⊢
  have hl : lv_has ls 5 [(0, .ref (a 79)), (1, .int p1), (2, .int p2)] := hl
  unfold fX3_hasRoom at hf
  refine lv_aload_n C.1 C.2.1 dX3_hasRoom_0 rfl (lv_at hl 0 rfl) ?_
  refine fg_3_0 C kX3_hasRoom_3 mX3_hasRoom_9 hW dX3_hasRoom_1 ?_
  refine lv_iload_n C.1 C.2.1 dX3_hasRoom_4 rfl (lv_at hl 1 rfl) ?_
  obtain ⟨v1, S3, h2, hf⟩ := bd2_el hf
  refine mcVi (w := wC cy a r) (S := S) (As := [.int p1]) (rest := []) (q0 := 2) (ci := 2) C (cX2_kindOf_met l D cy a r _ N S p1 (v1, S3) h2) (cwV 1 C.2.2.2.2.1 gX3_hasRoom_X2_kindOf rfl rfl rfl (by decide +kernel) ⟨Nat.le_of_ble_eq_true rfl, Nat.le_of_ble_eq_true rfl⟩) rfl rfl rfl hl.1 (Nat.le_of_ble_eq_true rfl) hW dX3_hasRoom_5 ⟨Nat.zero_le _, Nat.zero_le _⟩ rfl (fun H locs hW => ?_)
  refine lv_iconst (v := 2) C.1 C.2.1 dX3_hasRoom_8 (by decide) ?_
  refine lv_icmp_ne (tgt := 16) C.1 C.2.1 dX3_hasRoom_9 (by decide) (fun q4 => ?_) (fun q4 => ?_)
  · replace hf := (if_neg q4).symm.trans hf
    refine lv_iconst (v := 1) C.1 C.2.1 dX3_hasRoom_16 (by decide) ?_
    exact lX3_hasRoom_17 C hr hlocks N _ _ _ _ hf _ _ _ hW (lv_sub hl [0, 1, 2] rfl)
  · replace hf := (if_pos q4).symm.trans hf
    refine lv_iconst (v := 2) C.1 C.2.1 dX3_hasRoom_12 (by decide) ?_
    refine lv_goto (tgt := 17) C.1 C.2.1 dX3_hasRoom_13 (by decide) ?_
    exact lX3_hasRoom_17 C hr hlocks N _ _ _ _ hf _ _ _ hW (lv_sub hl [0, 1, 2] rfl)
def fX3_refusal (N : Nat) (S : St) (p1 : Int32) (p2 : Int32) : Option (Int32 × St) :=
  bd2 (fX3_isBeta N S p1 p2) fun v1 S3 =>
  if v1 = 0 then
    bd2 (fX3_isAnnihilation N S3 p1 p2) fun v5 S7 =>
    if v5 = 0 then
      bd2 (fX3_passes N S7 p1 p2) fun v9 S11 =>
      if v9 = 0 then
        bd2 (fX3_passes N S11 p2 p1) fun v13 S15 =>
        if v13 = 0 then
          some ((4 : Int32), S15)
        else
          bd2 (fX3_hasRoom N S15 p2 p1) fun v17 S19 =>
          if v17 = 0 then
            some ((2 : Int32), S19)
          else
            some ((5 : Int32), S19)
      else
        bd2 (fX3_hasRoom N S11 p1 p2) fun v21 S23 =>
        if v21 = 0 then
          some ((2 : Int32), S23)
        else
          some ((5 : Int32), S23)
    else
      some ((5 : Int32), S7)
  else
    some ((5 : Int32), S3)
set_option maxHeartbeats 4000000 in
set_option maxRecDepth 100000 in
theorem cX3_refusal_met (l : Launch) (D : va_G) (cy : Nat → ClassId) (a r : Nat → Nat) (sz N : Nat) (S : St) (p1 : Int32) (p2 : Int32) (Rr : Int32 × St) (hf : fX3_refusal N S p1 p2 = some Rr) : Met l yX3_refusal wsX3_refusal ({ frames := 3, cells := 0, slots := 0, locals := 68 } : Room) (va_Pc [.ref (a 79), .int p1, .int p2] (preW D cy (wC cy a r S) sz)) (QI D cy (wC cy a r) (va_A (wC cy a r S) sz) Rr) 0 0 (va_A (wC cy a r S) sz) := by
  refine Met.ofW (cc := cX3_refusal) (maxL := 3) (ret := (some .int)) (by decide) rfl ?_
  intro p e s m args below meth c s₁ B hml hv
  obtain ⟨rfl, rfl, hP, hK, hD0, hN⟩ := hv
  have hlocks := B.notSynchronized
  have hr := B.returns
  have C : Cx p s m _ c cX3_refusal 3 wsX3_refusal RX3 D cy := ⟨B.exec, B.bytes, hml, findClass_of_methodNamed B.named, atoms_spec (ws := wsX3_refusal) B.pre, hK, hN⟩
  have hW := ww_start (w := wC cy a r) hP hD0
  generalize va_A (wC cy a r S) s.heap.size = A at hW ⊢
  have hl := lv_entry ([.ref (a 79), .int p1, .int p2]) (n := 3) (Nat.le_of_ble_eq_true rfl)
  rw [lg_entry_eq]
  generalize (lg_sl ([.ref (a 79), .int p1, .int p2]) ++ List.replicate (3 - (lg_sl ([.ref (a 79), .int p1, .int p2])).length) Slot.unset).toArray = ls at hl ⊢
  have hl : lv_has ls 3 [(0, .ref (a 79)), (1, .int p1), (2, .int p2)] := hl
  unfold fX3_refusal at hf
  refine lv_aload_n C.1 C.2.1 dX3_refusal_0 rfl (lv_at hl 0 rfl) ?_
  refine lv_iload_n C.1 C.2.1 dX3_refusal_1 rfl (lv_at hl 1 rfl) ?_
  refine lv_iload_n C.1 C.2.1 dX3_refusal_2 rfl (lv_at hl 2 rfl) ?_
  obtain ⟨v1, S3, h2, hf⟩ := bd2_el hf
  refine mcVi (w := wC cy a r) (S := S) (As := [.int p1, .int p2]) (rest := []) (q0 := 3) (ci := 3) C (cX3_isBeta_met l D cy a r _ N S p1 p2 (v1, S3) h2) (cwV 2 C.2.2.2.2.1 gX3_refusal_X3_isBeta rfl rfl rfl (by decide +kernel) ⟨Nat.le_of_ble_eq_true rfl, Nat.le_of_ble_eq_true rfl⟩) rfl rfl rfl hl.1 (Nat.le_of_ble_eq_true rfl) hW dX3_refusal_3 ⟨Nat.zero_le _, Nat.zero_le _⟩ rfl (fun H locs hW => ?_)
  refine lv_if_ne (tgt := 18) C.1 C.2.1 dX3_refusal_6 (by decide) (fun q4 => ?_) (fun q4 => ?_)
  · replace hf := (if_neg q4).symm.trans hf
    refine lv_iconst (v := 5) C.1 C.2.1 dX3_refusal_18 (by decide) ?_
    exact mrI C hr hlocks rfl hf hW dX3_refusal_19
  · replace hf := (if_pos q4).symm.trans hf
    refine lv_aload_n C.1 C.2.1 dX3_refusal_9 rfl (lv_at hl 0 rfl) ?_
    refine lv_iload_n C.1 C.2.1 dX3_refusal_10 rfl (lv_at hl 1 rfl) ?_
    refine lv_iload_n C.1 C.2.1 dX3_refusal_11 rfl (lv_at hl 2 rfl) ?_
    obtain ⟨v5, S7, h6, hf⟩ := bd2_el hf
    refine mcVi (w := wC cy a r) (S := S3) (As := [.int p1, .int p2]) (rest := []) (q0 := 3) (ci := 3) C (cX3_isAnnihilation_met l D cy a r _ N S3 p1 p2 (v5, S7) h6) (cwV 2 C.2.2.2.2.1 gX3_refusal_X3_isAnnihilation rfl rfl rfl (by decide +kernel) ⟨Nat.le_of_ble_eq_true rfl, Nat.le_of_ble_eq_true rfl⟩) rfl rfl rfl hl.1 (Nat.le_of_ble_eq_true rfl) hW dX3_refusal_12 ⟨Nat.zero_le _, Nat.zero_le _⟩ rfl (fun H locs hW => ?_)
    refine lv_if_eq (tgt := 20) C.1 C.2.1 dX3_refusal_15 (by decide) (fun q8 => ?_) (fun q8 => ?_)
    · replace hf := (if_pos q8).symm.trans hf
      refine lv_aload_n C.1 C.2.1 dX3_refusal_20 rfl (lv_at hl 0 rfl) ?_
      refine lv_iload_n C.1 C.2.1 dX3_refusal_21 rfl (lv_at hl 1 rfl) ?_
      refine lv_iload_n C.1 C.2.1 dX3_refusal_22 rfl (lv_at hl 2 rfl) ?_
      obtain ⟨v9, S11, h10, hf⟩ := bd2_el hf
      refine mcVi (w := wC cy a r) (S := S7) (As := [.int p1, .int p2]) (rest := []) (q0 := 3) (ci := 3) C (cX3_passes_met l D cy a r _ N S7 p1 p2 (v9, S11) h10) (cwV 2 C.2.2.2.2.1 gX3_refusal_X3_passes rfl rfl rfl (by decide +kernel) ⟨Nat.le_of_ble_eq_true rfl, Nat.le_of_ble_eq_true rfl⟩) rfl rfl rfl hl.1 (Nat.le_of_ble_eq_true rfl) hW dX3_refusal_23 ⟨Nat.zero_le _, Nat.zero_le _⟩ rfl (fun H locs hW => ?_)
      refine lv_if_eq (tgt := 44) C.1 C.2.1 dX3_refusal_26 (by decide) (fun q12 => ?_) (fun q12 => ?_)
      · replace hf := (if_pos q12).symm.trans hf
        refine lv_aload_n C.1 C.2.1 dX3_refusal_44 rfl (lv_at hl 0 rfl) ?_
        refine lv_iload_n C.1 C.2.1 dX3_refusal_45 rfl (lv_at hl 2 rfl) ?_
        refine lv_iload_n C.1 C.2.1 dX3_refusal_46 rfl (lv_at hl 1 rfl) ?_
        obtain ⟨v13, S15, h14, hf⟩ := bd2_el hf
        refine mcVi (w := wC cy a r) (S := S11) (As := [.int p2, .int p1]) (rest := []) (q0 := 3) (ci := 3) C (cX3_passes_met l D cy a r _ N S11 p2 p1 (v13, S15) h14) (cwV 2 C.2.2.2.2.1 gX3_refusal_X3_passes rfl rfl rfl (by decide +kernel) ⟨Nat.le_of_ble_eq_true rfl, Nat.le_of_ble_eq_true rfl⟩) rfl rfl rfl hl.1 (Nat.le_of_ble_eq_true rfl) hW dX3_refusal_47 ⟨Nat.zero_le _, Nat.zero_le _⟩ rfl (fun H locs hW => ?_)
        refine lv_if_eq (tgt := 68) C.1 C.2.1 dX3_refusal_50 (by decide) (fun q16 => ?_) (fun q16 => ?_)
        · replace hf := (if_pos q16).symm.trans hf
          refine lv_iconst (v := 4) C.1 C.2.1 dX3_refusal_68 (by decide) ?_
          exact mrI C hr hlocks rfl hf hW dX3_refusal_69
        · replace hf := (if_neg q16).symm.trans hf
          refine lv_aload_n C.1 C.2.1 dX3_refusal_53 rfl (lv_at hl 0 rfl) ?_
          refine lv_iload_n C.1 C.2.1 dX3_refusal_54 rfl (lv_at hl 2 rfl) ?_
          refine lv_iload_n C.1 C.2.1 dX3_refusal_55 rfl (lv_at hl 1 rfl) ?_
          obtain ⟨v17, S19, h18, hf⟩ := bd2_el hf
          refine mcVi (w := wC cy a r) (S := S15) (As := [.int p2, .int p1]) (rest := []) (q0 := 3) (ci := 3) C (cX3_hasRoom_met l D cy a r _ N S15 p2 p1 (v17, S19) h18) (cwV 2 C.2.2.2.2.1 gX3_refusal_X3_hasRoom rfl rfl rfl (by decide +kernel) ⟨Nat.le_of_ble_eq_true rfl, Nat.le_of_ble_eq_true rfl⟩) rfl rfl rfl hl.1 (Nat.le_of_ble_eq_true rfl) hW dX3_refusal_56 ⟨Nat.zero_le _, Nat.zero_le _⟩ rfl (fun H locs hW => ?_)
          refine lv_if_eq (tgt := 66) C.1 C.2.1 dX3_refusal_59 (by decide) (fun q20 => ?_) (fun q20 => ?_)
          · replace hf := (if_pos q20).symm.trans hf
            refine lv_iconst (v := 2) C.1 C.2.1 dX3_refusal_66 (by decide) ?_
            exact mrI C hr hlocks rfl hf hW dX3_refusal_67
          · replace hf := (if_neg q20).symm.trans hf
            refine lv_iconst (v := 5) C.1 C.2.1 dX3_refusal_62 (by decide) ?_
            refine lv_goto (tgt := 67) C.1 C.2.1 dX3_refusal_63 (by decide) ?_
            exact mrI C hr hlocks rfl hf hW dX3_refusal_67
      · replace hf := (if_neg q12).symm.trans hf
        refine lv_aload_n C.1 C.2.1 dX3_refusal_29 rfl (lv_at hl 0 rfl) ?_
        refine lv_iload_n C.1 C.2.1 dX3_refusal_30 rfl (lv_at hl 1 rfl) ?_
        refine lv_iload_n C.1 C.2.1 dX3_refusal_31 rfl (lv_at hl 2 rfl) ?_
        obtain ⟨v21, S23, h22, hf⟩ := bd2_el hf
        refine mcVi (w := wC cy a r) (S := S11) (As := [.int p1, .int p2]) (rest := []) (q0 := 3) (ci := 3) C (cX3_hasRoom_met l D cy a r _ N S11 p1 p2 (v21, S23) h22) (cwV 2 C.2.2.2.2.1 gX3_refusal_X3_hasRoom rfl rfl rfl (by decide +kernel) ⟨Nat.le_of_ble_eq_true rfl, Nat.le_of_ble_eq_true rfl⟩) rfl rfl rfl hl.1 (Nat.le_of_ble_eq_true rfl) hW dX3_refusal_32 ⟨Nat.zero_le _, Nat.zero_le _⟩ rfl (fun H locs hW => ?_)
        refine lv_if_eq (tgt := 42) C.1 C.2.1 dX3_refusal_35 (by decide) (fun q24 => ?_) (fun q24 => ?_)
        · replace hf := (if_pos q24).symm.trans hf
          refine lv_iconst (v := 2) C.1 C.2.1 dX3_refusal_42 (by decide) ?_
          exact mrI C hr hlocks rfl hf hW dX3_refusal_43
        · replace hf := (if_neg q24).symm.trans hf
          refine lv_iconst (v := 5) C.1 C.2.1 dX3_refusal_38 (by decide) ?_
          refine lv_goto (tgt := 43) C.1 C.2.1 dX3_refusal_39 (by decide) ?_
          exact mrI C hr hlocks rfl hf hW dX3_refusal_43
    · replace hf := (if_neg q8).symm.trans hf
      refine lv_iconst (v := 5) C.1 C.2.1 dX3_refusal_18 (by decide) ?_
      exact mrI C hr hlocks rfl hf hW dX3_refusal_19
theorem mX3_joinPorts_9 : Cond.fieldLink RX3 9 "SharedLambda$Meetings" "graph" "LSharedLambda$Graph;" ∈ wsX3_joinPorts := by decide +kernel
theorem mX3_joinPorts_i7 : Cond.initialized RX7 ∈ wsX3_joinPorts := by decide +kernel
theorem mX3_joinPorts_s_portOf : Cond.static yX7_portOf ∈ wsX3_joinPorts := by decide +kernel
theorem mX3_joinPorts_s_otherPorts : Cond.static yX7_otherPorts ∈ wsX3_joinPorts := by decide +kernel
theorem kX3_joinPorts_3 : ∀ w ∈ u_ws RX3 TX3 4, w ∈ wsX3_joinPorts := fun _ h => List.mem_cons_of_mem _ (List.mem_append_left _ (List.mem_append_right _ h))
def fX3_joinPorts_15s (N : Nat) (k15 : St × Int32 × Int32 × Int32 × Int32 → Option (St)) (S : St) (x1 : Int32) (x2 : Int32) (x3 : Int32) (x4 : Int32) : Option (St) :=
  if x3 < x4 then
    bdo (fX2_discard N S x1) fun S4 =>
    bdo (fX2_discard N S4 x2) fun S7 =>
    some S7
  else
    bdo (fX7_portOf x1 x4) fun v8 =>
    bdo (fX7_portOf x2 x4) fun v10 =>
    bdo (fX2_join N S v8 v10) fun S14 =>
    bnd (x4 + (1 : Int32)) fun z15 =>
    k15 (S14, x1, x2, x3, z15)
def fX3_joinPorts_15 (N : Nat) : St × Int32 × Int32 × Int32 × Int32 → Option (St) := loopN (fun k x => fX3_joinPorts_15s N k x.1 x.2.1 x.2.2.1 x.2.2.2.1 x.2.2.2.2) N
set_option maxHeartbeats 4000000 in
set_option maxRecDepth 100000 in
theorem lX3_joinPorts_15 {p : Program} {l : Launch} {e : Env} {s : State} {m : MethodId} {args : Array Value} {below : List Frame} {meth : Method} {c : Code} {D : va_G} {cy : Nat → ClassId} {a r : Nat → Nat} {A : Nat → Prop} {Rr : St} (C : Cx p s m args c cX3_joinPorts 5 wsX3_joinPorts RX3 D cy) (hr : meth.sig.returnType = none) (hlocks : meth.locks = false) (N : Nat) : ∀ (n : Nat) (S : St) (x1 : Int32) (x2 : Int32) (x3 : Int32) (x4 : Int32), loopN (fun k x => fX3_joinPorts_15s N k x.1 x.2.1 x.2.2.1 x.2.2.2.1 x.2.2.2.2) n (S, x1, x2, x3, x4) = some Rr → ∀ (H : Heap) (locs : List Loc) (ls : Array Slot), WW D A s.heap (wC cy a r S) H locs → lv_has ls 5 [(0, .ref (a 79)), (1, .int x1), (2, .int x2), (3, .int x3), (4, .int x4)] → W p l e ({ frames := 3, cells := 0, slots := 0, locals := 65 } : Room) s m args below meth c H locs 0 0 (MQ below (QV D cy (wC cy a r) A Rr) args s 0 0 A) (F0 m 15 ls []) := by
  intro n
  induction n with
  | zero =>
    intro S x1 x2 x3 x4 hf
    cases hf
  | succ n ih =>
    intro S x1 x2 x3 x4 hf H locs ls hW hl
    have hf : fX3_joinPorts_15s N (loopN (fun k x => fX3_joinPorts_15s N k x.1 x.2.1 x.2.2.1 x.2.2.2.1 x.2.2.2.2) n) S x1 x2 x3 x4 = some Rr := hf
    unfold fX3_joinPorts_15s at hf
    refine lv_iload C.1 C.2.1 dX3_joinPorts_15 (lv_at hl 4 rfl) ?_
    refine lv_iload_n C.1 C.2.1 dX3_joinPorts_17 rfl (lv_at hl 3 rfl) ?_
    refine lv_icmp_gt (tgt := 46) C.1 C.2.1 dX3_joinPorts_18 (by decide) (fun q1 => ?_) (fun q1 => ?_)
    · replace hf := (if_pos q1).symm.trans hf
      refine lv_aload_n C.1 C.2.1 dX3_joinPorts_46 rfl (lv_at hl 0 rfl) ?_
      refine fg_3_0 C kX3_joinPorts_3 mX3_joinPorts_9 hW dX3_joinPorts_47 ?_
      refine lv_iload_n C.1 C.2.1 dX3_joinPorts_50 rfl (lv_at hl 1 rfl) ?_
      obtain ⟨S4, h3, hf⟩ := bdo_el hf
      refine mcVv (w := wC cy a r) (S := S) (As := [.int x1]) (rest := []) (q0 := 2) (ci := 2) C (cX2_discard_met l D cy a r _ N S x1 S4 h3) (cwV 1 C.2.2.2.2.1 gX3_joinPorts_X2_discard rfl rfl rfl (by decide +kernel) ⟨Nat.le_of_ble_eq_true rfl, Nat.le_of_ble_eq_true rfl⟩) rfl rfl rfl hl.1 (Nat.le_of_ble_eq_true rfl) hW dX3_joinPorts_51 ⟨Nat.zero_le _, Nat.zero_le _⟩ rfl (fun H locs hW => ?_)
      refine lv_aload_n C.1 C.2.1 dX3_joinPorts_54 rfl (lv_at hl 0 rfl) ?_
      refine fg_3_0 C kX3_joinPorts_3 mX3_joinPorts_9 hW dX3_joinPorts_55 ?_
      refine lv_iload_n C.1 C.2.1 dX3_joinPorts_58 rfl (lv_at hl 2 rfl) ?_
      obtain ⟨S7, h6, hf⟩ := bdo_el hf
      refine mcVv (w := wC cy a r) (S := S4) (As := [.int x2]) (rest := []) (q0 := 2) (ci := 2) C (cX2_discard_met l D cy a r _ N S4 x2 S7 h6) (cwV 1 C.2.2.2.2.1 gX3_joinPorts_X2_discard rfl rfl rfl (by decide +kernel) ⟨Nat.le_of_ble_eq_true rfl, Nat.le_of_ble_eq_true rfl⟩) rfl rfl rfl hl.1 (Nat.le_of_ble_eq_true rfl) hW dX3_joinPorts_59 ⟨Nat.zero_le _, Nat.zero_le _⟩ rfl (fun H locs hW => ?_)
      exact mrV C hr hlocks hf hW dX3_joinPorts_62
    · replace hf := (if_neg q1).symm.trans hf
      refine lv_aload_n C.1 C.2.1 dX3_joinPorts_21 rfl (lv_at hl 0 rfl) ?_
      refine fg_3_0 C kX3_joinPorts_3 mX3_joinPorts_9 hW dX3_joinPorts_22 ?_
      refine lv_iload_n C.1 C.2.1 dX3_joinPorts_25 rfl (lv_at hl 1 rfl) ?_
      refine lv_iload C.1 C.2.1 dX3_joinPorts_26 (lv_at hl 4 rfl) ?_
      obtain ⟨v8, h9, hf⟩ := bdo_el hf
      refine mcSN (As := [.int x1, .int x4]) (rest := [.ref (a 59)]) C (cX7_portOf_met l x1 x4 v8 h9) ⟨va_cnB 2 C.2.2.2.2.1 gX3_joinPorts_X7_portOf_n72 rfl rfl rfl (C.2.2.2.2.2.2 (RX3, 72, yX7_portOf) (by decide +kernel)) (C.2.2.2.2.1 _ mX3_joinPorts_i7) (by decide +kernel) ⟨Nat.le_of_ble_eq_true rfl, Nat.le_of_ble_eq_true rfl⟩, C.2.2.2.2.1 _ mX3_joinPorts_s_portOf, trivial⟩ rfl hl.1 (Nat.le_of_ble_eq_true rfl) dX3_joinPorts_28 ⟨Nat.zero_le _, Nat.zero_le _⟩ rfl ?_
      refine lv_iload_n C.1 C.2.1 dX3_joinPorts_31 rfl (lv_at hl 2 rfl) ?_
      refine lv_iload C.1 C.2.1 dX3_joinPorts_32 (lv_at hl 4 rfl) ?_
      obtain ⟨v10, h11, hf⟩ := bdo_el hf
      refine mcSN (As := [.int x2, .int x4]) (rest := [.int v8, .ref (a 59)]) C (cX7_portOf_met l x2 x4 v10 h11) ⟨va_cnB 2 C.2.2.2.2.1 gX3_joinPorts_X7_portOf_n72 rfl rfl rfl (C.2.2.2.2.2.2 (RX3, 72, yX7_portOf) (by decide +kernel)) (C.2.2.2.2.1 _ mX3_joinPorts_i7) (by decide +kernel) ⟨Nat.le_of_ble_eq_true rfl, Nat.le_of_ble_eq_true rfl⟩, C.2.2.2.2.1 _ mX3_joinPorts_s_portOf, trivial⟩ rfl hl.1 (Nat.le_of_ble_eq_true rfl) dX3_joinPorts_34 ⟨Nat.zero_le _, Nat.zero_le _⟩ rfl ?_
      obtain ⟨S14, h13, hf⟩ := bdo_el hf
      refine mcVv (w := wC cy a r) (S := S) (As := [.int v8, .int v10]) (rest := []) (q0 := 2) (ci := 2) C (cX2_join_met l D cy a r _ N S v8 v10 S14 h13) (cwV 2 C.2.2.2.2.1 gX3_joinPorts_X2_join rfl rfl rfl (by decide +kernel) ⟨Nat.le_of_ble_eq_true rfl, Nat.le_of_ble_eq_true rfl⟩) rfl rfl rfl hl.1 (Nat.le_of_ble_eq_true rfl) hW dX3_joinPorts_37 ⟨Nat.zero_le _, Nat.zero_le _⟩ rfl (fun H locs hW => ?_)
      obtain ⟨z15, ez15, hf⟩ := bnd_el hf
      refine lv_iinc (v := z15) (lv' := [(4, .int z15), (0, .ref (a 79)), (1, .int x1), (2, .int x2), (3, .int x3)]) C.1 C.2.1 dX3_joinPorts_40 hl (k := 4) rfl (by rw [ez15]; rfl) (by decide) rfl (fun ls hl => ?_)
      refine lv_goto (tgt := 15) C.1 C.2.1 dX3_joinPorts_43 (by decide) ?_
      exact ih _ _ _ _ _ hf _ _ _ hW (lv_sub hl [1, 2, 3, 4, 0] rfl)
def fX3_joinPorts (N : Nat) (S : St) (p1 : Int32) (p2 : Int32) : Option (St) :=
  bd2 (fX2_kindOf N S p1) fun v1 S3 =>
  bdo (fX7_otherPorts v1) fun v4 =>
  bnd (1 : Int32) fun z6 =>
  fX3_joinPorts_15 N (S3, p1, p2, v4, z6)
set_option maxHeartbeats 4000000 in
set_option maxRecDepth 100000 in
theorem cX3_joinPorts_met (l : Launch) (D : va_G) (cy : Nat → ClassId) (a r : Nat → Nat) (sz N : Nat) (S : St) (p1 : Int32) (p2 : Int32) (Rr : St) (hf : fX3_joinPorts N S p1 p2 = some Rr) : Met l yX3_joinPorts wsX3_joinPorts ({ frames := 3, cells := 0, slots := 0, locals := 65 } : Room) (va_Pc [.ref (a 79), .int p1, .int p2] (preW D cy (wC cy a r S) sz)) (QV D cy (wC cy a r) (va_A (wC cy a r S) sz) Rr) 0 0 (va_A (wC cy a r S) sz) := by
  refine Met.ofW (cc := cX3_joinPorts) (maxL := 5) (ret := none) (by decide) rfl ?_
  intro p e s m args below meth c s₁ B hml hv
  obtain ⟨rfl, rfl, hP, hK, hD0, hN⟩ := hv
  have hlocks := B.notSynchronized
  have hr := B.returns
  have C : Cx p s m _ c cX3_joinPorts 5 wsX3_joinPorts RX3 D cy := ⟨B.exec, B.bytes, hml, findClass_of_methodNamed B.named, atoms_spec (ws := wsX3_joinPorts) B.pre, hK, hN⟩
  have hW := ww_start (w := wC cy a r) hP hD0
  generalize va_A (wC cy a r S) s.heap.size = A at hW ⊢
  have hl := lv_entry ([.ref (a 79), .int p1, .int p2]) (n := 5) (Nat.le_of_ble_eq_true rfl)
  rw [lg_entry_eq]
  generalize (lg_sl ([.ref (a 79), .int p1, .int p2]) ++ List.replicate (5 - (lg_sl ([.ref (a 79), .int p1, .int p2])).length) Slot.unset).toArray = ls at hl ⊢
  have hl : lv_has ls 5 [(0, .ref (a 79)), (1, .int p1), (2, .int p2)] := hl
  unfold fX3_joinPorts at hf
  refine lv_aload_n C.1 C.2.1 dX3_joinPorts_0 rfl (lv_at hl 0 rfl) ?_
  refine fg_3_0 C kX3_joinPorts_3 mX3_joinPorts_9 hW dX3_joinPorts_1 ?_
  refine lv_iload_n C.1 C.2.1 dX3_joinPorts_4 rfl (lv_at hl 1 rfl) ?_
  obtain ⟨v1, S3, h2, hf⟩ := bd2_el hf
  refine mcVi (w := wC cy a r) (S := S) (As := [.int p1]) (rest := []) (q0 := 2) (ci := 2) C (cX2_kindOf_met l D cy a r _ N S p1 (v1, S3) h2) (cwV 1 C.2.2.2.2.1 gX3_joinPorts_X2_kindOf rfl rfl rfl (by decide +kernel) ⟨Nat.le_of_ble_eq_true rfl, Nat.le_of_ble_eq_true rfl⟩) rfl rfl rfl hl.1 (Nat.le_of_ble_eq_true rfl) hW dX3_joinPorts_5 ⟨Nat.zero_le _, Nat.zero_le _⟩ rfl (fun H locs hW => ?_)
  obtain ⟨v4, h5, hf⟩ := bdo_el hf
  refine mcSN (As := [.int v1]) (rest := []) C (cX7_otherPorts_met l v1 v4 h5) ⟨va_cnB 1 C.2.2.2.2.1 gX3_joinPorts_X7_otherPorts_n65 rfl rfl rfl (C.2.2.2.2.2.2 (RX3, 65, yX7_otherPorts) (by decide +kernel)) (C.2.2.2.2.1 _ mX3_joinPorts_i7) (by decide +kernel) ⟨Nat.le_of_ble_eq_true rfl, Nat.le_of_ble_eq_true rfl⟩, C.2.2.2.2.1 _ mX3_joinPorts_s_otherPorts, trivial⟩ rfl hl.1 (Nat.le_of_ble_eq_true rfl) dX3_joinPorts_8 ⟨Nat.zero_le _, Nat.zero_le _⟩ rfl ?_
  refine lv_istore_n (lv' := [(3, .int v4), (0, .ref (a 79)), (1, .int p1), (2, .int p2)]) C.1 C.2.1 dX3_joinPorts_11 rfl hl (by decide) rfl (fun ls hl => ?_)
  refine lv_iconst (v := 1) C.1 C.2.1 dX3_joinPorts_12 (by decide) ?_
  obtain ⟨z6, ez6, hf⟩ := bnd_el hf
  refine lv_as ez6 ?_
  refine lv_istore (lv' := [(4, .int z6), (3, .int v4), (0, .ref (a 79)), (1, .int p1), (2, .int p2)]) C.1 C.2.1 dX3_joinPorts_13 hl (by decide) rfl (fun ls hl => ?_)
  exact lX3_joinPorts_15 C hr hlocks N _ _ _ _ _ _ hf _ _ _ hW (lv_sub hl [2, 3, 4, 1, 0] rfl)
theorem mX3_pass_i7 : Cond.initialized RX7 ∈ wsX3_pass := by decide +kernel
theorem mX3_pass_s_otherPorts : Cond.static yX7_otherPorts ∈ wsX3_pass := by decide +kernel
theorem mX3_pass_9 : Cond.fieldLink RX3 9 "SharedLambda$Meetings" "graph" "LSharedLambda$Graph;" ∈ wsX3_pass := by decide +kernel
theorem mX3_pass_22 : Cond.fieldLink RX3 22 "SharedLambda$Meetings" "passings" "I" ∈ wsX3_pass := by decide +kernel
theorem mX3_pass_s_portOf : Cond.static yX7_portOf ∈ wsX3_pass := by decide +kernel
theorem kX3_pass_3 : ∀ w ∈ u_ws RX3 TX3 4, w ∈ wsX3_pass := fun _ h => List.mem_cons_of_mem _ (List.mem_append_left _ (List.mem_append_right _ h))
def fX3_pass_206 (N : Nat) (k113 : St × Int32 × Int32 × Int32 × Int32 × Int32 × Int32 × Int32 × Int32 → Option (St)) (S : St) (x1 : Int32) (x2 : Int32) (x3 : Int32) (x4 : Int32) (x5 : Int32) (x6 : Int32) (x7 : Int32) (x8 : Int32) : Option (St) :=
  bnd (x8 + (1 : Int32)) fun z1 =>
  k113 (S, x1, x2, x3, x4, x5, x6, x7, z1)
set_option maxHeartbeats 4000000 in
set_option maxRecDepth 100000 in
theorem lX3_pass_206 {p : Program} {l : Launch} {e : Env} {s : State} {m : MethodId} {args : Array Value} {below : List Frame} {meth : Method} {c : Code} {D : va_G} {cy : Nat → ClassId} {a r : Nat → Nat} {A : Nat → Prop} {Rr : St} (C : Cx p s m args c cX3_pass 10 wsX3_pass RX3 D cy) (hr : meth.sig.returnType = none) (hlocks : meth.locks = false) (N : Nat) (k113 : St × Int32 × Int32 × Int32 × Int32 × Int32 × Int32 × Int32 × Int32 → Option (St)) (hk113 : ∀ (S : St) (x1 : Int32) (x2 : Int32) (x3 : Int32) (x4 : Int32) (x5 : Int32) (x6 : Int32) (x7 : Int32) (x8 : Int32), k113 (S, x1, x2, x3, x4, x5, x6, x7, x8) = some Rr → ∀ (H : Heap) (locs : List Loc) (ls : Array Slot), WW D A s.heap (wC cy a r S) H locs → lv_has ls 10 [(0, .ref (a 79)), (1, .int x1), (2, .int x2), (3, .int x3), (4, .int x4), (5, .int x5), (6, .int x6), (7, .int x7), (8, .int x8)] → W p l e ({ frames := 3, cells := 0, slots := 0, locals := 65 } : Room) s m args below meth c H locs 0 0 (MQ below (QV D cy (wC cy a r) A Rr) args s 0 0 A) (F0 m 113 ls [])) (S : St) (x1 : Int32) (x2 : Int32) (x3 : Int32) (x4 : Int32) (x5 : Int32) (x6 : Int32) (x7 : Int32) (x8 : Int32) (hf : fX3_pass_206 N k113 S x1 x2 x3 x4 x5 x6 x7 x8 = some Rr) : ∀ (H : Heap) (locs : List Loc) (ls : Array Slot), WW D A s.heap (wC cy a r S) H locs → lv_has ls 10 [(0, .ref (a 79)), (1, .int x1), (2, .int x2), (3, .int x3), (4, .int x4), (5, .int x5), (6, .int x6), (7, .int x7), (8, .int x8)] → W p l e ({ frames := 3, cells := 0, slots := 0, locals := 65 } : Room) s m args below meth c H locs 0 0 (MQ below (QV D cy (wC cy a r) A Rr) args s 0 0 A) (F0 m 206 ls []) := by
  intro H locs ls hW hl
  unfold fX3_pass_206 at hf
  obtain ⟨z1, ez1, hf⟩ := bnd_el hf
  refine lv_iinc (v := z1) (lv' := [(8, .int z1), (0, .ref (a 79)), (1, .int x1), (2, .int x2), (3, .int x3), (4, .int x4), (5, .int x5), (6, .int x6), (7, .int x7)]) C.1 C.2.1 dX3_pass_206 hl (k := 8) rfl (by rw [ez1]; rfl) (by decide) rfl (fun ls hl => ?_)
  refine lv_goto (tgt := 113) C.1 C.2.1 dX3_pass_209 (by decide) ?_
  exact hk113 _ _ _ _ _ _ _ _ _ hf _ _ _ hW (lv_sub hl [1, 2, 3, 4, 5, 6, 7, 8, 0] rfl)
def fX3_pass_113s (N : Nat) (k113 : St × Int32 × Int32 × Int32 × Int32 × Int32 × Int32 × Int32 × Int32 → Option (St)) (S : St) (x1 : Int32) (x2 : Int32) (x3 : Int32) (x4 : Int32) (x5 : Int32) (x6 : Int32) (x7 : Int32) (x8 : Int32) : Option (St) :=
  bdo (fX7_otherPorts x3) fun v1 =>
  if v1 < x8 then
    bdo (fX2_discard N S x1) fun S6 =>
    bdo (fX2_discard N S6 x2) fun S9 =>
    bnd (sI S9 63 ((S9.1 63 + (1 : Int32)))) fun S10 =>
    some S10
  else
    bd2 (fX2_indexOf N S x1) fun v11 S13 =>
    bd2 (fX2_make N S13 x4 v11) fun v14 S16 =>
    bdo (fX7_portOf x2 x8) fun v17 =>
    bdo (fX7_portOf v14 (0 : Int32)) fun v19 =>
    bdo (fX2_replace N S16 v17 v19) fun S23 =>
    bdo (fX7_portOf x6 x8) fun v24 =>
    bdo (fX7_portOf v14 (1 : Int32)) fun v26 =>
    bdo (fX2_link N S23 v24 v26) fun S30 =>
    if x5 = (2 : Int32) then
      bdo (fX7_portOf x7 x8) fun v32 =>
      bdo (fX7_portOf v14 (2 : Int32)) fun v34 =>
      bdo (fX2_link N S30 v32 v34) fun S38 =>
      fX3_pass_206 N k113 S38 x1 x2 x3 x4 x5 x6 x7 x8
    else
      fX3_pass_206 N k113 S30 x1 x2 x3 x4 x5 x6 x7 x8
def fX3_pass_113 (N : Nat) : St × Int32 × Int32 × Int32 × Int32 × Int32 × Int32 × Int32 × Int32 → Option (St) := loopN (fun k x => fX3_pass_113s N k x.1 x.2.1 x.2.2.1 x.2.2.2.1 x.2.2.2.2.1 x.2.2.2.2.2.1 x.2.2.2.2.2.2.1 x.2.2.2.2.2.2.2.1 x.2.2.2.2.2.2.2.2) N
set_option maxHeartbeats 4000000 in
set_option maxRecDepth 100000 in
theorem lX3_pass_113 {p : Program} {l : Launch} {e : Env} {s : State} {m : MethodId} {args : Array Value} {below : List Frame} {meth : Method} {c : Code} {D : va_G} {cy : Nat → ClassId} {a r : Nat → Nat} {A : Nat → Prop} {Rr : St} (C : Cx p s m args c cX3_pass 10 wsX3_pass RX3 D cy) (hr : meth.sig.returnType = none) (hlocks : meth.locks = false) (N : Nat) : ∀ (n : Nat) (S : St) (x1 : Int32) (x2 : Int32) (x3 : Int32) (x4 : Int32) (x5 : Int32) (x6 : Int32) (x7 : Int32) (x8 : Int32), loopN (fun k x => fX3_pass_113s N k x.1 x.2.1 x.2.2.1 x.2.2.2.1 x.2.2.2.2.1 x.2.2.2.2.2.1 x.2.2.2.2.2.2.1 x.2.2.2.2.2.2.2.1 x.2.2.2.2.2.2.2.2) n (S, x1, x2, x3, x4, x5, x6, x7, x8) = some Rr → ∀ (H : Heap) (locs : List Loc) (ls : Array Slot), WW D A s.heap (wC cy a r S) H locs → lv_has ls 10 [(0, .ref (a 79)), (1, .int x1), (2, .int x2), (3, .int x3), (4, .int x4), (5, .int x5), (6, .int x6), (7, .int x7), (8, .int x8)] → W p l e ({ frames := 3, cells := 0, slots := 0, locals := 65 } : Room) s m args below meth c H locs 0 0 (MQ below (QV D cy (wC cy a r) A Rr) args s 0 0 A) (F0 m 113 ls []) := by
  intro n
  induction n with
  | zero =>
    intro S x1 x2 x3 x4 x5 x6 x7 x8 hf
    cases hf
  | succ n ih =>
    intro S x1 x2 x3 x4 x5 x6 x7 x8 hf H locs ls hW hl
    have hf : fX3_pass_113s N (loopN (fun k x => fX3_pass_113s N k x.1 x.2.1 x.2.2.1 x.2.2.2.1 x.2.2.2.2.1 x.2.2.2.2.2.1 x.2.2.2.2.2.2.1 x.2.2.2.2.2.2.2.1 x.2.2.2.2.2.2.2.2) n) S x1 x2 x3 x4 x5 x6 x7 x8 = some Rr := hf
    unfold fX3_pass_113s at hf
    refine lv_iload C.1 C.2.1 dX3_pass_113 (lv_at hl 8 rfl) ?_
    refine lv_iload_n C.1 C.2.1 dX3_pass_115 rfl (lv_at hl 3 rfl) ?_
    obtain ⟨v1, h2, hf⟩ := bdo_el hf
    refine mcSN (As := [.int x3]) (rest := [.int x8]) C (cX7_otherPorts_met l x3 v1 h2) ⟨va_cnB 1 C.2.2.2.2.1 gX3_pass_X7_otherPorts_n65 rfl rfl rfl (C.2.2.2.2.2.2 (RX3, 65, yX7_otherPorts) (by decide +kernel)) (C.2.2.2.2.1 _ mX3_pass_i7) (by decide +kernel) ⟨Nat.le_of_ble_eq_true rfl, Nat.le_of_ble_eq_true rfl⟩, C.2.2.2.2.1 _ mX3_pass_s_otherPorts, trivial⟩ rfl hl.1 (Nat.le_of_ble_eq_true rfl) dX3_pass_116 ⟨Nat.zero_le _, Nat.zero_le _⟩ rfl ?_
    refine lv_icmp_gt (tgt := 212) C.1 C.2.1 dX3_pass_119 (by decide) (fun q3 => ?_) (fun q3 => ?_)
    · replace hf := (if_pos q3).symm.trans hf
      refine lv_aload_n C.1 C.2.1 dX3_pass_212 rfl (lv_at hl 0 rfl) ?_
      refine fg_3_0 C kX3_pass_3 mX3_pass_9 hW dX3_pass_213 ?_
      refine lv_iload_n C.1 C.2.1 dX3_pass_216 rfl (lv_at hl 1 rfl) ?_
      obtain ⟨S6, h5, hf⟩ := bdo_el hf
      refine mcVv (w := wC cy a r) (S := S) (As := [.int x1]) (rest := []) (q0 := 2) (ci := 2) C (cX2_discard_met l D cy a r _ N S x1 S6 h5) (cwV 1 C.2.2.2.2.1 gX3_pass_X2_discard rfl rfl rfl (by decide +kernel) ⟨Nat.le_of_ble_eq_true rfl, Nat.le_of_ble_eq_true rfl⟩) rfl rfl rfl hl.1 (Nat.le_of_ble_eq_true rfl) hW dX3_pass_217 ⟨Nat.zero_le _, Nat.zero_le _⟩ rfl (fun H locs hW => ?_)
      refine lv_aload_n C.1 C.2.1 dX3_pass_220 rfl (lv_at hl 0 rfl) ?_
      refine fg_3_0 C kX3_pass_3 mX3_pass_9 hW dX3_pass_221 ?_
      refine lv_iload_n C.1 C.2.1 dX3_pass_224 rfl (lv_at hl 2 rfl) ?_
      obtain ⟨S9, h8, hf⟩ := bdo_el hf
      refine mcVv (w := wC cy a r) (S := S6) (As := [.int x2]) (rest := []) (q0 := 2) (ci := 2) C (cX2_discard_met l D cy a r _ N S6 x2 S9 h8) (cwV 1 C.2.2.2.2.1 gX3_pass_X2_discard rfl rfl rfl (by decide +kernel) ⟨Nat.le_of_ble_eq_true rfl, Nat.le_of_ble_eq_true rfl⟩) rfl rfl rfl hl.1 (Nat.le_of_ble_eq_true rfl) hW dX3_pass_225 ⟨Nat.zero_le _, Nat.zero_le _⟩ rfl (fun H locs hW => ?_)
      refine lv_aload_n C.1 C.2.1 dX3_pass_228 rfl (lv_at hl 0 rfl) ?_
      refine lv_dup C.1 C.2.1 dX3_pass_229 rfl ?_
      refine fg_3_3 C kX3_pass_3 mX3_pass_22 hW dX3_pass_230 ?_
      refine lv_iconst (v := 1) C.1 C.2.1 dX3_pass_233 (by decide) ?_
      refine lv_iadd C.1 C.2.1 dX3_pass_234 ?_
      obtain ⟨S10, eS10, hf⟩ := bnd_el hf
      refine fp_3_3 C kX3_pass_3 mX3_pass_22 hW dX3_pass_235 eS10 (fun H locs hW => ?_)
      exact mrV C hr hlocks hf hW dX3_pass_238
    · replace hf := (if_neg q3).symm.trans hf
      refine lv_aload_n C.1 C.2.1 dX3_pass_122 rfl (lv_at hl 0 rfl) ?_
      refine fg_3_0 C kX3_pass_3 mX3_pass_9 hW dX3_pass_123 ?_
      refine lv_iload C.1 C.2.1 dX3_pass_126 (lv_at hl 4 rfl) ?_
      refine lv_aload_n C.1 C.2.1 dX3_pass_128 rfl (lv_at hl 0 rfl) ?_
      refine fg_3_0 C kX3_pass_3 mX3_pass_9 hW dX3_pass_129 ?_
      refine lv_iload_n C.1 C.2.1 dX3_pass_132 rfl (lv_at hl 1 rfl) ?_
      obtain ⟨v11, S13, h12, hf⟩ := bd2_el hf
      refine mcVi (w := wC cy a r) (S := S) (As := [.int x1]) (rest := [.int x4, .ref (a 59)]) (q0 := 2) (ci := 2) C (cX2_indexOf_met l D cy a r _ N S x1 (v11, S13) h12) (cwV 1 C.2.2.2.2.1 gX3_pass_X2_indexOf rfl rfl rfl (by decide +kernel) ⟨Nat.le_of_ble_eq_true rfl, Nat.le_of_ble_eq_true rfl⟩) rfl rfl rfl hl.1 (Nat.le_of_ble_eq_true rfl) hW dX3_pass_133 ⟨Nat.zero_le _, Nat.zero_le _⟩ rfl (fun H locs hW => ?_)
      obtain ⟨v14, S16, h15, hf⟩ := bd2_el hf
      refine mcVi (w := wC cy a r) (S := S13) (As := [.int x4, .int v11]) (rest := []) (q0 := 2) (ci := 2) C (cX2_make_met l D cy a r _ N S13 x4 v11 (v14, S16) h15) (cwV 2 C.2.2.2.2.1 gX3_pass_X2_make rfl rfl rfl (by decide +kernel) ⟨Nat.le_of_ble_eq_true rfl, Nat.le_of_ble_eq_true rfl⟩) rfl rfl rfl hl.1 (Nat.le_of_ble_eq_true rfl) hW dX3_pass_136 ⟨Nat.zero_le _, Nat.zero_le _⟩ rfl (fun H locs hW => ?_)
      refine lv_istore (lv' := [(9, .int v14), (0, .ref (a 79)), (1, .int x1), (2, .int x2), (3, .int x3), (4, .int x4), (5, .int x5), (6, .int x6), (7, .int x7), (8, .int x8)]) C.1 C.2.1 dX3_pass_139 hl (by decide) rfl (fun ls hl => ?_)
      refine lv_aload_n C.1 C.2.1 dX3_pass_141 rfl (lv_at hl 1 rfl) ?_
      refine fg_3_0 C kX3_pass_3 mX3_pass_9 hW dX3_pass_142 ?_
      refine lv_iload_n C.1 C.2.1 dX3_pass_145 rfl (lv_at hl 3 rfl) ?_
      refine lv_iload C.1 C.2.1 dX3_pass_146 (lv_at hl 9 rfl) ?_
      obtain ⟨v17, h18, hf⟩ := bdo_el hf
      refine mcSN (As := [.int x2, .int x8]) (rest := [.ref (a 59)]) C (cX7_portOf_met l x2 x8 v17 h18) ⟨va_cnB 2 C.2.2.2.2.1 gX3_pass_X7_portOf_n72 rfl rfl rfl (C.2.2.2.2.2.2 (RX3, 72, yX7_portOf) (by decide +kernel)) (C.2.2.2.2.1 _ mX3_pass_i7) (by decide +kernel) ⟨Nat.le_of_ble_eq_true rfl, Nat.le_of_ble_eq_true rfl⟩, C.2.2.2.2.1 _ mX3_pass_s_portOf, trivial⟩ rfl hl.1 (Nat.le_of_ble_eq_true rfl) dX3_pass_148 ⟨Nat.zero_le _, Nat.zero_le _⟩ rfl ?_
      refine lv_iload C.1 C.2.1 dX3_pass_151 (lv_at hl 0 rfl) ?_
      refine lv_iconst (v := 0) C.1 C.2.1 dX3_pass_153 (by decide) ?_
      obtain ⟨v19, h20, hf⟩ := bdo_el hf
      refine mcSN (As := [.int v14, .int (0 : Int32)]) (rest := [.int v17, .ref (a 59)]) C (cX7_portOf_met l v14 (0 : Int32) v19 h20) ⟨va_cnB 2 C.2.2.2.2.1 gX3_pass_X7_portOf_n72 rfl rfl rfl (C.2.2.2.2.2.2 (RX3, 72, yX7_portOf) (by decide +kernel)) (C.2.2.2.2.1 _ mX3_pass_i7) (by decide +kernel) ⟨Nat.le_of_ble_eq_true rfl, Nat.le_of_ble_eq_true rfl⟩, C.2.2.2.2.1 _ mX3_pass_s_portOf, trivial⟩ rfl hl.1 (Nat.le_of_ble_eq_true rfl) dX3_pass_154 ⟨Nat.zero_le _, Nat.zero_le _⟩ rfl ?_
      obtain ⟨S23, h22, hf⟩ := bdo_el hf
      refine mcVv (w := wC cy a r) (S := S16) (As := [.int v17, .int v19]) (rest := []) (q0 := 2) (ci := 2) C (cX2_replace_met l D cy a r _ N S16 v17 v19 S23 h22) (cwV 2 C.2.2.2.2.1 gX3_pass_X2_replace rfl rfl rfl (by decide +kernel) ⟨Nat.le_of_ble_eq_true rfl, Nat.le_of_ble_eq_true rfl⟩) rfl rfl rfl hl.1 (Nat.le_of_ble_eq_true rfl) hW dX3_pass_157 ⟨Nat.zero_le _, Nat.zero_le _⟩ rfl (fun H locs hW => ?_)
      refine lv_aload_n C.1 C.2.1 dX3_pass_160 rfl (lv_at hl 1 rfl) ?_
      refine fg_3_0 C kX3_pass_3 mX3_pass_9 hW dX3_pass_161 ?_
      refine lv_iload C.1 C.2.1 dX3_pass_164 (lv_at hl 7 rfl) ?_
      refine lv_iload C.1 C.2.1 dX3_pass_166 (lv_at hl 9 rfl) ?_
      obtain ⟨v24, h25, hf⟩ := bdo_el hf
      refine mcSN (As := [.int x6, .int x8]) (rest := [.ref (a 59)]) C (cX7_portOf_met l x6 x8 v24 h25) ⟨va_cnB 2 C.2.2.2.2.1 gX3_pass_X7_portOf_n72 rfl rfl rfl (C.2.2.2.2.2.2 (RX3, 72, yX7_portOf) (by decide +kernel)) (C.2.2.2.2.1 _ mX3_pass_i7) (by decide +kernel) ⟨Nat.le_of_ble_eq_true rfl, Nat.le_of_ble_eq_true rfl⟩, C.2.2.2.2.1 _ mX3_pass_s_portOf, trivial⟩ rfl hl.1 (Nat.le_of_ble_eq_true rfl) dX3_pass_168 ⟨Nat.zero_le _, Nat.zero_le _⟩ rfl ?_
      refine lv_iload C.1 C.2.1 dX3_pass_171 (lv_at hl 0 rfl) ?_
      refine lv_iconst (v := 1) C.1 C.2.1 dX3_pass_173 (by decide) ?_
      obtain ⟨v26, h27, hf⟩ := bdo_el hf
      refine mcSN (As := [.int v14, .int (1 : Int32)]) (rest := [.int v24, .ref (a 59)]) C (cX7_portOf_met l v14 (1 : Int32) v26 h27) ⟨va_cnB 2 C.2.2.2.2.1 gX3_pass_X7_portOf_n72 rfl rfl rfl (C.2.2.2.2.2.2 (RX3, 72, yX7_portOf) (by decide +kernel)) (C.2.2.2.2.1 _ mX3_pass_i7) (by decide +kernel) ⟨Nat.le_of_ble_eq_true rfl, Nat.le_of_ble_eq_true rfl⟩, C.2.2.2.2.1 _ mX3_pass_s_portOf, trivial⟩ rfl hl.1 (Nat.le_of_ble_eq_true rfl) dX3_pass_174 ⟨Nat.zero_le _, Nat.zero_le _⟩ rfl ?_
      obtain ⟨S30, h29, hf⟩ := bdo_el hf
      refine mcVv (w := wC cy a r) (S := S23) (As := [.int v24, .int v26]) (rest := []) (q0 := 2) (ci := 2) C (cX2_link_met l D cy a r _ N S23 v24 v26 S30 h29) (cwV 2 C.2.2.2.2.1 gX3_pass_X2_link rfl rfl rfl (by decide +kernel) ⟨Nat.le_of_ble_eq_true rfl, Nat.le_of_ble_eq_true rfl⟩) rfl rfl rfl hl.1 (Nat.le_of_ble_eq_true rfl) hW dX3_pass_177 ⟨Nat.zero_le _, Nat.zero_le _⟩ rfl (fun H locs hW => ?_)
      refine lv_iload C.1 C.2.1 dX3_pass_180 (lv_at hl 6 rfl) ?_
      refine lv_iconst (v := 2) C.1 C.2.1 dX3_pass_182 (by decide) ?_
      refine lv_icmp_ne (tgt := 206) C.1 C.2.1 dX3_pass_183 (by decide) (fun q31 => ?_) (fun q31 => ?_)
      · replace hf := (if_neg q31).symm.trans hf
        exact lX3_pass_206 C hr hlocks N _ ih _ _ _ _ _ _ _ _ _ hf _ _ _ hW (lv_sub hl [1, 2, 3, 4, 5, 6, 7, 8, 9] rfl)
      · replace hf := (if_pos q31).symm.trans hf
        refine lv_aload_n C.1 C.2.1 dX3_pass_186 rfl (lv_at hl 1 rfl) ?_
        refine fg_3_0 C kX3_pass_3 mX3_pass_9 hW dX3_pass_187 ?_
        refine lv_iload C.1 C.2.1 dX3_pass_190 (lv_at hl 8 rfl) ?_
        refine lv_iload C.1 C.2.1 dX3_pass_192 (lv_at hl 9 rfl) ?_
        obtain ⟨v32, h33, hf⟩ := bdo_el hf
        refine mcSN (As := [.int x7, .int x8]) (rest := [.ref (a 59)]) C (cX7_portOf_met l x7 x8 v32 h33) ⟨va_cnB 2 C.2.2.2.2.1 gX3_pass_X7_portOf_n72 rfl rfl rfl (C.2.2.2.2.2.2 (RX3, 72, yX7_portOf) (by decide +kernel)) (C.2.2.2.2.1 _ mX3_pass_i7) (by decide +kernel) ⟨Nat.le_of_ble_eq_true rfl, Nat.le_of_ble_eq_true rfl⟩, C.2.2.2.2.1 _ mX3_pass_s_portOf, trivial⟩ rfl hl.1 (Nat.le_of_ble_eq_true rfl) dX3_pass_194 ⟨Nat.zero_le _, Nat.zero_le _⟩ rfl ?_
        refine lv_iload C.1 C.2.1 dX3_pass_197 (lv_at hl 0 rfl) ?_
        refine lv_iconst (v := 2) C.1 C.2.1 dX3_pass_199 (by decide) ?_
        obtain ⟨v34, h35, hf⟩ := bdo_el hf
        refine mcSN (As := [.int v14, .int (2 : Int32)]) (rest := [.int v32, .ref (a 59)]) C (cX7_portOf_met l v14 (2 : Int32) v34 h35) ⟨va_cnB 2 C.2.2.2.2.1 gX3_pass_X7_portOf_n72 rfl rfl rfl (C.2.2.2.2.2.2 (RX3, 72, yX7_portOf) (by decide +kernel)) (C.2.2.2.2.1 _ mX3_pass_i7) (by decide +kernel) ⟨Nat.le_of_ble_eq_true rfl, Nat.le_of_ble_eq_true rfl⟩, C.2.2.2.2.1 _ mX3_pass_s_portOf, trivial⟩ rfl hl.1 (Nat.le_of_ble_eq_true rfl) dX3_pass_200 ⟨Nat.zero_le _, Nat.zero_le _⟩ rfl ?_
        obtain ⟨S38, h37, hf⟩ := bdo_el hf
        refine mcVv (w := wC cy a r) (S := S30) (As := [.int v32, .int v34]) (rest := []) (q0 := 2) (ci := 2) C (cX2_link_met l D cy a r _ N S30 v32 v34 S38 h37) (cwV 2 C.2.2.2.2.1 gX3_pass_X2_link rfl rfl rfl (by decide +kernel) ⟨Nat.le_of_ble_eq_true rfl, Nat.le_of_ble_eq_true rfl⟩) rfl rfl rfl hl.1 (Nat.le_of_ble_eq_true rfl) hW dX3_pass_203 ⟨Nat.zero_le _, Nat.zero_le _⟩ rfl (fun H locs hW => ?_)
        exact lX3_pass_206 C hr hlocks N _ ih _ _ _ _ _ _ _ _ _ hf _ _ _ hW (lv_sub hl [1, 2, 3, 4, 5, 6, 7, 8, 9] rfl)
def fX3_pass_110 (N : Nat) (S : St) (x1 : Int32) (x2 : Int32) (x3 : Int32) (x4 : Int32) (x5 : Int32) (x6 : Int32) (x7 : Int32) : Option (St) :=
  bnd (1 : Int32) fun z1 =>
  fX3_pass_113 N (S, x1, x2, x3, x4, x5, x6, x7, z1)
set_option maxHeartbeats 4000000 in
set_option maxRecDepth 100000 in
theorem lX3_pass_110 {p : Program} {l : Launch} {e : Env} {s : State} {m : MethodId} {args : Array Value} {below : List Frame} {meth : Method} {c : Code} {D : va_G} {cy : Nat → ClassId} {a r : Nat → Nat} {A : Nat → Prop} {Rr : St} (C : Cx p s m args c cX3_pass 10 wsX3_pass RX3 D cy) (hr : meth.sig.returnType = none) (hlocks : meth.locks = false) (N : Nat) (S : St) (x1 : Int32) (x2 : Int32) (x3 : Int32) (x4 : Int32) (x5 : Int32) (x6 : Int32) (x7 : Int32) (hf : fX3_pass_110 N S x1 x2 x3 x4 x5 x6 x7 = some Rr) : ∀ (H : Heap) (locs : List Loc) (ls : Array Slot), WW D A s.heap (wC cy a r S) H locs → lv_has ls 10 [(0, .ref (a 79)), (1, .int x1), (2, .int x2), (3, .int x3), (4, .int x4), (5, .int x5), (6, .int x6), (7, .int x7)] → W p l e ({ frames := 3, cells := 0, slots := 0, locals := 65 } : Room) s m args below meth c H locs 0 0 (MQ below (QV D cy (wC cy a r) A Rr) args s 0 0 A) (F0 m 110 ls []) := by
  intro H locs ls hW hl
  unfold fX3_pass_110 at hf
  refine lv_iconst (v := 1) C.1 C.2.1 dX3_pass_110 (by decide) ?_
  obtain ⟨z1, ez1, hf⟩ := bnd_el hf
  refine lv_as ez1 ?_
  refine lv_istore (lv' := [(8, .int z1), (0, .ref (a 79)), (1, .int x1), (2, .int x2), (3, .int x3), (4, .int x4), (5, .int x5), (6, .int x6), (7, .int x7)]) C.1 C.2.1 dX3_pass_111 hl (by decide) rfl (fun ls hl => ?_)
  exact lX3_pass_113 C hr hlocks N _ _ _ _ _ _ _ _ _ _ hf _ _ _ hW (lv_sub hl [1, 2, 3, 4, 5, 6, 7, 8, 0] rfl)
def fX3_pass_66 (N : Nat) (S : St) (x1 : Int32) (x2 : Int32) (x3 : Int32) (x4 : Int32) (x5 : Int32) (x6 : Int32) (y0 : Int32) : Option (St) :=
  bdo (fX7_portOf x1 (1 : Int32)) fun v1 =>
  bdo (fX7_portOf x6 (0 : Int32)) fun v3 =>
  bdo (fX2_replace N S v1 v3) fun S7 =>
  if x5 = (2 : Int32) then
    bdo (fX7_portOf x1 (2 : Int32)) fun v9 =>
    bdo (fX7_portOf y0 (0 : Int32)) fun v11 =>
    bdo (fX2_replace N S7 v9 v11) fun S15 =>
    fX3_pass_110 N S15 x1 x2 x3 x4 x5 x6 y0
  else
    fX3_pass_110 N S7 x1 x2 x3 x4 x5 x6 y0
set_option maxHeartbeats 4000000 in
set_option maxRecDepth 100000 in
theorem lX3_pass_66 {p : Program} {l : Launch} {e : Env} {s : State} {m : MethodId} {args : Array Value} {below : List Frame} {meth : Method} {c : Code} {D : va_G} {cy : Nat → ClassId} {a r : Nat → Nat} {A : Nat → Prop} {Rr : St} (C : Cx p s m args c cX3_pass 10 wsX3_pass RX3 D cy) (hr : meth.sig.returnType = none) (hlocks : meth.locks = false) (N : Nat) (S : St) (x1 : Int32) (x2 : Int32) (x3 : Int32) (x4 : Int32) (x5 : Int32) (x6 : Int32) (y0 : Int32) (hf : fX3_pass_66 N S x1 x2 x3 x4 x5 x6 y0 = some Rr) : ∀ (H : Heap) (locs : List Loc) (ls : Array Slot), WW D A s.heap (wC cy a r S) H locs → lv_has ls 10 [(0, .ref (a 79)), (1, .int x1), (2, .int x2), (3, .int x3), (4, .int x4), (5, .int x5), (6, .int x6)] → W p l e ({ frames := 3, cells := 0, slots := 0, locals := 65 } : Room) s m args below meth c H locs 0 0 (MQ below (QV D cy (wC cy a r) A Rr) args s 0 0 A) (F0 m 66 ls [.int y0]) := by
  intro H locs ls hW hl
  unfold fX3_pass_66 at hf
  refine lv_istore (lv' := [(7, .int y0), (0, .ref (a 79)), (1, .int x1), (2, .int x2), (3, .int x3), (4, .int x4), (5, .int x5), (6, .int x6)]) C.1 C.2.1 dX3_pass_66 hl (by decide) rfl (fun ls hl => ?_)
  refine lv_aload_n C.1 C.2.1 dX3_pass_68 rfl (lv_at hl 1 rfl) ?_
  refine fg_3_0 C kX3_pass_3 mX3_pass_9 hW dX3_pass_69 ?_
  refine lv_iload_n C.1 C.2.1 dX3_pass_72 rfl (lv_at hl 2 rfl) ?_
  refine lv_iconst (v := 1) C.1 C.2.1 dX3_pass_73 (by decide) ?_
  obtain ⟨v1, h2, hf⟩ := bdo_el hf
  refine mcSN (As := [.int x1, .int (1 : Int32)]) (rest := [.ref (a 59)]) C (cX7_portOf_met l x1 (1 : Int32) v1 h2) ⟨va_cnB 2 C.2.2.2.2.1 gX3_pass_X7_portOf_n72 rfl rfl rfl (C.2.2.2.2.2.2 (RX3, 72, yX7_portOf) (by decide +kernel)) (C.2.2.2.2.1 _ mX3_pass_i7) (by decide +kernel) ⟨Nat.le_of_ble_eq_true rfl, Nat.le_of_ble_eq_true rfl⟩, C.2.2.2.2.1 _ mX3_pass_s_portOf, trivial⟩ rfl hl.1 (Nat.le_of_ble_eq_true rfl) dX3_pass_74 ⟨Nat.zero_le _, Nat.zero_le _⟩ rfl ?_
  refine lv_iload C.1 C.2.1 dX3_pass_77 (lv_at hl 7 rfl) ?_
  refine lv_iconst (v := 0) C.1 C.2.1 dX3_pass_79 (by decide) ?_
  obtain ⟨v3, h4, hf⟩ := bdo_el hf
  refine mcSN (As := [.int x6, .int (0 : Int32)]) (rest := [.int v1, .ref (a 59)]) C (cX7_portOf_met l x6 (0 : Int32) v3 h4) ⟨va_cnB 2 C.2.2.2.2.1 gX3_pass_X7_portOf_n72 rfl rfl rfl (C.2.2.2.2.2.2 (RX3, 72, yX7_portOf) (by decide +kernel)) (C.2.2.2.2.1 _ mX3_pass_i7) (by decide +kernel) ⟨Nat.le_of_ble_eq_true rfl, Nat.le_of_ble_eq_true rfl⟩, C.2.2.2.2.1 _ mX3_pass_s_portOf, trivial⟩ rfl hl.1 (Nat.le_of_ble_eq_true rfl) dX3_pass_80 ⟨Nat.zero_le _, Nat.zero_le _⟩ rfl ?_
  obtain ⟨S7, h6, hf⟩ := bdo_el hf
  refine mcVv (w := wC cy a r) (S := S) (As := [.int v1, .int v3]) (rest := []) (q0 := 2) (ci := 2) C (cX2_replace_met l D cy a r _ N S v1 v3 S7 h6) (cwV 2 C.2.2.2.2.1 gX3_pass_X2_replace rfl rfl rfl (by decide +kernel) ⟨Nat.le_of_ble_eq_true rfl, Nat.le_of_ble_eq_true rfl⟩) rfl rfl rfl hl.1 (Nat.le_of_ble_eq_true rfl) hW dX3_pass_83 ⟨Nat.zero_le _, Nat.zero_le _⟩ rfl (fun H locs hW => ?_)
  refine lv_iload C.1 C.2.1 dX3_pass_86 (lv_at hl 6 rfl) ?_
  refine lv_iconst (v := 2) C.1 C.2.1 dX3_pass_88 (by decide) ?_
  refine lv_icmp_ne (tgt := 110) C.1 C.2.1 dX3_pass_89 (by decide) (fun q8 => ?_) (fun q8 => ?_)
  · replace hf := (if_neg q8).symm.trans hf
    exact lX3_pass_110 C hr hlocks N _ _ _ _ _ _ _ _ hf _ _ _ hW (lv_sub hl [1, 2, 3, 4, 5, 6, 7, 0] rfl)
  · replace hf := (if_pos q8).symm.trans hf
    refine lv_aload_n C.1 C.2.1 dX3_pass_92 rfl (lv_at hl 1 rfl) ?_
    refine fg_3_0 C kX3_pass_3 mX3_pass_9 hW dX3_pass_93 ?_
    refine lv_iload_n C.1 C.2.1 dX3_pass_96 rfl (lv_at hl 2 rfl) ?_
    refine lv_iconst (v := 2) C.1 C.2.1 dX3_pass_97 (by decide) ?_
    obtain ⟨v9, h10, hf⟩ := bdo_el hf
    refine mcSN (As := [.int x1, .int (2 : Int32)]) (rest := [.ref (a 59)]) C (cX7_portOf_met l x1 (2 : Int32) v9 h10) ⟨va_cnB 2 C.2.2.2.2.1 gX3_pass_X7_portOf_n72 rfl rfl rfl (C.2.2.2.2.2.2 (RX3, 72, yX7_portOf) (by decide +kernel)) (C.2.2.2.2.1 _ mX3_pass_i7) (by decide +kernel) ⟨Nat.le_of_ble_eq_true rfl, Nat.le_of_ble_eq_true rfl⟩, C.2.2.2.2.1 _ mX3_pass_s_portOf, trivial⟩ rfl hl.1 (Nat.le_of_ble_eq_true rfl) dX3_pass_98 ⟨Nat.zero_le _, Nat.zero_le _⟩ rfl ?_
    refine lv_iload C.1 C.2.1 dX3_pass_101 (lv_at hl 0 rfl) ?_
    refine lv_iconst (v := 0) C.1 C.2.1 dX3_pass_103 (by decide) ?_
    obtain ⟨v11, h12, hf⟩ := bdo_el hf
    refine mcSN (As := [.int y0, .int (0 : Int32)]) (rest := [.int v9, .ref (a 59)]) C (cX7_portOf_met l y0 (0 : Int32) v11 h12) ⟨va_cnB 2 C.2.2.2.2.1 gX3_pass_X7_portOf_n72 rfl rfl rfl (C.2.2.2.2.2.2 (RX3, 72, yX7_portOf) (by decide +kernel)) (C.2.2.2.2.1 _ mX3_pass_i7) (by decide +kernel) ⟨Nat.le_of_ble_eq_true rfl, Nat.le_of_ble_eq_true rfl⟩, C.2.2.2.2.1 _ mX3_pass_s_portOf, trivial⟩ rfl hl.1 (Nat.le_of_ble_eq_true rfl) dX3_pass_104 ⟨Nat.zero_le _, Nat.zero_le _⟩ rfl ?_
    obtain ⟨S15, h14, hf⟩ := bdo_el hf
    refine mcVv (w := wC cy a r) (S := S7) (As := [.int v9, .int v11]) (rest := []) (q0 := 2) (ci := 2) C (cX2_replace_met l D cy a r _ N S7 v9 v11 S15 h14) (cwV 2 C.2.2.2.2.1 gX3_pass_X2_replace rfl rfl rfl (by decide +kernel) ⟨Nat.le_of_ble_eq_true rfl, Nat.le_of_ble_eq_true rfl⟩) rfl rfl rfl hl.1 (Nat.le_of_ble_eq_true rfl) hW dX3_pass_107 ⟨Nat.zero_le _, Nat.zero_le _⟩ rfl (fun H locs hW => ?_)
    exact lX3_pass_110 C hr hlocks N _ _ _ _ _ _ _ _ hf _ _ _ hW (lv_sub hl [1, 2, 3, 4, 5, 6, 7, 0] rfl)
def fX3_pass (N : Nat) (S : St) (p1 : Int32) (p2 : Int32) : Option (St) :=
  bd2 (fX2_kindOf N S p2) fun v1 S3 =>
  bd2 (fX2_kindOf N S3 p1) fun v4 S6 =>
  bdo (fX7_otherPorts v4) fun v7 =>
  bd2 (fX3_passedIndex N S6 p1 p2) fun v9 S11 =>
  bd2 (fX2_make N S11 v1 v9) fun v12 S14 =>
  if v7 = (2 : Int32) then
    bd2 (fX3_passedIndex N S14 p1 p2) fun v16 S18 =>
    bd2 (fX2_make N S18 v1 v16) fun v19 S21 =>
    fX3_pass_66 N S21 p1 p2 v1 v4 v7 v12 v19
  else
    fX3_pass_66 N S14 p1 p2 v1 v4 v7 v12 (-1 : Int32)
set_option maxHeartbeats 4000000 in
set_option maxRecDepth 100000 in
theorem cX3_pass_met (l : Launch) (D : va_G) (cy : Nat → ClassId) (a r : Nat → Nat) (sz N : Nat) (S : St) (p1 : Int32) (p2 : Int32) (Rr : St) (hf : fX3_pass N S p1 p2 = some Rr) : Met l yX3_pass wsX3_pass ({ frames := 3, cells := 0, slots := 0, locals := 65 } : Room) (va_Pc [.ref (a 79), .int p1, .int p2] (preW D cy (wC cy a r S) sz)) (QV D cy (wC cy a r) (va_A (wC cy a r S) sz) Rr) 0 0 (va_A (wC cy a r S) sz) := by
  refine Met.ofW (cc := cX3_pass) (maxL := 10) (ret := none) (by decide) rfl ?_
  intro p e s m args below meth c s₁ B hml hv
  obtain ⟨rfl, rfl, hP, hK, hD0, hN⟩ := hv
  have hlocks := B.notSynchronized
  have hr := B.returns
  have C : Cx p s m _ c cX3_pass 10 wsX3_pass RX3 D cy := ⟨B.exec, B.bytes, hml, findClass_of_methodNamed B.named, atoms_spec (ws := wsX3_pass) B.pre, hK, hN⟩
  have hW := ww_start (w := wC cy a r) hP hD0
  generalize va_A (wC cy a r S) s.heap.size = A at hW ⊢
  have hl := lv_entry ([.ref (a 79), .int p1, .int p2]) (n := 10) (Nat.le_of_ble_eq_true rfl)
  rw [lg_entry_eq]
  generalize (lg_sl ([.ref (a 79), .int p1, .int p2]) ++ List.replicate (10 - (lg_sl ([.ref (a 79), .int p1, .int p2])).length) Slot.unset).toArray = ls at hl ⊢
  have hl : lv_has ls 10 [(0, .ref (a 79)), (1, .int p1), (2, .int p2)] := hl
  unfold fX3_pass at hf
  refine lv_aload_n C.1 C.2.1 dX3_pass_0 rfl (lv_at hl 0 rfl) ?_
  refine fg_3_0 C kX3_pass_3 mX3_pass_9 hW dX3_pass_1 ?_
  refine lv_iload_n C.1 C.2.1 dX3_pass_4 rfl (lv_at hl 2 rfl) ?_
  obtain ⟨v1, S3, h2, hf⟩ := bd2_el hf
  refine mcVi (w := wC cy a r) (S := S) (As := [.int p2]) (rest := []) (q0 := 2) (ci := 2) C (cX2_kindOf_met l D cy a r _ N S p2 (v1, S3) h2) (cwV 1 C.2.2.2.2.1 gX3_pass_X2_kindOf rfl rfl rfl (by decide +kernel) ⟨Nat.le_of_ble_eq_true rfl, Nat.le_of_ble_eq_true rfl⟩) rfl rfl rfl hl.1 (Nat.le_of_ble_eq_true rfl) hW dX3_pass_5 ⟨Nat.zero_le _, Nat.zero_le _⟩ rfl (fun H locs hW => ?_)
  refine lv_istore_n (lv' := [(3, .int v1), (0, .ref (a 79)), (1, .int p1), (2, .int p2)]) C.1 C.2.1 dX3_pass_8 rfl hl (by decide) rfl (fun ls hl => ?_)
  refine lv_aload_n C.1 C.2.1 dX3_pass_9 rfl (lv_at hl 1 rfl) ?_
  refine fg_3_0 C kX3_pass_3 mX3_pass_9 hW dX3_pass_10 ?_
  refine lv_iload_n C.1 C.2.1 dX3_pass_13 rfl (lv_at hl 2 rfl) ?_
  obtain ⟨v4, S6, h5, hf⟩ := bd2_el hf
  refine mcVi (w := wC cy a r) (S := S3) (As := [.int p1]) (rest := []) (q0 := 2) (ci := 2) C (cX2_kindOf_met l D cy a r _ N S3 p1 (v4, S6) h5) (cwV 1 C.2.2.2.2.1 gX3_pass_X2_kindOf rfl rfl rfl (by decide +kernel) ⟨Nat.le_of_ble_eq_true rfl, Nat.le_of_ble_eq_true rfl⟩) rfl rfl rfl hl.1 (Nat.le_of_ble_eq_true rfl) hW dX3_pass_14 ⟨Nat.zero_le _, Nat.zero_le _⟩ rfl (fun H locs hW => ?_)
  refine lv_istore (lv' := [(4, .int v4), (3, .int v1), (0, .ref (a 79)), (1, .int p1), (2, .int p2)]) C.1 C.2.1 dX3_pass_17 hl (by decide) rfl (fun ls hl => ?_)
  refine lv_iload C.1 C.2.1 dX3_pass_19 (lv_at hl 0 rfl) ?_
  obtain ⟨v7, h8, hf⟩ := bdo_el hf
  refine mcSN (As := [.int v4]) (rest := []) C (cX7_otherPorts_met l v4 v7 h8) ⟨va_cnB 1 C.2.2.2.2.1 gX3_pass_X7_otherPorts_n65 rfl rfl rfl (C.2.2.2.2.2.2 (RX3, 65, yX7_otherPorts) (by decide +kernel)) (C.2.2.2.2.1 _ mX3_pass_i7) (by decide +kernel) ⟨Nat.le_of_ble_eq_true rfl, Nat.le_of_ble_eq_true rfl⟩, C.2.2.2.2.1 _ mX3_pass_s_otherPorts, trivial⟩ rfl hl.1 (Nat.le_of_ble_eq_true rfl) dX3_pass_21 ⟨Nat.zero_le _, Nat.zero_le _⟩ rfl ?_
  refine lv_istore (lv' := [(5, .int v7), (4, .int v4), (3, .int v1), (0, .ref (a 79)), (1, .int p1), (2, .int p2)]) C.1 C.2.1 dX3_pass_24 hl (by decide) rfl (fun ls hl => ?_)
  refine lv_aload_n C.1 C.2.1 dX3_pass_26 rfl (lv_at hl 3 rfl) ?_
  refine fg_3_0 C kX3_pass_3 mX3_pass_9 hW dX3_pass_27 ?_
  refine lv_iload_n C.1 C.2.1 dX3_pass_30 rfl (lv_at hl 2 rfl) ?_
  refine lv_aload_n C.1 C.2.1 dX3_pass_31 rfl (lv_at hl 3 rfl) ?_
  refine lv_iload_n C.1 C.2.1 dX3_pass_32 rfl (lv_at hl 4 rfl) ?_
  refine lv_iload_n C.1 C.2.1 dX3_pass_33 rfl (lv_at hl 5 rfl) ?_
  obtain ⟨v9, S11, h10, hf⟩ := bd2_el hf
  refine mcVi (w := wC cy a r) (S := S6) (As := [.int p1, .int p2]) (rest := [.int v1, .ref (a 59)]) (q0 := 3) (ci := 3) C (cX3_passedIndex_met l D cy a r _ N S6 p1 p2 (v9, S11) h10) (cwV 2 C.2.2.2.2.1 gX3_pass_X3_passedIndex rfl rfl rfl (by decide +kernel) ⟨Nat.le_of_ble_eq_true rfl, Nat.le_of_ble_eq_true rfl⟩) rfl rfl rfl hl.1 (Nat.le_of_ble_eq_true rfl) hW dX3_pass_34 ⟨Nat.zero_le _, Nat.zero_le _⟩ rfl (fun H locs hW => ?_)
  obtain ⟨v12, S14, h13, hf⟩ := bd2_el hf
  refine mcVi (w := wC cy a r) (S := S11) (As := [.int v1, .int v9]) (rest := []) (q0 := 2) (ci := 2) C (cX2_make_met l D cy a r _ N S11 v1 v9 (v12, S14) h13) (cwV 2 C.2.2.2.2.1 gX3_pass_X2_make rfl rfl rfl (by decide +kernel) ⟨Nat.le_of_ble_eq_true rfl, Nat.le_of_ble_eq_true rfl⟩) rfl rfl rfl hl.1 (Nat.le_of_ble_eq_true rfl) hW dX3_pass_37 ⟨Nat.zero_le _, Nat.zero_le _⟩ rfl (fun H locs hW => ?_)
  refine lv_istore (lv' := [(6, .int v12), (5, .int v7), (4, .int v4), (3, .int v1), (0, .ref (a 79)), (1, .int p1), (2, .int p2)]) C.1 C.2.1 dX3_pass_40 hl (by decide) rfl (fun ls hl => ?_)
  refine lv_iload C.1 C.2.1 dX3_pass_42 (lv_at hl 1 rfl) ?_
  refine lv_iconst (v := 2) C.1 C.2.1 dX3_pass_44 (by decide) ?_
  refine lv_icmp_ne (tgt := 65) C.1 C.2.1 dX3_pass_45 (by decide) (fun q15 => ?_) (fun q15 => ?_)
  · replace hf := (if_neg q15).symm.trans hf
    refine lv_iconst (v := -1) C.1 C.2.1 dX3_pass_65 (by decide) ?_
    exact lX3_pass_66 C hr hlocks N _ _ _ _ _ _ _ _ hf _ _ _ hW (lv_sub hl [4, 5, 6, 3, 2, 1, 0] rfl)
  · replace hf := (if_pos q15).symm.trans hf
    refine lv_aload_n C.1 C.2.1 dX3_pass_48 rfl (lv_at hl 4 rfl) ?_
    refine fg_3_0 C kX3_pass_3 mX3_pass_9 hW dX3_pass_49 ?_
    refine lv_iload_n C.1 C.2.1 dX3_pass_52 rfl (lv_at hl 3 rfl) ?_
    refine lv_aload_n C.1 C.2.1 dX3_pass_53 rfl (lv_at hl 4 rfl) ?_
    refine lv_iload_n C.1 C.2.1 dX3_pass_54 rfl (lv_at hl 5 rfl) ?_
    refine lv_iload_n C.1 C.2.1 dX3_pass_55 rfl (lv_at hl 6 rfl) ?_
    obtain ⟨v16, S18, h17, hf⟩ := bd2_el hf
    refine mcVi (w := wC cy a r) (S := S14) (As := [.int p1, .int p2]) (rest := [.int v1, .ref (a 59)]) (q0 := 3) (ci := 3) C (cX3_passedIndex_met l D cy a r _ N S14 p1 p2 (v16, S18) h17) (cwV 2 C.2.2.2.2.1 gX3_pass_X3_passedIndex rfl rfl rfl (by decide +kernel) ⟨Nat.le_of_ble_eq_true rfl, Nat.le_of_ble_eq_true rfl⟩) rfl rfl rfl hl.1 (Nat.le_of_ble_eq_true rfl) hW dX3_pass_56 ⟨Nat.zero_le _, Nat.zero_le _⟩ rfl (fun H locs hW => ?_)
    obtain ⟨v19, S21, h20, hf⟩ := bd2_el hf
    refine mcVi (w := wC cy a r) (S := S18) (As := [.int v1, .int v16]) (rest := []) (q0 := 2) (ci := 2) C (cX2_make_met l D cy a r _ N S18 v1 v16 (v19, S21) h20) (cwV 2 C.2.2.2.2.1 gX3_pass_X2_make rfl rfl rfl (by decide +kernel) ⟨Nat.le_of_ble_eq_true rfl, Nat.le_of_ble_eq_true rfl⟩) rfl rfl rfl hl.1 (Nat.le_of_ble_eq_true rfl) hW dX3_pass_59 ⟨Nat.zero_le _, Nat.zero_le _⟩ rfl (fun H locs hW => ?_)
    refine lv_goto (tgt := 66) C.1 C.2.1 dX3_pass_62 (by decide) ?_
    exact lX3_pass_66 C hr hlocks N _ _ _ _ _ _ _ _ hf _ _ _ hW (lv_sub hl [4, 5, 6, 3, 2, 1, 0] rfl)
theorem mX3_act_19 : Cond.fieldLink RX3 19 "SharedLambda$Meetings" "annihilations" "I" ∈ wsX3_act := by decide +kernel
theorem mX3_act_15 : Cond.fieldLink RX3 15 "SharedLambda$Meetings" "betas" "I" ∈ wsX3_act := by decide +kernel
theorem kX3_act_3 : ∀ w ∈ u_ws RX3 TX3 4, w ∈ wsX3_act := fun _ h => List.mem_cons_of_mem _ (List.mem_append_left _ (List.mem_append_right _ h))
def fX3_act (N : Nat) (S : St) (p1 : Int32) (p2 : Int32) : Option (St) :=
  bd2 (fX3_isBeta N S p1 p2) fun v1 S3 =>
  if v1 = 0 then
    bd2 (fX3_isAnnihilation N S3 p1 p2) fun v5 S7 =>
    if v5 = 0 then
      bd2 (fX3_passes N S7 p1 p2) fun v9 S11 =>
      if v9 = 0 then
        bd2 (fX3_passes N S11 p2 p1) fun v13 S15 =>
        if v13 = 0 then
          some S15
        else
          bdo (fX3_pass N S15 p2 p1) fun S19 =>
          some S19
      else
        bdo (fX3_pass N S11 p1 p2) fun S22 =>
        some S22
    else
      bdo (fX3_joinPorts N S7 p1 p2) fun S25 =>
      bnd (sI S25 62 ((S25.1 62 + (1 : Int32)))) fun S26 =>
      some S26
  else
    bdo (fX3_joinPorts N S3 p1 p2) fun S29 =>
    bnd (sI S29 61 ((S29.1 61 + (1 : Int32)))) fun S30 =>
    some S30
set_option maxHeartbeats 4000000 in
set_option maxRecDepth 100000 in
theorem cX3_act_met (l : Launch) (D : va_G) (cy : Nat → ClassId) (a r : Nat → Nat) (sz N : Nat) (S : St) (p1 : Int32) (p2 : Int32) (Rr : St) (hf : fX3_act N S p1 p2 = some Rr) : Met l yX3_act wsX3_act ({ frames := 4, cells := 0, slots := 0, locals := 94 } : Room) (va_Pc [.ref (a 79), .int p1, .int p2] (preW D cy (wC cy a r S) sz)) (QV D cy (wC cy a r) (va_A (wC cy a r S) sz) Rr) 0 0 (va_A (wC cy a r S) sz) := by
  refine Met.ofW (cc := cX3_act) (maxL := 3) (ret := none) (by decide) rfl ?_
  intro p e s m args below meth c s₁ B hml hv
  obtain ⟨rfl, rfl, hP, hK, hD0, hN⟩ := hv
  have hlocks := B.notSynchronized
  have hr := B.returns
  have C : Cx p s m _ c cX3_act 3 wsX3_act RX3 D cy := ⟨B.exec, B.bytes, hml, findClass_of_methodNamed B.named, atoms_spec (ws := wsX3_act) B.pre, hK, hN⟩
  have hW := ww_start (w := wC cy a r) hP hD0
  generalize va_A (wC cy a r S) s.heap.size = A at hW ⊢
  have hl := lv_entry ([.ref (a 79), .int p1, .int p2]) (n := 3) (Nat.le_of_ble_eq_true rfl)
  rw [lg_entry_eq]
  generalize (lg_sl ([.ref (a 79), .int p1, .int p2]) ++ List.replicate (3 - (lg_sl ([.ref (a 79), .int p1, .int p2])).length) Slot.unset).toArray = ls at hl ⊢
  have hl : lv_has ls 3 [(0, .ref (a 79)), (1, .int p1), (2, .int p2)] := hl
  unfold fX3_act at hf
  refine lv_aload_n C.1 C.2.1 dX3_act_0 rfl (lv_at hl 0 rfl) ?_
  refine lv_iload_n C.1 C.2.1 dX3_act_1 rfl (lv_at hl 1 rfl) ?_
  refine lv_iload_n C.1 C.2.1 dX3_act_2 rfl (lv_at hl 2 rfl) ?_
  obtain ⟨v1, S3, h2, hf⟩ := bd2_el hf
  refine mcVi (w := wC cy a r) (S := S) (As := [.int p1, .int p2]) (rest := []) (q0 := 3) (ci := 3) C (cX3_isBeta_met l D cy a r _ N S p1 p2 (v1, S3) h2) (cwV 2 C.2.2.2.2.1 gX3_act_X3_isBeta rfl rfl rfl (by decide +kernel) ⟨Nat.le_of_ble_eq_true rfl, Nat.le_of_ble_eq_true rfl⟩) rfl rfl rfl hl.1 (Nat.le_of_ble_eq_true rfl) hW dX3_act_3 ⟨Nat.zero_le _, Nat.zero_le _⟩ rfl (fun H locs hW => ?_)
  refine lv_if_eq (tgt := 28) C.1 C.2.1 dX3_act_6 (by decide) (fun q4 => ?_) (fun q4 => ?_)
  · replace hf := (if_pos q4).symm.trans hf
    refine lv_aload_n C.1 C.2.1 dX3_act_28 rfl (lv_at hl 0 rfl) ?_
    refine lv_iload_n C.1 C.2.1 dX3_act_29 rfl (lv_at hl 1 rfl) ?_
    refine lv_iload_n C.1 C.2.1 dX3_act_30 rfl (lv_at hl 2 rfl) ?_
    obtain ⟨v5, S7, h6, hf⟩ := bd2_el hf
    refine mcVi (w := wC cy a r) (S := S3) (As := [.int p1, .int p2]) (rest := []) (q0 := 3) (ci := 3) C (cX3_isAnnihilation_met l D cy a r _ N S3 p1 p2 (v5, S7) h6) (cwV 2 C.2.2.2.2.1 gX3_act_X3_isAnnihilation rfl rfl rfl (by decide +kernel) ⟨Nat.le_of_ble_eq_true rfl, Nat.le_of_ble_eq_true rfl⟩) rfl rfl rfl hl.1 (Nat.le_of_ble_eq_true rfl) hW dX3_act_31 ⟨Nat.zero_le _, Nat.zero_le _⟩ rfl (fun H locs hW => ?_)
    refine lv_if_eq (tgt := 56) C.1 C.2.1 dX3_act_34 (by decide) (fun q8 => ?_) (fun q8 => ?_)
    · replace hf := (if_pos q8).symm.trans hf
      refine lv_aload_n C.1 C.2.1 dX3_act_56 rfl (lv_at hl 0 rfl) ?_
      refine lv_iload_n C.1 C.2.1 dX3_act_57 rfl (lv_at hl 1 rfl) ?_
      refine lv_iload_n C.1 C.2.1 dX3_act_58 rfl (lv_at hl 2 rfl) ?_
      obtain ⟨v9, S11, h10, hf⟩ := bd2_el hf
      refine mcVi (w := wC cy a r) (S := S7) (As := [.int p1, .int p2]) (rest := []) (q0 := 3) (ci := 3) C (cX3_passes_met l D cy a r _ N S7 p1 p2 (v9, S11) h10) (cwV 2 C.2.2.2.2.1 gX3_act_X3_passes rfl rfl rfl (by decide +kernel) ⟨Nat.le_of_ble_eq_true rfl, Nat.le_of_ble_eq_true rfl⟩) rfl rfl rfl hl.1 (Nat.le_of_ble_eq_true rfl) hW dX3_act_59 ⟨Nat.zero_le _, Nat.zero_le _⟩ rfl (fun H locs hW => ?_)
      refine lv_if_eq (tgt := 74) C.1 C.2.1 dX3_act_62 (by decide) (fun q12 => ?_) (fun q12 => ?_)
      · replace hf := (if_pos q12).symm.trans hf
        refine lv_aload_n C.1 C.2.1 dX3_act_74 rfl (lv_at hl 0 rfl) ?_
        refine lv_iload_n C.1 C.2.1 dX3_act_75 rfl (lv_at hl 2 rfl) ?_
        refine lv_iload_n C.1 C.2.1 dX3_act_76 rfl (lv_at hl 1 rfl) ?_
        obtain ⟨v13, S15, h14, hf⟩ := bd2_el hf
        refine mcVi (w := wC cy a r) (S := S11) (As := [.int p2, .int p1]) (rest := []) (q0 := 3) (ci := 3) C (cX3_passes_met l D cy a r _ N S11 p2 p1 (v13, S15) h14) (cwV 2 C.2.2.2.2.1 gX3_act_X3_passes rfl rfl rfl (by decide +kernel) ⟨Nat.le_of_ble_eq_true rfl, Nat.le_of_ble_eq_true rfl⟩) rfl rfl rfl hl.1 (Nat.le_of_ble_eq_true rfl) hW dX3_act_77 ⟨Nat.zero_le _, Nat.zero_le _⟩ rfl (fun H locs hW => ?_)
        refine lv_if_eq (tgt := 89) C.1 C.2.1 dX3_act_80 (by decide) (fun q16 => ?_) (fun q16 => ?_)
        · replace hf := (if_pos q16).symm.trans hf
          exact mrV C hr hlocks hf hW dX3_act_89
        · replace hf := (if_neg q16).symm.trans hf
          refine lv_aload_n C.1 C.2.1 dX3_act_83 rfl (lv_at hl 0 rfl) ?_
          refine lv_iload_n C.1 C.2.1 dX3_act_84 rfl (lv_at hl 2 rfl) ?_
          refine lv_iload_n C.1 C.2.1 dX3_act_85 rfl (lv_at hl 1 rfl) ?_
          obtain ⟨S19, h18, hf⟩ := bdo_el hf
          refine mcVv (w := wC cy a r) (S := S15) (As := [.int p2, .int p1]) (rest := []) (q0 := 3) (ci := 3) C (cX3_pass_met l D cy a r _ N S15 p2 p1 S19 h18) (cwV 2 C.2.2.2.2.1 gX3_act_X3_pass rfl rfl rfl (by decide +kernel) ⟨Nat.le_of_ble_eq_true rfl, Nat.le_of_ble_eq_true rfl⟩) rfl rfl rfl hl.1 (Nat.le_of_ble_eq_true rfl) hW dX3_act_86 ⟨Nat.zero_le _, Nat.zero_le _⟩ rfl (fun H locs hW => ?_)
          exact mrV C hr hlocks hf hW dX3_act_89
      · replace hf := (if_neg q12).symm.trans hf
        refine lv_aload_n C.1 C.2.1 dX3_act_65 rfl (lv_at hl 0 rfl) ?_
        refine lv_iload_n C.1 C.2.1 dX3_act_66 rfl (lv_at hl 1 rfl) ?_
        refine lv_iload_n C.1 C.2.1 dX3_act_67 rfl (lv_at hl 2 rfl) ?_
        obtain ⟨S22, h21, hf⟩ := bdo_el hf
        refine mcVv (w := wC cy a r) (S := S11) (As := [.int p1, .int p2]) (rest := []) (q0 := 3) (ci := 3) C (cX3_pass_met l D cy a r _ N S11 p1 p2 S22 h21) (cwV 2 C.2.2.2.2.1 gX3_act_X3_pass rfl rfl rfl (by decide +kernel) ⟨Nat.le_of_ble_eq_true rfl, Nat.le_of_ble_eq_true rfl⟩) rfl rfl rfl hl.1 (Nat.le_of_ble_eq_true rfl) hW dX3_act_68 ⟨Nat.zero_le _, Nat.zero_le _⟩ rfl (fun H locs hW => ?_)
        refine lv_goto (tgt := 89) C.1 C.2.1 dX3_act_71 (by decide) ?_
        exact mrV C hr hlocks hf hW dX3_act_89
    · replace hf := (if_neg q8).symm.trans hf
      refine lv_aload_n C.1 C.2.1 dX3_act_37 rfl (lv_at hl 0 rfl) ?_
      refine lv_iload_n C.1 C.2.1 dX3_act_38 rfl (lv_at hl 1 rfl) ?_
      refine lv_iload_n C.1 C.2.1 dX3_act_39 rfl (lv_at hl 2 rfl) ?_
      obtain ⟨S25, h24, hf⟩ := bdo_el hf
      refine mcVv (w := wC cy a r) (S := S7) (As := [.int p1, .int p2]) (rest := []) (q0 := 3) (ci := 3) C (cX3_joinPorts_met l D cy a r _ N S7 p1 p2 S25 h24) (cwV 2 C.2.2.2.2.1 gX3_act_X3_joinPorts rfl rfl rfl (by decide +kernel) ⟨Nat.le_of_ble_eq_true rfl, Nat.le_of_ble_eq_true rfl⟩) rfl rfl rfl hl.1 (Nat.le_of_ble_eq_true rfl) hW dX3_act_40 ⟨Nat.zero_le _, Nat.zero_le _⟩ rfl (fun H locs hW => ?_)
      refine lv_aload_n C.1 C.2.1 dX3_act_43 rfl (lv_at hl 0 rfl) ?_
      refine lv_dup C.1 C.2.1 dX3_act_44 rfl ?_
      refine fg_3_2 C kX3_act_3 mX3_act_19 hW dX3_act_45 ?_
      refine lv_iconst (v := 1) C.1 C.2.1 dX3_act_48 (by decide) ?_
      refine lv_iadd C.1 C.2.1 dX3_act_49 ?_
      obtain ⟨S26, eS26, hf⟩ := bnd_el hf
      refine fp_3_2 C kX3_act_3 mX3_act_19 hW dX3_act_50 eS26 (fun H locs hW => ?_)
      refine lv_goto (tgt := 89) C.1 C.2.1 dX3_act_53 (by decide) ?_
      exact mrV C hr hlocks hf hW dX3_act_89
  · replace hf := (if_neg q4).symm.trans hf
    refine lv_aload_n C.1 C.2.1 dX3_act_9 rfl (lv_at hl 0 rfl) ?_
    refine lv_iload_n C.1 C.2.1 dX3_act_10 rfl (lv_at hl 1 rfl) ?_
    refine lv_iload_n C.1 C.2.1 dX3_act_11 rfl (lv_at hl 2 rfl) ?_
    obtain ⟨S29, h28, hf⟩ := bdo_el hf
    refine mcVv (w := wC cy a r) (S := S3) (As := [.int p1, .int p2]) (rest := []) (q0 := 3) (ci := 3) C (cX3_joinPorts_met l D cy a r _ N S3 p1 p2 S29 h28) (cwV 2 C.2.2.2.2.1 gX3_act_X3_joinPorts rfl rfl rfl (by decide +kernel) ⟨Nat.le_of_ble_eq_true rfl, Nat.le_of_ble_eq_true rfl⟩) rfl rfl rfl hl.1 (Nat.le_of_ble_eq_true rfl) hW dX3_act_12 ⟨Nat.zero_le _, Nat.zero_le _⟩ rfl (fun H locs hW => ?_)
    refine lv_aload_n C.1 C.2.1 dX3_act_15 rfl (lv_at hl 0 rfl) ?_
    refine lv_dup C.1 C.2.1 dX3_act_16 rfl ?_
    refine fg_3_1 C kX3_act_3 mX3_act_15 hW dX3_act_17 ?_
    refine lv_iconst (v := 1) C.1 C.2.1 dX3_act_20 (by decide) ?_
    refine lv_iadd C.1 C.2.1 dX3_act_21 ?_
    obtain ⟨S30, eS30, hf⟩ := bnd_el hf
    refine fp_3_1 C kX3_act_3 mX3_act_15 hW dX3_act_22 eS30 (fun H locs hW => ?_)
    refine lv_goto (tgt := 89) C.1 C.2.1 dX3_act_25 (by decide) ?_
    exact mrV C hr hlocks hf hW dX3_act_89
