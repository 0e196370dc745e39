theorem nar_b {x : Int32} (h : ((x == 0) || (x == 1)) = true) : narrow .boolean (.int x) = .int x := by
  rcases Bool.or_eq_true _ _ ▸ h with h | h
  · rw [eq_of_beq h]; rfl
  · rw [eq_of_beq h]; rfl
theorem mX6_begin_12 : Cond.fieldLink RX6 12 "SharedLambda$Walk" "context" "LSharedLambda$Context;" ∈ wsX6_begin := by decide +kernel
theorem mX6_begin_51 : Cond.fieldLink RX6 51 "SharedLambda$Walk" "told" "I" ∈ wsX6_begin := by decide +kernel
theorem mX6_begin_55 : Cond.fieldLink RX6 55 "SharedLambda$Walk" "steps" "I" ∈ wsX6_begin := by decide +kernel
theorem mX6_begin_58 : Cond.fieldLink RX6 58 "SharedLambda$Walk" "depth" "I" ∈ wsX6_begin := by decide +kernel
theorem mX6_begin_61 : Cond.fieldLink RX6 61 "SharedLambda$Walk" "binderCount" "I" ∈ wsX6_begin := by decide +kernel
theorem mX6_begin_64 : Cond.fieldLink RX6 64 "SharedLambda$Walk" "binderLevelCount" "I" ∈ wsX6_begin := by decide +kernel
theorem mX6_begin_i7 : Cond.initialized RX7 ∈ wsX6_begin := by decide +kernel
theorem mX6_begin_s_portOf : Cond.static yX7_portOf ∈ wsX6_begin := by decide +kernel
theorem mX6_begin_71 : Cond.fieldLink RX6 71 "SharedLambda$Walk" "leaving" "I" ∈ wsX6_begin := by decide +kernel
theorem kX6_begin_6 : ∀ w ∈ u_ws RX6 TX6 16, w ∈ wsX6_begin := fun _ h => List.mem_cons_of_mem _ (List.mem_append_left _ (List.mem_append_left _ (List.mem_append_right _ h)))
def fX6_begin (N : Nat) (S : St) : Option (St) :=
  bdo (fX1_clear N S) fun S3 =>
  bnd (sI S3 123 (0 : Int32)) fun S4 =>
  bnd (sI S4 126 (0 : Int32)) fun S5 =>
  bnd (sI S5 130 (0 : Int32)) fun S6 =>
  bnd (sI S6 133 (0 : Int32)) fun S7 =>
  bnd (sI S7 135 (0 : Int32)) fun S8 =>
  bdo (fX7_portOf (0 : Int32) (0 : Int32)) fun v9 =>
  bnd (sI S8 124 v9) fun S11 =>
  some S11
set_option maxHeartbeats 4000000 in
set_option maxRecDepth 100000 in
theorem cX6_begin_met (l : Launch) (D : va_G) (cy : Nat → ClassId) (a r : Nat → Nat) (sz N : Nat) (S : St) (Rr : St) (hf : fX6_begin N S  = some Rr) : Met l yX6_begin wsX6_begin ({ frames := 3, cells := 0, slots := 0, locals := 63 } : Room) (va_Pc [.ref (a 139)] (preW D cy (wC cy a r S) sz)) (QV D cy (wC cy a r) (va_A (wC cy a r S) sz) Rr) 0 0 (va_A (wC cy a r S) sz) := by
  refine Met.ofW (cc := cX6_begin) (maxL := 1) (ret := none) (by decide) rfl ?_
  intro p e s m args below meth c s₁ B hml hv
  obtain ⟨rfl, rfl, hP, hK, hD0, hN⟩ := hv
  have hlocks := B.notSynchronized
  have hr := B.returns
  have C : Cx p s m _ c cX6_begin 1 wsX6_begin RX6 D cy := ⟨B.exec, B.bytes, hml, findClass_of_methodNamed B.named, atoms_spec (ws := wsX6_begin) B.pre, hK, hN⟩
  have hW := ww_start (w := wC cy a r) hP hD0
  generalize va_A (wC cy a r S) s.heap.size = A at hW ⊢
  have hl := lv_entry ([.ref (a 139)]) (n := 1) (Nat.le_of_ble_eq_true rfl)
  rw [lg_entry_eq]
  generalize (lg_sl ([.ref (a 139)]) ++ List.replicate (1 - (lg_sl ([.ref (a 139)])).length) Slot.unset).toArray = ls at hl ⊢
  have hl : lv_has ls 1 [(0, .ref (a 139))] := hl
  unfold fX6_begin at hf
  refine lv_aload_n C.1 C.2.1 dX6_begin_0 rfl (lv_at hl 0 rfl) ?_
  refine fg_6_1 C kX6_begin_6 mX6_begin_12 hW dX6_begin_1 ?_
  obtain ⟨S3, h2, hf⟩ := bdo_el hf
  refine mcVv (w := wC cy a r) (S := S) (As := []) (rest := []) (q0 := 1) (ci := 1) C (cX1_clear_met l D cy a r _ N S  S3 h2) (cwV 0 C.2.2.2.2.1 gX6_begin_X1_clear rfl rfl rfl (by decide +kernel) ⟨Nat.le_of_ble_eq_true rfl, Nat.le_of_ble_eq_true rfl⟩) rfl rfl rfl hl.1 (Nat.le_of_ble_eq_true rfl) hW dX6_begin_4 ⟨Nat.zero_le _, Nat.zero_le _⟩ rfl (fun H locs hW => ?_)
  refine lv_aload_n C.1 C.2.1 dX6_begin_7 rfl (lv_at hl 0 rfl) ?_
  refine lv_iconst (v := 0) C.1 C.2.1 dX6_begin_8 (by decide) ?_
  obtain ⟨S4, eS4, hf⟩ := bnd_el hf
  refine fp_6_3 C kX6_begin_6 mX6_begin_51 hW dX6_begin_9 eS4 (fun H locs hW => ?_)
  refine lv_aload_n C.1 C.2.1 dX6_begin_12 rfl (lv_at hl 0 rfl) ?_
  refine lv_iconst (v := 0) C.1 C.2.1 dX6_begin_13 (by decide) ?_
  obtain ⟨S5, eS5, hf⟩ := bnd_el hf
  refine fp_6_6 C kX6_begin_6 mX6_begin_55 hW dX6_begin_14 eS5 (fun H locs hW => ?_)
  refine lv_aload_n C.1 C.2.1 dX6_begin_17 rfl (lv_at hl 0 rfl) ?_
  refine lv_iconst (v := 0) C.1 C.2.1 dX6_begin_18 (by decide) ?_
  obtain ⟨S6, eS6, hf⟩ := bnd_el hf
  refine fp_6_10 C kX6_begin_6 mX6_begin_58 hW dX6_begin_19 eS6 (fun H locs hW => ?_)
  refine lv_aload_n C.1 C.2.1 dX6_begin_22 rfl (lv_at hl 0 rfl) ?_
  refine lv_iconst (v := 0) C.1 C.2.1 dX6_begin_23 (by decide) ?_
  obtain ⟨S7, eS7, hf⟩ := bnd_el hf
  refine fp_6_13 C kX6_begin_6 mX6_begin_61 hW dX6_begin_24 eS7 (fun H locs hW => ?_)
  refine lv_aload_n C.1 C.2.1 dX6_begin_27 rfl (lv_at hl 0 rfl) ?_
  refine lv_iconst (v := 0) C.1 C.2.1 dX6_begin_28 (by decide) ?_
  obtain ⟨S8, eS8, hf⟩ := bnd_el hf
  refine fp_6_15 C kX6_begin_6 mX6_begin_64 hW dX6_begin_29 eS8 (fun H locs hW => ?_)
  refine lv_aload_n C.1 C.2.1 dX6_begin_32 rfl (lv_at hl 0 rfl) ?_
  refine lv_iconst (v := 0) C.1 C.2.1 dX6_begin_33 (by decide) ?_
  refine lv_iconst (v := 0) C.1 C.2.1 dX6_begin_34 (by decide) ?_
  obtain ⟨v9, h10, hf⟩ := bdo_el hf
  refine mcSN (As := [.int (0 : Int32), .int (0 : Int32)]) (rest := [.ref (a 139)]) C (cX7_portOf_met l (0 : Int32) (0 : Int32) v9 h10) ⟨va_cnB 2 C.2.2.2.2.1 gX6_begin_X7_portOf_n67 rfl rfl rfl (C.2.2.2.2.2.2 (RX6, 67, yX7_portOf) (by decide +kernel)) (C.2.2.2.2.1 _ mX6_begin_i7) (by decide +kernel) ⟨Nat.le_of_ble_eq_true rfl, Nat.le_of_ble_eq_true rfl⟩, C.2.2.2.2.1 _ mX6_begin_s_portOf, trivial⟩ rfl hl.1 (Nat.le_of_ble_eq_true rfl) dX6_begin_35 ⟨Nat.zero_le _, Nat.zero_le _⟩ rfl ?_
  obtain ⟨S11, eS11, hf⟩ := bnd_el hf
  refine fp_6_4 C kX6_begin_6 mX6_begin_71 hW dX6_begin_38 eS11 (fun H locs hW => ?_)
  exact mrV C hr hlocks hf hW dX6_begin_41
theorem mX6_told_51 : Cond.fieldLink RX6 51 "SharedLambda$Walk" "told" "I" ∈ wsX6_told := by decide +kernel
theorem kX6_told_6 : ∀ w ∈ u_ws RX6 TX6 16, w ∈ wsX6_told := fun _ h => List.mem_cons_of_mem _ (List.mem_append_right _ h)
def fX6_told (N : Nat) (S : St) : Option (Int32 × St) :=
  some (S.1 123, S)
set_option maxHeartbeats 4000000 in
set_option maxRecDepth 100000 in
theorem cX6_told_met (l : Launch) (D : va_G) (cy : Nat → ClassId) (a r : Nat → Nat) (sz N : Nat) (S : St) (Rr : Int32 × St) (hf : fX6_told N S  = some Rr) : Met l yX6_told wsX6_told ({ frames := 0, cells := 0, slots := 0, locals := 0 } : Room) (va_Pc [.ref (a 139)] (preW D cy (wC cy a r S) sz)) (QI D cy (wC cy a r) (va_A (wC cy a r S) sz) Rr) 0 0 (va_A (wC cy a r S) sz) := by
  refine Met.ofW (cc := cX6_told) (maxL := 1) (ret := (some .int)) (by decide) rfl ?_
  intro p e s m args below meth c s₁ B hml hv
  obtain ⟨rfl, rfl, hP, hK, hD0, hN⟩ := hv
  have hlocks := B.notSynchronized
  have hr := B.returns
  have C : Cx p s m _ c cX6_told 1 wsX6_told RX6 D cy := ⟨B.exec, B.bytes, hml, findClass_of_methodNamed B.named, atoms_spec (ws := wsX6_told) B.pre, hK, hN⟩
  have hW := ww_start (w := wC cy a r) hP hD0
  generalize va_A (wC cy a r S) s.heap.size = A at hW ⊢
  have hl := lv_entry ([.ref (a 139)]) (n := 1) (Nat.le_of_ble_eq_true rfl)
  rw [lg_entry_eq]
  generalize (lg_sl ([.ref (a 139)]) ++ List.replicate (1 - (lg_sl ([.ref (a 139)])).length) Slot.unset).toArray = ls at hl ⊢
  have hl : lv_has ls 1 [(0, .ref (a 139))] := hl
  unfold fX6_told at hf
  refine lv_aload_n C.1 C.2.1 dX6_told_0 rfl (lv_at hl 0 rfl) ?_
  refine fg_6_3 C kX6_told_6 mX6_told_51 hW dX6_told_1 ?_
  exact mrI C hr hlocks rfl hf hW dX6_told_4
theorem mX6_letterAt_51 : Cond.fieldLink RX6 51 "SharedLambda$Walk" "told" "I" ∈ wsX6_letterAt := by decide +kernel
theorem mX6_letterAt_18 : Cond.fieldLink RX6 18 "SharedLambda$Walk" "letters" "[C" ∈ wsX6_letterAt := by decide +kernel
theorem kX6_letterAt_6 : ∀ w ∈ u_ws RX6 TX6 16, w ∈ wsX6_letterAt := fun _ h => List.mem_cons_of_mem _ (List.mem_append_right _ h)
def fX6_letterAt (N : Nat) (S : St) (p1 : Int32) : Option (Int32 × St) :=
  if p1 < 0 then
    some ((-1 : Int32), S)
  else
    if S.1 123 ≤ p1 then
      some ((-1 : Int32), S)
    else
      if (4000 : Int32) ≤ p1 then
        some ((-1 : Int32), S)
      else
        ckx p1 4000 <|
        some (S.2.1 122 (p1 : Int32).toNatClampNeg, S)
set_option maxHeartbeats 4000000 in
set_option maxRecDepth 100000 in
theorem cX6_letterAt_met (l : Launch) (D : va_G) (cy : Nat → ClassId) (a r : Nat → Nat) (sz N : Nat) (S : St) (p1 : Int32) (Rr : Int32 × St) (hf : fX6_letterAt N S p1 = some Rr) : Met l yX6_letterAt wsX6_letterAt ({ frames := 0, cells := 0, slots := 0, locals := 0 } : Room) (va_Pc [.ref (a 139), .int p1] (preW D cy (wC cy a r S) sz)) (QI D cy (wC cy a r) (va_A (wC cy a r S) sz) Rr) 0 0 (va_A (wC cy a r S) sz) := by
  refine Met.ofW (cc := cX6_letterAt) (maxL := 2) (ret := (some .int)) (by decide) rfl ?_
  intro p e s m args below meth c s₁ B hml hv
  obtain ⟨rfl, rfl, hP, hK, hD0, hN⟩ := hv
  have hlocks := B.notSynchronized
  have hr := B.returns
  have C : Cx p s m _ c cX6_letterAt 2 wsX6_letterAt RX6 D cy := ⟨B.exec, B.bytes, hml, findClass_of_methodNamed B.named, atoms_spec (ws := wsX6_letterAt) B.pre, hK, hN⟩
  have hW := ww_start (w := wC cy a r) hP hD0
  generalize va_A (wC cy a r S) s.heap.size = A at hW ⊢
  have hl := lv_entry ([.ref (a 139), .int p1]) (n := 2) (Nat.le_of_ble_eq_true rfl)
  rw [lg_entry_eq]
  generalize (lg_sl ([.ref (a 139), .int p1]) ++ List.replicate (2 - (lg_sl ([.ref (a 139), .int p1])).length) Slot.unset).toArray = ls at hl ⊢
  have hl : lv_has ls 2 [(0, .ref (a 139)), (1, .int p1)] := hl
  unfold fX6_letterAt at hf
  refine lv_iload_n C.1 C.2.1 dX6_letterAt_0 rfl (lv_at hl 1 rfl) ?_
  refine lv_if_lt (tgt := 28) C.1 C.2.1 dX6_letterAt_1 (by decide) (fun q1 => ?_) (fun q1 => ?_)
  · replace hf := (if_pos q1).symm.trans hf
    refine lv_iconst (v := -1) C.1 C.2.1 dX6_letterAt_28 (by decide) ?_
    exact mrI C hr hlocks rfl hf hW dX6_letterAt_29
  · replace hf := (if_neg q1).symm.trans hf
    refine lv_iload_n C.1 C.2.1 dX6_letterAt_4 rfl (lv_at hl 1 rfl) ?_
    refine lv_aload_n C.1 C.2.1 dX6_letterAt_5 rfl (lv_at hl 0 rfl) ?_
    refine fg_6_3 C kX6_letterAt_6 mX6_letterAt_51 hW dX6_letterAt_6 ?_
    refine lv_icmp_ge (tgt := 28) C.1 C.2.1 dX6_letterAt_9 (by decide) (fun q2 => ?_) (fun q2 => ?_)
    · replace hf := (if_pos q2).symm.trans hf
      refine lv_iconst (v := -1) C.1 C.2.1 dX6_letterAt_28 (by decide) ?_
      exact mrI C hr hlocks rfl hf hW dX6_letterAt_29
    · replace hf := (if_neg q2).symm.trans hf
      refine lv_iload_n C.1 C.2.1 dX6_letterAt_12 rfl (lv_at hl 1 rfl) ?_
      refine lv_sipush (v := 4000) C.1 C.2.1 dX6_letterAt_13 (by decide) ?_
      refine lv_icmp_ge (tgt := 28) C.1 C.2.1 dX6_letterAt_16 (by decide) (fun q3 => ?_) (fun q3 => ?_)
      · replace hf := (if_pos q3).symm.trans hf
        refine lv_iconst (v := -1) C.1 C.2.1 dX6_letterAt_28 (by decide) ?_
        exact mrI C hr hlocks rfl hf hW dX6_letterAt_29
      · replace hf := (if_neg q3).symm.trans hf
        refine lv_aload_n C.1 C.2.1 dX6_letterAt_19 rfl (lv_at hl 0 rfl) ?_
        refine fg_6_2 C kX6_letterAt_6 mX6_letterAt_18 hW dX6_letterAt_20 ?_
        refine lv_iload_n C.1 C.2.1 dX6_letterAt_23 rfl (lv_at hl 1 rfl) ?_
        obtain ⟨h4, hf⟩ := ckx_el hf
        refine al_6_2 C hW h4 dX6_letterAt_24 ?_
        refine lv_goto (tgt := 29) C.1 C.2.1 dX6_letterAt_25 (by decide) ?_
        exact mrI C hr hlocks rfl hf hW dX6_letterAt_29
theorem mX6_nodeLeft_71 : Cond.fieldLink RX6 71 "SharedLambda$Walk" "leaving" "I" ∈ wsX6_nodeLeft := by decide +kernel
theorem mX6_nodeLeft_i7 : Cond.initialized RX7 ∈ wsX6_nodeLeft := by decide +kernel
theorem mX6_nodeLeft_s_nodeAt : Cond.static yX7_nodeAt ∈ wsX6_nodeLeft := by decide +kernel
theorem kX6_nodeLeft_6 : ∀ w ∈ u_ws RX6 TX6 16, w ∈ wsX6_nodeLeft := fun _ h => List.mem_cons_of_mem _ (List.mem_append_right _ h)
def fX6_nodeLeft (N : Nat) (S : St) : Option (Int32 × St) :=
  bdo (fX7_nodeAt (S.1 124)) fun v1 =>
  some (v1, S)
set_option maxHeartbeats 4000000 in
set_option maxRecDepth 100000 in
theorem cX6_nodeLeft_met (l : Launch) (D : va_G) (cy : Nat → ClassId) (a r : Nat → Nat) (sz N : Nat) (S : St) (Rr : Int32 × St) (hf : fX6_nodeLeft N S  = some Rr) : Met l yX6_nodeLeft wsX6_nodeLeft ({ frames := 1, cells := 0, slots := 0, locals := 20 } : Room) (va_Pc [.ref (a 139)] (preW D cy (wC cy a r S) sz)) (QI D cy (wC cy a r) (va_A (wC cy a r S) sz) Rr) 0 0 (va_A (wC cy a r S) sz) := by
  refine Met.ofW (cc := cX6_nodeLeft) (maxL := 1) (ret := (some .int)) (by decide) rfl ?_
  intro p e s m args below meth c s₁ B hml hv
  obtain ⟨rfl, rfl, hP, hK, hD0, hN⟩ := hv
  have hlocks := B.notSynchronized
  have hr := B.returns
  have C : Cx p s m _ c cX6_nodeLeft 1 wsX6_nodeLeft RX6 D cy := ⟨B.exec, B.bytes, hml, findClass_of_methodNamed B.named, atoms_spec (ws := wsX6_nodeLeft) B.pre, hK, hN⟩
  have hW := ww_start (w := wC cy a r) hP hD0
  generalize va_A (wC cy a r S) s.heap.size = A at hW ⊢
  have hl := lv_entry ([.ref (a 139)]) (n := 1) (Nat.le_of_ble_eq_true rfl)
  rw [lg_entry_eq]
  generalize (lg_sl ([.ref (a 139)]) ++ List.replicate (1 - (lg_sl ([.ref (a 139)])).length) Slot.unset).toArray = ls at hl ⊢
  have hl : lv_has ls 1 [(0, .ref (a 139))] := hl
  unfold fX6_nodeLeft at hf
  refine lv_aload_n C.1 C.2.1 dX6_nodeLeft_0 rfl (lv_at hl 0 rfl) ?_
  refine fg_6_4 C kX6_nodeLeft_6 mX6_nodeLeft_71 hW dX6_nodeLeft_1 ?_
  obtain ⟨v1, h2, hf⟩ := bdo_el hf
  refine mcSN (As := [.int (S.1 124)]) (rest := []) C (cX7_nodeAt_met l (S.1 124) v1 h2) ⟨va_cnB 1 C.2.2.2.2.1 gX6_nodeLeft_X7_nodeAt_n74 rfl rfl rfl (C.2.2.2.2.2.2 (RX6, 74, yX7_nodeAt) (by decide +kernel)) (C.2.2.2.2.1 _ mX6_nodeLeft_i7) (by decide +kernel) ⟨Nat.le_of_ble_eq_true rfl, Nat.le_of_ble_eq_true rfl⟩, C.2.2.2.2.1 _ mX6_nodeLeft_s_nodeAt, trivial⟩ rfl hl.1 (Nat.le_of_ble_eq_true rfl) dX6_nodeLeft_4 ⟨Nat.zero_le _, Nat.zero_le _⟩ rfl ?_
  exact mrI C hr hlocks rfl hf hW dX6_nodeLeft_7
theorem mX6_nodeAhead_44 : Cond.fieldLink RX6 44 "SharedLambda$Walk" "graph" "LSharedLambda$Graph;" ∈ wsX6_nodeAhead := by decide +kernel
theorem mX6_nodeAhead_71 : Cond.fieldLink RX6 71 "SharedLambda$Walk" "leaving" "I" ∈ wsX6_nodeAhead := by decide +kernel
theorem mX6_nodeAhead_i7 : Cond.initialized RX7 ∈ wsX6_nodeAhead := by decide +kernel
theorem mX6_nodeAhead_s_nodeAt : Cond.static yX7_nodeAt ∈ wsX6_nodeAhead := by decide +kernel
theorem kX6_nodeAhead_6 : ∀ w ∈ u_ws RX6 TX6 16, w ∈ wsX6_nodeAhead := fun _ h => List.mem_cons_of_mem _ (List.mem_append_left _ (List.mem_append_right _ h))
def fX6_nodeAhead (N : Nat) (S : St) : Option (Int32 × St) :=
  bd2 (fX2_across N S (S.1 124)) fun v1 S3 =>
  bdo (fX7_nodeAt v1) fun v4 =>
  some (v4, S3)
set_option maxHeartbeats 4000000 in
set_option maxRecDepth 100000 in
theorem cX6_nodeAhead_met (l : Launch) (D : va_G) (cy : Nat → ClassId) (a r : Nat → Nat) (sz N : Nat) (S : St) (Rr : Int32 × St) (hf : fX6_nodeAhead N S  = some Rr) : Met l yX6_nodeAhead wsX6_nodeAhead ({ frames := 1, cells := 0, slots := 0, locals := 21 } : Room) (va_Pc [.ref (a 139)] (preW D cy (wC cy a r S) sz)) (QI D cy (wC cy a r) (va_A (wC cy a r S) sz) Rr) 0 0 (va_A (wC cy a r S) sz) := by
  refine Met.ofW (cc := cX6_nodeAhead) (maxL := 1) (ret := (some .int)) (by decide) rfl ?_
  intro p e s m args below meth c s₁ B hml hv
  obtain ⟨rfl, rfl, hP, hK, hD0, hN⟩ := hv
  have hlocks := B.notSynchronized
  have hr := B.returns
  have C : Cx p s m _ c cX6_nodeAhead 1 wsX6_nodeAhead RX6 D cy := ⟨B.exec, B.bytes, hml, findClass_of_methodNamed B.named, atoms_spec (ws := wsX6_nodeAhead) B.pre, hK, hN⟩
  have hW := ww_start (w := wC cy a r) hP hD0
  generalize va_A (wC cy a r S) s.heap.size = A at hW ⊢
  have hl := lv_entry ([.ref (a 139)]) (n := 1) (Nat.le_of_ble_eq_true rfl)
  rw [lg_entry_eq]
  generalize (lg_sl ([.ref (a 139)]) ++ List.replicate (1 - (lg_sl ([.ref (a 139)])).length) Slot.unset).toArray = ls at hl ⊢
  have hl : lv_has ls 1 [(0, .ref (a 139))] := hl
  unfold fX6_nodeAhead at hf
  refine lv_aload_n C.1 C.2.1 dX6_nodeAhead_0 rfl (lv_at hl 0 rfl) ?_
  refine fg_6_0 C kX6_nodeAhead_6 mX6_nodeAhead_44 hW dX6_nodeAhead_1 ?_
  refine lv_aload_n C.1 C.2.1 dX6_nodeAhead_4 rfl (lv_at hl 0 rfl) ?_
  refine fg_6_4 C kX6_nodeAhead_6 mX6_nodeAhead_71 hW dX6_nodeAhead_5 ?_
  obtain ⟨v1, S3, h2, hf⟩ := bd2_el hf
  refine mcVi (w := wC cy a r) (S := S) (As := [.int (S.1 124)]) (rest := []) (q0 := 2) (ci := 2) C (cX2_across_met l D cy a r _ N S (S.1 124) (v1, S3) h2) (cwV 1 C.2.2.2.2.1 gX6_nodeAhead_X2_across rfl rfl rfl (by decide +kernel) ⟨Nat.le_of_ble_eq_true rfl, Nat.le_of_ble_eq_true rfl⟩) rfl rfl rfl hl.1 (Nat.le_of_ble_eq_true rfl) hW dX6_nodeAhead_8 ⟨Nat.zero_le _, Nat.zero_le _⟩ rfl (fun H locs hW => ?_)
  obtain ⟨v4, h5, hf⟩ := bdo_el hf
  refine mcSN (As := [.int v1]) (rest := []) C (cX7_nodeAt_met l v1 v4 h5) ⟨va_cnB 1 C.2.2.2.2.1 gX6_nodeAhead_X7_nodeAt_n74 rfl rfl rfl (C.2.2.2.2.2.2 (RX6, 74, yX7_nodeAt) (by decide +kernel)) (C.2.2.2.2.1 _ mX6_nodeAhead_i7) (by decide +kernel) ⟨Nat.le_of_ble_eq_true rfl, Nat.le_of_ble_eq_true rfl⟩, C.2.2.2.2.1 _ mX6_nodeAhead_s_nodeAt, trivial⟩ rfl hl.1 (Nat.le_of_ble_eq_true rfl) dX6_nodeAhead_11 ⟨Nat.zero_le _, Nat.zero_le _⟩ rfl ?_
  exact mrI C hr hlocks rfl hf hW dX6_nodeAhead_14
theorem mX6_stepBack_55 : Cond.fieldLink RX6 55 "SharedLambda$Walk" "steps" "I" ∈ wsX6_stepBack := by decide +kernel
theorem mX6_stepBack_22 : Cond.fieldLink RX6 22 "SharedLambda$Walk" "leftBefore" "[I" ∈ wsX6_stepBack := by decide +kernel
theorem mX6_stepBack_71 : Cond.fieldLink RX6 71 "SharedLambda$Walk" "leaving" "I" ∈ wsX6_stepBack := by decide +kernel
theorem mX6_stepBack_44 : Cond.fieldLink RX6 44 "SharedLambda$Walk" "graph" "LSharedLambda$Graph;" ∈ wsX6_stepBack := by decide +kernel
theorem mX6_stepBack_i7 : Cond.initialized RX7 ∈ wsX6_stepBack := by decide +kernel
theorem mX6_stepBack_s_nodeAt : Cond.static yX7_nodeAt ∈ wsX6_stepBack := by decide +kernel
theorem mX6_stepBack_58 : Cond.fieldLink RX6 58 "SharedLambda$Walk" "depth" "I" ∈ wsX6_stepBack := by decide +kernel
theorem mX6_stepBack_51 : Cond.fieldLink RX6 51 "SharedLambda$Walk" "told" "I" ∈ wsX6_stepBack := by decide +kernel
theorem mX6_stepBack_12 : Cond.fieldLink RX6 12 "SharedLambda$Walk" "context" "LSharedLambda$Context;" ∈ wsX6_stepBack := by decide +kernel
theorem kX6_stepBack_6 : ∀ w ∈ u_ws RX6 TX6 16, w ∈ wsX6_stepBack := fun _ h => List.mem_cons_of_mem _ (List.mem_append_left _ (List.mem_append_left _ (List.mem_append_left _ (List.mem_append_right _ h))))
def fX6_stepBack_81 (N : Nat) (S : St) : Option (St) :=
  bnd (sI S 126 ((S.1 126 - (1 : Int32)))) fun S1 =>
  ckx (S1.1 126) 4000 <|
  bnd (sI S1 124 (S1.2.1 125 (S1.1 126 : Int32).toNatClampNeg)) fun S3 =>
  some S3
set_option maxHeartbeats 4000000 in
set_option maxRecDepth 100000 in
theorem lX6_stepBack_81 {p : Program} {l : Launch} {e : Env} {s : State} {m : MethodId} {args : Array Value} {below : List Frame} {meth : Method} {c : Code} {D : va_G} {cy : Nat → ClassId} {a r : Nat → Nat} {A : Nat → Prop} {Rr : St} (C : Cx p s m args c cX6_stepBack 1 wsX6_stepBack RX6 D cy) (hr : meth.sig.returnType = none) (hlocks : meth.locks = false) (N : Nat) (S : St) (hf : fX6_stepBack_81 N S = some Rr) : ∀ (H : Heap) (locs : List Loc) (ls : Array Slot), WW D A s.heap (wC cy a r S) H locs → lv_has ls 1 [(0, .ref (a 139))] → W p l e ({ frames := 3, cells := 0, slots := 0, locals := 70 } : Room) s m args below meth c H locs 0 0 (MQ below (QV D cy (wC cy a r) A Rr) args s 0 0 A) (F0 m 81 ls []) := by
  intro H locs ls hW hl
  unfold fX6_stepBack_81 at hf
  refine lv_aload_n C.1 C.2.1 dX6_stepBack_81 rfl (lv_at hl 0 rfl) ?_
  refine lv_dup C.1 C.2.1 dX6_stepBack_82 rfl ?_
  refine fg_6_6 C kX6_stepBack_6 mX6_stepBack_55 hW dX6_stepBack_83 ?_
  refine lv_iconst (v := 1) C.1 C.2.1 dX6_stepBack_86 (by decide) ?_
  refine lv_isub C.1 C.2.1 dX6_stepBack_87 ?_
  obtain ⟨S1, eS1, hf⟩ := bnd_el hf
  refine fp_6_6 C kX6_stepBack_6 mX6_stepBack_55 hW dX6_stepBack_88 eS1 (fun H locs hW => ?_)
  refine lv_aload_n C.1 C.2.1 dX6_stepBack_91 rfl (lv_at hl 0 rfl) ?_
  refine lv_aload_n C.1 C.2.1 dX6_stepBack_92 rfl (lv_at hl 0 rfl) ?_
  refine fg_6_5 C kX6_stepBack_6 mX6_stepBack_22 hW dX6_stepBack_93 ?_
  refine lv_aload_n C.1 C.2.1 dX6_stepBack_96 rfl (lv_at hl 0 rfl) ?_
  refine fg_6_6 C kX6_stepBack_6 mX6_stepBack_55 hW dX6_stepBack_97 ?_
  obtain ⟨h2, hf⟩ := ckx_el hf
  refine al_6_5 C hW h2 dX6_stepBack_100 ?_
  obtain ⟨S3, eS3, hf⟩ := bnd_el hf
  refine fp_6_4 C kX6_stepBack_6 mX6_stepBack_71 hW dX6_stepBack_101 eS3 (fun H locs hW => ?_)
  exact mrV C hr hlocks hf hW dX6_stepBack_104
def fX6_stepBack (N : Nat) (S : St) : Option (St) :=
  if S.1 126 < (1 : Int32) then
    some S
  else
    if S.1 126 ≤ (4000 : Int32) then
      bdo (fX7_nodeAt (S.1 124)) fun v3 =>
      bd2 (fX2_kindOf N S v3) fun v5 S7 =>
      if v5 = (1 : Int32) then
        if S7.1 130 ≤ 0 then
          fX6_stepBack_81 N S7
        else
          if S7.1 123 ≤ 0 then
            fX6_stepBack_81 N S7
          else
            bnd (sI S7 130 ((S7.1 130 - (1 : Int32)))) fun S11 =>
            bnd (sI S11 123 ((S11.1 123 - (1 : Int32)))) fun S12 =>
            fX6_stepBack_81 N S12
      else
        bdo (fX1_undo N S7) fun S15 =>
        fX6_stepBack_81 N S15
    else
      some S
set_option maxHeartbeats 4000000 in
set_option maxRecDepth 100000 in
theorem cX6_stepBack_met (l : Launch) (D : va_G) (cy : Nat → ClassId) (a r : Nat → Nat) (sz N : Nat) (S : St) (Rr : St) (hf : fX6_stepBack N S  = some Rr) : Met l yX6_stepBack wsX6_stepBack ({ frames := 3, cells := 0, slots := 0, locals := 70 } : Room) (va_Pc [.ref (a 139)] (preW D cy (wC cy a r S) sz)) (QV D cy (wC cy a r) (va_A (wC cy a r S) sz) Rr) 0 0 (va_A (wC cy a r S) sz) := by
  refine Met.ofW (cc := cX6_stepBack) (maxL := 1) (ret := none) (by decide) rfl ?_
  intro p e s m args below meth c s₁ B hml hv
  obtain ⟨rfl, rfl, hP, hK, hD0, hN⟩ := hv
  have hlocks := B.notSynchronized
  have hr := B.returns
  have C : Cx p s m _ c cX6_stepBack 1 wsX6_stepBack RX6 D cy := ⟨B.exec, B.bytes, hml, findClass_of_methodNamed B.named, atoms_spec (ws := wsX6_stepBack) B.pre, hK, hN⟩
  have hW := ww_start (w := wC cy a r) hP hD0
  generalize va_A (wC cy a r S) s.heap.size = A at hW ⊢
  have hl := lv_entry ([.ref (a 139)]) (n := 1) (Nat.le_of_ble_eq_true rfl)
  rw [lg_entry_eq]
  generalize (lg_sl ([.ref (a 139)]) ++ List.replicate (1 - (lg_sl ([.ref (a 139)])).length) Slot.unset).toArray = ls at hl ⊢
  have hl : lv_has ls 1 [(0, .ref (a 139))] := hl
  unfold fX6_stepBack at hf
  refine lv_aload_n C.1 C.2.1 dX6_stepBack_0 rfl (lv_at hl 0 rfl) ?_
  refine fg_6_6 C kX6_stepBack_6 mX6_stepBack_55 hW dX6_stepBack_1 ?_
  refine lv_iconst (v := 1) C.1 C.2.1 dX6_stepBack_4 (by decide) ?_
  refine lv_icmp_lt (tgt := 18) C.1 C.2.1 dX6_stepBack_5 (by decide) (fun q1 => ?_) (fun q1 => ?_)
  · replace hf := (if_pos q1).symm.trans hf
    exact mrV C hr hlocks hf hW dX6_stepBack_18
  · replace hf := (if_neg q1).symm.trans hf
    refine lv_aload_n C.1 C.2.1 dX6_stepBack_8 rfl (lv_at hl 0 rfl) ?_
    refine fg_6_6 C kX6_stepBack_6 mX6_stepBack_55 hW dX6_stepBack_9 ?_
    refine lv_sipush (v := 4000) C.1 C.2.1 dX6_stepBack_12 (by decide) ?_
    refine lv_icmp_le (tgt := 19) C.1 C.2.1 dX6_stepBack_15 (by decide) (fun q2 => ?_) (fun q2 => ?_)
    · replace hf := (if_pos q2).symm.trans hf
      refine lv_aload_n C.1 C.2.1 dX6_stepBack_19 rfl (lv_at hl 0 rfl) ?_
      refine fg_6_0 C kX6_stepBack_6 mX6_stepBack_44 hW dX6_stepBack_20 ?_
      refine lv_aload_n C.1 C.2.1 dX6_stepBack_23 rfl (lv_at hl 0 rfl) ?_
      refine fg_6_4 C kX6_stepBack_6 mX6_stepBack_71 hW dX6_stepBack_24 ?_
      obtain ⟨v3, h4, hf⟩ := bdo_el hf
      refine mcSN (As := [.int (S.1 124)]) (rest := [.ref (a 59)]) C (cX7_nodeAt_met l (S.1 124) v3 h4) ⟨va_cnB 1 C.2.2.2.2.1 gX6_stepBack_X7_nodeAt_n74 rfl rfl rfl (C.2.2.2.2.2.2 (RX6, 74, yX7_nodeAt) (by decide +kernel)) (C.2.2.2.2.1 _ mX6_stepBack_i7) (by decide +kernel) ⟨Nat.le_of_ble_eq_true rfl, Nat.le_of_ble_eq_true rfl⟩, C.2.2.2.2.1 _ mX6_stepBack_s_nodeAt, trivial⟩ rfl hl.1 (Nat.le_of_ble_eq_true rfl) dX6_stepBack_27 ⟨Nat.zero_le _, Nat.zero_le _⟩ rfl ?_
      obtain ⟨v5, S7, h6, hf⟩ := bd2_el hf
      refine mcVi (w := wC cy a r) (S := S) (As := [.int v3]) (rest := []) (q0 := 2) (ci := 2) C (cX2_kindOf_met l D cy a r _ N S v3 (v5, S7) h6) (cwV 1 C.2.2.2.2.1 gX6_stepBack_X2_kindOf rfl rfl rfl (by decide +kernel) ⟨Nat.le_of_ble_eq_true rfl, Nat.le_of_ble_eq_true rfl⟩) rfl rfl rfl hl.1 (Nat.le_of_ble_eq_true rfl) hW dX6_stepBack_30 ⟨Nat.zero_le _, Nat.zero_le _⟩ rfl (fun H locs hW => ?_)
      refine lv_iconst (v := 1) C.1 C.2.1 dX6_stepBack_33 (by decide) ?_
      refine lv_icmp_eq (tgt := 47) C.1 C.2.1 dX6_stepBack_34 (by decide) (fun q8 => ?_) (fun q8 => ?_)
      · replace hf := (if_pos q8).symm.trans hf
        refine lv_aload_n C.1 C.2.1 dX6_stepBack_47 rfl (lv_at hl 0 rfl) ?_
        refine fg_6_10 C kX6_stepBack_6 mX6_stepBack_58 hW dX6_stepBack_48 ?_
        refine lv_if_le (tgt := 81) C.1 C.2.1 dX6_stepBack_51 (by decide) (fun q9 => ?_) (fun q9 => ?_)
        · replace hf := (if_pos q9).symm.trans hf
          exact lX6_stepBack_81 C hr hlocks N _ hf _ _ _ hW (lv_sub hl [0] rfl)
        · replace hf := (if_neg q9).symm.trans hf
          refine lv_aload_n C.1 C.2.1 dX6_stepBack_54 rfl (lv_at hl 0 rfl) ?_
          refine fg_6_3 C kX6_stepBack_6 mX6_stepBack_51 hW dX6_stepBack_55 ?_
          refine lv_if_le (tgt := 81) C.1 C.2.1 dX6_stepBack_58 (by decide) (fun q10 => ?_) (fun q10 => ?_)
          · replace hf := (if_pos q10).symm.trans hf
            exact lX6_stepBack_81 C hr hlocks N _ hf _ _ _ hW (lv_sub hl [0] rfl)
          · replace hf := (if_neg q10).symm.trans hf
            refine lv_aload_n C.1 C.2.1 dX6_stepBack_61 rfl (lv_at hl 0 rfl) ?_
            refine lv_dup C.1 C.2.1 dX6_stepBack_62 rfl ?_
            refine fg_6_10 C kX6_stepBack_6 mX6_stepBack_58 hW dX6_stepBack_63 ?_
            refine lv_iconst (v := 1) C.1 C.2.1 dX6_stepBack_66 (by decide) ?_
            refine lv_isub C.1 C.2.1 dX6_stepBack_67 ?_
            obtain ⟨S11, eS11, hf⟩ := bnd_el hf
            refine fp_6_10 C kX6_stepBack_6 mX6_stepBack_58 hW dX6_stepBack_68 eS11 (fun H locs hW => ?_)
            refine lv_aload_n C.1 C.2.1 dX6_stepBack_71 rfl (lv_at hl 0 rfl) ?_
            refine lv_dup C.1 C.2.1 dX6_stepBack_72 rfl ?_
            refine fg_6_3 C kX6_stepBack_6 mX6_stepBack_51 hW dX6_stepBack_73 ?_
            refine lv_iconst (v := 1) C.1 C.2.1 dX6_stepBack_76 (by decide) ?_
            refine lv_isub C.1 C.2.1 dX6_stepBack_77 ?_
            obtain ⟨S12, eS12, hf⟩ := bnd_el hf
            refine fp_6_3 C kX6_stepBack_6 mX6_stepBack_51 hW dX6_stepBack_78 eS12 (fun H locs hW => ?_)
            exact lX6_stepBack_81 C hr hlocks N _ hf _ _ _ hW (lv_sub hl [0] rfl)
      · replace hf := (if_neg q8).symm.trans hf
        refine lv_aload_n C.1 C.2.1 dX6_stepBack_37 rfl (lv_at hl 0 rfl) ?_
        refine fg_6_1 C kX6_stepBack_6 mX6_stepBack_12 hW dX6_stepBack_38 ?_
        obtain ⟨S15, h14, hf⟩ := bdo_el hf
        refine mcVv (w := wC cy a r) (S := S7) (As := []) (rest := []) (q0 := 1) (ci := 1) C (cX1_undo_met l D cy a r _ N S7  S15 h14) (cwV 0 C.2.2.2.2.1 gX6_stepBack_X1_undo rfl rfl rfl (by decide +kernel) ⟨Nat.le_of_ble_eq_true rfl, Nat.le_of_ble_eq_true rfl⟩) rfl rfl rfl hl.1 (Nat.le_of_ble_eq_true rfl) hW dX6_stepBack_41 ⟨Nat.zero_le _, Nat.zero_le _⟩ rfl (fun H locs hW => ?_)
        refine lv_goto (tgt := 81) C.1 C.2.1 dX6_stepBack_44 (by decide) ?_
        exact lX6_stepBack_81 C hr hlocks N _ hf _ _ _ hW (lv_sub hl [0] rfl)
    · replace hf := (if_neg q2).symm.trans hf
      exact mrV C hr hlocks hf hW dX6_stepBack_18
theorem mX6_isMeeting_71 : Cond.fieldLink RX6 71 "SharedLambda$Walk" "leaving" "I" ∈ wsX6_isMeeting := by decide +kernel
theorem mX6_isMeeting_i7 : Cond.initialized RX7 ∈ wsX6_isMeeting := by decide +kernel
theorem mX6_isMeeting_s_whichAt : Cond.static yX7_whichAt ∈ wsX6_isMeeting := by decide +kernel
theorem mX6_isMeeting_44 : Cond.fieldLink RX6 44 "SharedLambda$Walk" "graph" "LSharedLambda$Graph;" ∈ wsX6_isMeeting := by decide +kernel
theorem mX6_isMeeting_s_nodeAt : Cond.static yX7_nodeAt ∈ wsX6_isMeeting := by decide +kernel
theorem kX6_isMeeting_6 : ∀ w ∈ u_ws RX6 TX6 16, w ∈ wsX6_isMeeting := fun _ h => List.mem_cons_of_mem _ (List.mem_append_left _ (List.mem_append_right _ h))
def fX6_isMeeting (N : Nat) (S : St) (p1 : Int32) : Option (Int32 × St) :=
  bdo (fX7_whichAt (S.1 124)) fun v1 =>
  if v1 = 0 then
    bdo (fX7_nodeAt (S.1 124)) fun v4 =>
    bd2 (fX2_kindOf N S v4) fun v6 S8 =>
    if v6 = (6 : Int32) then
      some ((0 : Int32), S8)
    else
      bdo (fX7_whichAt p1) fun v10 =>
      if v10 = 0 then
        some ((1 : Int32), S8)
      else
        some ((0 : Int32), S8)
  else
    some ((0 : Int32), S)
set_option maxHeartbeats 4000000 in
set_option maxRecDepth 100000 in
theorem cX6_isMeeting_met (l : Launch) (D : va_G) (cy : Nat → ClassId) (a r : Nat → Nat) (sz N : Nat) (S : St) (p1 : Int32) (Rr : Int32 × St) (hf : fX6_isMeeting N S p1 = some Rr) : Met l yX6_isMeeting wsX6_isMeeting ({ frames := 1, cells := 0, slots := 0, locals := 21 } : Room) (va_Pc [.ref (a 139), .int p1] (preW D cy (wC cy a r S) sz)) (QI D cy (wC cy a r) (va_A (wC cy a r S) sz) Rr) 0 0 (va_A (wC cy a r S) sz) := by
  refine Met.ofW (cc := cX6_isMeeting) (maxL := 2) (ret := (some .boolean)) (by decide) rfl ?_
  intro p e s m args below meth c s₁ B hml hv
  obtain ⟨rfl, rfl, hP, hK, hD0, hN⟩ := hv
  have hlocks := B.notSynchronized
  have hr := B.returns
  have C : Cx p s m _ c cX6_isMeeting 2 wsX6_isMeeting RX6 D cy := ⟨B.exec, B.bytes, hml, findClass_of_methodNamed B.named, atoms_spec (ws := wsX6_isMeeting) B.pre, hK, hN⟩
  have hW := ww_start (w := wC cy a r) hP hD0
  generalize va_A (wC cy a r S) s.heap.size = A at hW ⊢
  have hl := lv_entry ([.ref (a 139), .int p1]) (n := 2) (Nat.le_of_ble_eq_true rfl)
  rw [lg_entry_eq]
  generalize (lg_sl ([.ref (a 139), .int p1]) ++ List.replicate (2 - (lg_sl ([.ref (a 139), .int p1])).length) Slot.unset).toArray = ls at hl ⊢
  have hl : lv_has ls 2 [(0, .ref (a 139)), (1, .int p1)] := hl
  unfold fX6_isMeeting at hf
  refine lv_aload_n C.1 C.2.1 dX6_isMeeting_0 rfl (lv_at hl 0 rfl) ?_
  refine fg_6_4 C kX6_isMeeting_6 mX6_isMeeting_71 hW dX6_isMeeting_1 ?_
  obtain ⟨v1, h2, hf⟩ := bdo_el hf
  refine mcSN (As := [.int (S.1 124)]) (rest := []) C (cX7_whichAt_met l (S.1 124) v1 h2) ⟨va_cnB 1 C.2.2.2.2.1 gX6_isMeeting_X7_whichAt_n87 rfl rfl rfl (C.2.2.2.2.2.2 (RX6, 87, yX7_whichAt) (by decide +kernel)) (C.2.2.2.2.1 _ mX6_isMeeting_i7) (by decide +kernel) ⟨Nat.le_of_ble_eq_true rfl, Nat.le_of_ble_eq_true rfl⟩, C.2.2.2.2.1 _ mX6_isMeeting_s_whichAt, trivial⟩ rfl hl.1 (Nat.le_of_ble_eq_true rfl) dX6_isMeeting_4 ⟨Nat.zero_le _, Nat.zero_le _⟩ rfl ?_
  refine lv_if_ne (tgt := 40) C.1 C.2.1 dX6_isMeeting_7 (by decide) (fun q3 => ?_) (fun q3 => ?_)
  · replace hf := (if_neg q3).symm.trans hf
    refine lv_iconst (v := 0) C.1 C.2.1 dX6_isMeeting_40 (by decide) ?_
    exact mrI C hr hlocks rfl hf hW dX6_isMeeting_41
  · replace hf := (if_pos q3).symm.trans hf
    refine lv_aload_n C.1 C.2.1 dX6_isMeeting_10 rfl (lv_at hl 0 rfl) ?_
    refine fg_6_0 C kX6_isMeeting_6 mX6_isMeeting_44 hW dX6_isMeeting_11 ?_
    refine lv_aload_n C.1 C.2.1 dX6_isMeeting_14 rfl (lv_at hl 0 rfl) ?_
    refine fg_6_4 C kX6_isMeeting_6 mX6_isMeeting_71 hW dX6_isMeeting_15 ?_
    obtain ⟨v4, h5, hf⟩ := bdo_el hf
    refine mcSN (As := [.int (S.1 124)]) (rest := [.ref (a 59)]) C (cX7_nodeAt_met l (S.1 124) v4 h5) ⟨va_cnB 1 C.2.2.2.2.1 gX6_isMeeting_X7_nodeAt_n74 rfl rfl rfl (C.2.2.2.2.2.2 (RX6, 74, yX7_nodeAt) (by decide +kernel)) (C.2.2.2.2.1 _ mX6_isMeeting_i7) (by decide +kernel) ⟨Nat.le_of_ble_eq_true rfl, Nat.le_of_ble_eq_true rfl⟩, C.2.2.2.2.1 _ mX6_isMeeting_s_nodeAt, trivial⟩ rfl hl.1 (Nat.le_of_ble_eq_true rfl) dX6_isMeeting_18 ⟨Nat.zero_le _, Nat.zero_le _⟩ rfl ?_
    obtain ⟨v6, S8, h7, hf⟩ := bd2_el hf
    refine mcVi (w := wC cy a r) (S := S) (As := [.int v4]) (rest := []) (q0 := 2) (ci := 2) C (cX2_kindOf_met l D cy a r _ N S v4 (v6, S8) h7) (cwV 1 C.2.2.2.2.1 gX6_isMeeting_X2_kindOf rfl rfl rfl (by decide +kernel) ⟨Nat.le_of_ble_eq_true rfl, Nat.le_of_ble_eq_true rfl⟩) rfl rfl rfl hl.1 (Nat.le_of_ble_eq_true rfl) hW dX6_isMeeting_21 ⟨Nat.zero_le _, Nat.zero_le _⟩ rfl (fun H locs hW => ?_)
    refine lv_bipush (v := 6) C.1 C.2.1 dX6_isMeeting_24 (by decide) ?_
    refine lv_icmp_eq (tgt := 40) C.1 C.2.1 dX6_isMeeting_26 (by decide) (fun q9 => ?_) (fun q9 => ?_)
    · replace hf := (if_pos q9).symm.trans hf
      refine lv_iconst (v := 0) C.1 C.2.1 dX6_isMeeting_40 (by decide) ?_
      exact mrI C hr hlocks rfl hf hW dX6_isMeeting_41
    · replace hf := (if_neg q9).symm.trans hf
      refine lv_iload_n C.1 C.2.1 dX6_isMeeting_29 rfl (lv_at hl 1 rfl) ?_
      obtain ⟨v10, h11, hf⟩ := bdo_el hf
      refine mcSN (As := [.int p1]) (rest := []) C (cX7_whichAt_met l p1 v10 h11) ⟨va_cnB 1 C.2.2.2.2.1 gX6_isMeeting_X7_whichAt_n87 rfl rfl rfl (C.2.2.2.2.2.2 (RX6, 87, yX7_whichAt) (by decide +kernel)) (C.2.2.2.2.1 _ mX6_isMeeting_i7) (by decide +kernel) ⟨Nat.le_of_ble_eq_true rfl, Nat.le_of_ble_eq_true rfl⟩, C.2.2.2.2.1 _ mX6_isMeeting_s_whichAt, trivial⟩ rfl hl.1 (Nat.le_of_ble_eq_true rfl) dX6_isMeeting_30 ⟨Nat.zero_le _, Nat.zero_le _⟩ rfl ?_
      refine lv_if_ne (tgt := 40) C.1 C.2.1 dX6_isMeeting_33 (by decide) (fun q12 => ?_) (fun q12 => ?_)
      · replace hf := (if_neg q12).symm.trans hf
        refine lv_iconst (v := 0) C.1 C.2.1 dX6_isMeeting_40 (by decide) ?_
        exact mrI C hr hlocks rfl hf hW dX6_isMeeting_41
      · replace hf := (if_pos q12).symm.trans hf
        refine lv_iconst (v := 1) C.1 C.2.1 dX6_isMeeting_36 (by decide) ?_
        refine lv_goto (tgt := 41) C.1 C.2.1 dX6_isMeeting_37 (by decide) ?_
        exact mrI C hr hlocks rfl hf hW dX6_isMeeting_41
theorem mX6_leaveBy_i7 : Cond.initialized RX7 ∈ wsX6_leaveBy := by decide +kernel
theorem mX6_leaveBy_s_portOf : Cond.static yX7_portOf ∈ wsX6_leaveBy := by decide +kernel
theorem mX6_leaveBy_71 : Cond.fieldLink RX6 71 "SharedLambda$Walk" "leaving" "I" ∈ wsX6_leaveBy := by decide +kernel
theorem kX6_leaveBy_6 : ∀ w ∈ u_ws RX6 TX6 16, w ∈ wsX6_leaveBy := fun _ h => List.mem_cons_of_mem _ (List.mem_append_right _ h)
def fX6_leaveBy (N : Nat) (S : St) (p1 : Int32) (p2 : Int32) : Option (Int32 × St) :=
  bdo (fX7_portOf p1 p2) fun v1 =>
  bnd (sI S 124 v1) fun S3 =>
  some ((6 : Int32), S3)
set_option maxHeartbeats 4000000 in
set_option maxRecDepth 100000 in
theorem cX6_leaveBy_met (l : Launch) (D : va_G) (cy : Nat → ClassId) (a r : Nat → Nat) (sz N : Nat) (S : St) (p1 : Int32) (p2 : Int32) (Rr : Int32 × St) (hf : fX6_leaveBy N S p1 p2 = some Rr) : Met l yX6_leaveBy wsX6_leaveBy ({ frames := 1, cells := 0, slots := 0, locals := 21 } : Room) (va_Pc [.ref (a 139), .int p1, .int p2] (preW D cy (wC cy a r S) sz)) (QI D cy (wC cy a r) (va_A (wC cy a r S) sz) Rr) 0 0 (va_A (wC cy a r S) sz) := by
  refine Met.ofW (cc := cX6_leaveBy) (maxL := 3) (ret := (some .int)) (by decide) rfl ?_
  intro p e s m args below meth c s₁ B hml hv
  obtain ⟨rfl, rfl, hP, hK, hD0, hN⟩ := hv
  have hlocks := B.notSynchronized
  have hr := B.returns
  have C : Cx p s m _ c cX6_leaveBy 3 wsX6_leaveBy RX6 D cy := ⟨B.exec, B.bytes, hml, findClass_of_methodNamed B.named, atoms_spec (ws := wsX6_leaveBy) B.pre, hK, hN⟩
  have hW := ww_start (w := wC cy a r) hP hD0
  generalize va_A (wC cy a r S) s.heap.size = A at hW ⊢
  have hl := lv_entry ([.ref (a 139), .int p1, .int p2]) (n := 3) (Nat.le_of_ble_eq_true rfl)
  rw [lg_entry_eq]
  generalize (lg_sl ([.ref (a 139), .int p1, .int p2]) ++ List.replicate (3 - (lg_sl ([.ref (a 139), .int p1, .int p2])).length) Slot.unset).toArray = ls at hl ⊢
  have hl : lv_has ls 3 [(0, .ref (a 139)), (1, .int p1), (2, .int p2)] := hl
  unfold fX6_leaveBy at hf
  refine lv_aload_n C.1 C.2.1 dX6_leaveBy_0 rfl (lv_at hl 0 rfl) ?_
  refine lv_iload_n C.1 C.2.1 dX6_leaveBy_1 rfl (lv_at hl 1 rfl) ?_
  refine lv_iload_n C.1 C.2.1 dX6_leaveBy_2 rfl (lv_at hl 2 rfl) ?_
  obtain ⟨v1, h2, hf⟩ := bdo_el hf
  refine mcSN (As := [.int p1, .int p2]) (rest := [.ref (a 139)]) C (cX7_portOf_met l p1 p2 v1 h2) ⟨va_cnB 2 C.2.2.2.2.1 gX6_leaveBy_X7_portOf_n67 rfl rfl rfl (C.2.2.2.2.2.2 (RX6, 67, yX7_portOf) (by decide +kernel)) (C.2.2.2.2.1 _ mX6_leaveBy_i7) (by decide +kernel) ⟨Nat.le_of_ble_eq_true rfl, Nat.le_of_ble_eq_true rfl⟩, C.2.2.2.2.1 _ mX6_leaveBy_s_portOf, trivial⟩ rfl hl.1 (Nat.le_of_ble_eq_true rfl) dX6_leaveBy_3 ⟨Nat.zero_le _, Nat.zero_le _⟩ rfl ?_
  obtain ⟨S3, eS3, hf⟩ := bnd_el hf
  refine fp_6_4 C kX6_leaveBy_6 mX6_leaveBy_71 hW dX6_leaveBy_6 eS3 (fun H locs hW => ?_)
  refine lv_bipush (v := 6) C.1 C.2.1 dX6_leaveBy_9 (by decide) ?_
  exact mrI C hr hlocks rfl hf hW dX6_leaveBy_11
theorem mX6_atBracket_12 : Cond.fieldLink RX6 12 "SharedLambda$Walk" "context" "LSharedLambda$Context;" ∈ wsX6_atBracket := by decide +kernel
theorem kX6_atBracket_6 : ∀ w ∈ u_ws RX6 TX6 16, w ∈ wsX6_atBracket := fun _ h => List.mem_cons_of_mem _ (List.mem_append_left _ (List.mem_append_left _ (List.mem_append_right _ h)))
def fX6_atBracket (N : Nat) (S : St) (p1 : Int32) (p2 : Int32) (p3 : Int32) : Option (Int32 × St) :=
  if p3 = 0 then
    bd2 (fX1_split N S p2) fun v8 S10 =>
    if v8 = 0 then
      some ((4 : Int32), S10)
    else
      bd2 (fX6_leaveBy N S10 p1 (1 : Int32)) fun v12 S14 =>
      some (v12, S14)
  else
    bdo (fX1_pairUp N S p2) fun S4 =>
    bd2 (fX6_leaveBy N S4 p1 (0 : Int32)) fun v5 S7 =>
    some (v5, S7)
set_option maxHeartbeats 4000000 in
set_option maxRecDepth 100000 in
theorem cX6_atBracket_met (l : Launch) (D : va_G) (cy : Nat → ClassId) (a r : Nat → Nat) (sz N : Nat) (S : St) (p1 : Int32) (p2 : Int32) (p3 : Int32) (Rr : Int32 × St) (hf : fX6_atBracket N S p1 p2 p3 = some Rr) : Met l yX6_atBracket wsX6_atBracket ({ frames := 3, cells := 0, slots := 0, locals := 72 } : Room) (va_Pc [.ref (a 139), .int p1, .int p2, .int p3] (preW D cy (wC cy a r S) sz)) (QI D cy (wC cy a r) (va_A (wC cy a r S) sz) Rr) 0 0 (va_A (wC cy a r S) sz) := by
  refine Met.ofW (cc := cX6_atBracket) (maxL := 4) (ret := (some .int)) (by decide) rfl ?_
  intro p e s m args below meth c s₁ B hml hv
  obtain ⟨rfl, rfl, hP, hK, hD0, hN⟩ := hv
  have hlocks := B.notSynchronized
  have hr := B.returns
  have C : Cx p s m _ c cX6_atBracket 4 wsX6_atBracket RX6 D cy := ⟨B.exec, B.bytes, hml, findClass_of_methodNamed B.named, atoms_spec (ws := wsX6_atBracket) B.pre, hK, hN⟩
  have hW := ww_start (w := wC cy a r) hP hD0
  generalize va_A (wC cy a r S) s.heap.size = A at hW ⊢
  have hl := lv_entry ([.ref (a 139), .int p1, .int p2, .int p3]) (n := 4) (Nat.le_of_ble_eq_true rfl)
  rw [lg_entry_eq]
  generalize (lg_sl ([.ref (a 139), .int p1, .int p2, .int p3]) ++ List.replicate (4 - (lg_sl ([.ref (a 139), .int p1, .int p2, .int p3])).length) Slot.unset).toArray = ls at hl ⊢
  have hl : lv_has ls 4 [(0, .ref (a 139)), (1, .int p1), (2, .int p2), (3, .int p3)] := hl
  unfold fX6_atBracket at hf
  refine lv_iload_n C.1 C.2.1 dX6_atBracket_0 rfl (lv_at hl 3 rfl) ?_
  refine lv_if_ne (tgt := 26) C.1 C.2.1 dX6_atBracket_1 (by decide) (fun q1 => ?_) (fun q1 => ?_)
  · replace hf := (if_neg q1).symm.trans hf
    refine lv_aload_n C.1 C.2.1 dX6_atBracket_26 rfl (lv_at hl 0 rfl) ?_
    refine fg_6_1 C kX6_atBracket_6 mX6_atBracket_12 hW dX6_atBracket_27 ?_
    refine lv_iload_n C.1 C.2.1 dX6_atBracket_30 rfl (lv_at hl 2 rfl) ?_
    obtain ⟨S4, h3, hf⟩ := bdo_el hf
    refine mcVv (w := wC cy a r) (S := S) (As := [.int p2]) (rest := []) (q0 := 1) (ci := 1) C (cX1_pairUp_met l D cy a r _ N S p2 S4 h3) (cwV 1 C.2.2.2.2.1 gX6_atBracket_X1_pairUp rfl rfl rfl (by decide +kernel) ⟨Nat.le_of_ble_eq_true rfl, Nat.le_of_ble_eq_true rfl⟩) rfl rfl rfl hl.1 (Nat.le_of_ble_eq_true rfl) hW dX6_atBracket_31 ⟨Nat.zero_le _, Nat.zero_le _⟩ rfl (fun H locs hW => ?_)
    refine lv_aload_n C.1 C.2.1 dX6_atBracket_34 rfl (lv_at hl 0 rfl) ?_
    refine lv_iload_n C.1 C.2.1 dX6_atBracket_35 rfl (lv_at hl 1 rfl) ?_
    refine lv_iconst (v := 0) C.1 C.2.1 dX6_atBracket_36 (by decide) ?_
    obtain ⟨v5, S7, h6, hf⟩ := bd2_el hf
    refine mcVi (w := wC cy a r) (S := S4) (As := [.int p1, .int (0 : Int32)]) (rest := []) (q0 := 6) (ci := 6) C (cX6_leaveBy_met l D cy a r _ N S4 p1 (0 : Int32) (v5, S7) h6) (cwV 2 C.2.2.2.2.1 gX6_atBracket_X6_leaveBy rfl rfl rfl (by decide +kernel) ⟨Nat.le_of_ble_eq_true rfl, Nat.le_of_ble_eq_true rfl⟩) rfl rfl rfl hl.1 (Nat.le_of_ble_eq_true rfl) hW dX6_atBracket_37 ⟨Nat.zero_le _, Nat.zero_le _⟩ rfl (fun H locs hW => ?_)
    exact mrI C hr hlocks rfl hf hW dX6_atBracket_40
  · replace hf := (if_pos q1).symm.trans hf
    refine lv_aload_n C.1 C.2.1 dX6_atBracket_4 rfl (lv_at hl 0 rfl) ?_
    refine fg_6_1 C kX6_atBracket_6 mX6_atBracket_12 hW dX6_atBracket_5 ?_
    refine lv_iload_n C.1 C.2.1 dX6_atBracket_8 rfl (lv_at hl 2 rfl) ?_
    obtain ⟨v8, S10, h9, hf⟩ := bd2_el hf
    refine mcVi (w := wC cy a r) (S := S) (As := [.int p2]) (rest := []) (q0 := 1) (ci := 1) C (cX1_split_met l D cy a r _ N S p2 (v8, S10) h9) (cwV 1 C.2.2.2.2.1 gX6_atBracket_X1_split rfl rfl rfl (by decide +kernel) ⟨Nat.le_of_ble_eq_true rfl, Nat.le_of_ble_eq_true rfl⟩) rfl rfl rfl hl.1 (Nat.le_of_ble_eq_true rfl) hW dX6_atBracket_9 ⟨Nat.zero_le _, Nat.zero_le _⟩ rfl (fun H locs hW => ?_)
    refine lv_if_eq (tgt := 24) C.1 C.2.1 dX6_atBracket_12 (by decide) (fun q11 => ?_) (fun q11 => ?_)
    · replace hf := (if_pos q11).symm.trans hf
      refine lv_iconst (v := 4) C.1 C.2.1 dX6_atBracket_24 (by decide) ?_
      exact mrI C hr hlocks rfl hf hW dX6_atBracket_25
    · replace hf := (if_neg q11).symm.trans hf
      refine lv_aload_n C.1 C.2.1 dX6_atBracket_15 rfl (lv_at hl 0 rfl) ?_
      refine lv_iload_n C.1 C.2.1 dX6_atBracket_16 rfl (lv_at hl 1 rfl) ?_
      refine lv_iconst (v := 1) C.1 C.2.1 dX6_atBracket_17 (by decide) ?_
      obtain ⟨v12, S14, h13, hf⟩ := bd2_el hf
      refine mcVi (w := wC cy a r) (S := S10) (As := [.int p1, .int (1 : Int32)]) (rest := []) (q0 := 6) (ci := 6) C (cX6_leaveBy_met l D cy a r _ N S10 p1 (1 : Int32) (v12, S14) h13) (cwV 2 C.2.2.2.2.1 gX6_atBracket_X6_leaveBy rfl rfl rfl (by decide +kernel) ⟨Nat.le_of_ble_eq_true rfl, Nat.le_of_ble_eq_true rfl⟩) rfl rfl rfl hl.1 (Nat.le_of_ble_eq_true rfl) hW dX6_atBracket_18 ⟨Nat.zero_le _, Nat.zero_le _⟩ rfl (fun H locs hW => ?_)
      refine lv_goto (tgt := 25) C.1 C.2.1 dX6_atBracket_21 (by decide) ?_
      exact mrI C hr hlocks rfl hf hW dX6_atBracket_25
theorem mX6_atFan_12 : Cond.fieldLink RX6 12 "SharedLambda$Walk" "context" "LSharedLambda$Context;" ∈ wsX6_atFan := by decide +kernel
theorem kX6_atFan_6 : ∀ w ∈ u_ws RX6 TX6 16, w ∈ wsX6_atFan := fun _ h => List.mem_cons_of_mem _ (List.mem_append_left _ (List.mem_append_left _ (List.mem_append_right _ h)))
def fX6_atFan (N : Nat) (S : St) (p1 : Int32) (p2 : Int32) (p3 : Int32) : Option (Int32 × St) :=
  if p3 = 0 then
    bd2 (fX1_leaveFan N S p2) fun v8 S10 =>
    if v8 = (-1 : Int32) then
      some ((4 : Int32), S10)
    else
      bd2 (fX6_leaveBy N S10 p1 v8) fun v12 S14 =>
      some (v12, S14)
  else
    bdo (fX1_enterFan N S p2 p3) fun S4 =>
    bd2 (fX6_leaveBy N S4 p1 (0 : Int32)) fun v5 S7 =>
    some (v5, S7)
set_option maxHeartbeats 4000000 in
set_option maxRecDepth 100000 in
theorem cX6_atFan_met (l : Launch) (D : va_G) (cy : Nat → ClassId) (a r : Nat → Nat) (sz N : Nat) (S : St) (p1 : Int32) (p2 : Int32) (p3 : Int32) (Rr : Int32 × St) (hf : fX6_atFan N S p1 p2 p3 = some Rr) : Met l yX6_atFan wsX6_atFan ({ frames := 3, cells := 0, slots := 0, locals := 73 } : Room) (va_Pc [.ref (a 139), .int p1, .int p2, .int p3] (preW D cy (wC cy a r S) sz)) (QI D cy (wC cy a r) (va_A (wC cy a r S) sz) Rr) 0 0 (va_A (wC cy a r S) sz) := by
  refine Met.ofW (cc := cX6_atFan) (maxL := 5) (ret := (some .int)) (by decide) rfl ?_
  intro p e s m args below meth c s₁ B hml hv
  obtain ⟨rfl, rfl, hP, hK, hD0, hN⟩ := hv
  have hlocks := B.notSynchronized
  have hr := B.returns
  have C : Cx p s m _ c cX6_atFan 5 wsX6_atFan RX6 D cy := ⟨B.exec, B.bytes, hml, findClass_of_methodNamed B.named, atoms_spec (ws := wsX6_atFan) B.pre, hK, hN⟩
  have hW := ww_start (w := wC cy a r) hP hD0
  generalize va_A (wC cy a r S) s.heap.size = A at hW ⊢
  have hl := lv_entry ([.ref (a 139), .int p1, .int p2, .int p3]) (n := 5) (Nat.le_of_ble_eq_true rfl)
  rw [lg_entry_eq]
  generalize (lg_sl ([.ref (a 139), .int p1, .int p2, .int p3]) ++ List.replicate (5 - (lg_sl ([.ref (a 139), .int p1, .int p2, .int p3])).length) Slot.unset).toArray = ls at hl ⊢
  have hl : lv_has ls 5 [(0, .ref (a 139)), (1, .int p1), (2, .int p2), (3, .int p3)] := hl
  unfold fX6_atFan at hf
  refine lv_iload_n C.1 C.2.1 dX6_atFan_0 rfl (lv_at hl 3 rfl) ?_
  refine lv_if_ne (tgt := 32) C.1 C.2.1 dX6_atFan_1 (by decide) (fun q1 => ?_) (fun q1 => ?_)
  · replace hf := (if_neg q1).symm.trans hf
    refine lv_aload_n C.1 C.2.1 dX6_atFan_32 rfl (lv_at hl 0 rfl) ?_
    refine fg_6_1 C kX6_atFan_6 mX6_atFan_12 hW dX6_atFan_33 ?_
    refine lv_iload_n C.1 C.2.1 dX6_atFan_36 rfl (lv_at hl 2 rfl) ?_
    refine lv_iload_n C.1 C.2.1 dX6_atFan_37 rfl (lv_at hl 3 rfl) ?_
    obtain ⟨S4, h3, hf⟩ := bdo_el hf
    refine mcVv (w := wC cy a r) (S := S) (As := [.int p2, .int p3]) (rest := []) (q0 := 1) (ci := 1) C (cX1_enterFan_met l D cy a r _ N S p2 p3 S4 h3) (cwV 2 C.2.2.2.2.1 gX6_atFan_X1_enterFan rfl rfl rfl (by decide +kernel) ⟨Nat.le_of_ble_eq_true rfl, Nat.le_of_ble_eq_true rfl⟩) rfl rfl rfl hl.1 (Nat.le_of_ble_eq_true rfl) hW dX6_atFan_38 ⟨Nat.zero_le _, Nat.zero_le _⟩ rfl (fun H locs hW => ?_)
    refine lv_aload_n C.1 C.2.1 dX6_atFan_41 rfl (lv_at hl 0 rfl) ?_
    refine lv_iload_n C.1 C.2.1 dX6_atFan_42 rfl (lv_at hl 1 rfl) ?_
    refine lv_iconst (v := 0) C.1 C.2.1 dX6_atFan_43 (by decide) ?_
    obtain ⟨v5, S7, h6, hf⟩ := bd2_el hf
    refine mcVi (w := wC cy a r) (S := S4) (As := [.int p1, .int (0 : Int32)]) (rest := []) (q0 := 6) (ci := 6) C (cX6_leaveBy_met l D cy a r _ N S4 p1 (0 : Int32) (v5, S7) h6) (cwV 2 C.2.2.2.2.1 gX6_atFan_X6_leaveBy rfl rfl rfl (by decide +kernel) ⟨Nat.le_of_ble_eq_true rfl, Nat.le_of_ble_eq_true rfl⟩) rfl rfl rfl hl.1 (Nat.le_of_ble_eq_true rfl) hW dX6_atFan_44 ⟨Nat.zero_le _, Nat.zero_le _⟩ rfl (fun H locs hW => ?_)
    exact mrI C hr hlocks rfl hf hW dX6_atFan_47
  · replace hf := (if_pos q1).symm.trans hf
    refine lv_aload_n C.1 C.2.1 dX6_atFan_4 rfl (lv_at hl 0 rfl) ?_
    refine fg_6_1 C kX6_atFan_6 mX6_atFan_12 hW dX6_atFan_5 ?_
    refine lv_iload_n C.1 C.2.1 dX6_atFan_8 rfl (lv_at hl 2 rfl) ?_
    obtain ⟨v8, S10, h9, hf⟩ := bd2_el hf
    refine mcVi (w := wC cy a r) (S := S) (As := [.int p2]) (rest := []) (q0 := 1) (ci := 1) C (cX1_leaveFan_met l D cy a r _ N S p2 (v8, S10) h9) (cwV 1 C.2.2.2.2.1 gX6_atFan_X1_leaveFan rfl rfl rfl (by decide +kernel) ⟨Nat.le_of_ble_eq_true rfl, Nat.le_of_ble_eq_true rfl⟩) rfl rfl rfl hl.1 (Nat.le_of_ble_eq_true rfl) hW dX6_atFan_9 ⟨Nat.zero_le _, Nat.zero_le _⟩ rfl (fun H locs hW => ?_)
    refine lv_istore (lv' := [(4, .int v8), (0, .ref (a 139)), (1, .int p1), (2, .int p2), (3, .int p3)]) C.1 C.2.1 dX6_atFan_12 hl (by decide) rfl (fun ls hl => ?_)
    refine lv_iload C.1 C.2.1 dX6_atFan_14 (lv_at hl 0 rfl) ?_
    refine lv_iconst (v := -1) C.1 C.2.1 dX6_atFan_16 (by decide) ?_
    refine lv_icmp_ne (tgt := 24) C.1 C.2.1 dX6_atFan_17 (by decide) (fun q11 => ?_) (fun q11 => ?_)
    · replace hf := (if_neg q11).symm.trans hf
      refine lv_aload_n C.1 C.2.1 dX6_atFan_24 rfl (lv_at hl 1 rfl) ?_
      refine lv_iload_n C.1 C.2.1 dX6_atFan_25 rfl (lv_at hl 2 rfl) ?_
      refine lv_iload C.1 C.2.1 dX6_atFan_26 (lv_at hl 0 rfl) ?_
      obtain ⟨v12, S14, h13, hf⟩ := bd2_el hf
      refine mcVi (w := wC cy a r) (S := S10) (As := [.int p1, .int v8]) (rest := []) (q0 := 6) (ci := 6) C (cX6_leaveBy_met l D cy a r _ N S10 p1 v8 (v12, S14) h13) (cwV 2 C.2.2.2.2.1 gX6_atFan_X6_leaveBy rfl rfl rfl (by decide +kernel) ⟨Nat.le_of_ble_eq_true rfl, Nat.le_of_ble_eq_true rfl⟩) rfl rfl rfl hl.1 (Nat.le_of_ble_eq_true rfl) hW dX6_atFan_28 ⟨Nat.zero_le _, Nat.zero_le _⟩ rfl (fun H locs hW => ?_)
      exact mrI C hr hlocks rfl hf hW dX6_atFan_31
    · replace hf := (if_pos q11).symm.trans hf
      refine lv_iconst (v := 4) C.1 C.2.1 dX6_atFan_20 (by decide) ?_
      refine lv_goto (tgt := 31) C.1 C.2.1 dX6_atFan_21 (by decide) ?_
      exact mrI C hr hlocks rfl hf hW dX6_atFan_31
theorem mX6_tell_51 : Cond.fieldLink RX6 51 "SharedLambda$Walk" "told" "I" ∈ wsX6_tell := by decide +kernel
theorem mX6_tell_18 : Cond.fieldLink RX6 18 "SharedLambda$Walk" "letters" "[C" ∈ wsX6_tell := by decide +kernel
theorem kX6_tell_6 : ∀ w ∈ u_ws RX6 TX6 16, w ∈ wsX6_tell := fun _ h => List.mem_cons_of_mem _ (List.mem_append_right _ h)
def fX6_tell (N : Nat) (S : St) (p1 : Int32) : Option (Int32 × St) :=
  if S.1 123 < (4000 : Int32) then
    ckx (S.1 123) 4000 <|
    bnd (sA S 122 (upd (S.2.1 122) (S.1 123 : Int32).toNatClampNeg (vp_nar .char p1))) fun S3 =>
    bnd (sI S3 123 ((S3.1 123 + (1 : Int32)))) fun S4 =>
    some ((1 : Int32), S4)
  else
    some ((0 : Int32), S)
set_option maxHeartbeats 4000000 in
set_option maxRecDepth 100000 in
theorem cX6_tell_met (l : Launch) (D : va_G) (cy : Nat → ClassId) (a r : Nat → Nat) (sz N : Nat) (S : St) (p1 : Int32) (Rr : Int32 × St) (hf : fX6_tell N S p1 = some Rr) : Met l yX6_tell wsX6_tell ({ frames := 0, cells := 0, slots := 0, locals := 0 } : Room) (va_Pc [.ref (a 139), .int p1] (preW D cy (wC cy a r S) sz)) (QI D cy (wC cy a r) (va_A (wC cy a r S) sz) Rr) 0 0 (va_A (wC cy a r S) sz) := by
  refine Met.ofW (cc := cX6_tell) (maxL := 2) (ret := (some .boolean)) (by decide) rfl ?_
  intro p e s m args below meth c s₁ B hml hv
  obtain ⟨rfl, rfl, hP, hK, hD0, hN⟩ := hv
  have hlocks := B.notSynchronized
  have hr := B.returns
  have C : Cx p s m _ c cX6_tell 2 wsX6_tell RX6 D cy := ⟨B.exec, B.bytes, hml, findClass_of_methodNamed B.named, atoms_spec (ws := wsX6_tell) B.pre, hK, hN⟩
  have hW := ww_start (w := wC cy a r) hP hD0
  generalize va_A (wC cy a r S) s.heap.size = A at hW ⊢
  have hl := lv_entry ([.ref (a 139), .int p1]) (n := 2) (Nat.le_of_ble_eq_true rfl)
  rw [lg_entry_eq]
  generalize (lg_sl ([.ref (a 139), .int p1]) ++ List.replicate (2 - (lg_sl ([.ref (a 139), .int p1])).length) Slot.unset).toArray = ls at hl ⊢
  have hl : lv_has ls 2 [(0, .ref (a 139)), (1, .int p1)] := hl
  unfold fX6_tell at hf
  refine lv_aload_n C.1 C.2.1 dX6_tell_0 rfl (lv_at hl 0 rfl) ?_
  refine fg_6_3 C kX6_tell_6 mX6_tell_51 hW dX6_tell_1 ?_
  refine lv_sipush (v := 4000) C.1 C.2.1 dX6_tell_4 (by decide) ?_
  refine lv_icmp_lt (tgt := 12) C.1 C.2.1 dX6_tell_7 (by decide) (fun q1 => ?_) (fun q1 => ?_)
  · replace hf := (if_pos q1).symm.trans hf
    refine lv_aload_n C.1 C.2.1 dX6_tell_12 rfl (lv_at hl 0 rfl) ?_
    refine fg_6_2 C kX6_tell_6 mX6_tell_18 hW dX6_tell_13 ?_
    refine lv_aload_n C.1 C.2.1 dX6_tell_16 rfl (lv_at hl 0 rfl) ?_
    refine fg_6_3 C kX6_tell_6 mX6_tell_51 hW dX6_tell_17 ?_
    refine lv_iload_n C.1 C.2.1 dX6_tell_20 rfl (lv_at hl 1 rfl) ?_
    obtain ⟨h2, hf⟩ := ckx_el hf
    obtain ⟨S3, eS3, hf⟩ := bnd_el hf
    refine as_6_2 C hW h2 dX6_tell_21 eS3 (fun H locs hW => ?_)
    refine lv_aload_n C.1 C.2.1 dX6_tell_22 rfl (lv_at hl 0 rfl) ?_
    refine lv_dup C.1 C.2.1 dX6_tell_23 rfl ?_
    refine fg_6_3 C kX6_tell_6 mX6_tell_51 hW dX6_tell_24 ?_
    refine lv_iconst (v := 1) C.1 C.2.1 dX6_tell_27 (by decide) ?_
    refine lv_iadd C.1 C.2.1 dX6_tell_28 ?_
    obtain ⟨S4, eS4, hf⟩ := bnd_el hf
    refine fp_6_3 C kX6_tell_6 mX6_tell_51 hW dX6_tell_29 eS4 (fun H locs hW => ?_)
    refine lv_iconst (v := 1) C.1 C.2.1 dX6_tell_32 (by decide) ?_
    exact mrI C hr hlocks rfl hf hW dX6_tell_33
  · replace hf := (if_neg q1).symm.trans hf
    refine lv_iconst (v := 0) C.1 C.2.1 dX6_tell_10 (by decide) ?_
    exact mrI C hr hlocks rfl hf hW dX6_tell_11
theorem mX6_push_58 : Cond.fieldLink RX6 58 "SharedLambda$Walk" "depth" "I" ∈ wsX6_push := by decide +kernel
theorem mX6_push_26 : Cond.fieldLink RX6 26 "SharedLambda$Walk" "stages" "[I" ∈ wsX6_push := by decide +kernel
theorem mX6_push_29 : Cond.fieldLink RX6 29 "SharedLambda$Walk" "stageNodes" "[I" ∈ wsX6_push := by decide +kernel
theorem mX6_push_32 : Cond.fieldLink RX6 32 "SharedLambda$Walk" "stageMarks" "[I" ∈ wsX6_push := by decide +kernel
theorem mX6_push_12 : Cond.fieldLink RX6 12 "SharedLambda$Walk" "context" "LSharedLambda$Context;" ∈ wsX6_push := by decide +kernel
theorem kX6_push_6 : ∀ w ∈ u_ws RX6 TX6 16, w ∈ wsX6_push := fun _ h => List.mem_cons_of_mem _ (List.mem_append_left _ (List.mem_append_right _ h))
def fX6_push (N : Nat) (S : St) (p1 : Int32) (p2 : Int32) : Option (St) :=
  if (4000 : Int32) ≤ S.1 130 then
    some S
  else
    ckx (S.1 130) 4000 <|
    bnd (sA S 127 (upd (S.2.1 127) (S.1 130 : Int32).toNatClampNeg p1)) fun S3 =>
    ckx (S3.1 130) 4000 <|
    bnd (sA S3 128 (upd (S3.2.1 128) (S3.1 130 : Int32).toNatClampNeg p2)) fun S5 =>
    bd2 (fX1_changes N S5) fun v6 S8 =>
    ckx (S5.1 130) 4000 <|
    bnd (sA S8 129 (upd (S8.2.1 129) (S5.1 130 : Int32).toNatClampNeg v6)) fun S10 =>
    bnd (sI S10 130 ((S10.1 130 + (1 : Int32)))) fun S11 =>
    some S11
set_option maxHeartbeats 4000000 in
set_option maxRecDepth 100000 in
theorem cX6_push_met (l : Launch) (D : va_G) (cy : Nat → ClassId) (a r : Nat → Nat) (sz N : Nat) (S : St) (p1 : Int32) (p2 : Int32) (Rr : St) (hf : fX6_push N S p1 p2 = some Rr) : Met l yX6_push wsX6_push ({ frames := 1, cells := 0, slots := 0, locals := 20 } : Room) (va_Pc [.ref (a 139), .int p1, .int p2] (preW D cy (wC cy a r S) sz)) (QV D cy (wC cy a r) (va_A (wC cy a r S) sz) Rr) 0 0 (va_A (wC cy a r S) sz) := by
  refine Met.ofW (cc := cX6_push) (maxL := 3) (ret := none) (by decide) rfl ?_
  intro p e s m args below meth c s₁ B hml hv
  obtain ⟨rfl, rfl, hP, hK, hD0, hN⟩ := hv
  have hlocks := B.notSynchronized
  have hr := B.returns
  have C : Cx p s m _ c cX6_push 3 wsX6_push RX6 D cy := ⟨B.exec, B.bytes, hml, findClass_of_methodNamed B.named, atoms_spec (ws := wsX6_push) B.pre, hK, hN⟩
  have hW := ww_start (w := wC cy a r) hP hD0
  generalize va_A (wC cy a r S) s.heap.size = A at hW ⊢
  have hl := lv_entry ([.ref (a 139), .int p1, .int p2]) (n := 3) (Nat.le_of_ble_eq_true rfl)
  rw [lg_entry_eq]
  generalize (lg_sl ([.ref (a 139), .int p1, .int p2]) ++ List.replicate (3 - (lg_sl ([.ref (a 139), .int p1, .int p2])).length) Slot.unset).toArray = ls at hl ⊢
  have hl : lv_has ls 3 [(0, .ref (a 139)), (1, .int p1), (2, .int p2)] := hl
  unfold fX6_push at hf
  refine lv_aload_n C.1 C.2.1 dX6_push_0 rfl (lv_at hl 0 rfl) ?_
  refine fg_6_10 C kX6_push_6 mX6_push_58 hW dX6_push_1 ?_
  refine lv_sipush (v := 4000) C.1 C.2.1 dX6_push_4 (by decide) ?_
  refine lv_icmp_ge (tgt := 56) C.1 C.2.1 dX6_push_7 (by decide) (fun q1 => ?_) (fun q1 => ?_)
  · replace hf := (if_pos q1).symm.trans hf
    exact mrV C hr hlocks hf hW dX6_push_56
  · replace hf := (if_neg q1).symm.trans hf
    refine lv_aload_n C.1 C.2.1 dX6_push_10 rfl (lv_at hl 0 rfl) ?_
    refine fg_6_7 C kX6_push_6 mX6_push_26 hW dX6_push_11 ?_
    refine lv_aload_n C.1 C.2.1 dX6_push_14 rfl (lv_at hl 0 rfl) ?_
    refine fg_6_10 C kX6_push_6 mX6_push_58 hW dX6_push_15 ?_
    refine lv_iload_n C.1 C.2.1 dX6_push_18 rfl (lv_at hl 1 rfl) ?_
    obtain ⟨h2, hf⟩ := ckx_el hf
    obtain ⟨S3, eS3, hf⟩ := bnd_el hf
    refine as_6_7 C hW h2 dX6_push_19 eS3 (fun H locs hW => ?_)
    refine lv_aload_n C.1 C.2.1 dX6_push_20 rfl (lv_at hl 0 rfl) ?_
    refine fg_6_8 C kX6_push_6 mX6_push_29 hW dX6_push_21 ?_
    refine lv_aload_n C.1 C.2.1 dX6_push_24 rfl (lv_at hl 0 rfl) ?_
    refine fg_6_10 C kX6_push_6 mX6_push_58 hW dX6_push_25 ?_
    refine lv_iload_n C.1 C.2.1 dX6_push_28 rfl (lv_at hl 2 rfl) ?_
    obtain ⟨h4, hf⟩ := ckx_el hf
    obtain ⟨S5, eS5, hf⟩ := bnd_el hf
    refine as_6_8 C hW h4 dX6_push_29 eS5 (fun H locs hW => ?_)
    refine lv_aload_n C.1 C.2.1 dX6_push_30 rfl (lv_at hl 0 rfl) ?_
    refine fg_6_9 C kX6_push_6 mX6_push_32 hW dX6_push_31 ?_
    refine lv_aload_n C.1 C.2.1 dX6_push_34 rfl (lv_at hl 0 rfl) ?_
    refine fg_6_10 C kX6_push_6 mX6_push_58 hW dX6_push_35 ?_
    refine lv_aload_n C.1 C.2.1 dX6_push_38 rfl (lv_at hl 0 rfl) ?_
    refine fg_6_1 C kX6_push_6 mX6_push_12 hW dX6_push_39 ?_
    obtain ⟨v6, S8, h7, hf⟩ := bd2_el hf
    refine mcVi (w := wC cy a r) (S := S5) (As := []) (rest := [.int (S5.1 130), .ref (a 129)]) (q0 := 1) (ci := 1) C (cX1_changes_met l D cy a r _ N S5  (v6, S8) h7) (cwV 0 C.2.2.2.2.1 gX6_push_X1_changes rfl rfl rfl (by decide +kernel) ⟨Nat.le_of_ble_eq_true rfl, Nat.le_of_ble_eq_true rfl⟩) rfl rfl rfl hl.1 (Nat.le_of_ble_eq_true rfl) hW dX6_push_42 ⟨Nat.zero_le _, Nat.zero_le _⟩ rfl (fun H locs hW => ?_)
    obtain ⟨h9, hf⟩ := ckx_el hf
    obtain ⟨S10, eS10, hf⟩ := bnd_el hf
    refine as_6_9 C hW h9 dX6_push_45 eS10 (fun H locs hW => ?_)
    refine lv_aload_n C.1 C.2.1 dX6_push_46 rfl (lv_at hl 0 rfl) ?_
    refine lv_dup C.1 C.2.1 dX6_push_47 rfl ?_
    refine fg_6_10 C kX6_push_6 mX6_push_58 hW dX6_push_48 ?_
    refine lv_iconst (v := 1) C.1 C.2.1 dX6_push_51 (by decide) ?_
    refine lv_iadd C.1 C.2.1 dX6_push_52 ?_
    obtain ⟨S11, eS11, hf⟩ := bnd_el hf
    refine fp_6_10 C kX6_push_6 mX6_push_58 hW dX6_push_53 eS11 (fun H locs hW => ?_)
    exact mrV C hr hlocks hf hW dX6_push_56
def fX6_readApplication (N : Nat) (S : St) (p1 : Int32) : Option (Int32 × St) :=
  bd2 (fX6_tell N S (40 : Int32)) fun v1 S3 =>
  if v1 = 0 then
    some ((3 : Int32), S3)
  else
    bdo (fX6_push N S3 (1 : Int32) p1) fun S7 =>
    bd2 (fX6_leaveBy N S7 p1 (0 : Int32)) fun v8 S10 =>
    some (v8, S10)
set_option maxHeartbeats 4000000 in
set_option maxRecDepth 100000 in
theorem cX6_readApplication_met (l : Launch) (D : va_G) (cy : Nat → ClassId) (a r : Nat → Nat) (sz N : Nat) (S : St) (p1 : Int32) (Rr : Int32 × St) (hf : fX6_readApplication N S p1 = some Rr) : Met l yX6_readApplication wsX6_readApplication ({ frames := 2, cells := 0, slots := 0, locals := 43 } : Room) (va_Pc [.ref (a 139), .int p1] (preW D cy (wC cy a r S) sz)) (QI D cy (wC cy a r) (va_A (wC cy a r S) sz) Rr) 0 0 (va_A (wC cy a r S) sz) := by
  refine Met.ofW (cc := cX6_readApplication) (maxL := 2) (ret := (some .int)) (by decide) rfl ?_
  intro p e s m args below meth c s₁ B hml hv
  obtain ⟨rfl, rfl, hP, hK, hD0, hN⟩ := hv
  have hlocks := B.notSynchronized
  have hr := B.returns
  have C : Cx p s m _ c cX6_readApplication 2 wsX6_readApplication RX6 D cy := ⟨B.exec, B.bytes, hml, findClass_of_methodNamed B.named, atoms_spec (ws := wsX6_readApplication) B.pre, hK, hN⟩
  have hW := ww_start (w := wC cy a r) hP hD0
  generalize va_A (wC cy a r S) s.heap.size = A at hW ⊢
  have hl := lv_entry ([.ref (a 139), .int p1]) (n := 2) (Nat.le_of_ble_eq_true rfl)
  rw [lg_entry_eq]
  generalize (lg_sl ([.ref (a 139), .int p1]) ++ List.replicate (2 - (lg_sl ([.ref (a 139), .int p1])).length) Slot.unset).toArray = ls at hl ⊢
  have hl : lv_has ls 2 [(0, .ref (a 139)), (1, .int p1)] := hl
  unfold fX6_readApplication at hf
  refine lv_aload_n C.1 C.2.1 dX6_readApplication_0 rfl (lv_at hl 0 rfl) ?_
  refine lv_bipush (v := 40) C.1 C.2.1 dX6_readApplication_1 (by decide) ?_
  obtain ⟨v1, S3, h2, hf⟩ := bd2_el hf
  refine mcVi (w := wC cy a r) (S := S) (As := [.int (40 : Int32)]) (rest := []) (q0 := 6) (ci := 6) C (cX6_tell_met l D cy a r _ N S (40 : Int32) (v1, S3) h2) (cwV 1 C.2.2.2.2.1 gX6_readApplication_X6_tell rfl rfl rfl (by decide +kernel) ⟨Nat.le_of_ble_eq_true rfl, Nat.le_of_ble_eq_true rfl⟩) rfl rfl rfl hl.1 (Nat.le_of_ble_eq_true rfl) hW dX6_readApplication_3 ⟨Nat.zero_le _, Nat.zero_le _⟩ rfl (fun H locs hW => ?_)
  refine lv_if_ne (tgt := 11) C.1 C.2.1 dX6_readApplication_6 (by decide) (fun q4 => ?_) (fun q4 => ?_)
  · replace hf := (if_neg q4).symm.trans hf
    refine lv_aload_n C.1 C.2.1 dX6_readApplication_11 rfl (lv_at hl 0 rfl) ?_
    refine lv_iconst (v := 1) C.1 C.2.1 dX6_readApplication_12 (by decide) ?_
    refine lv_iload_n C.1 C.2.1 dX6_readApplication_13 rfl (lv_at hl 1 rfl) ?_
    obtain ⟨S7, h6, hf⟩ := bdo_el hf
    refine mcVv (w := wC cy a r) (S := S3) (As := [.int (1 : Int32), .int p1]) (rest := []) (q0 := 6) (ci := 6) C (cX6_push_met l D cy a r _ N S3 (1 : Int32) p1 S7 h6) (cwV 2 C.2.2.2.2.1 gX6_readApplication_X6_push rfl rfl rfl (by decide +kernel) ⟨Nat.le_of_ble_eq_true rfl, Nat.le_of_ble_eq_true rfl⟩) rfl rfl rfl hl.1 (Nat.le_of_ble_eq_true rfl) hW dX6_readApplication_14 ⟨Nat.zero_le _, Nat.zero_le _⟩ rfl (fun H locs hW => ?_)
    refine lv_aload_n C.1 C.2.1 dX6_readApplication_17 rfl (lv_at hl 0 rfl) ?_
    refine lv_iload_n C.1 C.2.1 dX6_readApplication_18 rfl (lv_at hl 1 rfl) ?_
    refine lv_iconst (v := 0) C.1 C.2.1 dX6_readApplication_19 (by decide) ?_
    obtain ⟨v8, S10, h9, hf⟩ := bd2_el hf
    refine mcVi (w := wC cy a r) (S := S7) (As := [.int p1, .int (0 : Int32)]) (rest := []) (q0 := 6) (ci := 6) C (cX6_leaveBy_met l D cy a r _ N S7 p1 (0 : Int32) (v8, S10) h9) (cwV 2 C.2.2.2.2.1 gX6_readApplication_X6_leaveBy rfl rfl rfl (by decide +kernel) ⟨Nat.le_of_ble_eq_true rfl, Nat.le_of_ble_eq_true rfl⟩) rfl rfl rfl hl.1 (Nat.le_of_ble_eq_true rfl) hW dX6_readApplication_20 ⟨Nat.zero_le _, Nat.zero_le _⟩ rfl (fun H locs hW => ?_)
    exact mrI C hr hlocks rfl hf hW dX6_readApplication_23
  · replace hf := (if_pos q4).symm.trans hf
    refine lv_iconst (v := 3) C.1 C.2.1 dX6_readApplication_9 (by decide) ?_
    exact mrI C hr hlocks rfl hf hW dX6_readApplication_10
theorem mX6_hasLevels_41 : Cond.fieldLink RX6 41 "SharedLambda$Walk" "binderLevels" "[I" ∈ wsX6_hasLevels := by decide +kernel
theorem mX6_hasLevels_12 : Cond.fieldLink RX6 12 "SharedLambda$Walk" "context" "LSharedLambda$Context;" ∈ wsX6_hasLevels := by decide +kernel
theorem kX6_hasLevels_6 : ∀ w ∈ u_ws RX6 TX6 16, w ∈ wsX6_hasLevels := fun _ h => List.mem_cons_of_mem _ (List.mem_append_left _ (List.mem_append_right _ h))
def fX6_hasLevels_19s (N : Nat) (k19 : St × Int32 × Int32 × Int32 → Option (Int32 × St)) (S : St) (x1 : Int32) (x2 : Int32) (x3 : Int32) : Option (Int32 × St) :=
  if x2 ≤ x3 then
    some ((1 : Int32), S)
  else
    ckx (x1 + x3) S.2.2.2.2.1 <|
    bd2 (fX1_level N S x3) fun v3 S5 =>
    if S.2.1 134 ((x1 + x3) : Int32).toNatClampNeg = v3 then
      bnd (x3 + (1 : Int32)) fun z7 =>
      k19 (S5, x1, x2, z7)
    else
      some ((0 : Int32), S5)
def fX6_hasLevels_19 (N : Nat) : St × Int32 × Int32 × Int32 → Option (Int32 × St) := loopN (fun k x => fX6_hasLevels_19s N k x.1 x.2.1 x.2.2.1 x.2.2.2) N
set_option maxHeartbeats 4000000 in
set_option maxRecDepth 100000 in
theorem lX6_hasLevels_19 {p : Program} {l : Launch} {e : Env} {s : State} {m : MethodId} {args : Array Value} {below : List Frame} {meth : Method} {c : Code} {D : va_G} {cy : Nat → ClassId} {a r : Nat → Nat} {A : Nat → Prop} {Rr : Int32 × St} (C : Cx p s m args c cX6_hasLevels 4 wsX6_hasLevels RX6 D cy) (hr : meth.sig.returnType = some .boolean) (hlocks : meth.locks = false) (N : Nat) : ∀ (n : Nat) (S : St) (x1 : Int32) (x2 : Int32) (x3 : Int32), loopN (fun k x => fX6_hasLevels_19s N k x.1 x.2.1 x.2.2.1 x.2.2.2) n (S, x1, x2, x3) = some Rr → ∀ (H : Heap) (locs : List Loc) (ls : Array Slot), WW D A s.heap (wC cy a r S) H locs → lv_has ls 4 [(0, .ref (a 139)), (1, .int x1), (2, .int x2), (3, .int x3)] → W p l e ({ frames := 1, cells := 0, slots := 0, locals := 21 } : Room) s m args below meth c H locs 0 0 (MQ below (QI D cy (wC cy a r) A Rr) args s 0 0 A) (F0 m 19 ls []) := by
  intro n
  induction n with
  | zero =>
    intro S x1 x2 x3 hf
    cases hf
  | succ n ih =>
    intro S x1 x2 x3 hf H locs ls hW hl
    have hf : fX6_hasLevels_19s N (loopN (fun k x => fX6_hasLevels_19s N k x.1 x.2.1 x.2.2.1 x.2.2.2) n) S x1 x2 x3 = some Rr := hf
    unfold fX6_hasLevels_19s at hf
    refine lv_iload_n C.1 C.2.1 dX6_hasLevels_19 rfl (lv_at hl 3 rfl) ?_
    refine lv_iload_n C.1 C.2.1 dX6_hasLevels_20 rfl (lv_at hl 2 rfl) ?_
    refine lv_icmp_ge (tgt := 51) C.1 C.2.1 dX6_hasLevels_21 (by decide) (fun q1 => ?_) (fun q1 => ?_)
    · replace hf := (if_pos q1).symm.trans hf
      refine lv_iconst (v := 1) C.1 C.2.1 dX6_hasLevels_51 (by decide) ?_
      exact mrI C hr hlocks rfl hf hW dX6_hasLevels_52
    · replace hf := (if_neg q1).symm.trans hf
      refine lv_aload_n C.1 C.2.1 dX6_hasLevels_24 rfl (lv_at hl 0 rfl) ?_
      refine fg_6_14 C kX6_hasLevels_6 mX6_hasLevels_41 hW dX6_hasLevels_25 ?_
      refine lv_iload_n C.1 C.2.1 dX6_hasLevels_28 rfl (lv_at hl 1 rfl) ?_
      refine lv_iload_n C.1 C.2.1 dX6_hasLevels_29 rfl (lv_at hl 3 rfl) ?_
      refine lv_iadd C.1 C.2.1 dX6_hasLevels_30 ?_
      obtain ⟨h2, hf⟩ := ckx_el hf
      refine al_6_14 C hW h2 dX6_hasLevels_31 ?_
      refine lv_aload_n C.1 C.2.1 dX6_hasLevels_32 rfl (lv_at hl 0 rfl) ?_
      refine fg_6_1 C kX6_hasLevels_6 mX6_hasLevels_12 hW dX6_hasLevels_33 ?_
      refine lv_iload_n C.1 C.2.1 dX6_hasLevels_36 rfl (lv_at hl 3 rfl) ?_
      obtain ⟨v3, S5, h4, hf⟩ := bd2_el hf
      refine mcVi (w := wC cy a r) (S := S) (As := [.int x3]) (rest := [.int (S.2.1 134 ((x1 + x3) : Int32).toNatClampNeg)]) (q0 := 1) (ci := 1) C (cX1_level_met l D cy a r _ N S x3 (v3, S5) h4) (cwV 1 C.2.2.2.2.1 gX6_hasLevels_X1_level rfl rfl rfl (by decide +kernel) ⟨Nat.le_of_ble_eq_true rfl, Nat.le_of_ble_eq_true rfl⟩) rfl rfl rfl hl.1 (Nat.le_of_ble_eq_true rfl) hW dX6_hasLevels_37 ⟨Nat.zero_le _, Nat.zero_le _⟩ rfl (fun H locs hW => ?_)
      refine lv_icmp_eq (tgt := 45) C.1 C.2.1 dX6_hasLevels_40 (by decide) (fun q6 => ?_) (fun q6 => ?_)
      · replace hf := (if_pos q6).symm.trans hf
        obtain ⟨z7, ez7, hf⟩ := bnd_el hf
        refine lv_iinc (v := z7) (lv' := [(3, .int z7), (0, .ref (a 139)), (1, .int x1), (2, .int x2)]) C.1 C.2.1 dX6_hasLevels_45 hl (k := 3) rfl (by rw [ez7]; rfl) (by decide) rfl (fun ls hl => ?_)
        refine lv_goto (tgt := 19) C.1 C.2.1 dX6_hasLevels_48 (by decide) ?_
        exact ih _ _ _ _ hf _ _ _ hW (lv_sub hl [1, 2, 3, 0] rfl)
      · replace hf := (if_neg q6).symm.trans hf
        refine lv_iconst (v := 0) C.1 C.2.1 dX6_hasLevels_43 (by decide) ?_
        exact mrI C hr hlocks rfl hf hW dX6_hasLevels_44
def fX6_hasLevels (N : Nat) (S : St) (p1 : Int32) (p2 : Int32) : Option (Int32 × St) :=
  if p1 < 0 then
    some ((0 : Int32), S)
  else
    if (p1 + p2) ≤ (Int32.ofNat S.2.2.2.2.1) then
      bnd (0 : Int32) fun z3 =>
      fX6_hasLevels_19 N (S, p1, p2, z3)
    else
      some ((0 : Int32), S)
set_option maxHeartbeats 4000000 in
set_option maxRecDepth 100000 in
theorem cX6_hasLevels_met (l : Launch) (D : va_G) (cy : Nat → ClassId) (a r : Nat → Nat) (sz N : Nat) (S : St) (p1 : Int32) (p2 : Int32) (Rr : Int32 × St) (hf : fX6_hasLevels N S p1 p2 = some Rr) : Met l yX6_hasLevels wsX6_hasLevels ({ frames := 1, cells := 0, slots := 0, locals := 21 } : Room) (va_Pc [.ref (a 139), .int p1, .int p2] (preW D cy (wC cy a r S) sz)) (QI D cy (wC cy a r) (va_A (wC cy a r S) sz) Rr) 0 0 (va_A (wC cy a r S) sz) := by
  refine Met.ofW (cc := cX6_hasLevels) (maxL := 4) (ret := (some .boolean)) (by decide) rfl ?_
  intro p e s m args below meth c s₁ B hml hv
  obtain ⟨rfl, rfl, hP, hK, hD0, hN⟩ := hv
  have hlocks := B.notSynchronized
  have hr := B.returns
  have C : Cx p s m _ c cX6_hasLevels 4 wsX6_hasLevels RX6 D cy := ⟨B.exec, B.bytes, hml, findClass_of_methodNamed B.named, atoms_spec (ws := wsX6_hasLevels) B.pre, hK, hN⟩
  have hW := ww_start (w := wC cy a r) hP hD0
  generalize va_A (wC cy a r S) s.heap.size = A at hW ⊢
  have hl := lv_entry ([.ref (a 139), .int p1, .int p2]) (n := 4) (Nat.le_of_ble_eq_true rfl)
  rw [lg_entry_eq]
  generalize (lg_sl ([.ref (a 139), .int p1, .int p2]) ++ List.replicate (4 - (lg_sl ([.ref (a 139), .int p1, .int p2])).length) Slot.unset).toArray = ls at hl ⊢
  have hl : lv_has ls 4 [(0, .ref (a 139)), (1, .int p1), (2, .int p2)] := hl
  unfold fX6_hasLevels at hf
  refine lv_iload_n C.1 C.2.1 dX6_hasLevels_0 rfl (lv_at hl 1 rfl) ?_
  refine lv_if_lt (tgt := 15) C.1 C.2.1 dX6_hasLevels_1 (by decide) (fun q1 => ?_) (fun q1 => ?_)
  · replace hf := (if_pos q1).symm.trans hf
    refine lv_iconst (v := 0) C.1 C.2.1 dX6_hasLevels_15 (by decide) ?_
    exact mrI C hr hlocks rfl hf hW dX6_hasLevels_16
  · replace hf := (if_neg q1).symm.trans hf
    refine lv_iload_n C.1 C.2.1 dX6_hasLevels_4 rfl (lv_at hl 1 rfl) ?_
    refine lv_iload_n C.1 C.2.1 dX6_hasLevels_5 rfl (lv_at hl 2 rfl) ?_
    refine lv_iadd C.1 C.2.1 dX6_hasLevels_6 ?_
    refine lv_aload_n C.1 C.2.1 dX6_hasLevels_7 rfl (lv_at hl 0 rfl) ?_
    refine fg_6_14 C kX6_hasLevels_6 mX6_hasLevels_41 hW dX6_hasLevels_8 ?_
    refine an_6_14 C hW dX6_hasLevels_11 ?_
    refine lv_icmp_le (tgt := 17) C.1 C.2.1 dX6_hasLevels_12 (by decide) (fun q2 => ?_) (fun q2 => ?_)
    · replace hf := (if_pos q2).symm.trans hf
      refine lv_iconst (v := 0) C.1 C.2.1 dX6_hasLevels_17 (by decide) ?_
      obtain ⟨z3, ez3, hf⟩ := bnd_el hf
      refine lv_as ez3 ?_
      refine lv_istore_n (lv' := [(3, .int z3), (0, .ref (a 139)), (1, .int p1), (2, .int p2)]) C.1 C.2.1 dX6_hasLevels_18 rfl hl (by decide) rfl (fun ls hl => ?_)
      exact lX6_hasLevels_19 C hr hlocks N _ _ _ _ _ hf _ _ _ hW (lv_sub hl [1, 2, 3, 0] rfl)
    · replace hf := (if_neg q2).symm.trans hf
      refine lv_iconst (v := 0) C.1 C.2.1 dX6_hasLevels_15 (by decide) ?_
      exact mrI C hr hlocks rfl hf hW dX6_hasLevels_16
def fX6_tellNumber_62 (N : Nat) (k30 : St × Int32 × Int32 × Int32 → Option (Int32 × St)) (S : St) (x1 : Int32) (x4 : Int32) (y0 : Int32) : Option (Int32 × St) :=
  bnd ((x4 / (10 : Int32))) fun z1 =>
  k30 (S, x1, y0, z1)
set_option maxHeartbeats 4000000 in
set_option maxRecDepth 100000 in
theorem lX6_tellNumber_62 {p : Program} {l : Launch} {e : Env} {s : State} {m : MethodId} {args : Array Value} {below : List Frame} {meth : Method} {c : Code} {D : va_G} {cy : Nat → ClassId} {a r : Nat → Nat} {A : Nat → Prop} {Rr : Int32 × St} (C : Cx p s m args c cX6_tellNumber 5 wsX6_tellNumber RX6 D cy) (hr : meth.sig.returnType = some .boolean) (hlocks : meth.locks = false) (N : Nat) (k30 : St × Int32 × Int32 × Int32 → Option (Int32 × St)) (hk30 : ∀ (S : St) (x1 : Int32) (x3 : Int32) (x4 : Int32), k30 (S, x1, x3, x4) = some Rr → ∀ (H : Heap) (locs : List Loc) (ls : Array Slot), WW D A s.heap (wC cy a r S) H locs → lv_has ls 5 [(0, .ref (a 139)), (1, .int x1), (3, .int x3), (4, .int x4)] → W p l e ({ frames := 1, cells := 0, slots := 0, locals := 21 } : Room) s m args below meth c H locs 0 0 (MQ below (QI D cy (wC cy a r) A Rr) args s 0 0 A) (F0 m 30 ls [])) (S : St) (x1 : Int32) (x4 : Int32) (y0 : Int32) (hf : fX6_tellNumber_62 N k30 S x1 x4 y0 = some Rr) : ∀ (H : Heap) (locs : List Loc) (ls : Array Slot), WW D A s.heap (wC cy a r S) H locs → lv_has ls 5 [(0, .ref (a 139)), (1, .int x1), (4, .int x4)] → W p l e ({ frames := 1, cells := 0, slots := 0, locals := 21 } : Room) s m args below meth c H locs 0 0 (MQ below (QI D cy (wC cy a r) A Rr) args s 0 0 A) (F0 m 62 ls [.int y0]) := by
  intro H locs ls hW hl
  unfold fX6_tellNumber_62 at hf
  refine lv_istore_n (lv' := [(3, .int y0), (0, .ref (a 139)), (1, .int x1), (4, .int x4)]) C.1 C.2.1 dX6_tellNumber_62 rfl hl (by decide) rfl (fun ls hl => ?_)
  refine lv_iload C.1 C.2.1 dX6_tellNumber_63 (lv_at hl 3 rfl) ?_
  refine lv_bipush (v := 10) C.1 C.2.1 dX6_tellNumber_65 (by decide) ?_
  refine lv_idiv C.1 C.2.1 dX6_tellNumber_67 (by decide) ?_
  obtain ⟨z1, ez1, hf⟩ := bnd_el hf
  refine lv_as ez1 ?_
  refine lv_istore (lv' := [(4, .int z1), (3, .int y0), (0, .ref (a 139)), (1, .int x1)]) C.1 C.2.1 dX6_tellNumber_68 hl (by decide) rfl (fun ls hl => ?_)
  refine lv_goto (tgt := 30) C.1 C.2.1 dX6_tellNumber_70 (by decide) ?_
  exact hk30 _ _ _ _ hf _ _ _ hW (lv_sub hl [2, 3, 1, 0] rfl)
def fX6_tellNumber_61 (N : Nat) (k30 : St × Int32 × Int32 × Int32 → Option (Int32 × St)) (S : St) (x1 : Int32) (x4 : Int32) : Option (Int32 × St) :=
  fX6_tellNumber_62 N k30 S x1 x4 (0 : Int32)
set_option maxHeartbeats 4000000 in
set_option maxRecDepth 100000 in
theorem lX6_tellNumber_61 {p : Program} {l : Launch} {e : Env} {s : State} {m : MethodId} {args : Array Value} {below : List Frame} {meth : Method} {c : Code} {D : va_G} {cy : Nat → ClassId} {a r : Nat → Nat} {A : Nat → Prop} {Rr : Int32 × St} (C : Cx p s m args c cX6_tellNumber 5 wsX6_tellNumber RX6 D cy) (hr : meth.sig.returnType = some .boolean) (hlocks : meth.locks = false) (N : Nat) (k30 : St × Int32 × Int32 × Int32 → Option (Int32 × St)) (hk30 : ∀ (S : St) (x1 : Int32) (x3 : Int32) (x4 : Int32), k30 (S, x1, x3, x4) = some Rr → ∀ (H : Heap) (locs : List Loc) (ls : Array Slot), WW D A s.heap (wC cy a r S) H locs → lv_has ls 5 [(0, .ref (a 139)), (1, .int x1), (3, .int x3), (4, .int x4)] → W p l e ({ frames := 1, cells := 0, slots := 0, locals := 21 } : Room) s m args below meth c H locs 0 0 (MQ below (QI D cy (wC cy a r) A Rr) args s 0 0 A) (F0 m 30 ls [])) (S : St) (x1 : Int32) (x4 : Int32) (hf : fX6_tellNumber_61 N k30 S x1 x4 = some Rr) : ∀ (H : Heap) (locs : List Loc) (ls : Array Slot), WW D A s.heap (wC cy a r S) H locs → lv_has ls 5 [(0, .ref (a 139)), (1, .int x1), (4, .int x4)] → W p l e ({ frames := 1, cells := 0, slots := 0, locals := 21 } : Room) s m args below meth c H locs 0 0 (MQ below (QI D cy (wC cy a r) A Rr) args s 0 0 A) (F0 m 61 ls []) := by
  intro H locs ls hW hl
  unfold fX6_tellNumber_61 at hf
  refine lv_iconst (v := 0) C.1 C.2.1 dX6_tellNumber_61 (by decide) ?_
  exact lX6_tellNumber_62 C hr hlocks N _ hk30 _ _ _ _ hf _ _ _ hW (lv_sub hl [0, 1, 2] rfl)
def fX6_tellNumber_30s (N : Nat) (k30 : St × Int32 × Int32 × Int32 → Option (Int32 × St)) (S : St) (x1 : Int32) (x3 : Int32) (x4 : Int32) : Option (Int32 × St) :=
  if x4 ≤ 0 then
    ckp ((x3 == 0) || (x3 == 1)) <|
    some (x3, S)
  else
    ckp (!(x4 == 0)) <|
    bd2 (fX6_tell N S (((((48 : Int32) + ((x1 / x4) - (x1 / x4) / (10 : Int32) * (10 : Int32))) : Int32).toUInt32 % 65536).toInt32)) fun v4 S6 =>
    if v4 = 0 then
      fX6_tellNumber_61 N k30 S6 x1 x4
    else
      if x3 = 0 then
        fX6_tellNumber_61 N k30 S6 x1 x4
      else
        fX6_tellNumber_62 N k30 S6 x1 x4 (1 : Int32)
def fX6_tellNumber_30 (N : Nat) : St × Int32 × Int32 × Int32 → Option (Int32 × St) := loopN (fun k x => fX6_tellNumber_30s N k x.1 x.2.1 x.2.2.1 x.2.2.2) N
set_option maxHeartbeats 4000000 in
set_option maxRecDepth 100000 in
theorem lX6_tellNumber_30 {p : Program} {l : Launch} {e : Env} {s : State} {m : MethodId} {args : Array Value} {below : List Frame} {meth : Method} {c : Code} {D : va_G} {cy : Nat → ClassId} {a r : Nat → Nat} {A : Nat → Prop} {Rr : Int32 × St} (C : Cx p s m args c cX6_tellNumber 5 wsX6_tellNumber RX6 D cy) (hr : meth.sig.returnType = some .boolean) (hlocks : meth.locks = false) (N : Nat) : ∀ (n : Nat) (S : St) (x1 : Int32) (x3 : Int32) (x4 : Int32), loopN (fun k x => fX6_tellNumber_30s N k x.1 x.2.1 x.2.2.1 x.2.2.2) n (S, x1, x3, x4) = some Rr → ∀ (H : Heap) (locs : List Loc) (ls : Array Slot), WW D A s.heap (wC cy a r S) H locs → lv_has ls 5 [(0, .ref (a 139)), (1, .int x1), (3, .int x3), (4, .int x4)] → W p l e ({ frames := 1, cells := 0, slots := 0, locals := 21 } : Room) s m args below meth c H locs 0 0 (MQ below (QI D cy (wC cy a r) A Rr) args s 0 0 A) (F0 m 30 ls []) := by
  intro n
  induction n with
  | zero =>
    intro S x1 x3 x4 hf
    cases hf
  | succ n ih =>
    intro S x1 x3 x4 hf H locs ls hW hl
    have hf : fX6_tellNumber_30s N (loopN (fun k x => fX6_tellNumber_30s N k x.1 x.2.1 x.2.2.1 x.2.2.2) n) S x1 x3 x4 = some Rr := hf
    unfold fX6_tellNumber_30s at hf
    refine lv_iload C.1 C.2.1 dX6_tellNumber_30 (lv_at hl 3 rfl) ?_
    refine lv_if_le (tgt := 73) C.1 C.2.1 dX6_tellNumber_32 (by decide) (fun q1 => ?_) (fun q1 => ?_)
    · replace hf := (if_pos q1).symm.trans hf
      refine lv_iload_n C.1 C.2.1 dX6_tellNumber_73 rfl (lv_at hl 2 rfl) ?_
      obtain ⟨h2, hf⟩ := ckp_el hf
      exact mrI C hr hlocks (nar_b h2) hf hW dX6_tellNumber_74
    · replace hf := (if_neg q1).symm.trans hf
      refine lv_aload_n C.1 C.2.1 dX6_tellNumber_35 rfl (lv_at hl 0 rfl) ?_
      refine lv_bipush (v := 48) C.1 C.2.1 dX6_tellNumber_36 (by decide) ?_
      refine lv_iload_n C.1 C.2.1 dX6_tellNumber_38 rfl (lv_at hl 1 rfl) ?_
      refine lv_iload C.1 C.2.1 dX6_tellNumber_39 (lv_at hl 3 rfl) ?_
      obtain ⟨h3, hf⟩ := ckp_el hf
      refine lv_idiv C.1 C.2.1 dX6_tellNumber_41 (nz_el h3) ?_
      refine lv_bipush (v := 10) C.1 C.2.1 dX6_tellNumber_42 (by decide) ?_
      refine lv_irem C.1 C.2.1 dX6_tellNumber_44 (by decide) ?_
      refine lv_iadd C.1 C.2.1 dX6_tellNumber_45 ?_
      refine lv_i2c C.1 C.2.1 dX6_tellNumber_46 rfl ?_
      obtain ⟨v4, S6, h5, hf⟩ := bd2_el hf
      refine mcVi (w := wC cy a r) (S := S) (As := [.int (((((48 : Int32) + ((x1 / x4) - (x1 / x4) / (10 : Int32) * (10 : Int32))) : Int32).toUInt32 % 65536).toInt32)]) (rest := []) (q0 := 6) (ci := 6) C (cX6_tell_met l D cy a r _ N S (((((48 : Int32) + ((x1 / x4) - (x1 / x4) / (10 : Int32) * (10 : Int32))) : Int32).toUInt32 % 65536).toInt32) (v4, S6) h5) (cwV 1 C.2.2.2.2.1 gX6_tellNumber_X6_tell rfl rfl rfl (by decide +kernel) ⟨Nat.le_of_ble_eq_true rfl, Nat.le_of_ble_eq_true rfl⟩) rfl rfl rfl hl.1 (Nat.le_of_ble_eq_true rfl) hW dX6_tellNumber_47 ⟨Nat.zero_le _, Nat.zero_le _⟩ rfl (fun H locs hW => ?_)
      refine lv_if_eq (tgt := 61) C.1 C.2.1 dX6_tellNumber_50 (by decide) (fun q7 => ?_) (fun q7 => ?_)
      · replace hf := (if_pos q7).symm.trans hf
        exact lX6_tellNumber_61 C hr hlocks N _ ih _ _ _ hf _ _ _ hW (lv_sub hl [0, 1, 3] rfl)
      · replace hf := (if_neg q7).symm.trans hf
        refine lv_iload_n C.1 C.2.1 dX6_tellNumber_53 rfl (lv_at hl 2 rfl) ?_
        refine lv_if_eq (tgt := 61) C.1 C.2.1 dX6_tellNumber_54 (by decide) (fun q8 => ?_) (fun q8 => ?_)
        · replace hf := (if_pos q8).symm.trans hf
          exact lX6_tellNumber_61 C hr hlocks N _ ih _ _ _ hf _ _ _ hW (lv_sub hl [0, 1, 3] rfl)
        · replace hf := (if_neg q8).symm.trans hf
          refine lv_iconst (v := 1) C.1 C.2.1 dX6_tellNumber_57 (by decide) ?_
          refine lv_goto (tgt := 62) C.1 C.2.1 dX6_tellNumber_58 (by decide) ?_
          exact lX6_tellNumber_62 C hr hlocks N _ ih _ _ _ _ hf _ _ _ hW (lv_sub hl [0, 1, 3] rfl)
def fX6_tellNumber_25 (N : Nat) (S : St) (x1 : Int32) (x2 : Int32) : Option (Int32 × St) :=
  bnd (1 : Int32) fun z1 =>
  fX6_tellNumber_30 N (S, x1, z1, x2)
set_option maxHeartbeats 4000000 in
set_option maxRecDepth 100000 in
theorem lX6_tellNumber_25 {p : Program} {l : Launch} {e : Env} {s : State} {m : MethodId} {args : Array Value} {below : List Frame} {meth : Method} {c : Code} {D : va_G} {cy : Nat → ClassId} {a r : Nat → Nat} {A : Nat → Prop} {Rr : Int32 × St} (C : Cx p s m args c cX6_tellNumber 5 wsX6_tellNumber RX6 D cy) (hr : meth.sig.returnType = some .boolean) (hlocks : meth.locks = false) (N : Nat) (S : St) (x1 : Int32) (x2 : Int32) (hf : fX6_tellNumber_25 N S x1 x2 = some Rr) : ∀ (H : Heap) (locs : List Loc) (ls : Array Slot), WW D A s.heap (wC cy a r S) H locs → lv_has ls 5 [(0, .ref (a 139)), (1, .int x1), (2, .int x2)] → W p l e ({ frames := 1, cells := 0, slots := 0, locals := 21 } : Room) s m args below meth c H locs 0 0 (MQ below (QI D cy (wC cy a r) A Rr) args s 0 0 A) (F0 m 25 ls []) := by
  intro H locs ls hW hl
  unfold fX6_tellNumber_25 at hf
  refine lv_iconst (v := 1) C.1 C.2.1 dX6_tellNumber_25 (by decide) ?_
  obtain ⟨z1, ez1, hf⟩ := bnd_el hf
  refine lv_as ez1 ?_
  refine lv_istore_n (lv' := [(3, .int z1), (0, .ref (a 139)), (1, .int x1), (2, .int x2)]) C.1 C.2.1 dX6_tellNumber_26 rfl hl (by decide) rfl (fun ls hl => ?_)
  refine lv_iload_n C.1 C.2.1 dX6_tellNumber_27 rfl (lv_at hl 3 rfl) ?_
  refine lv_istore (lv' := [(4, .int x2), (3, .int z1), (0, .ref (a 139)), (1, .int x1), (2, .int x2)]) C.1 C.2.1 dX6_tellNumber_28 hl (by decide) rfl (fun ls hl => ?_)
  exact lX6_tellNumber_30 C hr hlocks N _ _ _ _ _ hf _ _ _ hW (lv_sub hl [2, 3, 1, 0] rfl)
def fX6_tellNumber_2s (N : Nat) (k2 : St × Int32 × Int32 → Option (Int32 × St)) (S : St) (x1 : Int32) (x2 : Int32) : Option (Int32 × St) :=
  if (1000 : Int32) ≤ x2 then
    fX6_tellNumber_25 N S x1 x2
  else
    if x1 < (x2 * (10 : Int32)) then
      fX6_tellNumber_25 N S x1 x2
    else
      bnd ((x2 * (10 : Int32))) fun z3 =>
      k2 (S, x1, z3)
def fX6_tellNumber_2 (N : Nat) : St × Int32 × Int32 → Option (Int32 × St) := loopN (fun k x => fX6_tellNumber_2s N k x.1 x.2.1 x.2.2) N
set_option maxHeartbeats 4000000 in
set_option maxRecDepth 100000 in
theorem lX6_tellNumber_2 {p : Program} {l : Launch} {e : Env} {s : State} {m : MethodId} {args : Array Value} {below : List Frame} {meth : Method} {c : Code} {D : va_G} {cy : Nat → ClassId} {a r : Nat → Nat} {A : Nat → Prop} {Rr : Int32 × St} (C : Cx p s m args c cX6_tellNumber 5 wsX6_tellNumber RX6 D cy) (hr : meth.sig.returnType = some .boolean) (hlocks : meth.locks = false) (N : Nat) : ∀ (n : Nat) (S : St) (x1 : Int32) (x2 : Int32), loopN (fun k x => fX6_tellNumber_2s N k x.1 x.2.1 x.2.2) n (S, x1, x2) = some Rr → ∀ (H : Heap) (locs : List Loc) (ls : Array Slot), WW D A s.heap (wC cy a r S) H locs → lv_has ls 5 [(0, .ref (a 139)), (1, .int x1), (2, .int x2)] → W p l e ({ frames := 1, cells := 0, slots := 0, locals := 21 } : Room) s m args below meth c H locs 0 0 (MQ below (QI D cy (wC cy a r) A Rr) args s 0 0 A) (F0 m 2 ls []) := by
  intro n
  induction n with
  | zero =>
    intro S x1 x2 hf
    cases hf
  | succ n ih =>
    intro S x1 x2 hf H locs ls hW hl
    have hf : fX6_tellNumber_2s N (loopN (fun k x => fX6_tellNumber_2s N k x.1 x.2.1 x.2.2) n) S x1 x2 = some Rr := hf
    unfold fX6_tellNumber_2s at hf
    refine lv_iload_n C.1 C.2.1 dX6_tellNumber_2 rfl (lv_at hl 2 rfl) ?_
    refine lv_sipush (v := 1000) C.1 C.2.1 dX6_tellNumber_3 (by decide) ?_
    refine lv_icmp_ge (tgt := 25) C.1 C.2.1 dX6_tellNumber_6 (by decide) (fun q1 => ?_) (fun q1 => ?_)
    · replace hf := (if_pos q1).symm.trans hf
      exact lX6_tellNumber_25 C hr hlocks N _ _ _ hf _ _ _ hW (lv_sub hl [0, 1, 2] rfl)
    · replace hf := (if_neg q1).symm.trans hf
      refine lv_iload_n C.1 C.2.1 dX6_tellNumber_9 rfl (lv_at hl 2 rfl) ?_
      refine lv_bipush (v := 10) C.1 C.2.1 dX6_tellNumber_10 (by decide) ?_
      refine lv_imul C.1 C.2.1 dX6_tellNumber_12 ?_
      refine lv_iload_n C.1 C.2.1 dX6_tellNumber_13 rfl (lv_at hl 1 rfl) ?_
      refine lv_icmp_gt (tgt := 25) C.1 C.2.1 dX6_tellNumber_14 (by decide) (fun q2 => ?_) (fun q2 => ?_)
      · replace hf := (if_pos q2).symm.trans hf
        exact lX6_tellNumber_25 C hr hlocks N _ _ _ hf _ _ _ hW (lv_sub hl [0, 1, 2] rfl)
      · replace hf := (if_neg q2).symm.trans hf
        refine lv_iload_n C.1 C.2.1 dX6_tellNumber_17 rfl (lv_at hl 2 rfl) ?_
        refine lv_bipush (v := 10) C.1 C.2.1 dX6_tellNumber_18 (by decide) ?_
        refine lv_imul C.1 C.2.1 dX6_tellNumber_20 ?_
        obtain ⟨z3, ez3, hf⟩ := bnd_el hf
        refine lv_as ez3 ?_
        refine lv_istore_n (lv' := [(2, .int z3), (0, .ref (a 139)), (1, .int x1)]) C.1 C.2.1 dX6_tellNumber_21 rfl hl (by decide) rfl (fun ls hl => ?_)
        refine lv_goto (tgt := 2) C.1 C.2.1 dX6_tellNumber_22 (by decide) ?_
        exact ih _ _ _ hf _ _ _ hW (lv_sub hl [1, 2, 0] rfl)
def fX6_tellNumber (N : Nat) (S : St) (p1 : Int32) : Option (Int32 × St) :=
  bnd (1 : Int32) fun z1 =>
  fX6_tellNumber_2 N (S, p1, z1)
set_option maxHeartbeats 4000000 in
set_option maxRecDepth 100000 in
theorem cX6_tellNumber_met (l : Launch) (D : va_G) (cy : Nat → ClassId) (a r : Nat → Nat) (sz N : Nat) (S : St) (p1 : Int32) (Rr : Int32 × St) (hf : fX6_tellNumber N S p1 = some Rr) : Met l yX6_tellNumber wsX6_tellNumber ({ frames := 1, cells := 0, slots := 0, locals := 21 } : Room) (va_Pc [.ref (a 139), .int p1] (preW D cy (wC cy a r S) sz)) (QI D cy (wC cy a r) (va_A (wC cy a r S) sz) Rr) 0 0 (va_A (wC cy a r S) sz) := by
  refine Met.ofW (cc := cX6_tellNumber) (maxL := 5) (ret := (some .boolean)) (by decide) rfl ?_
  intro p e s m args below meth c s₁ B hml hv
  obtain ⟨rfl, rfl, hP, hK, hD0, hN⟩ := hv
  have hlocks := B.notSynchronized
  have hr := B.returns
  have C : Cx p s m _ c cX6_tellNumber 5 wsX6_tellNumber RX6 D cy := ⟨B.exec, B.bytes, hml, findClass_of_methodNamed B.named, atoms_spec (ws := wsX6_tellNumber) B.pre, hK, hN⟩
  have hW := ww_start (w := wC cy a r) hP hD0
  generalize va_A (wC cy a r S) s.heap.size = A at hW ⊢
  have hl := lv_entry ([.ref (a 139), .int p1]) (n := 5) (Nat.le_of_ble_eq_true rfl)
  rw [lg_entry_eq]
  generalize (lg_sl ([.ref (a 139), .int p1]) ++ List.replicate (5 - (lg_sl ([.ref (a 139), .int p1])).length) Slot.unset).toArray = ls at hl ⊢
  have hl : lv_has ls 5 [(0, .ref (a 139)), (1, .int p1)] := hl
  unfold fX6_tellNumber at hf
  refine lv_iconst (v := 1) C.1 C.2.1 dX6_tellNumber_0 (by decide) ?_
  obtain ⟨z1, ez1, hf⟩ := bnd_el hf
  refine lv_as ez1 ?_
  refine lv_istore_n (lv' := [(2, .int z1), (0, .ref (a 139)), (1, .int p1)]) C.1 C.2.1 dX6_tellNumber_1 rfl hl (by decide) rfl (fun ls hl => ?_)
  exact lX6_tellNumber_2 C hr hlocks N _ _ _ _ hf _ _ _ hW (lv_sub hl [1, 2, 0] rfl)
theorem mX6_readVariable_35 : Cond.fieldLink RX6 35 "SharedLambda$Walk" "binders" "[I" ∈ wsX6_readVariable := by decide +kernel
theorem mX6_readVariable_38 : Cond.fieldLink RX6 38 "SharedLambda$Walk" "binderStarts" "[I" ∈ wsX6_readVariable := by decide +kernel
theorem mX6_readVariable_61 : Cond.fieldLink RX6 61 "SharedLambda$Walk" "binderCount" "I" ∈ wsX6_readVariable := by decide +kernel
theorem mX6_readVariable_44 : Cond.fieldLink RX6 44 "SharedLambda$Walk" "graph" "LSharedLambda$Graph;" ∈ wsX6_readVariable := by decide +kernel
theorem kX6_readVariable_6 : ∀ w ∈ u_ws RX6 TX6 16, w ∈ wsX6_readVariable := fun _ h => List.mem_cons_of_mem _ (List.mem_append_left _ (List.mem_append_left _ (List.mem_append_right _ h)))
def fX6_readVariable_66 (N : Nat) (k16 : St × Int32 × Int32 × Int32 → Option (Int32 × St)) (S : St) (x1 : Int32) (x2 : Int32) (x3 : Int32) : Option (Int32 × St) :=
  bnd (x3 + (-1 : Int32)) fun z1 =>
  k16 (S, x1, x2, z1)
set_option maxHeartbeats 4000000 in
set_option maxRecDepth 100000 in
theorem lX6_readVariable_66 {p : Program} {l : Launch} {e : Env} {s : State} {m : MethodId} {args : Array Value} {below : List Frame} {meth : Method} {c : Code} {D : va_G} {cy : Nat → ClassId} {a r : Nat → Nat} {A : Nat → Prop} {Rr : Int32 × St} (C : Cx p s m args c cX6_readVariable 4 wsX6_readVariable RX6 D cy) (hr : meth.sig.returnType = some .int) (hlocks : meth.locks = false) (N : Nat) (k16 : St × Int32 × Int32 × Int32 → Option (Int32 × St)) (hk16 : ∀ (S : St) (x1 : Int32) (x2 : Int32) (x3 : Int32), k16 (S, x1, x2, x3) = some Rr → ∀ (H : Heap) (locs : List Loc) (ls : Array Slot), WW D A s.heap (wC cy a r S) H locs → lv_has ls 4 [(0, .ref (a 139)), (1, .int x1), (2, .int x2), (3, .int x3)] → W p l e ({ frames := 2, cells := 0, slots := 0, locals := 45 } : Room) s m args below meth c H locs 0 0 (MQ below (QI D cy (wC cy a r) A Rr) args s 0 0 A) (F0 m 16 ls [])) (S : St) (x1 : Int32) (x2 : Int32) (x3 : Int32) (hf : fX6_readVariable_66 N k16 S x1 x2 x3 = some Rr) : ∀ (H : Heap) (locs : List Loc) (ls : Array Slot), WW D A s.heap (wC cy a r S) H locs → lv_has ls 4 [(0, .ref (a 139)), (1, .int x1), (2, .int x2), (3, .int x3)] → W p l e ({ frames := 2, cells := 0, slots := 0, locals := 45 } : Room) s m args below meth c H locs 0 0 (MQ below (QI D cy (wC cy a r) A Rr) args s 0 0 A) (F0 m 66 ls []) := by
  intro H locs ls hW hl
  unfold fX6_readVariable_66 at hf
  obtain ⟨z1, ez1, hf⟩ := bnd_el hf
  refine lv_iinc (v := z1) (lv' := [(3, .int z1), (0, .ref (a 139)), (1, .int x1), (2, .int x2)]) C.1 C.2.1 dX6_readVariable_66 hl (k := 3) rfl (by rw [ez1]; rfl) (by decide) rfl (fun ls hl => ?_)
  refine lv_goto (tgt := 16) C.1 C.2.1 dX6_readVariable_69 (by decide) ?_
  exact hk16 _ _ _ _ hf _ _ _ hW (lv_sub hl [1, 2, 3, 0] rfl)
def fX6_readVariable_16s (N : Nat) (k16 : St × Int32 × Int32 × Int32 → Option (Int32 × St)) (S : St) (x1 : Int32) (x2 : Int32) (x3 : Int32) : Option (Int32 × St) :=
  if x3 < 0 then
    some ((4 : Int32), S)
  else
    ckx x3 4000 <|
    if S.2.1 131 (x3 : Int32).toNatClampNeg = x1 then
      ckx x3 4000 <|
      bd2 (fX6_hasLevels N S (S.2.1 132 (x3 : Int32).toNatClampNeg) x2) fun v5 S7 =>
      if v5 = 0 then
        fX6_readVariable_66 N k16 S7 x1 x2 x3
      else
        bd2 (fX6_tellNumber N S7 (((S7.1 133 - (1 : Int32)) - x3))) fun v9 S11 =>
        if v9 = 0 then
          some ((3 : Int32), S11)
        else
          some ((7 : Int32), S11)
    else
      fX6_readVariable_66 N k16 S x1 x2 x3
def fX6_readVariable_16 (N : Nat) : St × Int32 × Int32 × Int32 → Option (Int32 × St) := loopN (fun k x => fX6_readVariable_16s N k x.1 x.2.1 x.2.2.1 x.2.2.2) N
set_option maxHeartbeats 4000000 in
set_option maxRecDepth 100000 in
theorem lX6_readVariable_16 {p : Program} {l : Launch} {e : Env} {s : State} {m : MethodId} {args : Array Value} {below : List Frame} {meth : Method} {c : Code} {D : va_G} {cy : Nat → ClassId} {a r : Nat → Nat} {A : Nat → Prop} {Rr : Int32 × St} (C : Cx p s m args c cX6_readVariable 4 wsX6_readVariable RX6 D cy) (hr : meth.sig.returnType = some .int) (hlocks : meth.locks = false) (N : Nat) : ∀ (n : Nat) (S : St) (x1 : Int32) (x2 : Int32) (x3 : Int32), loopN (fun k x => fX6_readVariable_16s N k x.1 x.2.1 x.2.2.1 x.2.2.2) n (S, x1, x2, x3) = some Rr → ∀ (H : Heap) (locs : List Loc) (ls : Array Slot), WW D A s.heap (wC cy a r S) H locs → lv_has ls 4 [(0, .ref (a 139)), (1, .int x1), (2, .int x2), (3, .int x3)] → W p l e ({ frames := 2, cells := 0, slots := 0, locals := 45 } : Room) s m args below meth c H locs 0 0 (MQ below (QI D cy (wC cy a r) A Rr) args s 0 0 A) (F0 m 16 ls []) := by
  intro n
  induction n with
  | zero =>
    intro S x1 x2 x3 hf
    cases hf
  | succ n ih =>
    intro S x1 x2 x3 hf H locs ls hW hl
    have hf : fX6_readVariable_16s N (loopN (fun k x => fX6_readVariable_16s N k x.1 x.2.1 x.2.2.1 x.2.2.2) n) S x1 x2 x3 = some Rr := hf
    unfold fX6_readVariable_16s at hf
    refine lv_iload_n C.1 C.2.1 dX6_readVariable_16 rfl (lv_at hl 3 rfl) ?_
    refine lv_if_lt (tgt := 72) C.1 C.2.1 dX6_readVariable_17 (by decide) (fun q1 => ?_) (fun q1 => ?_)
    · replace hf := (if_pos q1).symm.trans hf
      refine lv_iconst (v := 4) C.1 C.2.1 dX6_readVariable_72 (by decide) ?_
      exact mrI C hr hlocks rfl hf hW dX6_readVariable_73
    · replace hf := (if_neg q1).symm.trans hf
      refine lv_aload_n C.1 C.2.1 dX6_readVariable_20 rfl (lv_at hl 0 rfl) ?_
      refine fg_6_11 C kX6_readVariable_6 mX6_readVariable_35 hW dX6_readVariable_21 ?_
      refine lv_iload_n C.1 C.2.1 dX6_readVariable_24 rfl (lv_at hl 3 rfl) ?_
      obtain ⟨h2, hf⟩ := ckx_el hf
      refine al_6_11 C hW h2 dX6_readVariable_25 ?_
      refine lv_iload_n C.1 C.2.1 dX6_readVariable_26 rfl (lv_at hl 1 rfl) ?_
      refine lv_icmp_ne (tgt := 66) C.1 C.2.1 dX6_readVariable_27 (by decide) (fun q3 => ?_) (fun q3 => ?_)
      · replace hf := (if_neg q3).symm.trans hf
        exact lX6_readVariable_66 C hr hlocks N _ ih _ _ _ _ hf _ _ _ hW (lv_sub hl [0, 1, 2, 3] rfl)
      · replace hf := (if_pos q3).symm.trans hf
        refine lv_aload_n C.1 C.2.1 dX6_readVariable_30 rfl (lv_at hl 0 rfl) ?_
        refine lv_aload_n C.1 C.2.1 dX6_readVariable_31 rfl (lv_at hl 0 rfl) ?_
        refine fg_6_12 C kX6_readVariable_6 mX6_readVariable_38 hW dX6_readVariable_32 ?_
        refine lv_iload_n C.1 C.2.1 dX6_readVariable_35 rfl (lv_at hl 3 rfl) ?_
        obtain ⟨h4, hf⟩ := ckx_el hf
        refine al_6_12 C hW h4 dX6_readVariable_36 ?_
        refine lv_iload_n C.1 C.2.1 dX6_readVariable_37 rfl (lv_at hl 2 rfl) ?_
        obtain ⟨v5, S7, h6, hf⟩ := bd2_el hf
        refine mcVi (w := wC cy a r) (S := S) (As := [.int (S.2.1 132 (x3 : Int32).toNatClampNeg), .int x2]) (rest := []) (q0 := 6) (ci := 6) C (cX6_hasLevels_met l D cy a r _ N S (S.2.1 132 (x3 : Int32).toNatClampNeg) x2 (v5, S7) h6) (cwV 2 C.2.2.2.2.1 gX6_readVariable_X6_hasLevels rfl rfl rfl (by decide +kernel) ⟨Nat.le_of_ble_eq_true rfl, Nat.le_of_ble_eq_true rfl⟩) rfl rfl rfl hl.1 (Nat.le_of_ble_eq_true rfl) hW dX6_readVariable_38 ⟨Nat.zero_le _, Nat.zero_le _⟩ rfl (fun H locs hW => ?_)
        refine lv_if_eq (tgt := 66) C.1 C.2.1 dX6_readVariable_41 (by decide) (fun q8 => ?_) (fun q8 => ?_)
        · replace hf := (if_pos q8).symm.trans hf
          exact lX6_readVariable_66 C hr hlocks N _ ih _ _ _ _ hf _ _ _ hW (lv_sub hl [0, 1, 2, 3] rfl)
        · replace hf := (if_neg q8).symm.trans hf
          refine lv_aload_n C.1 C.2.1 dX6_readVariable_44 rfl (lv_at hl 0 rfl) ?_
          refine lv_aload_n C.1 C.2.1 dX6_readVariable_45 rfl (lv_at hl 0 rfl) ?_
          refine fg_6_13 C kX6_readVariable_6 mX6_readVariable_61 hW dX6_readVariable_46 ?_
          refine lv_iconst (v := 1) C.1 C.2.1 dX6_readVariable_49 (by decide) ?_
          refine lv_isub C.1 C.2.1 dX6_readVariable_50 ?_
          refine lv_iload_n C.1 C.2.1 dX6_readVariable_51 rfl (lv_at hl 3 rfl) ?_
          refine lv_isub C.1 C.2.1 dX6_readVariable_52 ?_
          obtain ⟨v9, S11, h10, hf⟩ := bd2_el hf
          refine mcVi (w := wC cy a r) (S := S7) (As := [.int (((S7.1 133 - (1 : Int32)) - x3))]) (rest := []) (q0 := 6) (ci := 6) C (cX6_tellNumber_met l D cy a r _ N S7 (((S7.1 133 - (1 : Int32)) - x3)) (v9, S11) h10) (cwV 1 C.2.2.2.2.1 gX6_readVariable_X6_tellNumber rfl rfl rfl (by decide +kernel) ⟨Nat.le_of_ble_eq_true rfl, Nat.le_of_ble_eq_true rfl⟩) rfl rfl rfl hl.1 (Nat.le_of_ble_eq_true rfl) hW dX6_readVariable_53 ⟨Nat.zero_le _, Nat.zero_le _⟩ rfl (fun H locs hW => ?_)
          refine lv_if_eq (tgt := 64) C.1 C.2.1 dX6_readVariable_56 (by decide) (fun q12 => ?_) (fun q12 => ?_)
          · replace hf := (if_pos q12).symm.trans hf
            refine lv_iconst (v := 3) C.1 C.2.1 dX6_readVariable_64 (by decide) ?_
            exact mrI C hr hlocks rfl hf hW dX6_readVariable_65
          · replace hf := (if_neg q12).symm.trans hf
            refine lv_bipush (v := 7) C.1 C.2.1 dX6_readVariable_59 (by decide) ?_
            refine lv_goto (tgt := 65) C.1 C.2.1 dX6_readVariable_61 (by decide) ?_
            exact mrI C hr hlocks rfl hf hW dX6_readVariable_65
def fX6_readVariable (N : Nat) (S : St) (p1 : Int32) : Option (Int32 × St) :=
  bd2 (fX2_indexOf N S p1) fun v1 S3 =>
  bnd ((S3.1 133 - (1 : Int32))) fun z4 =>
  fX6_readVariable_16 N (S3, p1, v1, z4)
set_option maxHeartbeats 4000000 in
set_option maxRecDepth 100000 in
theorem cX6_readVariable_met (l : Launch) (D : va_G) (cy : Nat → ClassId) (a r : Nat → Nat) (sz N : Nat) (S : St) (p1 : Int32) (Rr : Int32 × St) (hf : fX6_readVariable N S p1 = some Rr) : Met l yX6_readVariable wsX6_readVariable ({ frames := 2, cells := 0, slots := 0, locals := 45 } : Room) (va_Pc [.ref (a 139), .int p1] (preW D cy (wC cy a r S) sz)) (QI D cy (wC cy a r) (va_A (wC cy a r S) sz) Rr) 0 0 (va_A (wC cy a r S) sz) := by
  refine Met.ofW (cc := cX6_readVariable) (maxL := 4) (ret := (some .int)) (by decide) rfl ?_
  intro p e s m args below meth c s₁ B hml hv
  obtain ⟨rfl, rfl, hP, hK, hD0, hN⟩ := hv
  have hlocks := B.notSynchronized
  have hr := B.returns
  have C : Cx p s m _ c cX6_readVariable 4 wsX6_readVariable RX6 D cy := ⟨B.exec, B.bytes, hml, findClass_of_methodNamed B.named, atoms_spec (ws := wsX6_readVariable) B.pre, hK, hN⟩
  have hW := ww_start (w := wC cy a r) hP hD0
  generalize va_A (wC cy a r S) s.heap.size = A at hW ⊢
  have hl := lv_entry ([.ref (a 139), .int p1]) (n := 4) (Nat.le_of_ble_eq_true rfl)
  rw [lg_entry_eq]
  generalize (lg_sl ([.ref (a 139), .int p1]) ++ List.replicate (4 - (lg_sl ([.ref (a 139), .int p1])).length) Slot.unset).toArray = ls at hl ⊢
  have hl : lv_has ls 4 [(0, .ref (a 139)), (1, .int p1)] := hl
  unfold fX6_readVariable at hf
  refine lv_aload_n C.1 C.2.1 dX6_readVariable_0 rfl (lv_at hl 0 rfl) ?_
  refine fg_6_0 C kX6_readVariable_6 mX6_readVariable_44 hW dX6_readVariable_1 ?_
  refine lv_iload_n C.1 C.2.1 dX6_readVariable_4 rfl (lv_at hl 1 rfl) ?_
  obtain ⟨v1, S3, h2, hf⟩ := bd2_el hf
  refine mcVi (w := wC cy a r) (S := S) (As := [.int p1]) (rest := []) (q0 := 2) (ci := 2) C (cX2_indexOf_met l D cy a r _ N S p1 (v1, S3) h2) (cwV 1 C.2.2.2.2.1 gX6_readVariable_X2_indexOf rfl rfl rfl (by decide +kernel) ⟨Nat.le_of_ble_eq_true rfl, Nat.le_of_ble_eq_true rfl⟩) rfl rfl rfl hl.1 (Nat.le_of_ble_eq_true rfl) hW dX6_readVariable_5 ⟨Nat.zero_le _, Nat.zero_le _⟩ rfl (fun H locs hW => ?_)
  refine lv_istore_n (lv' := [(2, .int v1), (0, .ref (a 139)), (1, .int p1)]) C.1 C.2.1 dX6_readVariable_8 rfl hl (by decide) rfl (fun ls hl => ?_)
  refine lv_aload_n C.1 C.2.1 dX6_readVariable_9 rfl (lv_at hl 1 rfl) ?_
  refine fg_6_13 C kX6_readVariable_6 mX6_readVariable_61 hW dX6_readVariable_10 ?_
  refine lv_iconst (v := 1) C.1 C.2.1 dX6_readVariable_13 (by decide) ?_
  refine lv_isub C.1 C.2.1 dX6_readVariable_14 ?_
  obtain ⟨z4, ez4, hf⟩ := bnd_el hf
  refine lv_as ez4 ?_
  refine lv_istore_n (lv' := [(3, .int z4), (2, .int v1), (0, .ref (a 139)), (1, .int p1)]) C.1 C.2.1 dX6_readVariable_15 rfl hl (by decide) rfl (fun ls hl => ?_)
  exact lX6_readVariable_16 C hr hlocks N _ _ _ _ _ hf _ _ _ hW (lv_sub hl [2, 3, 1, 0] rfl)
theorem mX6_forgetBinder_61 : Cond.fieldLink RX6 61 "SharedLambda$Walk" "binderCount" "I" ∈ wsX6_forgetBinder := by decide +kernel
theorem mX6_forgetBinder_38 : Cond.fieldLink RX6 38 "SharedLambda$Walk" "binderStarts" "[I" ∈ wsX6_forgetBinder := by decide +kernel
theorem mX6_forgetBinder_64 : Cond.fieldLink RX6 64 "SharedLambda$Walk" "binderLevelCount" "I" ∈ wsX6_forgetBinder := by decide +kernel
theorem kX6_forgetBinder_6 : ∀ w ∈ u_ws RX6 TX6 16, w ∈ wsX6_forgetBinder := fun _ h => List.mem_cons_of_mem _ (List.mem_append_right _ h)
def fX6_forgetBinder (N : Nat) (S : St) : Option (St) :=
  if S.1 133 ≤ 0 then
    some S
  else
    if (4000 : Int32) < S.1 133 then
      some S
    else
      bnd (sI S 133 ((S.1 133 - (1 : Int32)))) fun S3 =>
      ckx (S3.1 133) 4000 <|
      bnd (sI S3 135 (S3.2.1 132 (S3.1 133 : Int32).toNatClampNeg)) fun S5 =>
      some S5
set_option maxHeartbeats 4000000 in
set_option maxRecDepth 100000 in
theorem cX6_forgetBinder_met (l : Launch) (D : va_G) (cy : Nat → ClassId) (a r : Nat → Nat) (sz N : Nat) (S : St) (Rr : St) (hf : fX6_forgetBinder N S  = some Rr) : Met l yX6_forgetBinder wsX6_forgetBinder ({ frames := 0, cells := 0, slots := 0, locals := 0 } : Room) (va_Pc [.ref (a 139)] (preW D cy (wC cy a r S) sz)) (QV D cy (wC cy a r) (va_A (wC cy a r S) sz) Rr) 0 0 (va_A (wC cy a r S) sz) := by
  refine Met.ofW (cc := cX6_forgetBinder) (maxL := 1) (ret := none) (by decide) rfl ?_
  intro p e s m args below meth c s₁ B hml hv
  obtain ⟨rfl, rfl, hP, hK, hD0, hN⟩ := hv
  have hlocks := B.notSynchronized
  have hr := B.returns
  have C : Cx p s m _ c cX6_forgetBinder 1 wsX6_forgetBinder RX6 D cy := ⟨B.exec, B.bytes, hml, findClass_of_methodNamed B.named, atoms_spec (ws := wsX6_forgetBinder) B.pre, hK, hN⟩
  have hW := ww_start (w := wC cy a r) hP hD0
  generalize va_A (wC cy a r S) s.heap.size = A at hW ⊢
  have hl := lv_entry ([.ref (a 139)]) (n := 1) (Nat.le_of_ble_eq_true rfl)
  rw [lg_entry_eq]
  generalize (lg_sl ([.ref (a 139)]) ++ List.replicate (1 - (lg_sl ([.ref (a 139)])).length) Slot.unset).toArray = ls at hl ⊢
  have hl : lv_has ls 1 [(0, .ref (a 139))] := hl
  unfold fX6_forgetBinder at hf
  refine lv_aload_n C.1 C.2.1 dX6_forgetBinder_0 rfl (lv_at hl 0 rfl) ?_
  refine fg_6_13 C kX6_forgetBinder_6 mX6_forgetBinder_61 hW dX6_forgetBinder_1 ?_
  refine lv_if_le (tgt := 40) C.1 C.2.1 dX6_forgetBinder_4 (by decide) (fun q1 => ?_) (fun q1 => ?_)
  · replace hf := (if_pos q1).symm.trans hf
    exact mrV C hr hlocks hf hW dX6_forgetBinder_40
  · replace hf := (if_neg q1).symm.trans hf
    refine lv_aload_n C.1 C.2.1 dX6_forgetBinder_7 rfl (lv_at hl 0 rfl) ?_
    refine fg_6_13 C kX6_forgetBinder_6 mX6_forgetBinder_61 hW dX6_forgetBinder_8 ?_
    refine lv_sipush (v := 4000) C.1 C.2.1 dX6_forgetBinder_11 (by decide) ?_
    refine lv_icmp_gt (tgt := 40) C.1 C.2.1 dX6_forgetBinder_14 (by decide) (fun q2 => ?_) (fun q2 => ?_)
    · replace hf := (if_pos q2).symm.trans hf
      exact mrV C hr hlocks hf hW dX6_forgetBinder_40
    · replace hf := (if_neg q2).symm.trans hf
      refine lv_aload_n C.1 C.2.1 dX6_forgetBinder_17 rfl (lv_at hl 0 rfl) ?_
      refine lv_dup C.1 C.2.1 dX6_forgetBinder_18 rfl ?_
      refine fg_6_13 C kX6_forgetBinder_6 mX6_forgetBinder_61 hW dX6_forgetBinder_19 ?_
      refine lv_iconst (v := 1) C.1 C.2.1 dX6_forgetBinder_22 (by decide) ?_
      refine lv_isub C.1 C.2.1 dX6_forgetBinder_23 ?_
      obtain ⟨S3, eS3, hf⟩ := bnd_el hf
      refine fp_6_13 C kX6_forgetBinder_6 mX6_forgetBinder_61 hW dX6_forgetBinder_24 eS3 (fun H locs hW => ?_)
      refine lv_aload_n C.1 C.2.1 dX6_forgetBinder_27 rfl (lv_at hl 0 rfl) ?_
      refine lv_aload_n C.1 C.2.1 dX6_forgetBinder_28 rfl (lv_at hl 0 rfl) ?_
      refine fg_6_12 C kX6_forgetBinder_6 mX6_forgetBinder_38 hW dX6_forgetBinder_29 ?_
      refine lv_aload_n C.1 C.2.1 dX6_forgetBinder_32 rfl (lv_at hl 0 rfl) ?_
      refine fg_6_13 C kX6_forgetBinder_6 mX6_forgetBinder_61 hW dX6_forgetBinder_33 ?_
      obtain ⟨h4, hf⟩ := ckx_el hf
      refine al_6_12 C hW h4 dX6_forgetBinder_36 ?_
      obtain ⟨S5, eS5, hf⟩ := bnd_el hf
      refine fp_6_15 C kX6_forgetBinder_6 mX6_forgetBinder_64 hW dX6_forgetBinder_37 eS5 (fun H locs hW => ?_)
      exact mrV C hr hlocks hf hW dX6_forgetBinder_40
theorem mX6_endTerm_58 : Cond.fieldLink RX6 58 "SharedLambda$Walk" "depth" "I" ∈ wsX6_endTerm := by decide +kernel
theorem mX6_endTerm_26 : Cond.fieldLink RX6 26 "SharedLambda$Walk" "stages" "[I" ∈ wsX6_endTerm := by decide +kernel
theorem mX6_endTerm_12 : Cond.fieldLink RX6 12 "SharedLambda$Walk" "context" "LSharedLambda$Context;" ∈ wsX6_endTerm := by decide +kernel
theorem mX6_endTerm_32 : Cond.fieldLink RX6 32 "SharedLambda$Walk" "stageMarks" "[I" ∈ wsX6_endTerm := by decide +kernel
theorem mX6_endTerm_29 : Cond.fieldLink RX6 29 "SharedLambda$Walk" "stageNodes" "[I" ∈ wsX6_endTerm := by decide +kernel
theorem mX6_endTerm_i7 : Cond.initialized RX7 ∈ wsX6_endTerm := by decide +kernel
theorem mX6_endTerm_s_portOf : Cond.static yX7_portOf ∈ wsX6_endTerm := by decide +kernel
theorem mX6_endTerm_71 : Cond.fieldLink RX6 71 "SharedLambda$Walk" "leaving" "I" ∈ wsX6_endTerm := by decide +kernel
theorem kX6_endTerm_6 : ∀ w ∈ u_ws RX6 TX6 16, w ∈ wsX6_endTerm := fun _ h => List.mem_cons_of_mem _ (List.mem_append_left _ (List.mem_append_left _ (List.mem_append_right _ h)))
def fX6_endTerm_112 (N : Nat) (k7 : St × Int32 → Option (Int32 × St)) (S : St) (x1 : Int32) : Option (Int32 × St) :=
  bnd (sI S 130 x1) fun S1 =>
  bnd (x1 + (-1 : Int32)) fun z2 =>
  k7 (S1, z2)
set_option maxHeartbeats 4000000 in
set_option maxRecDepth 100000 in
theorem lX6_endTerm_112 {p : Program} {l : Launch} {e : Env} {s : State} {m : MethodId} {args : Array Value} {below : List Frame} {meth : Method} {c : Code} {D : va_G} {cy : Nat → ClassId} {a r : Nat → Nat} {A : Nat → Prop} {Rr : Int32 × St} (C : Cx p s m args c cX6_endTerm 2 wsX6_endTerm RX6 D cy) (hr : meth.sig.returnType = some .int) (hlocks : meth.locks = false) (N : Nat) (k7 : St × Int32 → Option (Int32 × St)) (hk7 : ∀ (S : St) (x1 : Int32), k7 (S, x1) = some Rr → ∀ (H : Heap) (locs : List Loc) (ls : Array Slot), WW D A s.heap (wC cy a r S) H locs → lv_has ls 2 [(0, .ref (a 139)), (1, .int x1)] → W p l e ({ frames := 4, cells := 0, slots := 0, locals := 92 } : Room) s m args below meth c H locs 0 0 (MQ below (QI D cy (wC cy a r) A Rr) args s 0 0 A) (F0 m 7 ls [])) (S : St) (x1 : Int32) (hf : fX6_endTerm_112 N k7 S x1 = some Rr) : ∀ (H : Heap) (locs : List Loc) (ls : Array Slot), WW D A s.heap (wC cy a r S) H locs → lv_has ls 2 [(0, .ref (a 139)), (1, .int x1)] → W p l e ({ frames := 4, cells := 0, slots := 0, locals := 92 } : Room) s m args below meth c H locs 0 0 (MQ below (QI D cy (wC cy a r) A Rr) args s 0 0 A) (F0 m 112 ls []) := by
  intro H locs ls hW hl
  unfold fX6_endTerm_112 at hf
  refine lv_aload_n C.1 C.2.1 dX6_endTerm_112 rfl (lv_at hl 0 rfl) ?_
  refine lv_iload_n C.1 C.2.1 dX6_endTerm_113 rfl (lv_at hl 1 rfl) ?_
  obtain ⟨S1, eS1, hf⟩ := bnd_el hf
  refine fp_6_10 C kX6_endTerm_6 mX6_endTerm_58 hW dX6_endTerm_114 eS1 (fun H locs hW => ?_)
  obtain ⟨z2, ez2, hf⟩ := bnd_el hf
  refine lv_iinc (v := z2) (lv' := [(1, .int z2), (0, .ref (a 139))]) C.1 C.2.1 dX6_endTerm_117 hl (k := 1) rfl (by rw [ez2]; rfl) (by decide) rfl (fun ls hl => ?_)
  refine lv_goto (tgt := 7) C.1 C.2.1 dX6_endTerm_120 (by decide) ?_
  exact hk7 _ _ hf _ _ _ hW (lv_sub hl [1, 0] rfl)
def fX6_endTerm_99 (N : Nat) (k7 : St × Int32 → Option (Int32 × St)) (S : St) (x1 : Int32) : Option (Int32 × St) :=
  ckx x1 4000 <|
  if S.2.1 127 (x1 : Int32).toNatClampNeg = 0 then
    bdo (fX6_forgetBinder N S) fun S5 =>
    fX6_endTerm_112 N k7 S5 x1
  else
    fX6_endTerm_112 N k7 S x1
set_option maxHeartbeats 4000000 in
set_option maxRecDepth 100000 in
theorem lX6_endTerm_99 {p : Program} {l : Launch} {e : Env} {s : State} {m : MethodId} {args : Array Value} {below : List Frame} {meth : Method} {c : Code} {D : va_G} {cy : Nat → ClassId} {a r : Nat → Nat} {A : Nat → Prop} {Rr : Int32 × St} (C : Cx p s m args c cX6_endTerm 2 wsX6_endTerm RX6 D cy) (hr : meth.sig.returnType = some .int) (hlocks : meth.locks = false) (N : Nat) (k7 : St × Int32 → Option (Int32 × St)) (hk7 : ∀ (S : St) (x1 : Int32), k7 (S, x1) = some Rr → ∀ (H : Heap) (locs : List Loc) (ls : Array Slot), WW D A s.heap (wC cy a r S) H locs → lv_has ls 2 [(0, .ref (a 139)), (1, .int x1)] → W p l e ({ frames := 4, cells := 0, slots := 0, locals := 92 } : Room) s m args below meth c H locs 0 0 (MQ below (QI D cy (wC cy a r) A Rr) args s 0 0 A) (F0 m 7 ls [])) (S : St) (x1 : Int32) (hf : fX6_endTerm_99 N k7 S x1 = some Rr) : ∀ (H : Heap) (locs : List Loc) (ls : Array Slot), WW D A s.heap (wC cy a r S) H locs → lv_has ls 2 [(0, .ref (a 139)), (1, .int x1)] → W p l e ({ frames := 4, cells := 0, slots := 0, locals := 92 } : Room) s m args below meth c H locs 0 0 (MQ below (QI D cy (wC cy a r) A Rr) args s 0 0 A) (F0 m 99 ls []) := by
  intro H locs ls hW hl
  unfold fX6_endTerm_99 at hf
  refine lv_aload_n C.1 C.2.1 dX6_endTerm_99 rfl (lv_at hl 0 rfl) ?_
  refine fg_6_7 C kX6_endTerm_6 mX6_endTerm_26 hW dX6_endTerm_100 ?_
  refine lv_iload_n C.1 C.2.1 dX6_endTerm_103 rfl (lv_at hl 1 rfl) ?_
  obtain ⟨h1, hf⟩ := ckx_el hf
  refine al_6_7 C hW h1 dX6_endTerm_104 ?_
  refine lv_if_ne (tgt := 112) C.1 C.2.1 dX6_endTerm_105 (by decide) (fun q2 => ?_) (fun q2 => ?_)
  · replace hf := (if_neg q2).symm.trans hf
    exact lX6_endTerm_112 C hr hlocks N _ hk7 _ _ hf _ _ _ hW (lv_sub hl [0, 1] rfl)
  · replace hf := (if_pos q2).symm.trans hf
    refine lv_aload_n C.1 C.2.1 dX6_endTerm_108 rfl (lv_at hl 0 rfl) ?_
    obtain ⟨S5, h4, hf⟩ := bdo_el hf
    refine mcVv (w := wC cy a r) (S := S) (As := []) (rest := []) (q0 := 6) (ci := 6) C (cX6_forgetBinder_met l D cy a r _ N S  S5 h4) (cwV 0 C.2.2.2.2.1 gX6_endTerm_X6_forgetBinder rfl rfl rfl (by decide +kernel) ⟨Nat.le_of_ble_eq_true rfl, Nat.le_of_ble_eq_true rfl⟩) rfl rfl rfl hl.1 (Nat.le_of_ble_eq_true rfl) hW dX6_endTerm_109 ⟨Nat.zero_le _, Nat.zero_le _⟩ rfl (fun H locs hW => ?_)
    exact lX6_endTerm_112 C hr hlocks N _ hk7 _ _ hf _ _ _ hW (lv_sub hl [0, 1] rfl)
def fX6_endTerm_7s (N : Nat) (k7 : St × Int32 → Option (Int32 × St)) (S : St) (x1 : Int32) : Option (Int32 × St) :=
  if x1 < 0 then
    some ((0 : Int32), S)
  else
    if (4000 : Int32) ≤ x1 then
      some ((0 : Int32), S)
    else
      ckx x1 4000 <|
      if S.2.1 127 (x1 : Int32).toNatClampNeg = (1 : Int32) then
        ckx x1 4000 <|
        bdo (fX1_undoTo N S (S.2.1 129 (x1 : Int32).toNatClampNeg)) fun S14 =>
        ckx x1 4000 <|
        bnd (sA S14 127 (upd (S14.2.1 127) (x1 : Int32).toNatClampNeg (2 : Int32))) fun S16 =>
        ckx x1 4000 <|
        bdo (fX7_portOf (S16.2.1 128 (x1 : Int32).toNatClampNeg) (2 : Int32)) fun v18 =>
        bnd (sI S16 124 v18) fun S20 =>
        bd2 (fX6_tell N S20 (32 : Int32)) fun v21 S23 =>
        if v21 = 0 then
          some ((3 : Int32), S23)
        else
          some ((6 : Int32), S23)
      else
        ckx x1 4000 <|
        if S.2.1 127 (x1 : Int32).toNatClampNeg = (2 : Int32) then
          bd2 (fX6_tell N S (41 : Int32)) fun v7 S9 =>
          if v7 = 0 then
            some ((3 : Int32), S9)
          else
            fX6_endTerm_99 N k7 S9 x1
        else
          fX6_endTerm_99 N k7 S x1
def fX6_endTerm_7 (N : Nat) : St × Int32 → Option (Int32 × St) := loopN (fun k x => fX6_endTerm_7s N k x.1 x.2) N
set_option maxHeartbeats 4000000 in
set_option maxRecDepth 100000 in
theorem lX6_endTerm_7 {p : Program} {l : Launch} {e : Env} {s : State} {m : MethodId} {args : Array Value} {below : List Frame} {meth : Method} {c : Code} {D : va_G} {cy : Nat → ClassId} {a r : Nat → Nat} {A : Nat → Prop} {Rr : Int32 × St} (C : Cx p s m args c cX6_endTerm 2 wsX6_endTerm RX6 D cy) (hr : meth.sig.returnType = some .int) (hlocks : meth.locks = false) (N : Nat) : ∀ (n : Nat) (S : St) (x1 : Int32), loopN (fun k x => fX6_endTerm_7s N k x.1 x.2) n (S, x1) = some Rr → ∀ (H : Heap) (locs : List Loc) (ls : Array Slot), WW D A s.heap (wC cy a r S) H locs → lv_has ls 2 [(0, .ref (a 139)), (1, .int x1)] → W p l e ({ frames := 4, cells := 0, slots := 0, locals := 92 } : Room) s m args below meth c H locs 0 0 (MQ below (QI D cy (wC cy a r) A Rr) args s 0 0 A) (F0 m 7 ls []) := by
  intro n
  induction n with
  | zero =>
    intro S x1 hf
    cases hf
  | succ n ih =>
    intro S x1 hf H locs ls hW hl
    have hf : fX6_endTerm_7s N (loopN (fun k x => fX6_endTerm_7s N k x.1 x.2) n) S x1 = some Rr := hf
    unfold fX6_endTerm_7s at hf
    refine lv_iload_n C.1 C.2.1 dX6_endTerm_7 rfl (lv_at hl 1 rfl) ?_
    refine lv_if_lt (tgt := 123) C.1 C.2.1 dX6_endTerm_8 (by decide) (fun q1 => ?_) (fun q1 => ?_)
    · replace hf := (if_pos q1).symm.trans hf
      refine lv_iconst (v := 0) C.1 C.2.1 dX6_endTerm_123 (by decide) ?_
      exact mrI C hr hlocks rfl hf hW dX6_endTerm_124
    · replace hf := (if_neg q1).symm.trans hf
      refine lv_iload_n C.1 C.2.1 dX6_endTerm_11 rfl (lv_at hl 1 rfl) ?_
      refine lv_sipush (v := 4000) C.1 C.2.1 dX6_endTerm_12 (by decide) ?_
      refine lv_icmp_ge (tgt := 123) C.1 C.2.1 dX6_endTerm_15 (by decide) (fun q2 => ?_) (fun q2 => ?_)
      · replace hf := (if_pos q2).symm.trans hf
        refine lv_iconst (v := 0) C.1 C.2.1 dX6_endTerm_123 (by decide) ?_
        exact mrI C hr hlocks rfl hf hW dX6_endTerm_124
      · replace hf := (if_neg q2).symm.trans hf
        refine lv_aload_n C.1 C.2.1 dX6_endTerm_18 rfl (lv_at hl 0 rfl) ?_
        refine fg_6_7 C kX6_endTerm_6 mX6_endTerm_26 hW dX6_endTerm_19 ?_
        refine lv_iload_n C.1 C.2.1 dX6_endTerm_22 rfl (lv_at hl 1 rfl) ?_
        obtain ⟨h3, hf⟩ := ckx_el hf
        refine al_6_7 C hW h3 dX6_endTerm_23 ?_
        refine lv_iconst (v := 1) C.1 C.2.1 dX6_endTerm_24 (by decide) ?_
        refine lv_icmp_ne (tgt := 78) C.1 C.2.1 dX6_endTerm_25 (by decide) (fun q4 => ?_) (fun q4 => ?_)
        · replace hf := (if_neg q4).symm.trans hf
          refine lv_aload_n C.1 C.2.1 dX6_endTerm_78 rfl (lv_at hl 0 rfl) ?_
          refine fg_6_7 C kX6_endTerm_6 mX6_endTerm_26 hW dX6_endTerm_79 ?_
          refine lv_iload_n C.1 C.2.1 dX6_endTerm_82 rfl (lv_at hl 1 rfl) ?_
          obtain ⟨h5, hf⟩ := ckx_el hf
          refine al_6_7 C hW h5 dX6_endTerm_83 ?_
          refine lv_iconst (v := 2) C.1 C.2.1 dX6_endTerm_84 (by decide) ?_
          refine lv_icmp_ne (tgt := 99) C.1 C.2.1 dX6_endTerm_85 (by decide) (fun q6 => ?_) (fun q6 => ?_)
          · replace hf := (if_neg q6).symm.trans hf
            exact lX6_endTerm_99 C hr hlocks N _ ih _ _ hf _ _ _ hW (lv_sub hl [0, 1] rfl)
          · replace hf := (if_pos q6).symm.trans hf
            refine lv_aload_n C.1 C.2.1 dX6_endTerm_88 rfl (lv_at hl 0 rfl) ?_
            refine lv_bipush (v := 41) C.1 C.2.1 dX6_endTerm_89 (by decide) ?_
            obtain ⟨v7, S9, h8, hf⟩ := bd2_el hf
            refine mcVi (w := wC cy a r) (S := S) (As := [.int (41 : Int32)]) (rest := []) (q0 := 6) (ci := 6) C (cX6_tell_met l D cy a r _ N S (41 : Int32) (v7, S9) h8) (cwV 1 C.2.2.2.2.1 gX6_endTerm_X6_tell rfl rfl rfl (by decide +kernel) ⟨Nat.le_of_ble_eq_true rfl, Nat.le_of_ble_eq_true rfl⟩) rfl rfl rfl hl.1 (Nat.le_of_ble_eq_true rfl) hW dX6_endTerm_91 ⟨Nat.zero_le _, Nat.zero_le _⟩ rfl (fun H locs hW => ?_)
            refine lv_if_ne (tgt := 99) C.1 C.2.1 dX6_endTerm_94 (by decide) (fun q10 => ?_) (fun q10 => ?_)
            · replace hf := (if_neg q10).symm.trans hf
              exact lX6_endTerm_99 C hr hlocks N _ ih _ _ hf _ _ _ hW (lv_sub hl [0, 1] rfl)
            · replace hf := (if_pos q10).symm.trans hf
              refine lv_iconst (v := 3) C.1 C.2.1 dX6_endTerm_97 (by decide) ?_
              exact mrI C hr hlocks rfl hf hW dX6_endTerm_98
        · replace hf := (if_pos q4).symm.trans hf
          refine lv_aload_n C.1 C.2.1 dX6_endTerm_28 rfl (lv_at hl 0 rfl) ?_
          refine fg_6_1 C kX6_endTerm_6 mX6_endTerm_12 hW dX6_endTerm_29 ?_
          refine lv_aload_n C.1 C.2.1 dX6_endTerm_32 rfl (lv_at hl 0 rfl) ?_
          refine fg_6_9 C kX6_endTerm_6 mX6_endTerm_32 hW dX6_endTerm_33 ?_
          refine lv_iload_n C.1 C.2.1 dX6_endTerm_36 rfl (lv_at hl 1 rfl) ?_
          obtain ⟨h11, hf⟩ := ckx_el hf
          refine al_6_9 C hW h11 dX6_endTerm_37 ?_
          obtain ⟨S14, h13, hf⟩ := bdo_el hf
          refine mcVv (w := wC cy a r) (S := S) (As := [.int (S.2.1 129 (x1 : Int32).toNatClampNeg)]) (rest := []) (q0 := 1) (ci := 1) C (cX1_undoTo_met l D cy a r _ N S (S.2.1 129 (x1 : Int32).toNatClampNeg) S14 h13) (cwV 1 C.2.2.2.2.1 gX6_endTerm_X1_undoTo rfl rfl rfl (by decide +kernel) ⟨Nat.le_of_ble_eq_true rfl, Nat.le_of_ble_eq_true rfl⟩) rfl rfl rfl hl.1 (Nat.le_of_ble_eq_true rfl) hW dX6_endTerm_38 ⟨Nat.zero_le _, Nat.zero_le _⟩ rfl (fun H locs hW => ?_)
          refine lv_aload_n C.1 C.2.1 dX6_endTerm_41 rfl (lv_at hl 0 rfl) ?_
          refine fg_6_7 C kX6_endTerm_6 mX6_endTerm_26 hW dX6_endTerm_42 ?_
          refine lv_iload_n C.1 C.2.1 dX6_endTerm_45 rfl (lv_at hl 1 rfl) ?_
          refine lv_iconst (v := 2) C.1 C.2.1 dX6_endTerm_46 (by decide) ?_
          obtain ⟨h15, hf⟩ := ckx_el hf
          obtain ⟨S16, eS16, hf⟩ := bnd_el hf
          refine as_6_7 C hW h15 dX6_endTerm_47 eS16 (fun H locs hW => ?_)
          refine lv_aload_n C.1 C.2.1 dX6_endTerm_48 rfl (lv_at hl 0 rfl) ?_
          refine lv_aload_n C.1 C.2.1 dX6_endTerm_49 rfl (lv_at hl 0 rfl) ?_
          refine fg_6_8 C kX6_endTerm_6 mX6_endTerm_29 hW dX6_endTerm_50 ?_
          refine lv_iload_n C.1 C.2.1 dX6_endTerm_53 rfl (lv_at hl 1 rfl) ?_
          obtain ⟨h17, hf⟩ := ckx_el hf
          refine al_6_8 C hW h17 dX6_endTerm_54 ?_
          refine lv_iconst (v := 2) C.1 C.2.1 dX6_endTerm_55 (by decide) ?_
          obtain ⟨v18, h19, hf⟩ := bdo_el hf
          refine mcSN (As := [.int (S16.2.1 128 (x1 : Int32).toNatClampNeg), .int (2 : Int32)]) (rest := [.ref (a 139)]) C (cX7_portOf_met l (S16.2.1 128 (x1 : Int32).toNatClampNeg) (2 : Int32) v18 h19) ⟨va_cnB 2 C.2.2.2.2.1 gX6_endTerm_X7_portOf_n67 rfl rfl rfl (C.2.2.2.2.2.2 (RX6, 67, yX7_portOf) (by decide +kernel)) (C.2.2.2.2.1 _ mX6_endTerm_i7) (by decide +kernel) ⟨Nat.le_of_ble_eq_true rfl, Nat.le_of_ble_eq_true rfl⟩, C.2.2.2.2.1 _ mX6_endTerm_s_portOf, trivial⟩ rfl hl.1 (Nat.le_of_ble_eq_true rfl) dX6_endTerm_56 ⟨Nat.zero_le _, Nat.zero_le _⟩ rfl ?_
          obtain ⟨S20, eS20, hf⟩ := bnd_el hf
          refine fp_6_4 C kX6_endTerm_6 mX6_endTerm_71 hW dX6_endTerm_59 eS20 (fun H locs hW => ?_)
          refine lv_aload_n C.1 C.2.1 dX6_endTerm_62 rfl (lv_at hl 0 rfl) ?_
          refine lv_bipush (v := 32) C.1 C.2.1 dX6_endTerm_63 (by decide) ?_
          obtain ⟨v21, S23, h22, hf⟩ := bd2_el hf
          refine mcVi (w := wC cy a r) (S := S20) (As := [.int (32 : Int32)]) (rest := []) (q0 := 6) (ci := 6) C (cX6_tell_met l D cy a r _ N S20 (32 : Int32) (v21, S23) h22) (cwV 1 C.2.2.2.2.1 gX6_endTerm_X6_tell rfl rfl rfl (by decide +kernel) ⟨Nat.le_of_ble_eq_true rfl, Nat.le_of_ble_eq_true rfl⟩) rfl rfl rfl hl.1 (Nat.le_of_ble_eq_true rfl) hW dX6_endTerm_65 ⟨Nat.zero_le _, Nat.zero_le _⟩ rfl (fun H locs hW => ?_)
          refine lv_if_eq (tgt := 76) C.1 C.2.1 dX6_endTerm_68 (by decide) (fun q24 => ?_) (fun q24 => ?_)
          · replace hf := (if_pos q24).symm.trans hf
            refine lv_iconst (v := 3) C.1 C.2.1 dX6_endTerm_76 (by decide) ?_
            exact mrI C hr hlocks rfl hf hW dX6_endTerm_77
          · replace hf := (if_neg q24).symm.trans hf
            refine lv_bipush (v := 6) C.1 C.2.1 dX6_endTerm_71 (by decide) ?_
            refine lv_goto (tgt := 77) C.1 C.2.1 dX6_endTerm_73 (by decide) ?_
            exact mrI C hr hlocks rfl hf hW dX6_endTerm_77
def fX6_endTerm (N : Nat) (S : St) : Option (Int32 × St) :=
  bnd ((S.1 130 - (1 : Int32))) fun z1 =>
  fX6_endTerm_7 N (S, z1)
set_option maxHeartbeats 4000000 in
set_option maxRecDepth 100000 in
theorem cX6_endTerm_met (l : Launch) (D : va_G) (cy : Nat → ClassId) (a r : Nat → Nat) (sz N : Nat) (S : St) (Rr : Int32 × St) (hf : fX6_endTerm N S  = some Rr) : Met l yX6_endTerm wsX6_endTerm ({ frames := 4, cells := 0, slots := 0, locals := 92 } : Room) (va_Pc [.ref (a 139)] (preW D cy (wC cy a r S) sz)) (QI D cy (wC cy a r) (va_A (wC cy a r S) sz) Rr) 0 0 (va_A (wC cy a r S) sz) := by
  refine Met.ofW (cc := cX6_endTerm) (maxL := 2) (ret := (some .int)) (by decide) rfl ?_
  intro p e s m args below meth c s₁ B hml hv
  obtain ⟨rfl, rfl, hP, hK, hD0, hN⟩ := hv
  have hlocks := B.notSynchronized
  have hr := B.returns
  have C : Cx p s m _ c cX6_endTerm 2 wsX6_endTerm RX6 D cy := ⟨B.exec, B.bytes, hml, findClass_of_methodNamed B.named, atoms_spec (ws := wsX6_endTerm) B.pre, hK, hN⟩
  have hW := ww_start (w := wC cy a r) hP hD0
  generalize va_A (wC cy a r S) s.heap.size = A at hW ⊢
  have hl := lv_entry ([.ref (a 139)]) (n := 2) (Nat.le_of_ble_eq_true rfl)
  rw [lg_entry_eq]
  generalize (lg_sl ([.ref (a 139)]) ++ List.replicate (2 - (lg_sl ([.ref (a 139)])).length) Slot.unset).toArray = ls at hl ⊢
  have hl : lv_has ls 2 [(0, .ref (a 139))] := hl
  unfold fX6_endTerm at hf
  refine lv_aload_n C.1 C.2.1 dX6_endTerm_0 rfl (lv_at hl 0 rfl) ?_
  refine fg_6_10 C kX6_endTerm_6 mX6_endTerm_58 hW dX6_endTerm_1 ?_
  refine lv_iconst (v := 1) C.1 C.2.1 dX6_endTerm_4 (by decide) ?_
  refine lv_isub C.1 C.2.1 dX6_endTerm_5 ?_
  obtain ⟨z1, ez1, hf⟩ := bnd_el hf
  refine lv_as ez1 ?_
  refine lv_istore_n (lv' := [(1, .int z1), (0, .ref (a 139))]) C.1 C.2.1 dX6_endTerm_6 rfl hl (by decide) rfl (fun ls hl => ?_)
  exact lX6_endTerm_7 C hr hlocks N _ _ _ hf _ _ _ hW (lv_sub hl [1, 0] rfl)
