theorem mX1_clear_34 : Cond.fieldLink RX1 34 "SharedLambda$Context" "depth" "I" ∈ wsX1_clear := by decide +kernel
theorem mX1_clear_38 : Cond.fieldLink RX1 38 "SharedLambda$Context" "changes" "I" ∈ wsX1_clear := by decide +kernel
theorem mX1_clear_12 : Cond.fieldLink RX1 12 "SharedLambda$Context" "trees" "LSharedLambda$Trees;" ∈ wsX1_clear := by decide +kernel
theorem kX1_clear_1 : ∀ w ∈ u_ws RX1 TX1 8, w ∈ wsX1_clear := fun _ h => List.mem_cons_of_mem _ (List.mem_append_left _ (List.mem_append_right _ h))
def fX1_clear (N : Nat) (S : St) : Option (St) :=
  bnd (sI S 22 (0 : Int32)) fun S1 =>
  bnd (sI S1 27 (0 : Int32)) fun S2 =>
  bdo (fX5_cut N S2 (1 : Int32)) fun S5 =>
  some S5
set_option maxHeartbeats 4000000 in
set_option maxRecDepth 100000 in
theorem cX1_clear_met (l : Launch) (D : va_G) (cy : Nat → ClassId) (a r : Nat → Nat) (sz N : Nat) (S : St) (Rr : St) (hf : fX1_clear N S  = some Rr) : Met l yX1_clear wsX1_clear ({ frames := 2, cells := 0, slots := 0, locals := 43 } : Room) (va_Pc [.ref (a 39)] (preW D cy (wC cy a r S) sz)) (QV D cy (wC cy a r) (va_A (wC cy a r S) sz) Rr) 0 0 (va_A (wC cy a r S) sz) := by
  refine Met.ofW (cc := cX1_clear) (maxL := 1) (ret := none) (by decide) rfl ?_
  intro p e s m args below meth c s₁ B hml hv
  obtain ⟨rfl, rfl, hP, hK, hD0, hN⟩ := hv
  have hlocks := B.notSynchronized
  have hr := B.returns
  have C : Cx p s m _ c cX1_clear 1 wsX1_clear RX1 D cy := ⟨B.exec, B.bytes, hml, findClass_of_methodNamed B.named, atoms_spec (ws := wsX1_clear) B.pre, hK, hN⟩
  have hW := ww_start (w := wC cy a r) hP hD0
  generalize va_A (wC cy a r S) s.heap.size = A at hW ⊢
  have hl := lv_entry ([.ref (a 39)]) (n := 1) (Nat.le_of_ble_eq_true rfl)
  rw [lg_entry_eq]
  generalize (lg_sl ([.ref (a 39)]) ++ List.replicate (1 - (lg_sl ([.ref (a 39)])).length) Slot.unset).toArray = ls at hl ⊢
  have hl : lv_has ls 1 [(0, .ref (a 39))] := hl
  unfold fX1_clear at hf
  refine lv_aload_n C.1 C.2.1 dX1_clear_0 rfl (lv_at hl 0 rfl) ?_
  refine lv_iconst (v := 0) C.1 C.2.1 dX1_clear_1 (by decide) ?_
  obtain ⟨S1, eS1, hf⟩ := bnd_el hf
  refine fp_1_2 C kX1_clear_1 mX1_clear_34 hW dX1_clear_2 eS1 (fun H locs hW => ?_)
  refine lv_aload_n C.1 C.2.1 dX1_clear_5 rfl (lv_at hl 0 rfl) ?_
  refine lv_iconst (v := 0) C.1 C.2.1 dX1_clear_6 (by decide) ?_
  obtain ⟨S2, eS2, hf⟩ := bnd_el hf
  refine fp_1_7 C kX1_clear_1 mX1_clear_38 hW dX1_clear_7 eS2 (fun H locs hW => ?_)
  refine lv_aload_n C.1 C.2.1 dX1_clear_10 rfl (lv_at hl 0 rfl) ?_
  refine fg_1_0 C kX1_clear_1 mX1_clear_12 hW dX1_clear_11 ?_
  refine lv_iconst (v := 1) C.1 C.2.1 dX1_clear_14 (by decide) ?_
  obtain ⟨S5, h4, hf⟩ := bdo_el hf
  refine mcVv (w := wC cy a r) (S := S2) (As := [.int (1 : Int32)]) (rest := []) (q0 := 5) (ci := 5) C (cX5_cut_met l D cy a r _ N S2 (1 : Int32) S5 h4) (cwV 1 C.2.2.2.2.1 gX1_clear_X5_cut rfl rfl rfl (by decide +kernel) ⟨Nat.le_of_ble_eq_true rfl, Nat.le_of_ble_eq_true rfl⟩) rfl rfl rfl hl.1 (Nat.le_of_ble_eq_true rfl) hW dX1_clear_15 ⟨Nat.zero_le _, Nat.zero_le _⟩ rfl (fun H locs hW => ?_)
  exact mrV C hr hlocks hf hW dX1_clear_18
theorem mX1_changes_38 : Cond.fieldLink RX1 38 "SharedLambda$Context" "changes" "I" ∈ wsX1_changes := by decide +kernel
theorem kX1_changes_1 : ∀ w ∈ u_ws RX1 TX1 8, w ∈ wsX1_changes := fun _ h => List.mem_cons_of_mem _ (List.mem_append_right _ h)
def fX1_changes (N : Nat) (S : St) : Option (Int32 × St) :=
  some (S.1 27, S)
set_option maxHeartbeats 4000000 in
set_option maxRecDepth 100000 in
theorem cX1_changes_met (l : Launch) (D : va_G) (cy : Nat → ClassId) (a r : Nat → Nat) (sz N : Nat) (S : St) (Rr : Int32 × St) (hf : fX1_changes N S  = some Rr) : Met l yX1_changes wsX1_changes ({ frames := 0, cells := 0, slots := 0, locals := 0 } : Room) (va_Pc [.ref (a 39)] (preW D cy (wC cy a r S) sz)) (QI D cy (wC cy a r) (va_A (wC cy a r S) sz) Rr) 0 0 (va_A (wC cy a r S) sz) := by
  refine Met.ofW (cc := cX1_changes) (maxL := 1) (ret := (some .int)) (by decide) rfl ?_
  intro p e s m args below meth c s₁ B hml hv
  obtain ⟨rfl, rfl, hP, hK, hD0, hN⟩ := hv
  have hlocks := B.notSynchronized
  have hr := B.returns
  have C : Cx p s m _ c cX1_changes 1 wsX1_changes RX1 D cy := ⟨B.exec, B.bytes, hml, findClass_of_methodNamed B.named, atoms_spec (ws := wsX1_changes) B.pre, hK, hN⟩
  have hW := ww_start (w := wC cy a r) hP hD0
  generalize va_A (wC cy a r S) s.heap.size = A at hW ⊢
  have hl := lv_entry ([.ref (a 39)]) (n := 1) (Nat.le_of_ble_eq_true rfl)
  rw [lg_entry_eq]
  generalize (lg_sl ([.ref (a 39)]) ++ List.replicate (1 - (lg_sl ([.ref (a 39)])).length) Slot.unset).toArray = ls at hl ⊢
  have hl : lv_has ls 1 [(0, .ref (a 39))] := hl
  unfold fX1_changes at hf
  refine lv_aload_n C.1 C.2.1 dX1_changes_0 rfl (lv_at hl 0 rfl) ?_
  refine fg_1_7 C kX1_changes_1 mX1_changes_38 hW dX1_changes_1 ?_
  exact mrI C hr hlocks rfl hf hW dX1_changes_4
theorem mX1_level_34 : Cond.fieldLink RX1 34 "SharedLambda$Context" "depth" "I" ∈ wsX1_level := by decide +kernel
theorem mX1_level_18 : Cond.fieldLink RX1 18 "SharedLambda$Context" "levels" "[I" ∈ wsX1_level := by decide +kernel
theorem kX1_level_1 : ∀ w ∈ u_ws RX1 TX1 8, w ∈ wsX1_level := fun _ h => List.mem_cons_of_mem _ (List.mem_append_right _ h)
def fX1_level (N : Nat) (S : St) (p1 : Int32) : Option (Int32 × St) :=
  if p1 < 0 then
    some ((0 : Int32), S)
  else
    if S.1 22 ≤ p1 then
      some ((0 : Int32), S)
    else
      if (4067 : Int32) ≤ p1 then
        some ((0 : Int32), S)
      else
        ckx p1 4067 <|
        some (S.2.1 21 (p1 : Int32).toNatClampNeg, S)
set_option maxHeartbeats 4000000 in
set_option maxRecDepth 100000 in
theorem cX1_level_met (l : Launch) (D : va_G) (cy : Nat → ClassId) (a r : Nat → Nat) (sz N : Nat) (S : St) (p1 : Int32) (Rr : Int32 × St) (hf : fX1_level N S p1 = some Rr) : Met l yX1_level wsX1_level ({ frames := 0, cells := 0, slots := 0, locals := 0 } : Room) (va_Pc [.ref (a 39), .int p1] (preW D cy (wC cy a r S) sz)) (QI D cy (wC cy a r) (va_A (wC cy a r S) sz) Rr) 0 0 (va_A (wC cy a r S) sz) := by
  refine Met.ofW (cc := cX1_level) (maxL := 2) (ret := (some .int)) (by decide) rfl ?_
  intro p e s m args below meth c s₁ B hml hv
  obtain ⟨rfl, rfl, hP, hK, hD0, hN⟩ := hv
  have hlocks := B.notSynchronized
  have hr := B.returns
  have C : Cx p s m _ c cX1_level 2 wsX1_level RX1 D cy := ⟨B.exec, B.bytes, hml, findClass_of_methodNamed B.named, atoms_spec (ws := wsX1_level) B.pre, hK, hN⟩
  have hW := ww_start (w := wC cy a r) hP hD0
  generalize va_A (wC cy a r S) s.heap.size = A at hW ⊢
  have hl := lv_entry ([.ref (a 39), .int p1]) (n := 2) (Nat.le_of_ble_eq_true rfl)
  rw [lg_entry_eq]
  generalize (lg_sl ([.ref (a 39), .int p1]) ++ List.replicate (2 - (lg_sl ([.ref (a 39), .int p1])).length) Slot.unset).toArray = ls at hl ⊢
  have hl : lv_has ls 2 [(0, .ref (a 39)), (1, .int p1)] := hl
  unfold fX1_level at hf
  refine lv_iload_n C.1 C.2.1 dX1_level_0 rfl (lv_at hl 1 rfl) ?_
  refine lv_if_lt (tgt := 28) C.1 C.2.1 dX1_level_1 (by decide) (fun q1 => ?_) (fun q1 => ?_)
  · replace hf := (if_pos q1).symm.trans hf
    refine lv_iconst (v := 0) C.1 C.2.1 dX1_level_28 (by decide) ?_
    exact mrI C hr hlocks rfl hf hW dX1_level_29
  · replace hf := (if_neg q1).symm.trans hf
    refine lv_iload_n C.1 C.2.1 dX1_level_4 rfl (lv_at hl 1 rfl) ?_
    refine lv_aload_n C.1 C.2.1 dX1_level_5 rfl (lv_at hl 0 rfl) ?_
    refine fg_1_2 C kX1_level_1 mX1_level_34 hW dX1_level_6 ?_
    refine lv_icmp_ge (tgt := 28) C.1 C.2.1 dX1_level_9 (by decide) (fun q2 => ?_) (fun q2 => ?_)
    · replace hf := (if_pos q2).symm.trans hf
      refine lv_iconst (v := 0) C.1 C.2.1 dX1_level_28 (by decide) ?_
      exact mrI C hr hlocks rfl hf hW dX1_level_29
    · replace hf := (if_neg q2).symm.trans hf
      refine lv_iload_n C.1 C.2.1 dX1_level_12 rfl (lv_at hl 1 rfl) ?_
      refine lv_sipush (v := 4067) C.1 C.2.1 dX1_level_13 (by decide) ?_
      refine lv_icmp_ge (tgt := 28) C.1 C.2.1 dX1_level_16 (by decide) (fun q3 => ?_) (fun q3 => ?_)
      · replace hf := (if_pos q3).symm.trans hf
        refine lv_iconst (v := 0) C.1 C.2.1 dX1_level_28 (by decide) ?_
        exact mrI C hr hlocks rfl hf hW dX1_level_29
      · replace hf := (if_neg q3).symm.trans hf
        refine lv_aload_n C.1 C.2.1 dX1_level_19 rfl (lv_at hl 0 rfl) ?_
        refine fg_1_1 C kX1_level_1 mX1_level_18 hW dX1_level_20 ?_
        refine lv_iload_n C.1 C.2.1 dX1_level_23 rfl (lv_at hl 1 rfl) ?_
        obtain ⟨h4, hf⟩ := ckx_el hf
        refine al_1_1 C hW h4 dX1_level_24 ?_
        refine lv_goto (tgt := 29) C.1 C.2.1 dX1_level_25 (by decide) ?_
        exact mrI C hr hlocks rfl hf hW dX1_level_29
theorem mX1_note_38 : Cond.fieldLink RX1 38 "SharedLambda$Context" "changes" "I" ∈ wsX1_note := by decide +kernel
theorem mX1_note_22 : Cond.fieldLink RX1 22 "SharedLambda$Context" "trailForms" "[I" ∈ wsX1_note := by decide +kernel
theorem mX1_note_25 : Cond.fieldLink RX1 25 "SharedLambda$Context" "trailLevels" "[I" ∈ wsX1_note := by decide +kernel
theorem mX1_note_28 : Cond.fieldLink RX1 28 "SharedLambda$Context" "trailTrees" "[I" ∈ wsX1_note := by decide +kernel
theorem mX1_note_31 : Cond.fieldLink RX1 31 "SharedLambda$Context" "trailCounts" "[I" ∈ wsX1_note := by decide +kernel
theorem mX1_note_12 : Cond.fieldLink RX1 12 "SharedLambda$Context" "trees" "LSharedLambda$Trees;" ∈ wsX1_note := by decide +kernel
theorem kX1_note_1 : ∀ w ∈ u_ws RX1 TX1 8, w ∈ wsX1_note := fun _ h => List.mem_cons_of_mem _ (List.mem_append_left _ (List.mem_append_right _ h))
def fX1_note (N : Nat) (S : St) (p1 : Int32) (p2 : Int32) : Option (St) :=
  if (4000 : Int32) ≤ S.1 27 then
    some S
  else
    ckx (S.1 27) 4000 <|
    bnd (sA S 23 (upd (S.2.1 23) (S.1 27 : Int32).toNatClampNeg p1)) fun S3 =>
    ckx (S3.1 27) 4000 <|
    bnd (sA S3 24 (upd (S3.2.1 24) (S3.1 27 : Int32).toNatClampNeg p2)) fun S5 =>
    bd2 (fX1_level N S5 p2) fun v6 S8 =>
    ckx (S5.1 27) 4000 <|
    bnd (sA S8 25 (upd (S8.2.1 25) (S5.1 27 : Int32).toNatClampNeg v6)) fun S10 =>
    bd2 (fX5_size N S10) fun v11 S13 =>
    ckx (S10.1 27) 4000 <|
    bnd (sA S13 26 (upd (S13.2.1 26) (S10.1 27 : Int32).toNatClampNeg v11)) fun S15 =>
    bnd (sI S15 27 ((S15.1 27 + (1 : Int32)))) fun S16 =>
    some S16
set_option maxHeartbeats 4000000 in
set_option maxRecDepth 100000 in
theorem cX1_note_met (l : Launch) (D : va_G) (cy : Nat → ClassId) (a r : Nat → Nat) (sz N : Nat) (S : St) (p1 : Int32) (p2 : Int32) (Rr : St) (hf : fX1_note N S p1 p2 = some Rr) : Met l yX1_note wsX1_note ({ frames := 1, cells := 0, slots := 0, locals := 21 } : Room) (va_Pc [.ref (a 39), .int p1, .int p2] (preW D cy (wC cy a r S) sz)) (QV D cy (wC cy a r) (va_A (wC cy a r S) sz) Rr) 0 0 (va_A (wC cy a r S) sz) := by
  refine Met.ofW (cc := cX1_note) (maxL := 3) (ret := none) (by decide) rfl ?_
  intro p e s m args below meth c s₁ B hml hv
  obtain ⟨rfl, rfl, hP, hK, hD0, hN⟩ := hv
  have hlocks := B.notSynchronized
  have hr := B.returns
  have C : Cx p s m _ c cX1_note 3 wsX1_note RX1 D cy := ⟨B.exec, B.bytes, hml, findClass_of_methodNamed B.named, atoms_spec (ws := wsX1_note) B.pre, hK, hN⟩
  have hW := ww_start (w := wC cy a r) hP hD0
  generalize va_A (wC cy a r S) s.heap.size = A at hW ⊢
  have hl := lv_entry ([.ref (a 39), .int p1, .int p2]) (n := 3) (Nat.le_of_ble_eq_true rfl)
  rw [lg_entry_eq]
  generalize (lg_sl ([.ref (a 39), .int p1, .int p2]) ++ List.replicate (3 - (lg_sl ([.ref (a 39), .int p1, .int p2])).length) Slot.unset).toArray = ls at hl ⊢
  have hl : lv_has ls 3 [(0, .ref (a 39)), (1, .int p1), (2, .int p2)] := hl
  unfold fX1_note at hf
  refine lv_aload_n C.1 C.2.1 dX1_note_0 rfl (lv_at hl 0 rfl) ?_
  refine fg_1_7 C kX1_note_1 mX1_note_38 hW dX1_note_1 ?_
  refine lv_sipush (v := 4000) C.1 C.2.1 dX1_note_4 (by decide) ?_
  refine lv_icmp_ge (tgt := 70) C.1 C.2.1 dX1_note_7 (by decide) (fun q1 => ?_) (fun q1 => ?_)
  · replace hf := (if_pos q1).symm.trans hf
    exact mrV C hr hlocks hf hW dX1_note_70
  · replace hf := (if_neg q1).symm.trans hf
    refine lv_aload_n C.1 C.2.1 dX1_note_10 rfl (lv_at hl 0 rfl) ?_
    refine fg_1_3 C kX1_note_1 mX1_note_22 hW dX1_note_11 ?_
    refine lv_aload_n C.1 C.2.1 dX1_note_14 rfl (lv_at hl 0 rfl) ?_
    refine fg_1_7 C kX1_note_1 mX1_note_38 hW dX1_note_15 ?_
    refine lv_iload_n C.1 C.2.1 dX1_note_18 rfl (lv_at hl 1 rfl) ?_
    obtain ⟨h2, hf⟩ := ckx_el hf
    obtain ⟨S3, eS3, hf⟩ := bnd_el hf
    refine as_1_3 C hW h2 dX1_note_19 eS3 (fun H locs hW => ?_)
    refine lv_aload_n C.1 C.2.1 dX1_note_20 rfl (lv_at hl 0 rfl) ?_
    refine fg_1_4 C kX1_note_1 mX1_note_25 hW dX1_note_21 ?_
    refine lv_aload_n C.1 C.2.1 dX1_note_24 rfl (lv_at hl 0 rfl) ?_
    refine fg_1_7 C kX1_note_1 mX1_note_38 hW dX1_note_25 ?_
    refine lv_iload_n C.1 C.2.1 dX1_note_28 rfl (lv_at hl 2 rfl) ?_
    obtain ⟨h4, hf⟩ := ckx_el hf
    obtain ⟨S5, eS5, hf⟩ := bnd_el hf
    refine as_1_4 C hW h4 dX1_note_29 eS5 (fun H locs hW => ?_)
    refine lv_aload_n C.1 C.2.1 dX1_note_30 rfl (lv_at hl 0 rfl) ?_
    refine fg_1_5 C kX1_note_1 mX1_note_28 hW dX1_note_31 ?_
    refine lv_aload_n C.1 C.2.1 dX1_note_34 rfl (lv_at hl 0 rfl) ?_
    refine fg_1_7 C kX1_note_1 mX1_note_38 hW dX1_note_35 ?_
    refine lv_aload_n C.1 C.2.1 dX1_note_38 rfl (lv_at hl 0 rfl) ?_
    refine lv_iload_n C.1 C.2.1 dX1_note_39 rfl (lv_at hl 2 rfl) ?_
    obtain ⟨v6, S8, h7, hf⟩ := bd2_el hf
    refine mcVi (w := wC cy a r) (S := S5) (As := [.int p2]) (rest := [.int (S5.1 27), .ref (a 25)]) (q0 := 1) (ci := 1) C (cX1_level_met l D cy a r _ N S5 p2 (v6, S8) h7) (cwV 1 C.2.2.2.2.1 gX1_note_X1_level rfl rfl rfl (by decide +kernel) ⟨Nat.le_of_ble_eq_true rfl, Nat.le_of_ble_eq_true rfl⟩) rfl rfl rfl hl.1 (Nat.le_of_ble_eq_true rfl) hW dX1_note_40 ⟨Nat.zero_le _, Nat.zero_le _⟩ rfl (fun H locs hW => ?_)
    obtain ⟨h9, hf⟩ := ckx_el hf
    obtain ⟨S10, eS10, hf⟩ := bnd_el hf
    refine as_1_5 C hW h9 dX1_note_43 eS10 (fun H locs hW => ?_)
    refine lv_aload_n C.1 C.2.1 dX1_note_44 rfl (lv_at hl 0 rfl) ?_
    refine fg_1_6 C kX1_note_1 mX1_note_31 hW dX1_note_45 ?_
    refine lv_aload_n C.1 C.2.1 dX1_note_48 rfl (lv_at hl 0 rfl) ?_
    refine fg_1_7 C kX1_note_1 mX1_note_38 hW dX1_note_49 ?_
    refine lv_aload_n C.1 C.2.1 dX1_note_52 rfl (lv_at hl 0 rfl) ?_
    refine fg_1_0 C kX1_note_1 mX1_note_12 hW dX1_note_53 ?_
    obtain ⟨v11, S13, h12, hf⟩ := bd2_el hf
    refine mcVi (w := wC cy a r) (S := S10) (As := []) (rest := [.int (S10.1 27), .ref (a 26)]) (q0 := 5) (ci := 5) C (cX5_size_met l D cy a r _ N S10  (v11, S13) h12) (cwV 0 C.2.2.2.2.1 gX1_note_X5_size rfl rfl rfl (by decide +kernel) ⟨Nat.le_of_ble_eq_true rfl, Nat.le_of_ble_eq_true rfl⟩) rfl rfl rfl hl.1 (Nat.le_of_ble_eq_true rfl) hW dX1_note_56 ⟨Nat.zero_le _, Nat.zero_le _⟩ rfl (fun H locs hW => ?_)
    obtain ⟨h14, hf⟩ := ckx_el hf
    obtain ⟨S15, eS15, hf⟩ := bnd_el hf
    refine as_1_6 C hW h14 dX1_note_59 eS15 (fun H locs hW => ?_)
    refine lv_aload_n C.1 C.2.1 dX1_note_60 rfl (lv_at hl 0 rfl) ?_
    refine lv_dup C.1 C.2.1 dX1_note_61 rfl ?_
    refine fg_1_7 C kX1_note_1 mX1_note_38 hW dX1_note_62 ?_
    refine lv_iconst (v := 1) C.1 C.2.1 dX1_note_65 (by decide) ?_
    refine lv_iadd C.1 C.2.1 dX1_note_66 ?_
    obtain ⟨S16, eS16, hf⟩ := bnd_el hf
    refine fp_1_7 C kX1_note_1 mX1_note_38 hW dX1_note_67 eS16 (fun H locs hW => ?_)
    exact mrV C hr hlocks hf hW dX1_note_70
theorem mX1_set_34 : Cond.fieldLink RX1 34 "SharedLambda$Context" "depth" "I" ∈ wsX1_set := by decide +kernel
theorem mX1_set_18 : Cond.fieldLink RX1 18 "SharedLambda$Context" "levels" "[I" ∈ wsX1_set := by decide +kernel
theorem kX1_set_1 : ∀ w ∈ u_ws RX1 TX1 8, w ∈ wsX1_set := fun _ h => List.mem_cons_of_mem _ (List.mem_append_right _ h)
def fX1_set_24s (N : Nat) (k24 : St × Int32 × Int32 → Option (St)) (S : St) (x1 : Int32) (x2 : Int32) : Option (St) :=
  if x1 < S.1 22 then
    ckx x1 4067 <|
    bnd (sA S 21 (upd (S.2.1 21) (x1 : Int32).toNatClampNeg x2)) fun S3 =>
    some S3
  else
    ckx (S.1 22) 4067 <|
    bnd (sA S 21 (upd (S.2.1 21) (S.1 22 : Int32).toNatClampNeg (0 : Int32))) fun S5 =>
    bnd (sI S5 22 ((S5.1 22 + (1 : Int32)))) fun S6 =>
    k24 (S6, x1, x2)
def fX1_set_24 (N : Nat) : St × Int32 × Int32 → Option (St) := loopN (fun k x => fX1_set_24s N k x.1 x.2.1 x.2.2) N
set_option maxHeartbeats 4000000 in
set_option maxRecDepth 100000 in
theorem lX1_set_24 {p : Program} {l : Launch} {e : Env} {s : State} {m : MethodId} {args : Array Value} {below : List Frame} {meth : Method} {c : Code} {D : va_G} {cy : Nat → ClassId} {a r : Nat → Nat} {A : Nat → Prop} {Rr : St} (C : Cx p s m args c cX1_set 3 wsX1_set RX1 D cy) (hr : meth.sig.returnType = none) (hlocks : meth.locks = false) (N : Nat) : ∀ (n : Nat) (S : St) (x1 : Int32) (x2 : Int32), loopN (fun k x => fX1_set_24s N k x.1 x.2.1 x.2.2) n (S, x1, x2) = some Rr → ∀ (H : Heap) (locs : List Loc) (ls : Array Slot), WW D A s.heap (wC cy a r S) H locs → lv_has ls 3 [(0, .ref (a 39)), (1, .int x1), (2, .int x2)] → W p l e ({ frames := 0, cells := 0, slots := 0, locals := 0 } : Room) s m args below meth c H locs 0 0 (MQ below (QV D cy (wC cy a r) A Rr) args s 0 0 A) (F0 m 24 ls []) := by
  intro n
  induction n with
  | zero =>
    intro S x1 x2 hf
    cases hf
  | succ n ih =>
    intro S x1 x2 hf H locs ls hW hl
    have hf : fX1_set_24s N (loopN (fun k x => fX1_set_24s N k x.1 x.2.1 x.2.2) n) S x1 x2 = some Rr := hf
    unfold fX1_set_24s at hf
    refine lv_aload_n C.1 C.2.1 dX1_set_24 rfl (lv_at hl 0 rfl) ?_
    refine fg_1_2 C kX1_set_1 mX1_set_34 hW dX1_set_25 ?_
    refine lv_iload_n C.1 C.2.1 dX1_set_28 rfl (lv_at hl 1 rfl) ?_
    refine lv_icmp_gt (tgt := 55) C.1 C.2.1 dX1_set_29 (by decide) (fun q1 => ?_) (fun q1 => ?_)
    · replace hf := (if_pos q1).symm.trans hf
      refine lv_aload_n C.1 C.2.1 dX1_set_55 rfl (lv_at hl 0 rfl) ?_
      refine fg_1_1 C kX1_set_1 mX1_set_18 hW dX1_set_56 ?_
      refine lv_iload_n C.1 C.2.1 dX1_set_59 rfl (lv_at hl 1 rfl) ?_
      refine lv_iload_n C.1 C.2.1 dX1_set_60 rfl (lv_at hl 2 rfl) ?_
      obtain ⟨h2, hf⟩ := ckx_el hf
      obtain ⟨S3, eS3, hf⟩ := bnd_el hf
      refine as_1_1 C hW h2 dX1_set_61 eS3 (fun H locs hW => ?_)
      exact mrV C hr hlocks hf hW dX1_set_62
    · replace hf := (if_neg q1).symm.trans hf
      refine lv_aload_n C.1 C.2.1 dX1_set_32 rfl (lv_at hl 0 rfl) ?_
      refine fg_1_1 C kX1_set_1 mX1_set_18 hW dX1_set_33 ?_
      refine lv_aload_n C.1 C.2.1 dX1_set_36 rfl (lv_at hl 0 rfl) ?_
      refine fg_1_2 C kX1_set_1 mX1_set_34 hW dX1_set_37 ?_
      refine lv_iconst (v := 0) C.1 C.2.1 dX1_set_40 (by decide) ?_
      obtain ⟨h4, hf⟩ := ckx_el hf
      obtain ⟨S5, eS5, hf⟩ := bnd_el hf
      refine as_1_1 C hW h4 dX1_set_41 eS5 (fun H locs hW => ?_)
      refine lv_aload_n C.1 C.2.1 dX1_set_42 rfl (lv_at hl 0 rfl) ?_
      refine lv_dup C.1 C.2.1 dX1_set_43 rfl ?_
      refine fg_1_2 C kX1_set_1 mX1_set_34 hW dX1_set_44 ?_
      refine lv_iconst (v := 1) C.1 C.2.1 dX1_set_47 (by decide) ?_
      refine lv_iadd C.1 C.2.1 dX1_set_48 ?_
      obtain ⟨S6, eS6, hf⟩ := bnd_el hf
      refine fp_1_2 C kX1_set_1 mX1_set_34 hW dX1_set_49 eS6 (fun H locs hW => ?_)
      refine lv_goto (tgt := 24) C.1 C.2.1 dX1_set_52 (by decide) ?_
      exact ih _ _ _ hf _ _ _ hW (lv_sub hl [0, 1, 2] rfl)
def fX1_set (N : Nat) (S : St) (p1 : Int32) (p2 : Int32) : Option (St) :=
  if p1 < 0 then
    some S
  else
    if (4067 : Int32) ≤ p1 then
      some S
    else
      if p1 < S.1 22 then
        fX1_set_24 N (S, p1, p2)
      else
        if p2 = 0 then
          some S
        else
          fX1_set_24 N (S, p1, p2)
set_option maxHeartbeats 4000000 in
set_option maxRecDepth 100000 in
theorem cX1_set_met (l : Launch) (D : va_G) (cy : Nat → ClassId) (a r : Nat → Nat) (sz N : Nat) (S : St) (p1 : Int32) (p2 : Int32) (Rr : St) (hf : fX1_set N S p1 p2 = some Rr) : Met l yX1_set wsX1_set ({ frames := 0, cells := 0, slots := 0, locals := 0 } : Room) (va_Pc [.ref (a 39), .int p1, .int p2] (preW D cy (wC cy a r S) sz)) (QV D cy (wC cy a r) (va_A (wC cy a r S) sz) Rr) 0 0 (va_A (wC cy a r S) sz) := by
  refine Met.ofW (cc := cX1_set) (maxL := 3) (ret := none) (by decide) rfl ?_
  intro p e s m args below meth c s₁ B hml hv
  obtain ⟨rfl, rfl, hP, hK, hD0, hN⟩ := hv
  have hlocks := B.notSynchronized
  have hr := B.returns
  have C : Cx p s m _ c cX1_set 3 wsX1_set RX1 D cy := ⟨B.exec, B.bytes, hml, findClass_of_methodNamed B.named, atoms_spec (ws := wsX1_set) B.pre, hK, hN⟩
  have hW := ww_start (w := wC cy a r) hP hD0
  generalize va_A (wC cy a r S) s.heap.size = A at hW ⊢
  have hl := lv_entry ([.ref (a 39), .int p1, .int p2]) (n := 3) (Nat.le_of_ble_eq_true rfl)
  rw [lg_entry_eq]
  generalize (lg_sl ([.ref (a 39), .int p1, .int p2]) ++ List.replicate (3 - (lg_sl ([.ref (a 39), .int p1, .int p2])).length) Slot.unset).toArray = ls at hl ⊢
  have hl : lv_has ls 3 [(0, .ref (a 39)), (1, .int p1), (2, .int p2)] := hl
  unfold fX1_set at hf
  refine lv_iload_n C.1 C.2.1 dX1_set_0 rfl (lv_at hl 1 rfl) ?_
  refine lv_if_lt (tgt := 23) C.1 C.2.1 dX1_set_1 (by decide) (fun q1 => ?_) (fun q1 => ?_)
  · replace hf := (if_pos q1).symm.trans hf
    exact mrV C hr hlocks hf hW dX1_set_23
  · replace hf := (if_neg q1).symm.trans hf
    refine lv_iload_n C.1 C.2.1 dX1_set_4 rfl (lv_at hl 1 rfl) ?_
    refine lv_sipush (v := 4067) C.1 C.2.1 dX1_set_5 (by decide) ?_
    refine lv_icmp_ge (tgt := 23) C.1 C.2.1 dX1_set_8 (by decide) (fun q2 => ?_) (fun q2 => ?_)
    · replace hf := (if_pos q2).symm.trans hf
      exact mrV C hr hlocks hf hW dX1_set_23
    · replace hf := (if_neg q2).symm.trans hf
      refine lv_iload_n C.1 C.2.1 dX1_set_11 rfl (lv_at hl 1 rfl) ?_
      refine lv_aload_n C.1 C.2.1 dX1_set_12 rfl (lv_at hl 0 rfl) ?_
      refine fg_1_2 C kX1_set_1 mX1_set_34 hW dX1_set_13 ?_
      refine lv_icmp_lt (tgt := 24) C.1 C.2.1 dX1_set_16 (by decide) (fun q3 => ?_) (fun q3 => ?_)
      · replace hf := (if_pos q3).symm.trans hf
        exact lX1_set_24 C hr hlocks N _ _ _ _ hf _ _ _ hW (lv_sub hl [0, 1, 2] rfl)
      · replace hf := (if_neg q3).symm.trans hf
        refine lv_iload_n C.1 C.2.1 dX1_set_19 rfl (lv_at hl 2 rfl) ?_
        refine lv_if_ne (tgt := 24) C.1 C.2.1 dX1_set_20 (by decide) (fun q4 => ?_) (fun q4 => ?_)
        · replace hf := (if_neg q4).symm.trans hf
          exact lX1_set_24 C hr hlocks N _ _ _ _ hf _ _ _ hW (lv_sub hl [0, 1, 2] rfl)
        · replace hf := (if_pos q4).symm.trans hf
          exact mrV C hr hlocks hf hW dX1_set_23
theorem mX1_insert_34 : Cond.fieldLink RX1 34 "SharedLambda$Context" "depth" "I" ∈ wsX1_insert := by decide +kernel
theorem mX1_insert_18 : Cond.fieldLink RX1 18 "SharedLambda$Context" "levels" "[I" ∈ wsX1_insert := by decide +kernel
theorem mX1_insert_82 : Cond.methodLink RX1 82 arraycopyName ∈ wsX1_insert := by decide +kernel
theorem mX1_insert_nat : Cond.native arraycopyName ∈ wsX1_insert := by decide +kernel
theorem mX1_insert_stc : Cond.static arraycopyName ∈ wsX1_insert := by decide +kernel
theorem mX1_insert_ini : Cond.initialized "java/lang/System" ∈ wsX1_insert := by decide +kernel
theorem kX1_insert_1 : ∀ w ∈ u_ws RX1 TX1 8, w ∈ wsX1_insert := fun _ h => List.mem_cons_of_mem _ (List.mem_append_right _ h)
def fX1_insert (N : Nat) (S : St) (p1 : Int32) (p2 : Int32) : Option (St) :=
  if p1 < S.1 22 then
    if p1 < 0 then
      some S
    else
      if (4067 : Int32) ≤ S.1 22 then
        some S
      else
        ckc p1 ((p1 + (1 : Int32))) (S.1 22 - p1) 4067 4067 <|
        bnd (sA S 21 (va_cpy (S.2.1 21) (S.2.1 21) (p1 : Int32).toNatClampNeg ((p1 + (1 : Int32)) : Int32).toNatClampNeg ((S.1 22 - p1) : Int32).toNatClampNeg)) fun S5 =>
        ckx p1 4067 <|
        bnd (sA S5 21 (upd (S5.2.1 21) (p1 : Int32).toNatClampNeg p2)) fun S7 =>
        bnd (sI S7 22 ((S7.1 22 + (1 : Int32)))) fun S8 =>
        some S8
  else
    bdo (fX1_set N S p1 p2) fun S11 =>
    some S11
set_option maxHeartbeats 4000000 in
set_option maxRecDepth 100000 in
theorem cX1_insert_met (l : Launch) (D : va_G) (cy : Nat → ClassId) (a r : Nat → Nat) (sz N : Nat) (S : St) (p1 : Int32) (p2 : Int32) (Rr : St) (hf : fX1_insert N S p1 p2 = some Rr) : Met l yX1_insert wsX1_insert ({ frames := 1, cells := 0, slots := 0, locals := 26 } : Room) (va_Pc [.ref (a 39), .int p1, .int p2] (preW D cy (wC cy a r S) sz)) (QV D cy (wC cy a r) (va_A (wC cy a r S) sz) Rr) 0 0 (va_A (wC cy a r S) sz) := by
  refine Met.ofW (cc := cX1_insert) (maxL := 3) (ret := none) (by decide) rfl ?_
  intro p e s m args below meth c s₁ B hml hv
  obtain ⟨rfl, rfl, hP, hK, hD0, hN⟩ := hv
  have hlocks := B.notSynchronized
  have hr := B.returns
  have C : Cx p s m _ c cX1_insert 3 wsX1_insert RX1 D cy := ⟨B.exec, B.bytes, hml, findClass_of_methodNamed B.named, atoms_spec (ws := wsX1_insert) B.pre, hK, hN⟩
  have hW := ww_start (w := wC cy a r) hP hD0
  generalize va_A (wC cy a r S) s.heap.size = A at hW ⊢
  have hl := lv_entry ([.ref (a 39), .int p1, .int p2]) (n := 3) (Nat.le_of_ble_eq_true rfl)
  rw [lg_entry_eq]
  generalize (lg_sl ([.ref (a 39), .int p1, .int p2]) ++ List.replicate (3 - (lg_sl ([.ref (a 39), .int p1, .int p2])).length) Slot.unset).toArray = ls at hl ⊢
  have hl : lv_has ls 3 [(0, .ref (a 39)), (1, .int p1), (2, .int p2)] := hl
  unfold fX1_insert at hf
  refine lv_iload_n C.1 C.2.1 dX1_insert_0 rfl (lv_at hl 1 rfl) ?_
  refine lv_aload_n C.1 C.2.1 dX1_insert_1 rfl (lv_at hl 0 rfl) ?_
  refine fg_1_2 C kX1_insert_1 mX1_insert_34 hW dX1_insert_2 ?_
  refine lv_icmp_lt (tgt := 17) C.1 C.2.1 dX1_insert_5 (by decide) (fun q1 => ?_) (fun q1 => ?_)
  · replace hf := (if_pos q1).symm.trans hf
    refine lv_iload_n C.1 C.2.1 dX1_insert_17 rfl (lv_at hl 1 rfl) ?_
    refine lv_if_lt (tgt := 69) C.1 C.2.1 dX1_insert_18 (by decide) (fun q2 => ?_) (fun q2 => ?_)
    · replace hf := (if_pos q2).symm.trans hf
      exact mrV C hr hlocks hf hW dX1_insert_69
    · replace hf := (if_neg q2).symm.trans hf
      refine lv_aload_n C.1 C.2.1 dX1_insert_21 rfl (lv_at hl 0 rfl) ?_
      refine fg_1_2 C kX1_insert_1 mX1_insert_34 hW dX1_insert_22 ?_
      refine lv_sipush (v := 4067) C.1 C.2.1 dX1_insert_25 (by decide) ?_
      refine lv_icmp_ge (tgt := 69) C.1 C.2.1 dX1_insert_28 (by decide) (fun q3 => ?_) (fun q3 => ?_)
      · replace hf := (if_pos q3).symm.trans hf
        exact mrV C hr hlocks hf hW dX1_insert_69
      · replace hf := (if_neg q3).symm.trans hf
        refine lv_aload_n C.1 C.2.1 dX1_insert_31 rfl (lv_at hl 0 rfl) ?_
        refine fg_1_1 C kX1_insert_1 mX1_insert_18 hW dX1_insert_32 ?_
        refine lv_iload_n C.1 C.2.1 dX1_insert_35 rfl (lv_at hl 1 rfl) ?_
        refine lv_aload_n C.1 C.2.1 dX1_insert_36 rfl (lv_at hl 0 rfl) ?_
        refine fg_1_1 C kX1_insert_1 mX1_insert_18 hW dX1_insert_37 ?_
        refine lv_iload_n C.1 C.2.1 dX1_insert_40 rfl (lv_at hl 1 rfl) ?_
        refine lv_iconst (v := 1) C.1 C.2.1 dX1_insert_41 (by decide) ?_
        refine lv_iadd C.1 C.2.1 dX1_insert_42 ?_
        refine lv_aload_n C.1 C.2.1 dX1_insert_43 rfl (lv_at hl 0 rfl) ?_
        refine fg_1_2 C kX1_insert_1 mX1_insert_34 hW dX1_insert_44 ?_
        refine lv_iload_n C.1 C.2.1 dX1_insert_47 rfl (lv_at hl 1 rfl) ?_
        refine lv_isub C.1 C.2.1 dX1_insert_48 ?_
        obtain ⟨h4, hf⟩ := ckc_el hf
        obtain ⟨S5, eS5, hf⟩ := bnd_el hf
        refine cp_1_1 C hW mX1_insert_82 mX1_insert_nat mX1_insert_stc mX1_insert_ini h4 hl.1 (Nat.le_of_ble_eq_true rfl) (by decide +kernel) dX1_insert_49 eS5 (fun H locs hW => ?_)
        refine lv_aload_n C.1 C.2.1 dX1_insert_52 rfl (lv_at hl 0 rfl) ?_
        refine fg_1_1 C kX1_insert_1 mX1_insert_18 hW dX1_insert_53 ?_
        refine lv_iload_n C.1 C.2.1 dX1_insert_56 rfl (lv_at hl 1 rfl) ?_
        refine lv_iload_n C.1 C.2.1 dX1_insert_57 rfl (lv_at hl 2 rfl) ?_
        obtain ⟨h6, hf⟩ := ckx_el hf
        obtain ⟨S7, eS7, hf⟩ := bnd_el hf
        refine as_1_1 C hW h6 dX1_insert_58 eS7 (fun H locs hW => ?_)
        refine lv_aload_n C.1 C.2.1 dX1_insert_59 rfl (lv_at hl 0 rfl) ?_
        refine lv_dup C.1 C.2.1 dX1_insert_60 rfl ?_
        refine fg_1_2 C kX1_insert_1 mX1_insert_34 hW dX1_insert_61 ?_
        refine lv_iconst (v := 1) C.1 C.2.1 dX1_insert_64 (by decide) ?_
        refine lv_iadd C.1 C.2.1 dX1_insert_65 ?_
        obtain ⟨S8, eS8, hf⟩ := bnd_el hf
        refine fp_1_2 C kX1_insert_1 mX1_insert_34 hW dX1_insert_66 eS8 (fun H locs hW => ?_)
        exact mrV C hr hlocks hf hW dX1_insert_69
  · replace hf := (if_neg q1).symm.trans hf
    refine lv_aload_n C.1 C.2.1 dX1_insert_8 rfl (lv_at hl 0 rfl) ?_
    refine lv_iload_n C.1 C.2.1 dX1_insert_9 rfl (lv_at hl 1 rfl) ?_
    refine lv_iload_n C.1 C.2.1 dX1_insert_10 rfl (lv_at hl 2 rfl) ?_
    obtain ⟨S11, h10, hf⟩ := bdo_el hf
    refine mcVv (w := wC cy a r) (S := S) (As := [.int p1, .int p2]) (rest := []) (q0 := 1) (ci := 1) C (cX1_set_met l D cy a r _ N S p1 p2 S11 h10) (cwV 2 C.2.2.2.2.1 gX1_insert_X1_set rfl rfl rfl (by decide +kernel) ⟨Nat.le_of_ble_eq_true rfl, Nat.le_of_ble_eq_true rfl⟩) rfl rfl rfl hl.1 (Nat.le_of_ble_eq_true rfl) hW dX1_insert_11 ⟨Nat.zero_le _, Nat.zero_le _⟩ rfl (fun H locs hW => ?_)
    refine lv_goto (tgt := 69) C.1 C.2.1 dX1_insert_14 (by decide) ?_
    exact mrV C hr hlocks hf hW dX1_insert_69
def fX1_addBox (N : Nat) (S : St) (p1 : Int32) : Option (St) :=
  bdo (fX1_note N S (0 : Int32) p1) fun S3 =>
  bdo (fX1_insert N S3 p1 (0 : Int32)) fun S6 =>
  some S6
set_option maxHeartbeats 4000000 in
set_option maxRecDepth 100000 in
theorem cX1_addBox_met (l : Launch) (D : va_G) (cy : Nat → ClassId) (a r : Nat → Nat) (sz N : Nat) (S : St) (p1 : Int32) (Rr : St) (hf : fX1_addBox N S p1 = some Rr) : Met l yX1_addBox wsX1_addBox ({ frames := 2, cells := 0, slots := 0, locals := 48 } : Room) (va_Pc [.ref (a 39), .int p1] (preW D cy (wC cy a r S) sz)) (QV D cy (wC cy a r) (va_A (wC cy a r S) sz) Rr) 0 0 (va_A (wC cy a r S) sz) := by
  refine Met.ofW (cc := cX1_addBox) (maxL := 2) (ret := none) (by decide) rfl ?_
  intro p e s m args below meth c s₁ B hml hv
  obtain ⟨rfl, rfl, hP, hK, hD0, hN⟩ := hv
  have hlocks := B.notSynchronized
  have hr := B.returns
  have C : Cx p s m _ c cX1_addBox 2 wsX1_addBox RX1 D cy := ⟨B.exec, B.bytes, hml, findClass_of_methodNamed B.named, atoms_spec (ws := wsX1_addBox) B.pre, hK, hN⟩
  have hW := ww_start (w := wC cy a r) hP hD0
  generalize va_A (wC cy a r S) s.heap.size = A at hW ⊢
  have hl := lv_entry ([.ref (a 39), .int p1]) (n := 2) (Nat.le_of_ble_eq_true rfl)
  rw [lg_entry_eq]
  generalize (lg_sl ([.ref (a 39), .int p1]) ++ List.replicate (2 - (lg_sl ([.ref (a 39), .int p1])).length) Slot.unset).toArray = ls at hl ⊢
  have hl : lv_has ls 2 [(0, .ref (a 39)), (1, .int p1)] := hl
  unfold fX1_addBox at hf
  refine lv_aload_n C.1 C.2.1 dX1_addBox_0 rfl (lv_at hl 0 rfl) ?_
  refine lv_iconst (v := 0) C.1 C.2.1 dX1_addBox_1 (by decide) ?_
  refine lv_iload_n C.1 C.2.1 dX1_addBox_2 rfl (lv_at hl 1 rfl) ?_
  obtain ⟨S3, h2, hf⟩ := bdo_el hf
  refine mcVv (w := wC cy a r) (S := S) (As := [.int (0 : Int32), .int p1]) (rest := []) (q0 := 1) (ci := 1) C (cX1_note_met l D cy a r _ N S (0 : Int32) p1 S3 h2) (cwV 2 C.2.2.2.2.1 gX1_addBox_X1_note rfl rfl rfl (by decide +kernel) ⟨Nat.le_of_ble_eq_true rfl, Nat.le_of_ble_eq_true rfl⟩) rfl rfl rfl hl.1 (Nat.le_of_ble_eq_true rfl) hW dX1_addBox_3 ⟨Nat.zero_le _, Nat.zero_le _⟩ rfl (fun H locs hW => ?_)
  refine lv_aload_n C.1 C.2.1 dX1_addBox_6 rfl (lv_at hl 0 rfl) ?_
  refine lv_iload_n C.1 C.2.1 dX1_addBox_7 rfl (lv_at hl 1 rfl) ?_
  refine lv_iconst (v := 0) C.1 C.2.1 dX1_addBox_8 (by decide) ?_
  obtain ⟨S6, h5, hf⟩ := bdo_el hf
  refine mcVv (w := wC cy a r) (S := S3) (As := [.int p1, .int (0 : Int32)]) (rest := []) (q0 := 1) (ci := 1) C (cX1_insert_met l D cy a r _ N S3 p1 (0 : Int32) S6 h5) (cwV 2 C.2.2.2.2.1 gX1_addBox_X1_insert rfl rfl rfl (by decide +kernel) ⟨Nat.le_of_ble_eq_true rfl, Nat.le_of_ble_eq_true rfl⟩) rfl rfl rfl hl.1 (Nat.le_of_ble_eq_true rfl) hW dX1_addBox_9 ⟨Nat.zero_le _, Nat.zero_le _⟩ rfl (fun H locs hW => ?_)
  exact mrV C hr hlocks hf hW dX1_addBox_12
theorem mX1_delete_34 : Cond.fieldLink RX1 34 "SharedLambda$Context" "depth" "I" ∈ wsX1_delete := by decide +kernel
theorem mX1_delete_18 : Cond.fieldLink RX1 18 "SharedLambda$Context" "levels" "[I" ∈ wsX1_delete := by decide +kernel
theorem mX1_delete_82 : Cond.methodLink RX1 82 arraycopyName ∈ wsX1_delete := by decide +kernel
theorem mX1_delete_nat : Cond.native arraycopyName ∈ wsX1_delete := by decide +kernel
theorem mX1_delete_stc : Cond.static arraycopyName ∈ wsX1_delete := by decide +kernel
theorem mX1_delete_ini : Cond.initialized "java/lang/System" ∈ wsX1_delete := by decide +kernel
theorem kX1_delete_1 : ∀ w ∈ u_ws RX1 TX1 8, w ∈ wsX1_delete := fun _ h => List.mem_cons_of_mem _ (List.mem_append_right _ h)
def fX1_delete (N : Nat) (S : St) (p1 : Int32) : Option (St) :=
  if p1 < 0 then
    some S
  else
    if S.1 22 ≤ p1 then
      some S
    else
      if (4067 : Int32) < S.1 22 then
        some S
      else
        ckc ((p1 + (1 : Int32))) p1 (((S.1 22 - p1) - (1 : Int32))) 4067 4067 <|
        bnd (sA S 21 (va_cpy (S.2.1 21) (S.2.1 21) ((p1 + (1 : Int32)) : Int32).toNatClampNeg (p1 : Int32).toNatClampNeg (((S.1 22 - p1) - (1 : Int32)) : Int32).toNatClampNeg)) fun S5 =>
        bnd (sI S5 22 ((S5.1 22 - (1 : Int32)))) fun S6 =>
        some S6
set_option maxHeartbeats 4000000 in
set_option maxRecDepth 100000 in
theorem cX1_delete_met (l : Launch) (D : va_G) (cy : Nat → ClassId) (a r : Nat → Nat) (sz N : Nat) (S : St) (p1 : Int32) (Rr : St) (hf : fX1_delete N S p1 = some Rr) : Met l yX1_delete wsX1_delete ({ frames := 1, cells := 0, slots := 0, locals := 26 } : Room) (va_Pc [.ref (a 39), .int p1] (preW D cy (wC cy a r S) sz)) (QV D cy (wC cy a r) (va_A (wC cy a r S) sz) Rr) 0 0 (va_A (wC cy a r S) sz) := by
  refine Met.ofW (cc := cX1_delete) (maxL := 2) (ret := none) (by decide) rfl ?_
  intro p e s m args below meth c s₁ B hml hv
  obtain ⟨rfl, rfl, hP, hK, hD0, hN⟩ := hv
  have hlocks := B.notSynchronized
  have hr := B.returns
  have C : Cx p s m _ c cX1_delete 2 wsX1_delete RX1 D cy := ⟨B.exec, B.bytes, hml, findClass_of_methodNamed B.named, atoms_spec (ws := wsX1_delete) B.pre, hK, hN⟩
  have hW := ww_start (w := wC cy a r) hP hD0
  generalize va_A (wC cy a r S) s.heap.size = A at hW ⊢
  have hl := lv_entry ([.ref (a 39), .int p1]) (n := 2) (Nat.le_of_ble_eq_true rfl)
  rw [lg_entry_eq]
  generalize (lg_sl ([.ref (a 39), .int p1]) ++ List.replicate (2 - (lg_sl ([.ref (a 39), .int p1])).length) Slot.unset).toArray = ls at hl ⊢
  have hl : lv_has ls 2 [(0, .ref (a 39)), (1, .int p1)] := hl
  unfold fX1_delete at hf
  refine lv_iload_n C.1 C.2.1 dX1_delete_0 rfl (lv_at hl 1 rfl) ?_
  refine lv_if_lt (tgt := 55) C.1 C.2.1 dX1_delete_1 (by decide) (fun q1 => ?_) (fun q1 => ?_)
  · replace hf := (if_pos q1).symm.trans hf
    exact mrV C hr hlocks hf hW dX1_delete_55
  · replace hf := (if_neg q1).symm.trans hf
    refine lv_iload_n C.1 C.2.1 dX1_delete_4 rfl (lv_at hl 1 rfl) ?_
    refine lv_aload_n C.1 C.2.1 dX1_delete_5 rfl (lv_at hl 0 rfl) ?_
    refine fg_1_2 C kX1_delete_1 mX1_delete_34 hW dX1_delete_6 ?_
    refine lv_icmp_ge (tgt := 55) C.1 C.2.1 dX1_delete_9 (by decide) (fun q2 => ?_) (fun q2 => ?_)
    · replace hf := (if_pos q2).symm.trans hf
      exact mrV C hr hlocks hf hW dX1_delete_55
    · replace hf := (if_neg q2).symm.trans hf
      refine lv_aload_n C.1 C.2.1 dX1_delete_12 rfl (lv_at hl 0 rfl) ?_
      refine fg_1_2 C kX1_delete_1 mX1_delete_34 hW dX1_delete_13 ?_
      refine lv_sipush (v := 4067) C.1 C.2.1 dX1_delete_16 (by decide) ?_
      refine lv_icmp_gt (tgt := 55) C.1 C.2.1 dX1_delete_19 (by decide) (fun q3 => ?_) (fun q3 => ?_)
      · replace hf := (if_pos q3).symm.trans hf
        exact mrV C hr hlocks hf hW dX1_delete_55
      · replace hf := (if_neg q3).symm.trans hf
        refine lv_aload_n C.1 C.2.1 dX1_delete_22 rfl (lv_at hl 0 rfl) ?_
        refine fg_1_1 C kX1_delete_1 mX1_delete_18 hW dX1_delete_23 ?_
        refine lv_iload_n C.1 C.2.1 dX1_delete_26 rfl (lv_at hl 1 rfl) ?_
        refine lv_iconst (v := 1) C.1 C.2.1 dX1_delete_27 (by decide) ?_
        refine lv_iadd C.1 C.2.1 dX1_delete_28 ?_
        refine lv_aload_n C.1 C.2.1 dX1_delete_29 rfl (lv_at hl 0 rfl) ?_
        refine fg_1_1 C kX1_delete_1 mX1_delete_18 hW dX1_delete_30 ?_
        refine lv_iload_n C.1 C.2.1 dX1_delete_33 rfl (lv_at hl 1 rfl) ?_
        refine lv_aload_n C.1 C.2.1 dX1_delete_34 rfl (lv_at hl 0 rfl) ?_
        refine fg_1_2 C kX1_delete_1 mX1_delete_34 hW dX1_delete_35 ?_
        refine lv_iload_n C.1 C.2.1 dX1_delete_38 rfl (lv_at hl 1 rfl) ?_
        refine lv_isub C.1 C.2.1 dX1_delete_39 ?_
        refine lv_iconst (v := 1) C.1 C.2.1 dX1_delete_40 (by decide) ?_
        refine lv_isub C.1 C.2.1 dX1_delete_41 ?_
        obtain ⟨h4, hf⟩ := ckc_el hf
        obtain ⟨S5, eS5, hf⟩ := bnd_el hf
        refine cp_1_1 C hW mX1_delete_82 mX1_delete_nat mX1_delete_stc mX1_delete_ini h4 hl.1 (Nat.le_of_ble_eq_true rfl) (by decide +kernel) dX1_delete_42 eS5 (fun H locs hW => ?_)
        refine lv_aload_n C.1 C.2.1 dX1_delete_45 rfl (lv_at hl 0 rfl) ?_
        refine lv_dup C.1 C.2.1 dX1_delete_46 rfl ?_
        refine fg_1_2 C kX1_delete_1 mX1_delete_34 hW dX1_delete_47 ?_
        refine lv_iconst (v := 1) C.1 C.2.1 dX1_delete_50 (by decide) ?_
        refine lv_isub C.1 C.2.1 dX1_delete_51 ?_
        obtain ⟨S6, eS6, hf⟩ := bnd_el hf
        refine fp_1_2 C kX1_delete_1 mX1_delete_34 hW dX1_delete_52 eS6 (fun H locs hW => ?_)
        exact mrV C hr hlocks hf hW dX1_delete_55
def fX1_drop (N : Nat) (S : St) (p1 : Int32) : Option (St) :=
  bdo (fX1_note N S (1 : Int32) p1) fun S3 =>
  bdo (fX1_delete N S3 p1) fun S6 =>
  some S6
set_option maxHeartbeats 4000000 in
set_option maxRecDepth 100000 in
theorem cX1_drop_met (l : Launch) (D : va_G) (cy : Nat → ClassId) (a r : Nat → Nat) (sz N : Nat) (S : St) (p1 : Int32) (Rr : St) (hf : fX1_drop N S p1 = some Rr) : Met l yX1_drop wsX1_drop ({ frames := 2, cells := 0, slots := 0, locals := 47 } : Room) (va_Pc [.ref (a 39), .int p1] (preW D cy (wC cy a r S) sz)) (QV D cy (wC cy a r) (va_A (wC cy a r S) sz) Rr) 0 0 (va_A (wC cy a r S) sz) := by
  refine Met.ofW (cc := cX1_drop) (maxL := 2) (ret := none) (by decide) rfl ?_
  intro p e s m args below meth c s₁ B hml hv
  obtain ⟨rfl, rfl, hP, hK, hD0, hN⟩ := hv
  have hlocks := B.notSynchronized
  have hr := B.returns
  have C : Cx p s m _ c cX1_drop 2 wsX1_drop RX1 D cy := ⟨B.exec, B.bytes, hml, findClass_of_methodNamed B.named, atoms_spec (ws := wsX1_drop) B.pre, hK, hN⟩
  have hW := ww_start (w := wC cy a r) hP hD0
  generalize va_A (wC cy a r S) s.heap.size = A at hW ⊢
  have hl := lv_entry ([.ref (a 39), .int p1]) (n := 2) (Nat.le_of_ble_eq_true rfl)
  rw [lg_entry_eq]
  generalize (lg_sl ([.ref (a 39), .int p1]) ++ List.replicate (2 - (lg_sl ([.ref (a 39), .int p1])).length) Slot.unset).toArray = ls at hl ⊢
  have hl : lv_has ls 2 [(0, .ref (a 39)), (1, .int p1)] := hl
  unfold fX1_drop at hf
  refine lv_aload_n C.1 C.2.1 dX1_drop_0 rfl (lv_at hl 0 rfl) ?_
  refine lv_iconst (v := 1) C.1 C.2.1 dX1_drop_1 (by decide) ?_
  refine lv_iload_n C.1 C.2.1 dX1_drop_2 rfl (lv_at hl 1 rfl) ?_
  obtain ⟨S3, h2, hf⟩ := bdo_el hf
  refine mcVv (w := wC cy a r) (S := S) (As := [.int (1 : Int32), .int p1]) (rest := []) (q0 := 1) (ci := 1) C (cX1_note_met l D cy a r _ N S (1 : Int32) p1 S3 h2) (cwV 2 C.2.2.2.2.1 gX1_drop_X1_note rfl rfl rfl (by decide +kernel) ⟨Nat.le_of_ble_eq_true rfl, Nat.le_of_ble_eq_true rfl⟩) rfl rfl rfl hl.1 (Nat.le_of_ble_eq_true rfl) hW dX1_drop_3 ⟨Nat.zero_le _, Nat.zero_le _⟩ rfl (fun H locs hW => ?_)
  refine lv_aload_n C.1 C.2.1 dX1_drop_6 rfl (lv_at hl 0 rfl) ?_
  refine lv_iload_n C.1 C.2.1 dX1_drop_7 rfl (lv_at hl 1 rfl) ?_
  obtain ⟨S6, h5, hf⟩ := bdo_el hf
  refine mcVv (w := wC cy a r) (S := S3) (As := [.int p1]) (rest := []) (q0 := 1) (ci := 1) C (cX1_delete_met l D cy a r _ N S3 p1 S6 h5) (cwV 1 C.2.2.2.2.1 gX1_drop_X1_delete rfl rfl rfl (by decide +kernel) ⟨Nat.le_of_ble_eq_true rfl, Nat.le_of_ble_eq_true rfl⟩) rfl rfl rfl hl.1 (Nat.le_of_ble_eq_true rfl) hW dX1_drop_8 ⟨Nat.zero_le _, Nat.zero_le _⟩ rfl (fun H locs hW => ?_)
  exact mrV C hr hlocks hf hW dX1_drop_11
theorem mX1_pairUp_12 : Cond.fieldLink RX1 12 "SharedLambda$Context" "trees" "LSharedLambda$Trees;" ∈ wsX1_pairUp := by decide +kernel
theorem kX1_pairUp_1 : ∀ w ∈ u_ws RX1 TX1 8, w ∈ wsX1_pairUp := fun _ h => List.mem_cons_of_mem _ (List.mem_append_left _ (List.mem_append_right _ h))
def fX1_pairUp (N : Nat) (S : St) (p1 : Int32) : Option (St) :=
  bdo (fX1_note N S (2 : Int32) p1) fun S3 =>
  bd2 (fX1_level N S3 p1) fun v4 S6 =>
  bd2 (fX1_level N S6 ((p1 + (1 : Int32)))) fun v7 S9 =>
  bd2 (fX5_tree N S9 (3 : Int32) v4 v7) fun v10 S12 =>
  bdo (fX1_set N S12 p1 v10) fun S15 =>
  bdo (fX1_delete N S15 ((p1 + (1 : Int32)))) fun S18 =>
  some S18
set_option maxHeartbeats 4000000 in
set_option maxRecDepth 100000 in
theorem cX1_pairUp_met (l : Launch) (D : va_G) (cy : Nat → ClassId) (a r : Nat → Nat) (sz N : Nat) (S : St) (p1 : Int32) (Rr : St) (hf : fX1_pairUp N S p1 = some Rr) : Met l yX1_pairUp wsX1_pairUp ({ frames := 2, cells := 0, slots := 0, locals := 51 } : Room) (va_Pc [.ref (a 39), .int p1] (preW D cy (wC cy a r S) sz)) (QV D cy (wC cy a r) (va_A (wC cy a r S) sz) Rr) 0 0 (va_A (wC cy a r S) sz) := by
  refine Met.ofW (cc := cX1_pairUp) (maxL := 2) (ret := none) (by decide) rfl ?_
  intro p e s m args below meth c s₁ B hml hv
  obtain ⟨rfl, rfl, hP, hK, hD0, hN⟩ := hv
  have hlocks := B.notSynchronized
  have hr := B.returns
  have C : Cx p s m _ c cX1_pairUp 2 wsX1_pairUp RX1 D cy := ⟨B.exec, B.bytes, hml, findClass_of_methodNamed B.named, atoms_spec (ws := wsX1_pairUp) B.pre, hK, hN⟩
  have hW := ww_start (w := wC cy a r) hP hD0
  generalize va_A (wC cy a r S) s.heap.size = A at hW ⊢
  have hl := lv_entry ([.ref (a 39), .int p1]) (n := 2) (Nat.le_of_ble_eq_true rfl)
  rw [lg_entry_eq]
  generalize (lg_sl ([.ref (a 39), .int p1]) ++ List.replicate (2 - (lg_sl ([.ref (a 39), .int p1])).length) Slot.unset).toArray = ls at hl ⊢
  have hl : lv_has ls 2 [(0, .ref (a 39)), (1, .int p1)] := hl
  unfold fX1_pairUp at hf
  refine lv_aload_n C.1 C.2.1 dX1_pairUp_0 rfl (lv_at hl 0 rfl) ?_
  refine lv_iconst (v := 2) C.1 C.2.1 dX1_pairUp_1 (by decide) ?_
  refine lv_iload_n C.1 C.2.1 dX1_pairUp_2 rfl (lv_at hl 1 rfl) ?_
  obtain ⟨S3, h2, hf⟩ := bdo_el hf
  refine mcVv (w := wC cy a r) (S := S) (As := [.int (2 : Int32), .int p1]) (rest := []) (q0 := 1) (ci := 1) C (cX1_note_met l D cy a r _ N S (2 : Int32) p1 S3 h2) (cwV 2 C.2.2.2.2.1 gX1_pairUp_X1_note rfl rfl rfl (by decide +kernel) ⟨Nat.le_of_ble_eq_true rfl, Nat.le_of_ble_eq_true rfl⟩) rfl rfl rfl hl.1 (Nat.le_of_ble_eq_true rfl) hW dX1_pairUp_3 ⟨Nat.zero_le _, Nat.zero_le _⟩ rfl (fun H locs hW => ?_)
  refine lv_aload_n C.1 C.2.1 dX1_pairUp_6 rfl (lv_at hl 0 rfl) ?_
  refine lv_iload_n C.1 C.2.1 dX1_pairUp_7 rfl (lv_at hl 1 rfl) ?_
  refine lv_aload_n C.1 C.2.1 dX1_pairUp_8 rfl (lv_at hl 0 rfl) ?_
  refine fg_1_0 C kX1_pairUp_1 mX1_pairUp_12 hW dX1_pairUp_9 ?_
  refine lv_iconst (v := 3) C.1 C.2.1 dX1_pairUp_12 (by decide) ?_
  refine lv_aload_n C.1 C.2.1 dX1_pairUp_13 rfl (lv_at hl 0 rfl) ?_
  refine lv_iload_n C.1 C.2.1 dX1_pairUp_14 rfl (lv_at hl 1 rfl) ?_
  obtain ⟨v4, S6, h5, hf⟩ := bd2_el hf
  refine mcVi (w := wC cy a r) (S := S3) (As := [.int p1]) (rest := [.int (3 : Int32), .ref (a 119), .int p1, .ref (a 39)]) (q0 := 1) (ci := 1) C (cX1_level_met l D cy a r _ N S3 p1 (v4, S6) h5) (cwV 1 C.2.2.2.2.1 gX1_pairUp_X1_level rfl rfl rfl (by decide +kernel) ⟨Nat.le_of_ble_eq_true rfl, Nat.le_of_ble_eq_true rfl⟩) rfl rfl rfl hl.1 (Nat.le_of_ble_eq_true rfl) hW dX1_pairUp_15 ⟨Nat.zero_le _, Nat.zero_le _⟩ rfl (fun H locs hW => ?_)
  refine lv_aload_n C.1 C.2.1 dX1_pairUp_18 rfl (lv_at hl 0 rfl) ?_
  refine lv_iload_n C.1 C.2.1 dX1_pairUp_19 rfl (lv_at hl 1 rfl) ?_
  refine lv_iconst (v := 1) C.1 C.2.1 dX1_pairUp_20 (by decide) ?_
  refine lv_iadd C.1 C.2.1 dX1_pairUp_21 ?_
  obtain ⟨v7, S9, h8, hf⟩ := bd2_el hf
  refine mcVi (w := wC cy a r) (S := S6) (As := [.int ((p1 + (1 : Int32)))]) (rest := [.int v4, .int (3 : Int32), .ref (a 119), .int p1, .ref (a 39)]) (q0 := 1) (ci := 1) C (cX1_level_met l D cy a r _ N S6 ((p1 + (1 : Int32))) (v7, S9) h8) (cwV 1 C.2.2.2.2.1 gX1_pairUp_X1_level rfl rfl rfl (by decide +kernel) ⟨Nat.le_of_ble_eq_true rfl, Nat.le_of_ble_eq_true rfl⟩) rfl rfl rfl hl.1 (Nat.le_of_ble_eq_true rfl) hW dX1_pairUp_22 ⟨Nat.zero_le _, Nat.zero_le _⟩ rfl (fun H locs hW => ?_)
  obtain ⟨v10, S12, h11, hf⟩ := bd2_el hf
  refine mcVi (w := wC cy a r) (S := S9) (As := [.int (3 : Int32), .int v4, .int v7]) (rest := [.int p1, .ref (a 39)]) (q0 := 5) (ci := 5) C (cX5_tree_met l D cy a r _ N S9 (3 : Int32) v4 v7 (v10, S12) h11) (cwV 3 C.2.2.2.2.1 gX1_pairUp_X5_tree rfl rfl rfl (by decide +kernel) ⟨Nat.le_of_ble_eq_true rfl, Nat.le_of_ble_eq_true rfl⟩) rfl rfl rfl hl.1 (Nat.le_of_ble_eq_true rfl) hW dX1_pairUp_25 ⟨Nat.zero_le _, Nat.zero_le _⟩ rfl (fun H locs hW => ?_)
  obtain ⟨S15, h14, hf⟩ := bdo_el hf
  refine mcVv (w := wC cy a r) (S := S12) (As := [.int p1, .int v10]) (rest := []) (q0 := 1) (ci := 1) C (cX1_set_met l D cy a r _ N S12 p1 v10 S15 h14) (cwV 2 C.2.2.2.2.1 gX1_pairUp_X1_set rfl rfl rfl (by decide +kernel) ⟨Nat.le_of_ble_eq_true rfl, Nat.le_of_ble_eq_true rfl⟩) rfl rfl rfl hl.1 (Nat.le_of_ble_eq_true rfl) hW dX1_pairUp_28 ⟨Nat.zero_le _, Nat.zero_le _⟩ rfl (fun H locs hW => ?_)
  refine lv_aload_n C.1 C.2.1 dX1_pairUp_31 rfl (lv_at hl 0 rfl) ?_
  refine lv_iload_n C.1 C.2.1 dX1_pairUp_32 rfl (lv_at hl 1 rfl) ?_
  refine lv_iconst (v := 1) C.1 C.2.1 dX1_pairUp_33 (by decide) ?_
  refine lv_iadd C.1 C.2.1 dX1_pairUp_34 ?_
  obtain ⟨S18, h17, hf⟩ := bdo_el hf
  refine mcVv (w := wC cy a r) (S := S15) (As := [.int ((p1 + (1 : Int32)))]) (rest := []) (q0 := 1) (ci := 1) C (cX1_delete_met l D cy a r _ N S15 ((p1 + (1 : Int32))) S18 h17) (cwV 1 C.2.2.2.2.1 gX1_pairUp_X1_delete rfl rfl rfl (by decide +kernel) ⟨Nat.le_of_ble_eq_true rfl, Nat.le_of_ble_eq_true rfl⟩) rfl rfl rfl hl.1 (Nat.le_of_ble_eq_true rfl) hW dX1_pairUp_35 ⟨Nat.zero_le _, Nat.zero_le _⟩ rfl (fun H locs hW => ?_)
  exact mrV C hr hlocks hf hW dX1_pairUp_38
theorem mX1_split_12 : Cond.fieldLink RX1 12 "SharedLambda$Context" "trees" "LSharedLambda$Trees;" ∈ wsX1_split := by decide +kernel
theorem kX1_split_1 : ∀ w ∈ u_ws RX1 TX1 8, w ∈ wsX1_split := fun _ h => List.mem_cons_of_mem _ (List.mem_append_left _ (List.mem_append_right _ h))
def fX1_split (N : Nat) (S : St) (p1 : Int32) : Option (Int32 × St) :=
  bd2 (fX1_level N S p1) fun v1 S3 =>
  bd2 (fX5_form N S3 v1) fun v4 S6 =>
  if v4 = (3 : Int32) then
    bdo (fX1_note N S6 (3 : Int32) p1) fun S10 =>
    bd2 (fX5_left N S10 v1) fun v11 S13 =>
    bdo (fX1_set N S13 p1 v11) fun S16 =>
    bd2 (fX5_right N S16 v1) fun v17 S19 =>
    bdo (fX1_insert N S19 ((p1 + (1 : Int32))) v17) fun S22 =>
    some ((1 : Int32), S22)
  else
    some ((0 : Int32), S6)
set_option maxHeartbeats 4000000 in
set_option maxRecDepth 100000 in
theorem cX1_split_met (l : Launch) (D : va_G) (cy : Nat → ClassId) (a r : Nat → Nat) (sz N : Nat) (S : St) (p1 : Int32) (Rr : Int32 × St) (hf : fX1_split N S p1 = some Rr) : Met l yX1_split wsX1_split ({ frames := 2, cells := 0, slots := 0, locals := 48 } : Room) (va_Pc [.ref (a 39), .int p1] (preW D cy (wC cy a r S) sz)) (QI D cy (wC cy a r) (va_A (wC cy a r S) sz) Rr) 0 0 (va_A (wC cy a r S) sz) := by
  refine Met.ofW (cc := cX1_split) (maxL := 3) (ret := (some .boolean)) (by decide) rfl ?_
  intro p e s m args below meth c s₁ B hml hv
  obtain ⟨rfl, rfl, hP, hK, hD0, hN⟩ := hv
  have hlocks := B.notSynchronized
  have hr := B.returns
  have C : Cx p s m _ c cX1_split 3 wsX1_split RX1 D cy := ⟨B.exec, B.bytes, hml, findClass_of_methodNamed B.named, atoms_spec (ws := wsX1_split) B.pre, hK, hN⟩
  have hW := ww_start (w := wC cy a r) hP hD0
  generalize va_A (wC cy a r S) s.heap.size = A at hW ⊢
  have hl := lv_entry ([.ref (a 39), .int p1]) (n := 3) (Nat.le_of_ble_eq_true rfl)
  rw [lg_entry_eq]
  generalize (lg_sl ([.ref (a 39), .int p1]) ++ List.replicate (3 - (lg_sl ([.ref (a 39), .int p1])).length) Slot.unset).toArray = ls at hl ⊢
  have hl : lv_has ls 3 [(0, .ref (a 39)), (1, .int p1)] := hl
  unfold fX1_split at hf
  refine lv_aload_n C.1 C.2.1 dX1_split_0 rfl (lv_at hl 0 rfl) ?_
  refine lv_iload_n C.1 C.2.1 dX1_split_1 rfl (lv_at hl 1 rfl) ?_
  obtain ⟨v1, S3, h2, hf⟩ := bd2_el hf
  refine mcVi (w := wC cy a r) (S := S) (As := [.int p1]) (rest := []) (q0 := 1) (ci := 1) C (cX1_level_met l D cy a r _ N S p1 (v1, S3) h2) (cwV 1 C.2.2.2.2.1 gX1_split_X1_level rfl rfl rfl (by decide +kernel) ⟨Nat.le_of_ble_eq_true rfl, Nat.le_of_ble_eq_true rfl⟩) rfl rfl rfl hl.1 (Nat.le_of_ble_eq_true rfl) hW dX1_split_2 ⟨Nat.zero_le _, Nat.zero_le _⟩ rfl (fun H locs hW => ?_)
  refine lv_istore_n (lv' := [(2, .int v1), (0, .ref (a 39)), (1, .int p1)]) C.1 C.2.1 dX1_split_5 rfl hl (by decide) rfl (fun ls hl => ?_)
  refine lv_aload_n C.1 C.2.1 dX1_split_6 rfl (lv_at hl 1 rfl) ?_
  refine fg_1_0 C kX1_split_1 mX1_split_12 hW dX1_split_7 ?_
  refine lv_iload_n C.1 C.2.1 dX1_split_10 rfl (lv_at hl 0 rfl) ?_
  obtain ⟨v4, S6, h5, hf⟩ := bd2_el hf
  refine mcVi (w := wC cy a r) (S := S3) (As := [.int v1]) (rest := []) (q0 := 5) (ci := 5) C (cX5_form_met l D cy a r _ N S3 v1 (v4, S6) h5) (cwV 1 C.2.2.2.2.1 gX1_split_X5_form rfl rfl rfl (by decide +kernel) ⟨Nat.le_of_ble_eq_true rfl, Nat.le_of_ble_eq_true rfl⟩) rfl rfl rfl hl.1 (Nat.le_of_ble_eq_true rfl) hW dX1_split_11 ⟨Nat.zero_le _, Nat.zero_le _⟩ rfl (fun H locs hW => ?_)
  refine lv_iconst (v := 3) C.1 C.2.1 dX1_split_14 (by decide) ?_
  refine lv_icmp_eq (tgt := 20) C.1 C.2.1 dX1_split_15 (by decide) (fun q7 => ?_) (fun q7 => ?_)
  · replace hf := (if_pos q7).symm.trans hf
    refine lv_aload_n C.1 C.2.1 dX1_split_20 rfl (lv_at hl 1 rfl) ?_
    refine lv_iconst (v := 3) C.1 C.2.1 dX1_split_21 (by decide) ?_
    refine lv_iload_n C.1 C.2.1 dX1_split_22 rfl (lv_at hl 2 rfl) ?_
    obtain ⟨S10, h9, hf⟩ := bdo_el hf
    refine mcVv (w := wC cy a r) (S := S6) (As := [.int (3 : Int32), .int p1]) (rest := []) (q0 := 1) (ci := 1) C (cX1_note_met l D cy a r _ N S6 (3 : Int32) p1 S10 h9) (cwV 2 C.2.2.2.2.1 gX1_split_X1_note rfl rfl rfl (by decide +kernel) ⟨Nat.le_of_ble_eq_true rfl, Nat.le_of_ble_eq_true rfl⟩) rfl rfl rfl hl.1 (Nat.le_of_ble_eq_true rfl) hW dX1_split_23 ⟨Nat.zero_le _, Nat.zero_le _⟩ rfl (fun H locs hW => ?_)
    refine lv_aload_n C.1 C.2.1 dX1_split_26 rfl (lv_at hl 1 rfl) ?_
    refine lv_iload_n C.1 C.2.1 dX1_split_27 rfl (lv_at hl 2 rfl) ?_
    refine lv_aload_n C.1 C.2.1 dX1_split_28 rfl (lv_at hl 1 rfl) ?_
    refine fg_1_0 C kX1_split_1 mX1_split_12 hW dX1_split_29 ?_
    refine lv_iload_n C.1 C.2.1 dX1_split_32 rfl (lv_at hl 0 rfl) ?_
    obtain ⟨v11, S13, h12, hf⟩ := bd2_el hf
    refine mcVi (w := wC cy a r) (S := S10) (As := [.int v1]) (rest := [.int p1, .ref (a 39)]) (q0 := 5) (ci := 5) C (cX5_left_met l D cy a r _ N S10 v1 (v11, S13) h12) (cwV 1 C.2.2.2.2.1 gX1_split_X5_left rfl rfl rfl (by decide +kernel) ⟨Nat.le_of_ble_eq_true rfl, Nat.le_of_ble_eq_true rfl⟩) rfl rfl rfl hl.1 (Nat.le_of_ble_eq_true rfl) hW dX1_split_33 ⟨Nat.zero_le _, Nat.zero_le _⟩ rfl (fun H locs hW => ?_)
    obtain ⟨S16, h15, hf⟩ := bdo_el hf
    refine mcVv (w := wC cy a r) (S := S13) (As := [.int p1, .int v11]) (rest := []) (q0 := 1) (ci := 1) C (cX1_set_met l D cy a r _ N S13 p1 v11 S16 h15) (cwV 2 C.2.2.2.2.1 gX1_split_X1_set rfl rfl rfl (by decide +kernel) ⟨Nat.le_of_ble_eq_true rfl, Nat.le_of_ble_eq_true rfl⟩) rfl rfl rfl hl.1 (Nat.le_of_ble_eq_true rfl) hW dX1_split_36 ⟨Nat.zero_le _, Nat.zero_le _⟩ rfl (fun H locs hW => ?_)
    refine lv_aload_n C.1 C.2.1 dX1_split_39 rfl (lv_at hl 1 rfl) ?_
    refine lv_iload_n C.1 C.2.1 dX1_split_40 rfl (lv_at hl 2 rfl) ?_
    refine lv_iconst (v := 1) C.1 C.2.1 dX1_split_41 (by decide) ?_
    refine lv_iadd C.1 C.2.1 dX1_split_42 ?_
    refine lv_aload_n C.1 C.2.1 dX1_split_43 rfl (lv_at hl 1 rfl) ?_
    refine fg_1_0 C kX1_split_1 mX1_split_12 hW dX1_split_44 ?_
    refine lv_iload_n C.1 C.2.1 dX1_split_47 rfl (lv_at hl 0 rfl) ?_
    obtain ⟨v17, S19, h18, hf⟩ := bd2_el hf
    refine mcVi (w := wC cy a r) (S := S16) (As := [.int v1]) (rest := [.int ((p1 + (1 : Int32))), .ref (a 39)]) (q0 := 5) (ci := 5) C (cX5_right_met l D cy a r _ N S16 v1 (v17, S19) h18) (cwV 1 C.2.2.2.2.1 gX1_split_X5_right rfl rfl rfl (by decide +kernel) ⟨Nat.le_of_ble_eq_true rfl, Nat.le_of_ble_eq_true rfl⟩) rfl rfl rfl hl.1 (Nat.le_of_ble_eq_true rfl) hW dX1_split_48 ⟨Nat.zero_le _, Nat.zero_le _⟩ rfl (fun H locs hW => ?_)
    obtain ⟨S22, h21, hf⟩ := bdo_el hf
    refine mcVv (w := wC cy a r) (S := S19) (As := [.int ((p1 + (1 : Int32))), .int v17]) (rest := []) (q0 := 1) (ci := 1) C (cX1_insert_met l D cy a r _ N S19 ((p1 + (1 : Int32))) v17 S22 h21) (cwV 2 C.2.2.2.2.1 gX1_split_X1_insert rfl rfl rfl (by decide +kernel) ⟨Nat.le_of_ble_eq_true rfl, Nat.le_of_ble_eq_true rfl⟩) rfl rfl rfl hl.1 (Nat.le_of_ble_eq_true rfl) hW dX1_split_51 ⟨Nat.zero_le _, Nat.zero_le _⟩ rfl (fun H locs hW => ?_)
    refine lv_iconst (v := 1) C.1 C.2.1 dX1_split_54 (by decide) ?_
    exact mrI C hr hlocks rfl hf hW dX1_split_55
  · replace hf := (if_neg q7).symm.trans hf
    refine lv_iconst (v := 0) C.1 C.2.1 dX1_split_18 (by decide) ?_
    exact mrI C hr hlocks rfl hf hW dX1_split_19
theorem mX1_enterFan_12 : Cond.fieldLink RX1 12 "SharedLambda$Context" "trees" "LSharedLambda$Trees;" ∈ wsX1_enterFan := by decide +kernel
theorem kX1_enterFan_1 : ∀ w ∈ u_ws RX1 TX1 8, w ∈ wsX1_enterFan := fun _ h => List.mem_cons_of_mem _ (List.mem_append_left _ (List.mem_append_right _ h))
def fX1_enterFan_22 (N : Nat) (S : St) (x1 : Int32) (y1 : Int32) (y3 : Int32) : Option (St) :=
  bd2 (fX1_level N S x1) fun v1 S3 =>
  bd2 (fX5_tree N S3 y3 v1 (0 : Int32)) fun v4 S6 =>
  bdo (fX1_set N S6 y1 v4) fun S9 =>
  some S9
set_option maxHeartbeats 4000000 in
set_option maxRecDepth 100000 in
theorem lX1_enterFan_22 {p : Program} {l : Launch} {e : Env} {s : State} {m : MethodId} {args : Array Value} {below : List Frame} {meth : Method} {c : Code} {D : va_G} {cy : Nat → ClassId} {a r : Nat → Nat} {A : Nat → Prop} {Rr : St} (C : Cx p s m args c cX1_enterFan 3 wsX1_enterFan RX1 D cy) (hr : meth.sig.returnType = none) (hlocks : meth.locks = false) (N : Nat) (S : St) (x1 : Int32) (y1 : Int32) (y3 : Int32) (hf : fX1_enterFan_22 N S x1 y1 y3 = some Rr) : ∀ (H : Heap) (locs : List Loc) (ls : Array Slot), WW D A s.heap (wC cy a r S) H locs → lv_has ls 3 [(0, .ref (a 39)), (1, .int x1)] → W p l e ({ frames := 2, cells := 0, slots := 0, locals := 51 } : Room) s m args below meth c H locs 0 0 (MQ below (QV D cy (wC cy a r) A Rr) args s 0 0 A) (F0 m 22 ls [.int y3, .ref (a 119), .int y1, .ref (a 39)]) := by
  intro H locs ls hW hl
  unfold fX1_enterFan_22 at hf
  refine lv_aload_n C.1 C.2.1 dX1_enterFan_22 rfl (lv_at hl 0 rfl) ?_
  refine lv_iload_n C.1 C.2.1 dX1_enterFan_23 rfl (lv_at hl 1 rfl) ?_
  obtain ⟨v1, S3, h2, hf⟩ := bd2_el hf
  refine mcVi (w := wC cy a r) (S := S) (As := [.int x1]) (rest := [.int y3, .ref (a 119), .int y1, .ref (a 39)]) (q0 := 1) (ci := 1) C (cX1_level_met l D cy a r _ N S x1 (v1, S3) h2) (cwV 1 C.2.2.2.2.1 gX1_enterFan_X1_level rfl rfl rfl (by decide +kernel) ⟨Nat.le_of_ble_eq_true rfl, Nat.le_of_ble_eq_true rfl⟩) rfl rfl rfl hl.1 (Nat.le_of_ble_eq_true rfl) hW dX1_enterFan_24 ⟨Nat.zero_le _, Nat.zero_le _⟩ rfl (fun H locs hW => ?_)
  refine lv_iconst (v := 0) C.1 C.2.1 dX1_enterFan_27 (by decide) ?_
  obtain ⟨v4, S6, h5, hf⟩ := bd2_el hf
  refine mcVi (w := wC cy a r) (S := S3) (As := [.int y3, .int v1, .int (0 : Int32)]) (rest := [.int y1, .ref (a 39)]) (q0 := 5) (ci := 5) C (cX5_tree_met l D cy a r _ N S3 y3 v1 (0 : Int32) (v4, S6) h5) (cwV 3 C.2.2.2.2.1 gX1_enterFan_X5_tree rfl rfl rfl (by decide +kernel) ⟨Nat.le_of_ble_eq_true rfl, Nat.le_of_ble_eq_true rfl⟩) rfl rfl rfl hl.1 (Nat.le_of_ble_eq_true rfl) hW dX1_enterFan_28 ⟨Nat.zero_le _, Nat.zero_le _⟩ rfl (fun H locs hW => ?_)
  obtain ⟨S9, h8, hf⟩ := bdo_el hf
  refine mcVv (w := wC cy a r) (S := S6) (As := [.int y1, .int v4]) (rest := []) (q0 := 1) (ci := 1) C (cX1_set_met l D cy a r _ N S6 y1 v4 S9 h8) (cwV 2 C.2.2.2.2.1 gX1_enterFan_X1_set rfl rfl rfl (by decide +kernel) ⟨Nat.le_of_ble_eq_true rfl, Nat.le_of_ble_eq_true rfl⟩) rfl rfl rfl hl.1 (Nat.le_of_ble_eq_true rfl) hW dX1_enterFan_31 ⟨Nat.zero_le _, Nat.zero_le _⟩ rfl (fun H locs hW => ?_)
  exact mrV C hr hlocks hf hW dX1_enterFan_34
def fX1_enterFan (N : Nat) (S : St) (p1 : Int32) (p2 : Int32) : Option (St) :=
  bdo (fX1_note N S (4 : Int32) p1) fun S3 =>
  if p2 = (1 : Int32) then
    fX1_enterFan_22 N S3 p1 p1 (1 : Int32)
  else
    fX1_enterFan_22 N S3 p1 p1 (2 : Int32)
set_option maxHeartbeats 4000000 in
set_option maxRecDepth 100000 in
theorem cX1_enterFan_met (l : Launch) (D : va_G) (cy : Nat → ClassId) (a r : Nat → Nat) (sz N : Nat) (S : St) (p1 : Int32) (p2 : Int32) (Rr : St) (hf : fX1_enterFan N S p1 p2 = some Rr) : Met l yX1_enterFan wsX1_enterFan ({ frames := 2, cells := 0, slots := 0, locals := 51 } : Room) (va_Pc [.ref (a 39), .int p1, .int p2] (preW D cy (wC cy a r S) sz)) (QV D cy (wC cy a r) (va_A (wC cy a r S) sz) Rr) 0 0 (va_A (wC cy a r S) sz) := by
  refine Met.ofW (cc := cX1_enterFan) (maxL := 3) (ret := none) (by decide) rfl ?_
  intro p e s m args below meth c s₁ B hml hv
  obtain ⟨rfl, rfl, hP, hK, hD0, hN⟩ := hv
  have hlocks := B.notSynchronized
  have hr := B.returns
  have C : Cx p s m _ c cX1_enterFan 3 wsX1_enterFan RX1 D cy := ⟨B.exec, B.bytes, hml, findClass_of_methodNamed B.named, atoms_spec (ws := wsX1_enterFan) B.pre, hK, hN⟩
  have hW := ww_start (w := wC cy a r) hP hD0
  generalize va_A (wC cy a r S) s.heap.size = A at hW ⊢
  have hl := lv_entry ([.ref (a 39), .int p1, .int p2]) (n := 3) (Nat.le_of_ble_eq_true rfl)
  rw [lg_entry_eq]
  generalize (lg_sl ([.ref (a 39), .int p1, .int p2]) ++ List.replicate (3 - (lg_sl ([.ref (a 39), .int p1, .int p2])).length) Slot.unset).toArray = ls at hl ⊢
  have hl : lv_has ls 3 [(0, .ref (a 39)), (1, .int p1), (2, .int p2)] := hl
  unfold fX1_enterFan at hf
  refine lv_aload_n C.1 C.2.1 dX1_enterFan_0 rfl (lv_at hl 0 rfl) ?_
  refine lv_iconst (v := 4) C.1 C.2.1 dX1_enterFan_1 (by decide) ?_
  refine lv_iload_n C.1 C.2.1 dX1_enterFan_2 rfl (lv_at hl 1 rfl) ?_
  obtain ⟨S3, h2, hf⟩ := bdo_el hf
  refine mcVv (w := wC cy a r) (S := S) (As := [.int (4 : Int32), .int p1]) (rest := []) (q0 := 1) (ci := 1) C (cX1_note_met l D cy a r _ N S (4 : Int32) p1 S3 h2) (cwV 2 C.2.2.2.2.1 gX1_enterFan_X1_note rfl rfl rfl (by decide +kernel) ⟨Nat.le_of_ble_eq_true rfl, Nat.le_of_ble_eq_true rfl⟩) rfl rfl rfl hl.1 (Nat.le_of_ble_eq_true rfl) hW dX1_enterFan_3 ⟨Nat.zero_le _, Nat.zero_le _⟩ rfl (fun H locs hW => ?_)
  refine lv_aload_n C.1 C.2.1 dX1_enterFan_6 rfl (lv_at hl 0 rfl) ?_
  refine lv_iload_n C.1 C.2.1 dX1_enterFan_7 rfl (lv_at hl 1 rfl) ?_
  refine lv_aload_n C.1 C.2.1 dX1_enterFan_8 rfl (lv_at hl 0 rfl) ?_
  refine fg_1_0 C kX1_enterFan_1 mX1_enterFan_12 hW dX1_enterFan_9 ?_
  refine lv_iload_n C.1 C.2.1 dX1_enterFan_12 rfl (lv_at hl 2 rfl) ?_
  refine lv_iconst (v := 1) C.1 C.2.1 dX1_enterFan_13 (by decide) ?_
  refine lv_icmp_ne (tgt := 21) C.1 C.2.1 dX1_enterFan_14 (by decide) (fun q4 => ?_) (fun q4 => ?_)
  · replace hf := (if_neg q4).symm.trans hf
    refine lv_iconst (v := 2) C.1 C.2.1 dX1_enterFan_21 (by decide) ?_
    exact lX1_enterFan_22 C hr hlocks N _ _ _ _ hf _ _ _ hW (lv_sub hl [0, 1] rfl)
  · replace hf := (if_pos q4).symm.trans hf
    refine lv_iconst (v := 1) C.1 C.2.1 dX1_enterFan_17 (by decide) ?_
    refine lv_goto (tgt := 22) C.1 C.2.1 dX1_enterFan_18 (by decide) ?_
    exact lX1_enterFan_22 C hr hlocks N _ _ _ _ hf _ _ _ hW (lv_sub hl [0, 1] rfl)
theorem mX1_leaveFan_12 : Cond.fieldLink RX1 12 "SharedLambda$Context" "trees" "LSharedLambda$Trees;" ∈ wsX1_leaveFan := by decide +kernel
theorem kX1_leaveFan_1 : ∀ w ∈ u_ws RX1 TX1 8, w ∈ wsX1_leaveFan := fun _ h => List.mem_cons_of_mem _ (List.mem_append_left _ (List.mem_append_right _ h))
def fX1_leaveFan_27 (N : Nat) (S : St) (x1 : Int32) (x2 : Int32) (x3 : Int32) : Option (Int32 × St) :=
  bdo (fX1_note N S (4 : Int32) x1) fun S3 =>
  bd2 (fX5_left N S3 x2) fun v4 S6 =>
  bdo (fX1_set N S6 x1 v4) fun S9 =>
  if x3 = (1 : Int32) then
    some ((1 : Int32), S9)
  else
    some ((2 : Int32), S9)
set_option maxHeartbeats 4000000 in
set_option maxRecDepth 100000 in
theorem lX1_leaveFan_27 {p : Program} {l : Launch} {e : Env} {s : State} {m : MethodId} {args : Array Value} {below : List Frame} {meth : Method} {c : Code} {D : va_G} {cy : Nat → ClassId} {a r : Nat → Nat} {A : Nat → Prop} {Rr : Int32 × St} (C : Cx p s m args c cX1_leaveFan 4 wsX1_leaveFan RX1 D cy) (hr : meth.sig.returnType = some .int) (hlocks : meth.locks = false) (N : Nat) (S : St) (x1 : Int32) (x2 : Int32) (x3 : Int32) (hf : fX1_leaveFan_27 N S x1 x2 x3 = some Rr) : ∀ (H : Heap) (locs : List Loc) (ls : Array Slot), WW D A s.heap (wC cy a r S) H locs → lv_has ls 4 [(0, .ref (a 39)), (1, .int x1), (2, .int x2), (3, .int x3)] → W p l e ({ frames := 2, cells := 0, slots := 0, locals := 43 } : Room) s m args below meth c H locs 0 0 (MQ below (QI D cy (wC cy a r) A Rr) args s 0 0 A) (F0 m 27 ls []) := by
  intro H locs ls hW hl
  unfold fX1_leaveFan_27 at hf
  refine lv_aload_n C.1 C.2.1 dX1_leaveFan_27 rfl (lv_at hl 0 rfl) ?_
  refine lv_iconst (v := 4) C.1 C.2.1 dX1_leaveFan_28 (by decide) ?_
  refine lv_iload_n C.1 C.2.1 dX1_leaveFan_29 rfl (lv_at hl 1 rfl) ?_
  obtain ⟨S3, h2, hf⟩ := bdo_el hf
  refine mcVv (w := wC cy a r) (S := S) (As := [.int (4 : Int32), .int x1]) (rest := []) (q0 := 1) (ci := 1) C (cX1_note_met l D cy a r _ N S (4 : Int32) x1 S3 h2) (cwV 2 C.2.2.2.2.1 gX1_leaveFan_X1_note rfl rfl rfl (by decide +kernel) ⟨Nat.le_of_ble_eq_true rfl, Nat.le_of_ble_eq_true rfl⟩) rfl rfl rfl hl.1 (Nat.le_of_ble_eq_true rfl) hW dX1_leaveFan_30 ⟨Nat.zero_le _, Nat.zero_le _⟩ rfl (fun H locs hW => ?_)
  refine lv_aload_n C.1 C.2.1 dX1_leaveFan_33 rfl (lv_at hl 0 rfl) ?_
  refine lv_iload_n C.1 C.2.1 dX1_leaveFan_34 rfl (lv_at hl 1 rfl) ?_
  refine lv_aload_n C.1 C.2.1 dX1_leaveFan_35 rfl (lv_at hl 0 rfl) ?_
  refine fg_1_0 C kX1_leaveFan_1 mX1_leaveFan_12 hW dX1_leaveFan_36 ?_
  refine lv_iload_n C.1 C.2.1 dX1_leaveFan_39 rfl (lv_at hl 2 rfl) ?_
  obtain ⟨v4, S6, h5, hf⟩ := bd2_el hf
  refine mcVi (w := wC cy a r) (S := S3) (As := [.int x2]) (rest := [.int x1, .ref (a 39)]) (q0 := 5) (ci := 5) C (cX5_left_met l D cy a r _ N S3 x2 (v4, S6) h5) (cwV 1 C.2.2.2.2.1 gX1_leaveFan_X5_left rfl rfl rfl (by decide +kernel) ⟨Nat.le_of_ble_eq_true rfl, Nat.le_of_ble_eq_true rfl⟩) rfl rfl rfl hl.1 (Nat.le_of_ble_eq_true rfl) hW dX1_leaveFan_40 ⟨Nat.zero_le _, Nat.zero_le _⟩ rfl (fun H locs hW => ?_)
  obtain ⟨S9, h8, hf⟩ := bdo_el hf
  refine mcVv (w := wC cy a r) (S := S6) (As := [.int x1, .int v4]) (rest := []) (q0 := 1) (ci := 1) C (cX1_set_met l D cy a r _ N S6 x1 v4 S9 h8) (cwV 2 C.2.2.2.2.1 gX1_leaveFan_X1_set rfl rfl rfl (by decide +kernel) ⟨Nat.le_of_ble_eq_true rfl, Nat.le_of_ble_eq_true rfl⟩) rfl rfl rfl hl.1 (Nat.le_of_ble_eq_true rfl) hW dX1_leaveFan_43 ⟨Nat.zero_le _, Nat.zero_le _⟩ rfl (fun H locs hW => ?_)
  refine lv_iload_n C.1 C.2.1 dX1_leaveFan_46 rfl (lv_at hl 3 rfl) ?_
  refine lv_iconst (v := 1) C.1 C.2.1 dX1_leaveFan_47 (by decide) ?_
  refine lv_icmp_ne (tgt := 55) C.1 C.2.1 dX1_leaveFan_48 (by decide) (fun q10 => ?_) (fun q10 => ?_)
  · replace hf := (if_neg q10).symm.trans hf
    refine lv_iconst (v := 2) C.1 C.2.1 dX1_leaveFan_55 (by decide) ?_
    exact mrI C hr hlocks rfl hf hW dX1_leaveFan_56
  · replace hf := (if_pos q10).symm.trans hf
    refine lv_iconst (v := 1) C.1 C.2.1 dX1_leaveFan_51 (by decide) ?_
    refine lv_goto (tgt := 56) C.1 C.2.1 dX1_leaveFan_52 (by decide) ?_
    exact mrI C hr hlocks rfl hf hW dX1_leaveFan_56
def fX1_leaveFan (N : Nat) (S : St) (p1 : Int32) : Option (Int32 × St) :=
  bd2 (fX1_level N S p1) fun v1 S3 =>
  bd2 (fX5_form N S3 v1) fun v4 S6 =>
  if v4 = (1 : Int32) then
    fX1_leaveFan_27 N S6 p1 v1 v4
  else
    if v4 = (2 : Int32) then
      fX1_leaveFan_27 N S6 p1 v1 v4
    else
      some ((-1 : Int32), S6)
set_option maxHeartbeats 4000000 in
set_option maxRecDepth 100000 in
theorem cX1_leaveFan_met (l : Launch) (D : va_G) (cy : Nat → ClassId) (a r : Nat → Nat) (sz N : Nat) (S : St) (p1 : Int32) (Rr : Int32 × St) (hf : fX1_leaveFan N S p1 = some Rr) : Met l yX1_leaveFan wsX1_leaveFan ({ frames := 2, cells := 0, slots := 0, locals := 43 } : Room) (va_Pc [.ref (a 39), .int p1] (preW D cy (wC cy a r S) sz)) (QI D cy (wC cy a r) (va_A (wC cy a r S) sz) Rr) 0 0 (va_A (wC cy a r S) sz) := by
  refine Met.ofW (cc := cX1_leaveFan) (maxL := 4) (ret := (some .int)) (by decide) rfl ?_
  intro p e s m args below meth c s₁ B hml hv
  obtain ⟨rfl, rfl, hP, hK, hD0, hN⟩ := hv
  have hlocks := B.notSynchronized
  have hr := B.returns
  have C : Cx p s m _ c cX1_leaveFan 4 wsX1_leaveFan RX1 D cy := ⟨B.exec, B.bytes, hml, findClass_of_methodNamed B.named, atoms_spec (ws := wsX1_leaveFan) B.pre, hK, hN⟩
  have hW := ww_start (w := wC cy a r) hP hD0
  generalize va_A (wC cy a r S) s.heap.size = A at hW ⊢
  have hl := lv_entry ([.ref (a 39), .int p1]) (n := 4) (Nat.le_of_ble_eq_true rfl)
  rw [lg_entry_eq]
  generalize (lg_sl ([.ref (a 39), .int p1]) ++ List.replicate (4 - (lg_sl ([.ref (a 39), .int p1])).length) Slot.unset).toArray = ls at hl ⊢
  have hl : lv_has ls 4 [(0, .ref (a 39)), (1, .int p1)] := hl
  unfold fX1_leaveFan at hf
  refine lv_aload_n C.1 C.2.1 dX1_leaveFan_0 rfl (lv_at hl 0 rfl) ?_
  refine lv_iload_n C.1 C.2.1 dX1_leaveFan_1 rfl (lv_at hl 1 rfl) ?_
  obtain ⟨v1, S3, h2, hf⟩ := bd2_el hf
  refine mcVi (w := wC cy a r) (S := S) (As := [.int p1]) (rest := []) (q0 := 1) (ci := 1) C (cX1_level_met l D cy a r _ N S p1 (v1, S3) h2) (cwV 1 C.2.2.2.2.1 gX1_leaveFan_X1_level rfl rfl rfl (by decide +kernel) ⟨Nat.le_of_ble_eq_true rfl, Nat.le_of_ble_eq_true rfl⟩) rfl rfl rfl hl.1 (Nat.le_of_ble_eq_true rfl) hW dX1_leaveFan_2 ⟨Nat.zero_le _, Nat.zero_le _⟩ rfl (fun H locs hW => ?_)
  refine lv_istore_n (lv' := [(2, .int v1), (0, .ref (a 39)), (1, .int p1)]) C.1 C.2.1 dX1_leaveFan_5 rfl hl (by decide) rfl (fun ls hl => ?_)
  refine lv_aload_n C.1 C.2.1 dX1_leaveFan_6 rfl (lv_at hl 1 rfl) ?_
  refine fg_1_0 C kX1_leaveFan_1 mX1_leaveFan_12 hW dX1_leaveFan_7 ?_
  refine lv_iload_n C.1 C.2.1 dX1_leaveFan_10 rfl (lv_at hl 0 rfl) ?_
  obtain ⟨v4, S6, h5, hf⟩ := bd2_el hf
  refine mcVi (w := wC cy a r) (S := S3) (As := [.int v1]) (rest := []) (q0 := 5) (ci := 5) C (cX5_form_met l D cy a r _ N S3 v1 (v4, S6) h5) (cwV 1 C.2.2.2.2.1 gX1_leaveFan_X5_form rfl rfl rfl (by decide +kernel) ⟨Nat.le_of_ble_eq_true rfl, Nat.le_of_ble_eq_true rfl⟩) rfl rfl rfl hl.1 (Nat.le_of_ble_eq_true rfl) hW dX1_leaveFan_11 ⟨Nat.zero_le _, Nat.zero_le _⟩ rfl (fun H locs hW => ?_)
  refine lv_istore_n (lv' := [(3, .int v4), (2, .int v1), (0, .ref (a 39)), (1, .int p1)]) C.1 C.2.1 dX1_leaveFan_14 rfl hl (by decide) rfl (fun ls hl => ?_)
  refine lv_iload_n C.1 C.2.1 dX1_leaveFan_15 rfl (lv_at hl 0 rfl) ?_
  refine lv_iconst (v := 1) C.1 C.2.1 dX1_leaveFan_16 (by decide) ?_
  refine lv_icmp_eq (tgt := 27) C.1 C.2.1 dX1_leaveFan_17 (by decide) (fun q7 => ?_) (fun q7 => ?_)
  · replace hf := (if_pos q7).symm.trans hf
    exact lX1_leaveFan_27 C hr hlocks N _ _ _ _ hf _ _ _ hW (lv_sub hl [2, 3, 1, 0] rfl)
  · replace hf := (if_neg q7).symm.trans hf
    refine lv_iload_n C.1 C.2.1 dX1_leaveFan_20 rfl (lv_at hl 0 rfl) ?_
    refine lv_iconst (v := 2) C.1 C.2.1 dX1_leaveFan_21 (by decide) ?_
    refine lv_icmp_eq (tgt := 27) C.1 C.2.1 dX1_leaveFan_22 (by decide) (fun q8 => ?_) (fun q8 => ?_)
    · replace hf := (if_pos q8).symm.trans hf
      exact lX1_leaveFan_27 C hr hlocks N _ _ _ _ hf _ _ _ hW (lv_sub hl [2, 3, 1, 0] rfl)
    · replace hf := (if_neg q8).symm.trans hf
      refine lv_iconst (v := -1) C.1 C.2.1 dX1_leaveFan_25 (by decide) ?_
      exact mrI C hr hlocks rfl hf hW dX1_leaveFan_26
theorem mX1_undo_12 : Cond.fieldLink RX1 12 "SharedLambda$Context" "trees" "LSharedLambda$Trees;" ∈ wsX1_undo := by decide +kernel
theorem mX1_undo_31 : Cond.fieldLink RX1 31 "SharedLambda$Context" "trailCounts" "[I" ∈ wsX1_undo := by decide +kernel
theorem mX1_undo_38 : Cond.fieldLink RX1 38 "SharedLambda$Context" "changes" "I" ∈ wsX1_undo := by decide +kernel
theorem mX1_undo_25 : Cond.fieldLink RX1 25 "SharedLambda$Context" "trailLevels" "[I" ∈ wsX1_undo := by decide +kernel
theorem mX1_undo_28 : Cond.fieldLink RX1 28 "SharedLambda$Context" "trailTrees" "[I" ∈ wsX1_undo := by decide +kernel
theorem mX1_undo_22 : Cond.fieldLink RX1 22 "SharedLambda$Context" "trailForms" "[I" ∈ wsX1_undo := by decide +kernel
theorem kX1_undo_1 : ∀ w ∈ u_ws RX1 TX1 8, w ∈ wsX1_undo := fun _ h => List.mem_cons_of_mem _ (List.mem_append_left _ (List.mem_append_right _ h))
def fX1_undo_155 (N : Nat) (S : St) : Option (St) :=
  ckx (S.1 27) 4000 <|
  bdo (fX5_cut N S (S.2.1 26 (S.1 27 : Int32).toNatClampNeg)) fun S4 =>
  some S4
set_option maxHeartbeats 4000000 in
set_option maxRecDepth 100000 in
theorem lX1_undo_155 {p : Program} {l : Launch} {e : Env} {s : State} {m : MethodId} {args : Array Value} {below : List Frame} {meth : Method} {c : Code} {D : va_G} {cy : Nat → ClassId} {a r : Nat → Nat} {A : Nat → Prop} {Rr : St} (C : Cx p s m args c cX1_undo 3 wsX1_undo RX1 D cy) (hr : meth.sig.returnType = none) (hlocks : meth.locks = false) (N : Nat) (S : St) (hf : fX1_undo_155 N S = some Rr) : ∀ (H : Heap) (locs : List Loc) (ls : Array Slot), WW D A s.heap (wC cy a r S) H locs → lv_has ls 3 [(0, .ref (a 39))] → W p l e ({ frames := 2, cells := 0, slots := 0, locals := 48 } : Room) s m args below meth c H locs 0 0 (MQ below (QV D cy (wC cy a r) A Rr) args s 0 0 A) (F0 m 155 ls []) := by
  intro H locs ls hW hl
  unfold fX1_undo_155 at hf
  refine lv_aload_n C.1 C.2.1 dX1_undo_155 rfl (lv_at hl 0 rfl) ?_
  refine fg_1_0 C kX1_undo_1 mX1_undo_12 hW dX1_undo_156 ?_
  refine lv_aload_n C.1 C.2.1 dX1_undo_159 rfl (lv_at hl 0 rfl) ?_
  refine fg_1_6 C kX1_undo_1 mX1_undo_31 hW dX1_undo_160 ?_
  refine lv_aload_n C.1 C.2.1 dX1_undo_163 rfl (lv_at hl 0 rfl) ?_
  refine fg_1_7 C kX1_undo_1 mX1_undo_38 hW dX1_undo_164 ?_
  obtain ⟨h1, hf⟩ := ckx_el hf
  refine al_1_6 C hW h1 dX1_undo_167 ?_
  obtain ⟨S4, h3, hf⟩ := bdo_el hf
  refine mcVv (w := wC cy a r) (S := S) (As := [.int (S.2.1 26 (S.1 27 : Int32).toNatClampNeg)]) (rest := []) (q0 := 5) (ci := 5) C (cX5_cut_met l D cy a r _ N S (S.2.1 26 (S.1 27 : Int32).toNatClampNeg) S4 h3) (cwV 1 C.2.2.2.2.1 gX1_undo_X5_cut rfl rfl rfl (by decide +kernel) ⟨Nat.le_of_ble_eq_true rfl, Nat.le_of_ble_eq_true rfl⟩) rfl rfl rfl hl.1 (Nat.le_of_ble_eq_true rfl) hW dX1_undo_168 ⟨Nat.zero_le _, Nat.zero_le _⟩ rfl (fun H locs hW => ?_)
  exact mrV C hr hlocks hf hW dX1_undo_171
def fX1_undo (N : Nat) (S : St) : Option (St) :=
  if S.1 27 < (1 : Int32) then
    some S
  else
    if S.1 27 ≤ (4000 : Int32) then
      bnd (sI S 27 ((S.1 27 - (1 : Int32)))) fun S3 =>
      ckx (S3.1 27) 4000 <|
      bnd (S3.2.1 24 (S3.1 27 : Int32).toNatClampNeg) fun z5 =>
      ckx (S3.1 27) 4000 <|
      bnd (S3.2.1 25 (S3.1 27 : Int32).toNatClampNeg) fun z7 =>
      ckx (S3.1 27) 4000 <|
      if S3.2.1 23 (S3.1 27 : Int32).toNatClampNeg = 0 then
        bdo (fX1_delete N S3 z5) fun S12 =>
        fX1_undo_155 N S12
      else
        if S3.2.1 23 (S3.1 27 : Int32).toNatClampNeg = 1 then
          bdo (fX1_insert N S3 z5 z7) fun S16 =>
          fX1_undo_155 N S16
        else
          if S3.2.1 23 (S3.1 27 : Int32).toNatClampNeg = 2 then
            bd2 (fX1_level N S3 z5) fun v18 S20 =>
            bd2 (fX5_right N S20 v18) fun v21 S23 =>
            bdo (fX1_insert N S23 ((z5 + (1 : Int32))) v21) fun S26 =>
            bdo (fX1_set N S26 z5 z7) fun S29 =>
            fX1_undo_155 N S29
          else
            if S3.2.1 23 (S3.1 27 : Int32).toNatClampNeg = 3 then
              bdo (fX1_set N S3 z5 z7) fun S33 =>
              bdo (fX1_delete N S33 ((z5 + (1 : Int32)))) fun S36 =>
              fX1_undo_155 N S36
            else
              bdo (fX1_set N S3 z5 z7) fun S39 =>
              fX1_undo_155 N S39
    else
      some S
set_option maxHeartbeats 4000000 in
set_option maxRecDepth 100000 in
theorem cX1_undo_met (l : Launch) (D : va_G) (cy : Nat → ClassId) (a r : Nat → Nat) (sz N : Nat) (S : St) (Rr : St) (hf : fX1_undo N S  = some Rr) : Met l yX1_undo wsX1_undo ({ frames := 2, cells := 0, slots := 0, locals := 48 } : Room) (va_Pc [.ref (a 39)] (preW D cy (wC cy a r S) sz)) (QV D cy (wC cy a r) (va_A (wC cy a r S) sz) Rr) 0 0 (va_A (wC cy a r S) sz) := by
  refine Met.ofW (cc := cX1_undo) (maxL := 3) (ret := none) (by decide) rfl ?_
  intro p e s m args below meth c s₁ B hml hv
  obtain ⟨rfl, rfl, hP, hK, hD0, hN⟩ := hv
  have hlocks := B.notSynchronized
  have hr := B.returns
  have C : Cx p s m _ c cX1_undo 3 wsX1_undo RX1 D cy := ⟨B.exec, B.bytes, hml, findClass_of_methodNamed B.named, atoms_spec (ws := wsX1_undo) B.pre, hK, hN⟩
  have hW := ww_start (w := wC cy a r) hP hD0
  generalize va_A (wC cy a r S) s.heap.size = A at hW ⊢
  have hl := lv_entry ([.ref (a 39)]) (n := 3) (Nat.le_of_ble_eq_true rfl)
  rw [lg_entry_eq]
  generalize (lg_sl ([.ref (a 39)]) ++ List.replicate (3 - (lg_sl ([.ref (a 39)])).length) Slot.unset).toArray = ls at hl ⊢
  have hl : lv_has ls 3 [(0, .ref (a 39))] := hl
  unfold fX1_undo at hf
  refine lv_aload_n C.1 C.2.1 dX1_undo_0 rfl (lv_at hl 0 rfl) ?_
  refine fg_1_7 C kX1_undo_1 mX1_undo_38 hW dX1_undo_1 ?_
  refine lv_iconst (v := 1) C.1 C.2.1 dX1_undo_4 (by decide) ?_
  refine lv_icmp_lt (tgt := 18) C.1 C.2.1 dX1_undo_5 (by decide) (fun q1 => ?_) (fun q1 => ?_)
  · replace hf := (if_pos q1).symm.trans hf
    exact mrV C hr hlocks hf hW dX1_undo_18
  · replace hf := (if_neg q1).symm.trans hf
    refine lv_aload_n C.1 C.2.1 dX1_undo_8 rfl (lv_at hl 0 rfl) ?_
    refine fg_1_7 C kX1_undo_1 mX1_undo_38 hW dX1_undo_9 ?_
    refine lv_sipush (v := 4000) C.1 C.2.1 dX1_undo_12 (by decide) ?_
    refine lv_icmp_le (tgt := 19) C.1 C.2.1 dX1_undo_15 (by decide) (fun q2 => ?_) (fun q2 => ?_)
    · replace hf := (if_pos q2).symm.trans hf
      refine lv_aload_n C.1 C.2.1 dX1_undo_19 rfl (lv_at hl 0 rfl) ?_
      refine lv_dup C.1 C.2.1 dX1_undo_20 rfl ?_
      refine fg_1_7 C kX1_undo_1 mX1_undo_38 hW dX1_undo_21 ?_
      refine lv_iconst (v := 1) C.1 C.2.1 dX1_undo_24 (by decide) ?_
      refine lv_isub C.1 C.2.1 dX1_undo_25 ?_
      obtain ⟨S3, eS3, hf⟩ := bnd_el hf
      refine fp_1_7 C kX1_undo_1 mX1_undo_38 hW dX1_undo_26 eS3 (fun H locs hW => ?_)
      refine lv_aload_n C.1 C.2.1 dX1_undo_29 rfl (lv_at hl 0 rfl) ?_
      refine fg_1_4 C kX1_undo_1 mX1_undo_25 hW dX1_undo_30 ?_
      refine lv_aload_n C.1 C.2.1 dX1_undo_33 rfl (lv_at hl 0 rfl) ?_
      refine fg_1_7 C kX1_undo_1 mX1_undo_38 hW dX1_undo_34 ?_
      obtain ⟨h4, hf⟩ := ckx_el hf
      refine al_1_4 C hW h4 dX1_undo_37 ?_
      obtain ⟨z5, ez5, hf⟩ := bnd_el hf
      refine lv_as ez5 ?_
      refine lv_istore_n (lv' := [(1, .int z5), (0, .ref (a 39))]) C.1 C.2.1 dX1_undo_38 rfl hl (by decide) rfl (fun ls hl => ?_)
      refine lv_aload_n C.1 C.2.1 dX1_undo_39 rfl (lv_at hl 1 rfl) ?_
      refine fg_1_5 C kX1_undo_1 mX1_undo_28 hW dX1_undo_40 ?_
      refine lv_aload_n C.1 C.2.1 dX1_undo_43 rfl (lv_at hl 1 rfl) ?_
      refine fg_1_7 C kX1_undo_1 mX1_undo_38 hW dX1_undo_44 ?_
      obtain ⟨h6, hf⟩ := ckx_el hf
      refine al_1_5 C hW h6 dX1_undo_47 ?_
      obtain ⟨z7, ez7, hf⟩ := bnd_el hf
      refine lv_as ez7 ?_
      refine lv_istore_n (lv' := [(2, .int z7), (1, .int z5), (0, .ref (a 39))]) C.1 C.2.1 dX1_undo_48 rfl hl (by decide) rfl (fun ls hl => ?_)
      refine lv_aload_n C.1 C.2.1 dX1_undo_49 rfl (lv_at hl 2 rfl) ?_
      refine fg_1_3 C kX1_undo_1 mX1_undo_22 hW dX1_undo_50 ?_
      refine lv_aload_n C.1 C.2.1 dX1_undo_53 rfl (lv_at hl 2 rfl) ?_
      refine fg_1_7 C kX1_undo_1 mX1_undo_38 hW dX1_undo_54 ?_
      obtain ⟨h8, hf⟩ := ckx_el hf
      refine al_1_3 C hW h8 dX1_undo_57 ?_
      by_cases q9 : S3.2.1 23 (S3.1 27 : Int32).toNatClampNeg = 0
      · refine lv_tableIn (tgt := 88) C.1 C.2.1 dX1_undo_58 (by rw [q9]; decide) (by rw [q9]; decide) (by rw [q9]; rfl) (by decide) ?_
        replace hf := (if_pos q9).symm.trans hf
        refine lv_aload_n C.1 C.2.1 dX1_undo_88 rfl (lv_at hl 2 rfl) ?_
        refine lv_iload_n C.1 C.2.1 dX1_undo_89 rfl (lv_at hl 1 rfl) ?_
        obtain ⟨S12, h11, hf⟩ := bdo_el hf
        refine mcVv (w := wC cy a r) (S := S3) (As := [.int z5]) (rest := []) (q0 := 1) (ci := 1) C (cX1_delete_met l D cy a r _ N S3 z5 S12 h11) (cwV 1 C.2.2.2.2.1 gX1_undo_X1_delete rfl rfl rfl (by decide +kernel) ⟨Nat.le_of_ble_eq_true rfl, Nat.le_of_ble_eq_true rfl⟩) rfl rfl rfl hl.1 (Nat.le_of_ble_eq_true rfl) hW dX1_undo_90 ⟨Nat.zero_le _, Nat.zero_le _⟩ rfl (fun H locs hW => ?_)
        refine lv_goto (tgt := 155) C.1 C.2.1 dX1_undo_93 (by decide) ?_
        exact lX1_undo_155 C hr hlocks N _ hf _ _ _ hW (lv_sub hl [2] rfl)
      · replace hf := (if_neg q9).symm.trans hf
        by_cases q13 : S3.2.1 23 (S3.1 27 : Int32).toNatClampNeg = 1
        · refine lv_tableIn (tgt := 96) C.1 C.2.1 dX1_undo_58 (by rw [q13]; decide) (by rw [q13]; decide) (by rw [q13]; rfl) (by decide) ?_
          replace hf := (if_pos q13).symm.trans hf
          refine lv_aload_n C.1 C.2.1 dX1_undo_96 rfl (lv_at hl 2 rfl) ?_
          refine lv_iload_n C.1 C.2.1 dX1_undo_97 rfl (lv_at hl 1 rfl) ?_
          refine lv_iload_n C.1 C.2.1 dX1_undo_98 rfl (lv_at hl 0 rfl) ?_
          obtain ⟨S16, h15, hf⟩ := bdo_el hf
          refine mcVv (w := wC cy a r) (S := S3) (As := [.int z5, .int z7]) (rest := []) (q0 := 1) (ci := 1) C (cX1_insert_met l D cy a r _ N S3 z5 z7 S16 h15) (cwV 2 C.2.2.2.2.1 gX1_undo_X1_insert rfl rfl rfl (by decide +kernel) ⟨Nat.le_of_ble_eq_true rfl, Nat.le_of_ble_eq_true rfl⟩) rfl rfl rfl hl.1 (Nat.le_of_ble_eq_true rfl) hW dX1_undo_99 ⟨Nat.zero_le _, Nat.zero_le _⟩ rfl (fun H locs hW => ?_)
          refine lv_goto (tgt := 155) C.1 C.2.1 dX1_undo_102 (by decide) ?_
          exact lX1_undo_155 C hr hlocks N _ hf _ _ _ hW (lv_sub hl [2] rfl)
        · replace hf := (if_neg q13).symm.trans hf
          by_cases q17 : S3.2.1 23 (S3.1 27 : Int32).toNatClampNeg = 2
          · refine lv_tableIn (tgt := 105) C.1 C.2.1 dX1_undo_58 (by rw [q17]; decide) (by rw [q17]; decide) (by rw [q17]; rfl) (by decide) ?_
            replace hf := (if_pos q17).symm.trans hf
            refine lv_aload_n C.1 C.2.1 dX1_undo_105 rfl (lv_at hl 2 rfl) ?_
            refine lv_iload_n C.1 C.2.1 dX1_undo_106 rfl (lv_at hl 1 rfl) ?_
            refine lv_iconst (v := 1) C.1 C.2.1 dX1_undo_107 (by decide) ?_
            refine lv_iadd C.1 C.2.1 dX1_undo_108 ?_
            refine lv_aload_n C.1 C.2.1 dX1_undo_109 rfl (lv_at hl 2 rfl) ?_
            refine fg_1_0 C kX1_undo_1 mX1_undo_12 hW dX1_undo_110 ?_
            refine lv_aload_n C.1 C.2.1 dX1_undo_113 rfl (lv_at hl 2 rfl) ?_
            refine lv_iload_n C.1 C.2.1 dX1_undo_114 rfl (lv_at hl 1 rfl) ?_
            obtain ⟨v18, S20, h19, hf⟩ := bd2_el hf
            refine mcVi (w := wC cy a r) (S := S3) (As := [.int z5]) (rest := [.ref (a 119), .int ((z5 + (1 : Int32))), .ref (a 39)]) (q0 := 1) (ci := 1) C (cX1_level_met l D cy a r _ N S3 z5 (v18, S20) h19) (cwV 1 C.2.2.2.2.1 gX1_undo_X1_level rfl rfl rfl (by decide +kernel) ⟨Nat.le_of_ble_eq_true rfl, Nat.le_of_ble_eq_true rfl⟩) rfl rfl rfl hl.1 (Nat.le_of_ble_eq_true rfl) hW dX1_undo_115 ⟨Nat.zero_le _, Nat.zero_le _⟩ rfl (fun H locs hW => ?_)
            obtain ⟨v21, S23, h22, hf⟩ := bd2_el hf
            refine mcVi (w := wC cy a r) (S := S20) (As := [.int v18]) (rest := [.int ((z5 + (1 : Int32))), .ref (a 39)]) (q0 := 5) (ci := 5) C (cX5_right_met l D cy a r _ N S20 v18 (v21, S23) h22) (cwV 1 C.2.2.2.2.1 gX1_undo_X5_right rfl rfl rfl (by decide +kernel) ⟨Nat.le_of_ble_eq_true rfl, Nat.le_of_ble_eq_true rfl⟩) rfl rfl rfl hl.1 (Nat.le_of_ble_eq_true rfl) hW dX1_undo_118 ⟨Nat.zero_le _, Nat.zero_le _⟩ rfl (fun H locs hW => ?_)
            obtain ⟨S26, h25, hf⟩ := bdo_el hf
            refine mcVv (w := wC cy a r) (S := S23) (As := [.int ((z5 + (1 : Int32))), .int v21]) (rest := []) (q0 := 1) (ci := 1) C (cX1_insert_met l D cy a r _ N S23 ((z5 + (1 : Int32))) v21 S26 h25) (cwV 2 C.2.2.2.2.1 gX1_undo_X1_insert rfl rfl rfl (by decide +kernel) ⟨Nat.le_of_ble_eq_true rfl, Nat.le_of_ble_eq_true rfl⟩) rfl rfl rfl hl.1 (Nat.le_of_ble_eq_true rfl) hW dX1_undo_121 ⟨Nat.zero_le _, Nat.zero_le _⟩ rfl (fun H locs hW => ?_)
            refine lv_aload_n C.1 C.2.1 dX1_undo_124 rfl (lv_at hl 2 rfl) ?_
            refine lv_iload_n C.1 C.2.1 dX1_undo_125 rfl (lv_at hl 1 rfl) ?_
            refine lv_iload_n C.1 C.2.1 dX1_undo_126 rfl (lv_at hl 0 rfl) ?_
            obtain ⟨S29, h28, hf⟩ := bdo_el hf
            refine mcVv (w := wC cy a r) (S := S26) (As := [.int z5, .int z7]) (rest := []) (q0 := 1) (ci := 1) C (cX1_set_met l D cy a r _ N S26 z5 z7 S29 h28) (cwV 2 C.2.2.2.2.1 gX1_undo_X1_set rfl rfl rfl (by decide +kernel) ⟨Nat.le_of_ble_eq_true rfl, Nat.le_of_ble_eq_true rfl⟩) rfl rfl rfl hl.1 (Nat.le_of_ble_eq_true rfl) hW dX1_undo_127 ⟨Nat.zero_le _, Nat.zero_le _⟩ rfl (fun H locs hW => ?_)
            refine lv_goto (tgt := 155) C.1 C.2.1 dX1_undo_130 (by decide) ?_
            exact lX1_undo_155 C hr hlocks N _ hf _ _ _ hW (lv_sub hl [2] rfl)
          · replace hf := (if_neg q17).symm.trans hf
            by_cases q30 : S3.2.1 23 (S3.1 27 : Int32).toNatClampNeg = 3
            · refine lv_tableIn (tgt := 133) C.1 C.2.1 dX1_undo_58 (by rw [q30]; decide) (by rw [q30]; decide) (by rw [q30]; rfl) (by decide) ?_
              replace hf := (if_pos q30).symm.trans hf
              refine lv_aload_n C.1 C.2.1 dX1_undo_133 rfl (lv_at hl 2 rfl) ?_
              refine lv_iload_n C.1 C.2.1 dX1_undo_134 rfl (lv_at hl 1 rfl) ?_
              refine lv_iload_n C.1 C.2.1 dX1_undo_135 rfl (lv_at hl 0 rfl) ?_
              obtain ⟨S33, h32, hf⟩ := bdo_el hf
              refine mcVv (w := wC cy a r) (S := S3) (As := [.int z5, .int z7]) (rest := []) (q0 := 1) (ci := 1) C (cX1_set_met l D cy a r _ N S3 z5 z7 S33 h32) (cwV 2 C.2.2.2.2.1 gX1_undo_X1_set rfl rfl rfl (by decide +kernel) ⟨Nat.le_of_ble_eq_true rfl, Nat.le_of_ble_eq_true rfl⟩) rfl rfl rfl hl.1 (Nat.le_of_ble_eq_true rfl) hW dX1_undo_136 ⟨Nat.zero_le _, Nat.zero_le _⟩ rfl (fun H locs hW => ?_)
              refine lv_aload_n C.1 C.2.1 dX1_undo_139 rfl (lv_at hl 2 rfl) ?_
              refine lv_iload_n C.1 C.2.1 dX1_undo_140 rfl (lv_at hl 1 rfl) ?_
              refine lv_iconst (v := 1) C.1 C.2.1 dX1_undo_141 (by decide) ?_
              refine lv_iadd C.1 C.2.1 dX1_undo_142 ?_
              obtain ⟨S36, h35, hf⟩ := bdo_el hf
              refine mcVv (w := wC cy a r) (S := S33) (As := [.int ((z5 + (1 : Int32)))]) (rest := []) (q0 := 1) (ci := 1) C (cX1_delete_met l D cy a r _ N S33 ((z5 + (1 : Int32))) S36 h35) (cwV 1 C.2.2.2.2.1 gX1_undo_X1_delete rfl rfl rfl (by decide +kernel) ⟨Nat.le_of_ble_eq_true rfl, Nat.le_of_ble_eq_true rfl⟩) rfl rfl rfl hl.1 (Nat.le_of_ble_eq_true rfl) hW dX1_undo_143 ⟨Nat.zero_le _, Nat.zero_le _⟩ rfl (fun H locs hW => ?_)
              refine lv_goto (tgt := 155) C.1 C.2.1 dX1_undo_146 (by decide) ?_
              exact lX1_undo_155 C hr hlocks N _ hf _ _ _ hW (lv_sub hl [2] rfl)
            · replace hf := (if_neg q30).symm.trans hf
              refine lv_tableOut (tgt := 149) C.1 C.2.1 dX1_undo_58 (tb_out 4 (by decide) (fun j hj => ?_)) (by decide) ?_
              · rcases (show j = 0 ∨ j = 1 ∨ j = 2 ∨ j = 3 by omega) with rfl | rfl | rfl | rfl
                · exact q9
                · exact q13
                · exact q17
                · exact q30
              · skip
                refine lv_aload_n C.1 C.2.1 dX1_undo_149 rfl (lv_at hl 2 rfl) ?_
                refine lv_iload_n C.1 C.2.1 dX1_undo_150 rfl (lv_at hl 1 rfl) ?_
                refine lv_iload_n C.1 C.2.1 dX1_undo_151 rfl (lv_at hl 0 rfl) ?_
                obtain ⟨S39, h38, hf⟩ := bdo_el hf
                refine mcVv (w := wC cy a r) (S := S3) (As := [.int z5, .int z7]) (rest := []) (q0 := 1) (ci := 1) C (cX1_set_met l D cy a r _ N S3 z5 z7 S39 h38) (cwV 2 C.2.2.2.2.1 gX1_undo_X1_set rfl rfl rfl (by decide +kernel) ⟨Nat.le_of_ble_eq_true rfl, Nat.le_of_ble_eq_true rfl⟩) rfl rfl rfl hl.1 (Nat.le_of_ble_eq_true rfl) hW dX1_undo_152 ⟨Nat.zero_le _, Nat.zero_le _⟩ rfl (fun H locs hW => ?_)
                exact lX1_undo_155 C hr hlocks N _ hf _ _ _ hW (lv_sub hl [2] rfl)
    · replace hf := (if_neg q2).symm.trans hf
      exact mrV C hr hlocks hf hW dX1_undo_18
theorem mX1_undoTo_38 : Cond.fieldLink RX1 38 "SharedLambda$Context" "changes" "I" ∈ wsX1_undoTo := by decide +kernel
theorem kX1_undoTo_1 : ∀ w ∈ u_ws RX1 TX1 8, w ∈ wsX1_undoTo := fun _ h => List.mem_cons_of_mem _ (List.mem_append_left _ (List.mem_append_right _ h))
def fX1_undoTo_7s (N : Nat) (k7 : St × Int32 → Option (St)) (S : St) (x2 : Int32) : Option (St) :=
  if x2 ≤ 0 then
    some S
  else
    bdo (fX1_undo N S) fun S4 =>
    bnd (x2 + (-1 : Int32)) fun z5 =>
    k7 (S4, z5)
def fX1_undoTo_7 (N : Nat) : St × Int32 → Option (St) := loopN (fun k x => fX1_undoTo_7s N k x.1 x.2) N
set_option maxHeartbeats 4000000 in
set_option maxRecDepth 100000 in
theorem lX1_undoTo_7 {p : Program} {l : Launch} {e : Env} {s : State} {m : MethodId} {args : Array Value} {below : List Frame} {meth : Method} {c : Code} {D : va_G} {cy : Nat → ClassId} {a r : Nat → Nat} {A : Nat → Prop} {Rr : St} (C : Cx p s m args c cX1_undoTo 3 wsX1_undoTo RX1 D cy) (hr : meth.sig.returnType = none) (hlocks : meth.locks = false) (N : Nat) : ∀ (n : Nat) (S : St) (x2 : Int32), loopN (fun k x => fX1_undoTo_7s N k x.1 x.2) n (S, x2) = some Rr → ∀ (H : Heap) (locs : List Loc) (ls : Array Slot), WW D A s.heap (wC cy a r S) H locs → lv_has ls 3 [(0, .ref (a 39)), (2, .int x2)] → W p l e ({ frames := 3, cells := 0, slots := 0, locals := 70 } : Room) s m args below meth c H locs 0 0 (MQ below (QV D cy (wC cy a r) A Rr) args s 0 0 A) (F0 m 7 ls []) := by
  intro n
  induction n with
  | zero =>
    intro S x2 hf
    cases hf
  | succ n ih =>
    intro S x2 hf H locs ls hW hl
    have hf : fX1_undoTo_7s N (loopN (fun k x => fX1_undoTo_7s N k x.1 x.2) n) S x2 = some Rr := hf
    unfold fX1_undoTo_7s at hf
    refine lv_iload_n C.1 C.2.1 dX1_undoTo_7 rfl (lv_at hl 1 rfl) ?_
    refine lv_if_le (tgt := 21) C.1 C.2.1 dX1_undoTo_8 (by decide) (fun q1 => ?_) (fun q1 => ?_)
    · replace hf := (if_pos q1).symm.trans hf
      exact mrV C hr hlocks hf hW dX1_undoTo_21
    · replace hf := (if_neg q1).symm.trans hf
      refine lv_aload_n C.1 C.2.1 dX1_undoTo_11 rfl (lv_at hl 0 rfl) ?_
      obtain ⟨S4, h3, hf⟩ := bdo_el hf
      refine mcVv (w := wC cy a r) (S := S) (As := []) (rest := []) (q0 := 1) (ci := 1) C (cX1_undo_met l D cy a r _ N S  S4 h3) (cwV 0 C.2.2.2.2.1 gX1_undoTo_X1_undo rfl rfl rfl (by decide +kernel) ⟨Nat.le_of_ble_eq_true rfl, Nat.le_of_ble_eq_true rfl⟩) rfl rfl rfl hl.1 (Nat.le_of_ble_eq_true rfl) hW dX1_undoTo_12 ⟨Nat.zero_le _, Nat.zero_le _⟩ rfl (fun H locs hW => ?_)
      obtain ⟨z5, ez5, hf⟩ := bnd_el hf
      refine lv_iinc (v := z5) (lv' := [(2, .int z5), (0, .ref (a 39))]) C.1 C.2.1 dX1_undoTo_15 hl (k := 1) rfl (by rw [ez5]; rfl) (by decide) rfl (fun ls hl => ?_)
      refine lv_goto (tgt := 7) C.1 C.2.1 dX1_undoTo_18 (by decide) ?_
      exact ih _ _ hf _ _ _ hW (lv_sub hl [1, 0] rfl)
def fX1_undoTo (N : Nat) (S : St) (p1 : Int32) : Option (St) :=
  bnd (S.1 27 - p1) fun z1 =>
  fX1_undoTo_7 N (S, z1)
set_option maxHeartbeats 4000000 in
set_option maxRecDepth 100000 in
theorem cX1_undoTo_met (l : Launch) (D : va_G) (cy : Nat → ClassId) (a r : Nat → Nat) (sz N : Nat) (S : St) (p1 : Int32) (Rr : St) (hf : fX1_undoTo N S p1 = some Rr) : Met l yX1_undoTo wsX1_undoTo ({ frames := 3, cells := 0, slots := 0, locals := 70 } : Room) (va_Pc [.ref (a 39), .int p1] (preW D cy (wC cy a r S) sz)) (QV D cy (wC cy a r) (va_A (wC cy a r S) sz) Rr) 0 0 (va_A (wC cy a r S) sz) := by
  refine Met.ofW (cc := cX1_undoTo) (maxL := 3) (ret := none) (by decide) rfl ?_
  intro p e s m args below meth c s₁ B hml hv
  obtain ⟨rfl, rfl, hP, hK, hD0, hN⟩ := hv
  have hlocks := B.notSynchronized
  have hr := B.returns
  have C : Cx p s m _ c cX1_undoTo 3 wsX1_undoTo RX1 D cy := ⟨B.exec, B.bytes, hml, findClass_of_methodNamed B.named, atoms_spec (ws := wsX1_undoTo) B.pre, hK, hN⟩
  have hW := ww_start (w := wC cy a r) hP hD0
  generalize va_A (wC cy a r S) s.heap.size = A at hW ⊢
  have hl := lv_entry ([.ref (a 39), .int p1]) (n := 3) (Nat.le_of_ble_eq_true rfl)
  rw [lg_entry_eq]
  generalize (lg_sl ([.ref (a 39), .int p1]) ++ List.replicate (3 - (lg_sl ([.ref (a 39), .int p1])).length) Slot.unset).toArray = ls at hl ⊢
  have hl : lv_has ls 3 [(0, .ref (a 39)), (1, .int p1)] := hl
  unfold fX1_undoTo at hf
  refine lv_aload_n C.1 C.2.1 dX1_undoTo_0 rfl (lv_at hl 0 rfl) ?_
  refine fg_1_7 C kX1_undoTo_1 mX1_undoTo_38 hW dX1_undoTo_1 ?_
  refine lv_iload_n C.1 C.2.1 dX1_undoTo_4 rfl (lv_at hl 1 rfl) ?_
  refine lv_isub C.1 C.2.1 dX1_undoTo_5 ?_
  obtain ⟨z1, ez1, hf⟩ := bnd_el hf
  refine lv_as ez1 ?_
  refine lv_istore_n (lv' := [(2, .int z1), (0, .ref (a 39)), (1, .int p1)]) C.1 C.2.1 dX1_undoTo_6 rfl hl (by decide) rfl (fun ls hl => ?_)
  exact lX1_undoTo_7 C hr hlocks N _ _ _ hf _ _ _ hW (lv_sub hl [1, 0] rfl)
