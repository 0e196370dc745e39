theorem mX7_takeTerm_23 : Cond.fieldLink RX7 23 "SharedLambda" "graph" "LSharedLambda$Graph;" ∈ wsX7_takeTerm := by decide +kernel
theorem mX7_takeTerm_39 : Cond.fieldLink RX7 39 "SharedLambda" "meetings" "LSharedLambda$Meetings;" ∈ wsX7_takeTerm := by decide +kernel
theorem mX7_takeTerm_32 : Cond.fieldLink RX7 32 "SharedLambda" "builder" "LSharedLambda$Builder;" ∈ wsX7_takeTerm := by decide +kernel
theorem mX7_takeTerm_16 : Cond.fieldLink RX7 16 "SharedLambda" "reader" "LSharedLambda$TermReader;" ∈ wsX7_takeTerm := by decide +kernel
theorem mX7_takeTerm_95 : Cond.fieldLink RX7 95 "SharedLambda" "resultLetters" "I" ∈ wsX7_takeTerm := by decide +kernel
theorem kX7_takeTerm_7 : ∀ w ∈ u_ws RX7 TX7 9, w ∈ wsX7_takeTerm := fun _ h => List.mem_cons_of_mem _ (List.mem_append_left _ (List.mem_append_left _ (List.mem_append_left _ (List.mem_append_left _ (List.mem_append_right _ h)))))
def fX7_takeTerm (N : Nat) (S : St) : Option (St) :=
  bdo (fX2_clear N S) fun S3 =>
  bdo (fX3_clear N S3) fun S6 =>
  bdo (fX0_build N S6) fun S9 =>
  bdo (fX2_eraseAll N S9) fun S12 =>
  bnd (sI S12 143 (0 : Int32)) fun S13 =>
  some S13
set_option maxHeartbeats 4000000 in
set_option maxRecDepth 100000 in
theorem cX7_takeTerm_met (l : Launch) (D : va_G) (cy : Nat → ClassId) (a r : Nat → Nat) (sz N : Nat) (S : St) (Rr : St) (hf : fX7_takeTerm N S  = some Rr) : Met l yX7_takeTerm wsX7_takeTerm ({ frames := 6, cells := 0, slots := 0, locals := 133 } : Room) (va_Pc [.ref (a 159)] (preW D cy (wC cy a r S) sz)) (QV D cy (wC cy a r) (va_A (wC cy a r S) sz) Rr) 0 0 (va_A (wC cy a r S) sz) := by
  refine Met.ofW (cc := cX7_takeTerm) (maxL := 1) (ret := none) (by decide) rfl ?_
  intro p e s m args below meth c s₁ B hml hv
  obtain ⟨rfl, rfl, hP, hK, hD0, hN⟩ := hv
  have hlocks := B.notSynchronized
  have hr := B.returns
  have C : Cx p s m _ c cX7_takeTerm 1 wsX7_takeTerm RX7 D cy := ⟨B.exec, B.bytes, hml, findClass_of_methodNamed B.named, atoms_spec (ws := wsX7_takeTerm) B.pre, hK, hN⟩
  have hW := ww_start (w := wC cy a r) hP hD0
  generalize va_A (wC cy a r S) s.heap.size = A at hW ⊢
  have hl := lv_entry ([.ref (a 159)]) (n := 1) (Nat.le_of_ble_eq_true rfl)
  rw [lg_entry_eq]
  generalize (lg_sl ([.ref (a 159)]) ++ List.replicate (1 - (lg_sl ([.ref (a 159)])).length) Slot.unset).toArray = ls at hl ⊢
  have hl : lv_has ls 1 [(0, .ref (a 159))] := hl
  unfold fX7_takeTerm at hf
  refine lv_aload_n C.1 C.2.1 dX7_takeTerm_0 rfl (lv_at hl 0 rfl) ?_
  refine fg_7_5 C kX7_takeTerm_7 mX7_takeTerm_23 hW dX7_takeTerm_1 ?_
  obtain ⟨S3, h2, hf⟩ := bdo_el hf
  refine mcVv (w := wC cy a r) (S := S) (As := []) (rest := []) (q0 := 2) (ci := 2) C (cX2_clear_met l D cy a r _ N S  S3 h2) (cwV 0 C.2.2.2.2.1 gX7_takeTerm_X2_clear rfl rfl rfl (by decide +kernel) ⟨Nat.le_of_ble_eq_true rfl, Nat.le_of_ble_eq_true rfl⟩) rfl rfl rfl hl.1 (Nat.le_of_ble_eq_true rfl) hW dX7_takeTerm_4 ⟨Nat.zero_le _, Nat.zero_le _⟩ rfl (fun H locs hW => ?_)
  refine lv_aload_n C.1 C.2.1 dX7_takeTerm_7 rfl (lv_at hl 0 rfl) ?_
  refine fg_7_7 C kX7_takeTerm_7 mX7_takeTerm_39 hW dX7_takeTerm_8 ?_
  obtain ⟨S6, h5, hf⟩ := bdo_el hf
  refine mcVv (w := wC cy a r) (S := S3) (As := []) (rest := []) (q0 := 3) (ci := 3) C (cX3_clear_met l D cy a r _ N S3  S6 h5) (cwV 0 C.2.2.2.2.1 gX7_takeTerm_X3_clear rfl rfl rfl (by decide +kernel) ⟨Nat.le_of_ble_eq_true rfl, Nat.le_of_ble_eq_true rfl⟩) rfl rfl rfl hl.1 (Nat.le_of_ble_eq_true rfl) hW dX7_takeTerm_11 ⟨Nat.zero_le _, Nat.zero_le _⟩ rfl (fun H locs hW => ?_)
  refine lv_aload_n C.1 C.2.1 dX7_takeTerm_14 rfl (lv_at hl 0 rfl) ?_
  refine fg_7_6 C kX7_takeTerm_7 mX7_takeTerm_32 hW dX7_takeTerm_15 ?_
  refine lv_aload_n C.1 C.2.1 dX7_takeTerm_18 rfl (lv_at hl 0 rfl) ?_
  refine fg_7_4 C kX7_takeTerm_7 mX7_takeTerm_16 hW dX7_takeTerm_19 ?_
  obtain ⟨S9, h8, hf⟩ := bdo_el hf
  refine mcVv (w := wC cy a r) (S := S6) (As := [.ref (a 99)]) (rest := []) (q0 := 0) (ci := 0) C (cX0_build_met l D cy a r _ N S6  S9 h8) (cwV 1 C.2.2.2.2.1 gX7_takeTerm_X0_build rfl rfl rfl (by decide +kernel) ⟨Nat.le_of_ble_eq_true rfl, Nat.le_of_ble_eq_true rfl⟩) rfl rfl rfl hl.1 (Nat.le_of_ble_eq_true rfl) hW dX7_takeTerm_22 ⟨Nat.zero_le _, Nat.zero_le _⟩ rfl (fun H locs hW => ?_)
  refine lv_aload_n C.1 C.2.1 dX7_takeTerm_25 rfl (lv_at hl 0 rfl) ?_
  refine fg_7_5 C kX7_takeTerm_7 mX7_takeTerm_23 hW dX7_takeTerm_26 ?_
  obtain ⟨S12, h11, hf⟩ := bdo_el hf
  refine mcVv (w := wC cy a r) (S := S9) (As := []) (rest := []) (q0 := 2) (ci := 2) C (cX2_eraseAll_met l D cy a r _ N S9  S12 h11) (cwV 0 C.2.2.2.2.1 gX7_takeTerm_X2_eraseAll rfl rfl rfl (by decide +kernel) ⟨Nat.le_of_ble_eq_true rfl, Nat.le_of_ble_eq_true rfl⟩) rfl rfl rfl hl.1 (Nat.le_of_ble_eq_true rfl) hW dX7_takeTerm_29 ⟨Nat.zero_le _, Nat.zero_le _⟩ rfl (fun H locs hW => ?_)
  refine lv_aload_n C.1 C.2.1 dX7_takeTerm_32 rfl (lv_at hl 0 rfl) ?_
  refine lv_iconst (v := 0) C.1 C.2.1 dX7_takeTerm_33 (by decide) ?_
  obtain ⟨S13, eS13, hf⟩ := bnd_el hf
  refine fp_7_3 C kX7_takeTerm_7 mX7_takeTerm_95 hW dX7_takeTerm_34 eS13 (fun H locs hW => ?_)
  exact mrV C hr hlocks hf hW dX7_takeTerm_37
theorem mX7_read_16 : Cond.fieldLink RX7 16 "SharedLambda" "reader" "LSharedLambda$TermReader;" ∈ wsX7_read := by decide +kernel
theorem mX7_read_9 : Cond.fieldLink RX7 9 "SharedLambda" "tape" "[I" ∈ wsX7_read := by decide +kernel
theorem mX7_read_64 : Cond.fieldLink RX7 64 "SharedLambda" "tapeLength" "I" ∈ wsX7_read := by decide +kernel
theorem mX7_read_75 : Cond.fieldLink RX7 75 "SharedLambda" "faultKind" "I" ∈ wsX7_read := by decide +kernel
theorem mX7_read_23 : Cond.fieldLink RX7 23 "SharedLambda" "graph" "LSharedLambda$Graph;" ∈ wsX7_read := by decide +kernel
theorem kX7_read_7 : ∀ w ∈ u_ws RX7 TX7 9, w ∈ wsX7_read := fun _ h => List.mem_cons_of_mem _ (List.mem_append_left _ (List.mem_append_left _ (List.mem_append_left _ (List.mem_append_left _ (List.mem_append_right _ h)))))
def fX7_read (N : Nat) (S : St) : Option (Int32 × St) :=
  bd2 (fX4_scan N S (S.1 141)) fun v1 S3 =>
  bnd (sI S3 142 v1) fun S4 =>
  bnd (sI S4 141 (0 : Int32)) fun S5 =>
  if S5.1 142 = 0 then
    bdo (fX7_takeTerm N S5) fun S9 =>
    bd2 (fX2_size N S9) fun v10 S12 =>
    some (v10, S12)
  else
    bd2 (fX4_place N S5) fun v13 S15 =>
    some (((-1 : Int32) - v13), S15)
set_option maxHeartbeats 4000000 in
set_option maxRecDepth 100000 in
theorem cX7_read_met (l : Launch) (D : va_G) (cy : Nat → ClassId) (a r : Nat → Nat) (sz N : Nat) (S : St) (Rr : Int32 × St) (hf : fX7_read N S  = some Rr) : Met l yX7_read wsX7_read ({ frames := 7, cells := 0, slots := 0, locals := 153 } : Room) (va_Pc [.ref (a 159)] (preW D cy (wC cy a r S) sz)) (QI D cy (wC cy a r) (va_A (wC cy a r S) sz) Rr) 0 0 (va_A (wC cy a r S) sz) := by
  refine Met.ofW (cc := cX7_read) (maxL := 1) (ret := (some .int)) (by decide) rfl ?_
  intro p e s m args below meth c s₁ B hml hv
  obtain ⟨rfl, rfl, hP, hK, hD0, hN⟩ := hv
  have hlocks := B.notSynchronized
  have hr := B.returns
  have C : Cx p s m _ c cX7_read 1 wsX7_read RX7 D cy := ⟨B.exec, B.bytes, hml, findClass_of_methodNamed B.named, atoms_spec (ws := wsX7_read) B.pre, hK, hN⟩
  have hW := ww_start (w := wC cy a r) hP hD0
  generalize va_A (wC cy a r S) s.heap.size = A at hW ⊢
  have hl := lv_entry ([.ref (a 159)]) (n := 1) (Nat.le_of_ble_eq_true rfl)
  rw [lg_entry_eq]
  generalize (lg_sl ([.ref (a 159)]) ++ List.replicate (1 - (lg_sl ([.ref (a 159)])).length) Slot.unset).toArray = ls at hl ⊢
  have hl : lv_has ls 1 [(0, .ref (a 159))] := hl
  unfold fX7_read at hf
  refine lv_aload_n C.1 C.2.1 dX7_read_0 rfl (lv_at hl 0 rfl) ?_
  refine lv_aload_n C.1 C.2.1 dX7_read_1 rfl (lv_at hl 0 rfl) ?_
  refine fg_7_4 C kX7_read_7 mX7_read_16 hW dX7_read_2 ?_
  refine lv_aload_n C.1 C.2.1 dX7_read_5 rfl (lv_at hl 0 rfl) ?_
  refine fg_7_0 C kX7_read_7 mX7_read_9 hW dX7_read_6 ?_
  refine lv_aload_n C.1 C.2.1 dX7_read_9 rfl (lv_at hl 0 rfl) ?_
  refine fg_7_1 C kX7_read_7 mX7_read_64 hW dX7_read_10 ?_
  obtain ⟨v1, S3, h2, hf⟩ := bd2_el hf
  refine mcVi (w := wC cy a r) (S := S) (As := [.ref (a 140), .int (S.1 141)]) (rest := [.ref (a 159)]) (q0 := 4) (ci := 4) C (cX4_scan_met l D cy a r _ N S (S.1 141) (v1, S3) h2) (cwV 2 C.2.2.2.2.1 gX7_read_X4_scan rfl rfl rfl (by decide +kernel) ⟨Nat.le_of_ble_eq_true rfl, Nat.le_of_ble_eq_true rfl⟩) rfl rfl rfl hl.1 (Nat.le_of_ble_eq_true rfl) hW dX7_read_13 ⟨Nat.zero_le _, Nat.zero_le _⟩ rfl (fun H locs hW => ?_)
  obtain ⟨S4, eS4, hf⟩ := bnd_el hf
  refine fp_7_2 C kX7_read_7 mX7_read_75 hW dX7_read_16 eS4 (fun H locs hW => ?_)
  refine lv_aload_n C.1 C.2.1 dX7_read_19 rfl (lv_at hl 0 rfl) ?_
  refine lv_iconst (v := 0) C.1 C.2.1 dX7_read_20 (by decide) ?_
  obtain ⟨S5, eS5, hf⟩ := bnd_el hf
  refine fp_7_1 C kX7_read_7 mX7_read_64 hW dX7_read_21 eS5 (fun H locs hW => ?_)
  refine lv_aload_n C.1 C.2.1 dX7_read_24 rfl (lv_at hl 0 rfl) ?_
  refine fg_7_2 C kX7_read_7 mX7_read_75 hW dX7_read_25 ?_
  refine lv_if_eq (tgt := 41) C.1 C.2.1 dX7_read_28 (by decide) (fun q6 => ?_) (fun q6 => ?_)
  · replace hf := (if_pos q6).symm.trans hf
    refine lv_aload_n C.1 C.2.1 dX7_read_41 rfl (lv_at hl 0 rfl) ?_
    obtain ⟨S9, h8, hf⟩ := bdo_el hf
    refine mcVv (w := wC cy a r) (S := S5) (As := []) (rest := []) (q0 := 7) (ci := 7) C (cX7_takeTerm_met l D cy a r _ N S5  S9 h8) (cwV 0 C.2.2.2.2.1 gX7_read_X7_takeTerm rfl rfl rfl (by decide +kernel) ⟨Nat.le_of_ble_eq_true rfl, Nat.le_of_ble_eq_true rfl⟩) rfl rfl rfl hl.1 (Nat.le_of_ble_eq_true rfl) hW dX7_read_42 ⟨Nat.zero_le _, Nat.zero_le _⟩ rfl (fun H locs hW => ?_)
    refine lv_aload_n C.1 C.2.1 dX7_read_45 rfl (lv_at hl 0 rfl) ?_
    refine fg_7_5 C kX7_read_7 mX7_read_23 hW dX7_read_46 ?_
    obtain ⟨v10, S12, h11, hf⟩ := bd2_el hf
    refine mcVi (w := wC cy a r) (S := S9) (As := []) (rest := []) (q0 := 2) (ci := 2) C (cX2_size_met l D cy a r _ N S9  (v10, S12) h11) (cwV 0 C.2.2.2.2.1 gX7_read_X2_size rfl rfl rfl (by decide +kernel) ⟨Nat.le_of_ble_eq_true rfl, Nat.le_of_ble_eq_true rfl⟩) rfl rfl rfl hl.1 (Nat.le_of_ble_eq_true rfl) hW dX7_read_49 ⟨Nat.zero_le _, Nat.zero_le _⟩ rfl (fun H locs hW => ?_)
    exact mrI C hr hlocks rfl hf hW dX7_read_52
  · replace hf := (if_neg q6).symm.trans hf
    refine lv_iconst (v := -1) C.1 C.2.1 dX7_read_31 (by decide) ?_
    refine lv_aload_n C.1 C.2.1 dX7_read_32 rfl (lv_at hl 0 rfl) ?_
    refine fg_7_4 C kX7_read_7 mX7_read_16 hW dX7_read_33 ?_
    obtain ⟨v13, S15, h14, hf⟩ := bd2_el hf
    refine mcVi (w := wC cy a r) (S := S5) (As := []) (rest := [.int (-1 : Int32)]) (q0 := 4) (ci := 4) C (cX4_place_met l D cy a r _ N S5  (v13, S15) h14) (cwV 0 C.2.2.2.2.1 gX7_read_X4_place rfl rfl rfl (by decide +kernel) ⟨Nat.le_of_ble_eq_true rfl, Nat.le_of_ble_eq_true rfl⟩) rfl rfl rfl hl.1 (Nat.le_of_ble_eq_true rfl) hW dX7_read_36 ⟨Nat.zero_le _, Nat.zero_le _⟩ rfl (fun H locs hW => ?_)
    refine lv_isub C.1 C.2.1 dX7_read_39 ?_
    exact mrI C hr hlocks rfl hf hW dX7_read_40
