theorem mX5_size_27 : Cond.fieldLink RX5 27 "SharedLambda$Trees" "count" "I" ∈ wsX5_size := by decide +kernel
theorem kX5_size_5 : ∀ w ∈ u_ws RX5 TX5 6, w ∈ wsX5_size := fun _ h => List.mem_cons_of_mem _ (List.mem_append_right _ h)
def fX5_size (N : Nat) (S : St) : Option (Int32 × St) :=
  some (S.1 105, S)
set_option maxHeartbeats 4000000 in
set_option maxRecDepth 100000 in
theorem cX5_size_met (l : Launch) (D : va_G) (cy : Nat → ClassId) (a r : Nat → Nat) (sz N : Nat) (S : St) (Rr : Int32 × St) (hf : fX5_size N S  = some Rr) : Met l yX5_size wsX5_size ({ frames := 0, cells := 0, slots := 0, locals := 0 } : Room) (va_Pc [.ref (a 119)] (preW D cy (wC cy a r S) sz)) (QI D cy (wC cy a r) (va_A (wC cy a r S) sz) Rr) 0 0 (va_A (wC cy a r S) sz) := by
  refine Met.ofW (cc := cX5_size) (maxL := 1) (ret := (some .int)) (by decide) rfl ?_
  intro p e s m args below meth c s₁ B hml hv
  obtain ⟨rfl, rfl, hP, hK, hD0, hN⟩ := hv
  have hlocks := B.notSynchronized
  have hr := B.returns
  have C : Cx p s m _ c cX5_size 1 wsX5_size RX5 D cy := ⟨B.exec, B.bytes, hml, findClass_of_methodNamed B.named, atoms_spec (ws := wsX5_size) B.pre, hK, hN⟩
  have hW := ww_start (w := wC cy a r) hP hD0
  generalize va_A (wC cy a r S) s.heap.size = A at hW ⊢
  have hl := lv_entry ([.ref (a 119)]) (n := 1) (Nat.le_of_ble_eq_true rfl)
  rw [lg_entry_eq]
  generalize (lg_sl ([.ref (a 119)]) ++ List.replicate (1 - (lg_sl ([.ref (a 119)])).length) Slot.unset).toArray = ls at hl ⊢
  have hl : lv_has ls 1 [(0, .ref (a 119))] := hl
  unfold fX5_size at hf
  refine lv_aload_n C.1 C.2.1 dX5_size_0 rfl (lv_at hl 0 rfl) ?_
  refine fg_5_5 C kX5_size_5 mX5_size_27 hW dX5_size_1 ?_
  exact mrI C hr hlocks rfl hf hW dX5_size_4
theorem mX5_form_27 : Cond.fieldLink RX5 27 "SharedLambda$Trees" "count" "I" ∈ wsX5_form := by decide +kernel
theorem mX5_form_11 : Cond.fieldLink RX5 11 "SharedLambda$Trees" "forms" "[I" ∈ wsX5_form := by decide +kernel
theorem kX5_form_5 : ∀ w ∈ u_ws RX5 TX5 6, w ∈ wsX5_form := fun _ h => List.mem_cons_of_mem _ (List.mem_append_right _ h)
def fX5_form (N : Nat) (S : St) (p1 : Int32) : Option (Int32 × St) :=
  if p1 ≤ 0 then
    some ((0 : Int32), S)
  else
    if S.1 105 ≤ p1 then
      some ((0 : Int32), S)
    else
      ckx p1 4002 <|
      some (S.2.1 100 (p1 : Int32).toNatClampNeg, S)
set_option maxHeartbeats 4000000 in
set_option maxRecDepth 100000 in
theorem cX5_form_met (l : Launch) (D : va_G) (cy : Nat → ClassId) (a r : Nat → Nat) (sz N : Nat) (S : St) (p1 : Int32) (Rr : Int32 × St) (hf : fX5_form N S p1 = some Rr) : Met l yX5_form wsX5_form ({ frames := 0, cells := 0, slots := 0, locals := 0 } : Room) (va_Pc [.ref (a 119), .int p1] (preW D cy (wC cy a r S) sz)) (QI D cy (wC cy a r) (va_A (wC cy a r S) sz) Rr) 0 0 (va_A (wC cy a r S) sz) := by
  refine Met.ofW (cc := cX5_form) (maxL := 2) (ret := (some .int)) (by decide) rfl ?_
  intro p e s m args below meth c s₁ B hml hv
  obtain ⟨rfl, rfl, hP, hK, hD0, hN⟩ := hv
  have hlocks := B.notSynchronized
  have hr := B.returns
  have C : Cx p s m _ c cX5_form 2 wsX5_form RX5 D cy := ⟨B.exec, B.bytes, hml, findClass_of_methodNamed B.named, atoms_spec (ws := wsX5_form) B.pre, hK, hN⟩
  have hW := ww_start (w := wC cy a r) hP hD0
  generalize va_A (wC cy a r S) s.heap.size = A at hW ⊢
  have hl := lv_entry ([.ref (a 119), .int p1]) (n := 2) (Nat.le_of_ble_eq_true rfl)
  rw [lg_entry_eq]
  generalize (lg_sl ([.ref (a 119), .int p1]) ++ List.replicate (2 - (lg_sl ([.ref (a 119), .int p1])).length) Slot.unset).toArray = ls at hl ⊢
  have hl : lv_has ls 2 [(0, .ref (a 119)), (1, .int p1)] := hl
  unfold fX5_form at hf
  refine lv_iload_n C.1 C.2.1 dX5_form_0 rfl (lv_at hl 1 rfl) ?_
  refine lv_if_le (tgt := 21) C.1 C.2.1 dX5_form_1 (by decide) (fun q1 => ?_) (fun q1 => ?_)
  · replace hf := (if_pos q1).symm.trans hf
    refine lv_iconst (v := 0) C.1 C.2.1 dX5_form_21 (by decide) ?_
    exact mrI C hr hlocks rfl hf hW dX5_form_22
  · replace hf := (if_neg q1).symm.trans hf
    refine lv_iload_n C.1 C.2.1 dX5_form_4 rfl (lv_at hl 1 rfl) ?_
    refine lv_aload_n C.1 C.2.1 dX5_form_5 rfl (lv_at hl 0 rfl) ?_
    refine fg_5_5 C kX5_form_5 mX5_form_27 hW dX5_form_6 ?_
    refine lv_icmp_ge (tgt := 21) C.1 C.2.1 dX5_form_9 (by decide) (fun q2 => ?_) (fun q2 => ?_)
    · replace hf := (if_pos q2).symm.trans hf
      refine lv_iconst (v := 0) C.1 C.2.1 dX5_form_21 (by decide) ?_
      exact mrI C hr hlocks rfl hf hW dX5_form_22
    · replace hf := (if_neg q2).symm.trans hf
      refine lv_aload_n C.1 C.2.1 dX5_form_12 rfl (lv_at hl 0 rfl) ?_
      refine fg_5_0 C kX5_form_5 mX5_form_11 hW dX5_form_13 ?_
      refine lv_iload_n C.1 C.2.1 dX5_form_16 rfl (lv_at hl 1 rfl) ?_
      obtain ⟨h3, hf⟩ := ckx_el hf
      refine al_5_0 C hW h3 dX5_form_17 ?_
      refine lv_goto (tgt := 22) C.1 C.2.1 dX5_form_18 (by decide) ?_
      exact mrI C hr hlocks rfl hf hW dX5_form_22
theorem mX5_left_27 : Cond.fieldLink RX5 27 "SharedLambda$Trees" "count" "I" ∈ wsX5_left := by decide +kernel
theorem mX5_left_15 : Cond.fieldLink RX5 15 "SharedLambda$Trees" "lefts" "[I" ∈ wsX5_left := by decide +kernel
theorem kX5_left_5 : ∀ w ∈ u_ws RX5 TX5 6, w ∈ wsX5_left := fun _ h => List.mem_cons_of_mem _ (List.mem_append_right _ h)
def fX5_left (N : Nat) (S : St) (p1 : Int32) : Option (Int32 × St) :=
  if p1 ≤ 0 then
    some ((0 : Int32), S)
  else
    if S.1 105 ≤ p1 then
      some ((0 : Int32), S)
    else
      ckx p1 4002 <|
      some (S.2.1 101 (p1 : Int32).toNatClampNeg, S)
set_option maxHeartbeats 4000000 in
set_option maxRecDepth 100000 in
theorem cX5_left_met (l : Launch) (D : va_G) (cy : Nat → ClassId) (a r : Nat → Nat) (sz N : Nat) (S : St) (p1 : Int32) (Rr : Int32 × St) (hf : fX5_left N S p1 = some Rr) : Met l yX5_left wsX5_left ({ frames := 0, cells := 0, slots := 0, locals := 0 } : Room) (va_Pc [.ref (a 119), .int p1] (preW D cy (wC cy a r S) sz)) (QI D cy (wC cy a r) (va_A (wC cy a r S) sz) Rr) 0 0 (va_A (wC cy a r S) sz) := by
  refine Met.ofW (cc := cX5_left) (maxL := 2) (ret := (some .int)) (by decide) rfl ?_
  intro p e s m args below meth c s₁ B hml hv
  obtain ⟨rfl, rfl, hP, hK, hD0, hN⟩ := hv
  have hlocks := B.notSynchronized
  have hr := B.returns
  have C : Cx p s m _ c cX5_left 2 wsX5_left RX5 D cy := ⟨B.exec, B.bytes, hml, findClass_of_methodNamed B.named, atoms_spec (ws := wsX5_left) B.pre, hK, hN⟩
  have hW := ww_start (w := wC cy a r) hP hD0
  generalize va_A (wC cy a r S) s.heap.size = A at hW ⊢
  have hl := lv_entry ([.ref (a 119), .int p1]) (n := 2) (Nat.le_of_ble_eq_true rfl)
  rw [lg_entry_eq]
  generalize (lg_sl ([.ref (a 119), .int p1]) ++ List.replicate (2 - (lg_sl ([.ref (a 119), .int p1])).length) Slot.unset).toArray = ls at hl ⊢
  have hl : lv_has ls 2 [(0, .ref (a 119)), (1, .int p1)] := hl
  unfold fX5_left at hf
  refine lv_iload_n C.1 C.2.1 dX5_left_0 rfl (lv_at hl 1 rfl) ?_
  refine lv_if_le (tgt := 21) C.1 C.2.1 dX5_left_1 (by decide) (fun q1 => ?_) (fun q1 => ?_)
  · replace hf := (if_pos q1).symm.trans hf
    refine lv_iconst (v := 0) C.1 C.2.1 dX5_left_21 (by decide) ?_
    exact mrI C hr hlocks rfl hf hW dX5_left_22
  · replace hf := (if_neg q1).symm.trans hf
    refine lv_iload_n C.1 C.2.1 dX5_left_4 rfl (lv_at hl 1 rfl) ?_
    refine lv_aload_n C.1 C.2.1 dX5_left_5 rfl (lv_at hl 0 rfl) ?_
    refine fg_5_5 C kX5_left_5 mX5_left_27 hW dX5_left_6 ?_
    refine lv_icmp_ge (tgt := 21) C.1 C.2.1 dX5_left_9 (by decide) (fun q2 => ?_) (fun q2 => ?_)
    · replace hf := (if_pos q2).symm.trans hf
      refine lv_iconst (v := 0) C.1 C.2.1 dX5_left_21 (by decide) ?_
      exact mrI C hr hlocks rfl hf hW dX5_left_22
    · replace hf := (if_neg q2).symm.trans hf
      refine lv_aload_n C.1 C.2.1 dX5_left_12 rfl (lv_at hl 0 rfl) ?_
      refine fg_5_1 C kX5_left_5 mX5_left_15 hW dX5_left_13 ?_
      refine lv_iload_n C.1 C.2.1 dX5_left_16 rfl (lv_at hl 1 rfl) ?_
      obtain ⟨h3, hf⟩ := ckx_el hf
      refine al_5_1 C hW h3 dX5_left_17 ?_
      refine lv_goto (tgt := 22) C.1 C.2.1 dX5_left_18 (by decide) ?_
      exact mrI C hr hlocks rfl hf hW dX5_left_22
theorem mX5_right_27 : Cond.fieldLink RX5 27 "SharedLambda$Trees" "count" "I" ∈ wsX5_right := by decide +kernel
theorem mX5_right_18 : Cond.fieldLink RX5 18 "SharedLambda$Trees" "rights" "[I" ∈ wsX5_right := by decide +kernel
theorem kX5_right_5 : ∀ w ∈ u_ws RX5 TX5 6, w ∈ wsX5_right := fun _ h => List.mem_cons_of_mem _ (List.mem_append_right _ h)
def fX5_right (N : Nat) (S : St) (p1 : Int32) : Option (Int32 × St) :=
  if p1 ≤ 0 then
    some ((0 : Int32), S)
  else
    if S.1 105 ≤ p1 then
      some ((0 : Int32), S)
    else
      ckx p1 4002 <|
      some (S.2.1 102 (p1 : Int32).toNatClampNeg, S)
set_option maxHeartbeats 4000000 in
set_option maxRecDepth 100000 in
theorem cX5_right_met (l : Launch) (D : va_G) (cy : Nat → ClassId) (a r : Nat → Nat) (sz N : Nat) (S : St) (p1 : Int32) (Rr : Int32 × St) (hf : fX5_right N S p1 = some Rr) : Met l yX5_right wsX5_right ({ frames := 0, cells := 0, slots := 0, locals := 0 } : Room) (va_Pc [.ref (a 119), .int p1] (preW D cy (wC cy a r S) sz)) (QI D cy (wC cy a r) (va_A (wC cy a r S) sz) Rr) 0 0 (va_A (wC cy a r S) sz) := by
  refine Met.ofW (cc := cX5_right) (maxL := 2) (ret := (some .int)) (by decide) rfl ?_
  intro p e s m args below meth c s₁ B hml hv
  obtain ⟨rfl, rfl, hP, hK, hD0, hN⟩ := hv
  have hlocks := B.notSynchronized
  have hr := B.returns
  have C : Cx p s m _ c cX5_right 2 wsX5_right RX5 D cy := ⟨B.exec, B.bytes, hml, findClass_of_methodNamed B.named, atoms_spec (ws := wsX5_right) B.pre, hK, hN⟩
  have hW := ww_start (w := wC cy a r) hP hD0
  generalize va_A (wC cy a r S) s.heap.size = A at hW ⊢
  have hl := lv_entry ([.ref (a 119), .int p1]) (n := 2) (Nat.le_of_ble_eq_true rfl)
  rw [lg_entry_eq]
  generalize (lg_sl ([.ref (a 119), .int p1]) ++ List.replicate (2 - (lg_sl ([.ref (a 119), .int p1])).length) Slot.unset).toArray = ls at hl ⊢
  have hl : lv_has ls 2 [(0, .ref (a 119)), (1, .int p1)] := hl
  unfold fX5_right at hf
  refine lv_iload_n C.1 C.2.1 dX5_right_0 rfl (lv_at hl 1 rfl) ?_
  refine lv_if_le (tgt := 21) C.1 C.2.1 dX5_right_1 (by decide) (fun q1 => ?_) (fun q1 => ?_)
  · replace hf := (if_pos q1).symm.trans hf
    refine lv_iconst (v := 0) C.1 C.2.1 dX5_right_21 (by decide) ?_
    exact mrI C hr hlocks rfl hf hW dX5_right_22
  · replace hf := (if_neg q1).symm.trans hf
    refine lv_iload_n C.1 C.2.1 dX5_right_4 rfl (lv_at hl 1 rfl) ?_
    refine lv_aload_n C.1 C.2.1 dX5_right_5 rfl (lv_at hl 0 rfl) ?_
    refine fg_5_5 C kX5_right_5 mX5_right_27 hW dX5_right_6 ?_
    refine lv_icmp_ge (tgt := 21) C.1 C.2.1 dX5_right_9 (by decide) (fun q2 => ?_) (fun q2 => ?_)
    · replace hf := (if_pos q2).symm.trans hf
      refine lv_iconst (v := 0) C.1 C.2.1 dX5_right_21 (by decide) ?_
      exact mrI C hr hlocks rfl hf hW dX5_right_22
    · replace hf := (if_neg q2).symm.trans hf
      refine lv_aload_n C.1 C.2.1 dX5_right_12 rfl (lv_at hl 0 rfl) ?_
      refine fg_5_2 C kX5_right_5 mX5_right_18 hW dX5_right_13 ?_
      refine lv_iload_n C.1 C.2.1 dX5_right_16 rfl (lv_at hl 1 rfl) ?_
      obtain ⟨h3, hf⟩ := ckx_el hf
      refine al_5_2 C hW h3 dX5_right_17 ?_
      refine lv_goto (tgt := 22) C.1 C.2.1 dX5_right_18 (by decide) ?_
      exact mrI C hr hlocks rfl hf hW dX5_right_22
def fX5_bucketOf (p0 : Int32) (p1 : Int32) (p2 : Int32) : Option Int32 :=
  some (((((p0 * (1009 : Int32)) + (p1 * (31 : Int32))) + (p2 * (577 : Int32))) &&& (4095 : Int32)))
set_option maxHeartbeats 4000000 in
set_option maxRecDepth 100000 in
theorem cX5_bucketOf_met (l : Launch) (p0 : Int32) (p1 : Int32) (p2 : Int32) (v1 : Int32) (hf : fX5_bucketOf p0 p1 p2 = some v1) : MetS l yX5_bucketOf wsX5_bucketOf ({ frames := 0, cells := 0, slots := 0, locals := 0 } : Room) [.int p0, .int p1, .int p2] v1 := by
  refine Met.ofW (cc := cX5_bucketOf) (maxL := 3) (ret := (some .int)) (by decide) rfl ?_
  intro p e s m args below meth c s₁ B hml hv
  obtain ⟨rfl, -⟩ := hv
  have hlocks := B.notSynchronized
  have hr := B.returns
  have C : p.tables.exec = Jvm.exec ∧ c.code = cX5_bucketOf ∧ True := ⟨B.exec, B.bytes, trivial⟩
  have hl := lv_entry ([.int p0, .int p1, .int p2]) (n := 3) (Nat.le_of_ble_eq_true rfl)
  rw [lg_entry_eq]
  generalize (lg_sl ([.int p0, .int p1, .int p2]) ++ List.replicate (3 - (lg_sl ([.int p0, .int p1, .int p2])).length) Slot.unset).toArray = ls at hl ⊢
  have hl : lv_has ls 3 [(0, .int p0), (1, .int p1), (2, .int p2)] := hl
  unfold fX5_bucketOf at hf
  refine lv_iload_n C.1 C.2.1 dX5_bucketOf_0 rfl (lv_at hl 0 rfl) ?_
  refine lv_sipush (v := 1009) C.1 C.2.1 dX5_bucketOf_1 (by decide) ?_
  refine lv_imul C.1 C.2.1 dX5_bucketOf_4 ?_
  refine lv_iload_n C.1 C.2.1 dX5_bucketOf_5 rfl (lv_at hl 1 rfl) ?_
  refine lv_bipush (v := 31) C.1 C.2.1 dX5_bucketOf_6 (by decide) ?_
  refine lv_imul C.1 C.2.1 dX5_bucketOf_8 ?_
  refine lv_iadd C.1 C.2.1 dX5_bucketOf_9 ?_
  refine lv_iload_n C.1 C.2.1 dX5_bucketOf_10 rfl (lv_at hl 2 rfl) ?_
  refine lv_sipush (v := 577) C.1 C.2.1 dX5_bucketOf_11 (by decide) ?_
  refine lv_imul C.1 C.2.1 dX5_bucketOf_14 ?_
  refine lv_iadd C.1 C.2.1 dX5_bucketOf_15 ?_
  refine lv_sipush (v := 4095) C.1 C.2.1 dX5_bucketOf_16 (by decide) ?_
  refine lv_iand C.1 C.2.1 dX5_bucketOf_19 ?_
  exact mrS C.1 C.2.1 hr hlocks rfl hf rfl dX5_bucketOf_20
theorem mX5_add_27 : Cond.fieldLink RX5 27 "SharedLambda$Trees" "count" "I" ∈ wsX5_add := by decide +kernel
theorem mX5_add_11 : Cond.fieldLink RX5 11 "SharedLambda$Trees" "forms" "[I" ∈ wsX5_add := by decide +kernel
theorem mX5_add_15 : Cond.fieldLink RX5 15 "SharedLambda$Trees" "lefts" "[I" ∈ wsX5_add := by decide +kernel
theorem mX5_add_18 : Cond.fieldLink RX5 18 "SharedLambda$Trees" "rights" "[I" ∈ wsX5_add := by decide +kernel
theorem mX5_add_21 : Cond.fieldLink RX5 21 "SharedLambda$Trees" "olders" "[I" ∈ wsX5_add := by decide +kernel
theorem mX5_add_24 : Cond.fieldLink RX5 24 "SharedLambda$Trees" "newest" "[I" ∈ wsX5_add := by decide +kernel
theorem kX5_add_5 : ∀ w ∈ u_ws RX5 TX5 6, w ∈ wsX5_add := fun _ h => List.mem_cons_of_mem _ (List.mem_append_right _ h)
def fX5_add (N : Nat) (S : St) (p1 : Int32) (p2 : Int32) (p3 : Int32) (p4 : Int32) : Option (Int32 × St) :=
  if (4002 : Int32) ≤ S.1 105 then
    some ((0 : Int32), S)
  else
    if p1 < 0 then
      some ((0 : Int32), S)
    else
      if p1 < (4096 : Int32) then
        bnd (S.1 105) fun z4 =>
        ckx z4 4002 <|
        bnd (sA S 100 (upd (S.2.1 100) (z4 : Int32).toNatClampNeg p2)) fun S6 =>
        ckx z4 4002 <|
        bnd (sA S6 101 (upd (S6.2.1 101) (z4 : Int32).toNatClampNeg p3)) fun S8 =>
        ckx z4 4002 <|
        bnd (sA S8 102 (upd (S8.2.1 102) (z4 : Int32).toNatClampNeg p4)) fun S10 =>
        ckx p1 4096 <|
        ckx z4 4002 <|
        bnd (sA S10 103 (upd (S10.2.1 103) (z4 : Int32).toNatClampNeg (S10.2.1 104 (p1 : Int32).toNatClampNeg))) fun S13 =>
        ckx p1 4096 <|
        bnd (sA S13 104 (upd (S13.2.1 104) (p1 : Int32).toNatClampNeg z4)) fun S15 =>
        bnd (sI S15 105 ((S15.1 105 + (1 : Int32)))) fun S16 =>
        some (z4, S16)
      else
        some ((0 : Int32), S)
set_option maxHeartbeats 4000000 in
set_option maxRecDepth 100000 in
theorem cX5_add_met (l : Launch) (D : va_G) (cy : Nat → ClassId) (a r : Nat → Nat) (sz N : Nat) (S : St) (p1 : Int32) (p2 : Int32) (p3 : Int32) (p4 : Int32) (Rr : Int32 × St) (hf : fX5_add N S p1 p2 p3 p4 = some Rr) : Met l yX5_add wsX5_add ({ frames := 0, cells := 0, slots := 0, locals := 0 } : Room) (va_Pc [.ref (a 119), .int p1, .int p2, .int p3, .int p4] (preW D cy (wC cy a r S) sz)) (QI D cy (wC cy a r) (va_A (wC cy a r S) sz) Rr) 0 0 (va_A (wC cy a r S) sz) := by
  refine Met.ofW (cc := cX5_add) (maxL := 6) (ret := (some .int)) (by decide) rfl ?_
  intro p e s m args below meth c s₁ B hml hv
  obtain ⟨rfl, rfl, hP, hK, hD0, hN⟩ := hv
  have hlocks := B.notSynchronized
  have hr := B.returns
  have C : Cx p s m _ c cX5_add 6 wsX5_add RX5 D cy := ⟨B.exec, B.bytes, hml, findClass_of_methodNamed B.named, atoms_spec (ws := wsX5_add) B.pre, hK, hN⟩
  have hW := ww_start (w := wC cy a r) hP hD0
  generalize va_A (wC cy a r S) s.heap.size = A at hW ⊢
  have hl := lv_entry ([.ref (a 119), .int p1, .int p2, .int p3, .int p4]) (n := 6) (Nat.le_of_ble_eq_true rfl)
  rw [lg_entry_eq]
  generalize (lg_sl ([.ref (a 119), .int p1, .int p2, .int p3, .int p4]) ++ List.replicate (6 - (lg_sl ([.ref (a 119), .int p1, .int p2, .int p3, .int p4])).length) Slot.unset).toArray = ls at hl ⊢
  have hl : lv_has ls 6 [(0, .ref (a 119)), (1, .int p1), (2, .int p2), (3, .int p3), (4, .int p4)] := hl
  unfold fX5_add at hf
  refine lv_aload_n C.1 C.2.1 dX5_add_0 rfl (lv_at hl 0 rfl) ?_
  refine fg_5_5 C kX5_add_5 mX5_add_27 hW dX5_add_1 ?_
  refine lv_sipush (v := 4002) C.1 C.2.1 dX5_add_4 (by decide) ?_
  refine lv_icmp_ge (tgt := 21) C.1 C.2.1 dX5_add_7 (by decide) (fun q1 => ?_) (fun q1 => ?_)
  · replace hf := (if_pos q1).symm.trans hf
    refine lv_iconst (v := 0) C.1 C.2.1 dX5_add_21 (by decide) ?_
    exact mrI C hr hlocks rfl hf hW dX5_add_22
  · replace hf := (if_neg q1).symm.trans hf
    refine lv_iload_n C.1 C.2.1 dX5_add_10 rfl (lv_at hl 1 rfl) ?_
    refine lv_if_lt (tgt := 21) C.1 C.2.1 dX5_add_11 (by decide) (fun q2 => ?_) (fun q2 => ?_)
    · replace hf := (if_pos q2).symm.trans hf
      refine lv_iconst (v := 0) C.1 C.2.1 dX5_add_21 (by decide) ?_
      exact mrI C hr hlocks rfl hf hW dX5_add_22
    · replace hf := (if_neg q2).symm.trans hf
      refine lv_iload_n C.1 C.2.1 dX5_add_14 rfl (lv_at hl 1 rfl) ?_
      refine lv_sipush (v := 4096) C.1 C.2.1 dX5_add_15 (by decide) ?_
      refine lv_icmp_lt (tgt := 23) C.1 C.2.1 dX5_add_18 (by decide) (fun q3 => ?_) (fun q3 => ?_)
      · replace hf := (if_pos q3).symm.trans hf
        refine lv_aload_n C.1 C.2.1 dX5_add_23 rfl (lv_at hl 0 rfl) ?_
        refine fg_5_5 C kX5_add_5 mX5_add_27 hW dX5_add_24 ?_
        obtain ⟨z4, ez4, hf⟩ := bnd_el hf
        refine lv_as ez4 ?_
        refine lv_istore (lv' := [(5, .int z4), (0, .ref (a 119)), (1, .int p1), (2, .int p2), (3, .int p3), (4, .int p4)]) C.1 C.2.1 dX5_add_27 hl (by decide) rfl (fun ls hl => ?_)
        refine lv_aload_n C.1 C.2.1 dX5_add_29 rfl (lv_at hl 1 rfl) ?_
        refine fg_5_0 C kX5_add_5 mX5_add_11 hW dX5_add_30 ?_
        refine lv_iload C.1 C.2.1 dX5_add_33 (lv_at hl 0 rfl) ?_
        refine lv_iload_n C.1 C.2.1 dX5_add_35 rfl (lv_at hl 3 rfl) ?_
        obtain ⟨h5, hf⟩ := ckx_el hf
        obtain ⟨S6, eS6, hf⟩ := bnd_el hf
        refine as_5_0 C hW h5 dX5_add_36 eS6 (fun H locs hW => ?_)
        refine lv_aload_n C.1 C.2.1 dX5_add_37 rfl (lv_at hl 1 rfl) ?_
        refine fg_5_1 C kX5_add_5 mX5_add_15 hW dX5_add_38 ?_
        refine lv_iload C.1 C.2.1 dX5_add_41 (lv_at hl 0 rfl) ?_
        refine lv_iload_n C.1 C.2.1 dX5_add_43 rfl (lv_at hl 4 rfl) ?_
        obtain ⟨h7, hf⟩ := ckx_el hf
        obtain ⟨S8, eS8, hf⟩ := bnd_el hf
        refine as_5_1 C hW h7 dX5_add_44 eS8 (fun H locs hW => ?_)
        refine lv_aload_n C.1 C.2.1 dX5_add_45 rfl (lv_at hl 1 rfl) ?_
        refine fg_5_2 C kX5_add_5 mX5_add_18 hW dX5_add_46 ?_
        refine lv_iload C.1 C.2.1 dX5_add_49 (lv_at hl 0 rfl) ?_
        refine lv_iload C.1 C.2.1 dX5_add_51 (lv_at hl 5 rfl) ?_
        obtain ⟨h9, hf⟩ := ckx_el hf
        obtain ⟨S10, eS10, hf⟩ := bnd_el hf
        refine as_5_2 C hW h9 dX5_add_53 eS10 (fun H locs hW => ?_)
        refine lv_aload_n C.1 C.2.1 dX5_add_54 rfl (lv_at hl 1 rfl) ?_
        refine fg_5_3 C kX5_add_5 mX5_add_21 hW dX5_add_55 ?_
        refine lv_iload C.1 C.2.1 dX5_add_58 (lv_at hl 0 rfl) ?_
        refine lv_aload_n C.1 C.2.1 dX5_add_60 rfl (lv_at hl 1 rfl) ?_
        refine fg_5_4 C kX5_add_5 mX5_add_24 hW dX5_add_61 ?_
        refine lv_iload_n C.1 C.2.1 dX5_add_64 rfl (lv_at hl 2 rfl) ?_
        obtain ⟨h11, hf⟩ := ckx_el hf
        refine al_5_4 C hW h11 dX5_add_65 ?_
        obtain ⟨h12, hf⟩ := ckx_el hf
        obtain ⟨S13, eS13, hf⟩ := bnd_el hf
        refine as_5_3 C hW h12 dX5_add_66 eS13 (fun H locs hW => ?_)
        refine lv_aload_n C.1 C.2.1 dX5_add_67 rfl (lv_at hl 1 rfl) ?_
        refine fg_5_4 C kX5_add_5 mX5_add_24 hW dX5_add_68 ?_
        refine lv_iload_n C.1 C.2.1 dX5_add_71 rfl (lv_at hl 2 rfl) ?_
        refine lv_iload C.1 C.2.1 dX5_add_72 (lv_at hl 0 rfl) ?_
        obtain ⟨h14, hf⟩ := ckx_el hf
        obtain ⟨S15, eS15, hf⟩ := bnd_el hf
        refine as_5_4 C hW h14 dX5_add_74 eS15 (fun H locs hW => ?_)
        refine lv_aload_n C.1 C.2.1 dX5_add_75 rfl (lv_at hl 1 rfl) ?_
        refine lv_dup C.1 C.2.1 dX5_add_76 rfl ?_
        refine fg_5_5 C kX5_add_5 mX5_add_27 hW dX5_add_77 ?_
        refine lv_iconst (v := 1) C.1 C.2.1 dX5_add_80 (by decide) ?_
        refine lv_iadd C.1 C.2.1 dX5_add_81 ?_
        obtain ⟨S16, eS16, hf⟩ := bnd_el hf
        refine fp_5_5 C kX5_add_5 mX5_add_27 hW dX5_add_82 eS16 (fun H locs hW => ?_)
        refine lv_iload C.1 C.2.1 dX5_add_85 (lv_at hl 0 rfl) ?_
        exact mrI C hr hlocks rfl hf hW dX5_add_87
      · replace hf := (if_neg q3).symm.trans hf
        refine lv_iconst (v := 0) C.1 C.2.1 dX5_add_21 (by decide) ?_
        exact mrI C hr hlocks rfl hf hW dX5_add_22
theorem mX5_tree_21 : Cond.fieldLink RX5 21 "SharedLambda$Trees" "olders" "[I" ∈ wsX5_tree := by decide +kernel
theorem mX5_tree_27 : Cond.fieldLink RX5 27 "SharedLambda$Trees" "count" "I" ∈ wsX5_tree := by decide +kernel
theorem mX5_tree_11 : Cond.fieldLink RX5 11 "SharedLambda$Trees" "forms" "[I" ∈ wsX5_tree := by decide +kernel
theorem mX5_tree_15 : Cond.fieldLink RX5 15 "SharedLambda$Trees" "lefts" "[I" ∈ wsX5_tree := by decide +kernel
theorem mX5_tree_18 : Cond.fieldLink RX5 18 "SharedLambda$Trees" "rights" "[I" ∈ wsX5_tree := by decide +kernel
theorem mX5_tree_24 : Cond.fieldLink RX5 24 "SharedLambda$Trees" "newest" "[I" ∈ wsX5_tree := by decide +kernel
theorem kX5_tree_5 : ∀ w ∈ u_ws RX5 TX5 6, w ∈ wsX5_tree := fun _ h => List.mem_cons_of_mem _ (List.mem_append_right _ h)
def fX5_tree_94 (N : Nat) (S : St) (x1 : Int32) (x2 : Int32) (x3 : Int32) (x4 : Int32) : Option (Int32 × St) :=
  bd2 (fX5_add N S x4 x1 x2 x3) fun v1 S3 =>
  some (v1, S3)
set_option maxHeartbeats 4000000 in
set_option maxRecDepth 100000 in
theorem lX5_tree_94 {p : Program} {l : Launch} {e : Env} {s : State} {m : MethodId} {args : Array Value} {below : List Frame} {meth : Method} {c : Code} {D : va_G} {cy : Nat → ClassId} {a r : Nat → Nat} {A : Nat → Prop} {Rr : Int32 × St} (C : Cx p s m args c cX5_tree 7 wsX5_tree RX5 D cy) (hr : meth.sig.returnType = some .int) (hlocks : meth.locks = false) (N : Nat) (S : St) (x1 : Int32) (x2 : Int32) (x3 : Int32) (x4 : Int32) (hf : fX5_tree_94 N S x1 x2 x3 x4 = some Rr) : ∀ (H : Heap) (locs : List Loc) (ls : Array Slot), WW D A s.heap (wC cy a r S) H locs → lv_has ls 7 [(0, .ref (a 119)), (1, .int x1), (2, .int x2), (3, .int x3), (4, .int x4)] → W p l e ({ frames := 1, cells := 0, slots := 0, locals := 25 } : Room) s m args below meth c H locs 0 0 (MQ below (QI D cy (wC cy a r) A Rr) args s 0 0 A) (F0 m 94 ls []) := by
  intro H locs ls hW hl
  unfold fX5_tree_94 at hf
  refine lv_aload_n C.1 C.2.1 dX5_tree_94 rfl (lv_at hl 0 rfl) ?_
  refine lv_iload C.1 C.2.1 dX5_tree_95 (lv_at hl 4 rfl) ?_
  refine lv_iload_n C.1 C.2.1 dX5_tree_97 rfl (lv_at hl 1 rfl) ?_
  refine lv_iload_n C.1 C.2.1 dX5_tree_98 rfl (lv_at hl 2 rfl) ?_
  refine lv_iload_n C.1 C.2.1 dX5_tree_99 rfl (lv_at hl 3 rfl) ?_
  obtain ⟨v1, S3, h2, hf⟩ := bd2_el hf
  refine mcVi (w := wC cy a r) (S := S) (As := [.int x4, .int x1, .int x2, .int x3]) (rest := []) (q0 := 5) (ci := 5) C (cX5_add_met l D cy a r _ N S x4 x1 x2 x3 (v1, S3) h2) (cwV 4 C.2.2.2.2.1 gX5_tree_X5_add rfl rfl rfl (by decide +kernel) ⟨Nat.le_of_ble_eq_true rfl, Nat.le_of_ble_eq_true rfl⟩) rfl rfl rfl hl.1 (Nat.le_of_ble_eq_true rfl) hW dX5_tree_100 ⟨Nat.zero_le _, Nat.zero_le _⟩ rfl (fun H locs hW => ?_)
  exact mrI C hr hlocks rfl hf hW dX5_tree_103
def fX5_tree_79 (N : Nat) (k20 : St × Int32 × Int32 × Int32 × Int32 × Int32 × Int32 → Option (Int32 × St)) (S : St) (x1 : Int32) (x2 : Int32) (x3 : Int32) (x4 : Int32) (x5 : Int32) (x6 : Int32) : Option (Int32 × St) :=
  ckx x5 4002 <|
  bnd (S.2.1 103 (x5 : Int32).toNatClampNeg) fun z2 =>
  bnd (x6 + (1 : Int32)) fun z3 =>
  k20 (S, x1, x2, x3, x4, z2, z3)
set_option maxHeartbeats 4000000 in
set_option maxRecDepth 100000 in
theorem lX5_tree_79 {p : Program} {l : Launch} {e : Env} {s : State} {m : MethodId} {args : Array Value} {below : List Frame} {meth : Method} {c : Code} {D : va_G} {cy : Nat → ClassId} {a r : Nat → Nat} {A : Nat → Prop} {Rr : Int32 × St} (C : Cx p s m args c cX5_tree 7 wsX5_tree RX5 D cy) (hr : meth.sig.returnType = some .int) (hlocks : meth.locks = false) (N : Nat) (k20 : St × Int32 × Int32 × Int32 × Int32 × Int32 × Int32 → Option (Int32 × St)) (hk20 : ∀ (S : St) (x1 : Int32) (x2 : Int32) (x3 : Int32) (x4 : Int32) (x5 : Int32) (x6 : Int32), k20 (S, x1, x2, x3, x4, x5, x6) = some Rr → ∀ (H : Heap) (locs : List Loc) (ls : Array Slot), WW D A s.heap (wC cy a r S) H locs → lv_has ls 7 [(0, .ref (a 119)), (1, .int x1), (2, .int x2), (3, .int x3), (4, .int x4), (5, .int x5), (6, .int x6)] → W p l e ({ frames := 1, cells := 0, slots := 0, locals := 25 } : Room) s m args below meth c H locs 0 0 (MQ below (QI D cy (wC cy a r) A Rr) args s 0 0 A) (F0 m 20 ls [])) (S : St) (x1 : Int32) (x2 : Int32) (x3 : Int32) (x4 : Int32) (x5 : Int32) (x6 : Int32) (hf : fX5_tree_79 N k20 S x1 x2 x3 x4 x5 x6 = some Rr) : ∀ (H : Heap) (locs : List Loc) (ls : Array Slot), WW D A s.heap (wC cy a r S) H locs → lv_has ls 7 [(0, .ref (a 119)), (1, .int x1), (2, .int x2), (3, .int x3), (4, .int x4), (5, .int x5), (6, .int x6)] → W p l e ({ frames := 1, cells := 0, slots := 0, locals := 25 } : Room) s m args below meth c H locs 0 0 (MQ below (QI D cy (wC cy a r) A Rr) args s 0 0 A) (F0 m 79 ls []) := by
  intro H locs ls hW hl
  unfold fX5_tree_79 at hf
  refine lv_aload_n C.1 C.2.1 dX5_tree_79 rfl (lv_at hl 0 rfl) ?_
  refine fg_5_3 C kX5_tree_5 mX5_tree_21 hW dX5_tree_80 ?_
  refine lv_iload C.1 C.2.1 dX5_tree_83 (lv_at hl 5 rfl) ?_
  obtain ⟨h1, hf⟩ := ckx_el hf
  refine al_5_3 C hW h1 dX5_tree_85 ?_
  obtain ⟨z2, ez2, hf⟩ := bnd_el hf
  refine lv_as ez2 ?_
  refine lv_istore (lv' := [(5, .int z2), (0, .ref (a 119)), (1, .int x1), (2, .int x2), (3, .int x3), (4, .int x4), (6, .int x6)]) C.1 C.2.1 dX5_tree_86 hl (by decide) rfl (fun ls hl => ?_)
  obtain ⟨z3, ez3, hf⟩ := bnd_el hf
  refine lv_iinc (v := z3) (lv' := [(6, .int z3), (5, .int z2), (0, .ref (a 119)), (1, .int x1), (2, .int x2), (3, .int x3), (4, .int x4)]) C.1 C.2.1 dX5_tree_88 hl (k := 6) rfl (by rw [ez3]; rfl) (by decide) rfl (fun ls hl => ?_)
  refine lv_goto (tgt := 20) C.1 C.2.1 dX5_tree_91 (by decide) ?_
  exact hk20 _ _ _ _ _ _ _ hf _ _ _ hW (lv_sub hl [2, 3, 4, 5, 6, 1, 0] rfl)
def fX5_tree_20s (N : Nat) (k20 : St × Int32 × Int32 × Int32 × Int32 × Int32 × Int32 → Option (Int32 × St)) (S : St) (x1 : Int32) (x2 : Int32) (x3 : Int32) (x4 : Int32) (x5 : Int32) (x6 : Int32) : Option (Int32 × St) :=
  if S.1 105 ≤ x6 then
    fX5_tree_94 N S x1 x2 x3 x4
  else
    if x5 ≤ 0 then
      fX5_tree_94 N S x1 x2 x3 x4
    else
      if S.1 105 ≤ x5 then
        fX5_tree_94 N S x1 x2 x3 x4
      else
        ckx x5 4002 <|
        if S.2.1 100 (x5 : Int32).toNatClampNeg = x1 then
          ckx x5 4002 <|
          if S.2.1 101 (x5 : Int32).toNatClampNeg = x2 then
            ckx x5 4002 <|
            if S.2.1 102 (x5 : Int32).toNatClampNeg = x3 then
              some (x5, S)
            else
              fX5_tree_79 N k20 S x1 x2 x3 x4 x5 x6
          else
            fX5_tree_79 N k20 S x1 x2 x3 x4 x5 x6
        else
          fX5_tree_79 N k20 S x1 x2 x3 x4 x5 x6
def fX5_tree_20 (N : Nat) : St × Int32 × Int32 × Int32 × Int32 × Int32 × Int32 → Option (Int32 × St) := loopN (fun k x => fX5_tree_20s N k x.1 x.2.1 x.2.2.1 x.2.2.2.1 x.2.2.2.2.1 x.2.2.2.2.2.1 x.2.2.2.2.2.2) N
set_option maxHeartbeats 4000000 in
set_option maxRecDepth 100000 in
theorem lX5_tree_20 {p : Program} {l : Launch} {e : Env} {s : State} {m : MethodId} {args : Array Value} {below : List Frame} {meth : Method} {c : Code} {D : va_G} {cy : Nat → ClassId} {a r : Nat → Nat} {A : Nat → Prop} {Rr : Int32 × St} (C : Cx p s m args c cX5_tree 7 wsX5_tree RX5 D cy) (hr : meth.sig.returnType = some .int) (hlocks : meth.locks = false) (N : Nat) : ∀ (n : Nat) (S : St) (x1 : Int32) (x2 : Int32) (x3 : Int32) (x4 : Int32) (x5 : Int32) (x6 : Int32), loopN (fun k x => fX5_tree_20s N k x.1 x.2.1 x.2.2.1 x.2.2.2.1 x.2.2.2.2.1 x.2.2.2.2.2.1 x.2.2.2.2.2.2) n (S, x1, x2, x3, x4, x5, x6) = some Rr → ∀ (H : Heap) (locs : List Loc) (ls : Array Slot), WW D A s.heap (wC cy a r S) H locs → lv_has ls 7 [(0, .ref (a 119)), (1, .int x1), (2, .int x2), (3, .int x3), (4, .int x4), (5, .int x5), (6, .int x6)] → W p l e ({ frames := 1, cells := 0, slots := 0, locals := 25 } : Room) s m args below meth c H locs 0 0 (MQ below (QI D cy (wC cy a r) A Rr) args s 0 0 A) (F0 m 20 ls []) := by
  intro n
  induction n with
  | zero =>
    intro S x1 x2 x3 x4 x5 x6 hf
    cases hf
  | succ n ih =>
    intro S x1 x2 x3 x4 x5 x6 hf H locs ls hW hl
    have hf : fX5_tree_20s N (loopN (fun k x => fX5_tree_20s N k x.1 x.2.1 x.2.2.1 x.2.2.2.1 x.2.2.2.2.1 x.2.2.2.2.2.1 x.2.2.2.2.2.2) n) S x1 x2 x3 x4 x5 x6 = some Rr := hf
    unfold fX5_tree_20s at hf
    refine lv_iload C.1 C.2.1 dX5_tree_20 (lv_at hl 6 rfl) ?_
    refine lv_aload_n C.1 C.2.1 dX5_tree_22 rfl (lv_at hl 0 rfl) ?_
    refine fg_5_5 C kX5_tree_5 mX5_tree_27 hW dX5_tree_23 ?_
    refine lv_icmp_ge (tgt := 94) C.1 C.2.1 dX5_tree_26 (by decide) (fun q1 => ?_) (fun q1 => ?_)
    · replace hf := (if_pos q1).symm.trans hf
      exact lX5_tree_94 C hr hlocks N _ _ _ _ _ hf _ _ _ hW (lv_sub hl [0, 1, 2, 3, 4] rfl)
    · replace hf := (if_neg q1).symm.trans hf
      refine lv_iload C.1 C.2.1 dX5_tree_29 (lv_at hl 5 rfl) ?_
      refine lv_if_le (tgt := 94) C.1 C.2.1 dX5_tree_31 (by decide) (fun q2 => ?_) (fun q2 => ?_)
      · replace hf := (if_pos q2).symm.trans hf
        exact lX5_tree_94 C hr hlocks N _ _ _ _ _ hf _ _ _ hW (lv_sub hl [0, 1, 2, 3, 4] rfl)
      · replace hf := (if_neg q2).symm.trans hf
        refine lv_iload C.1 C.2.1 dX5_tree_34 (lv_at hl 5 rfl) ?_
        refine lv_aload_n C.1 C.2.1 dX5_tree_36 rfl (lv_at hl 0 rfl) ?_
        refine fg_5_5 C kX5_tree_5 mX5_tree_27 hW dX5_tree_37 ?_
        refine lv_icmp_ge (tgt := 94) C.1 C.2.1 dX5_tree_40 (by decide) (fun q3 => ?_) (fun q3 => ?_)
        · replace hf := (if_pos q3).symm.trans hf
          exact lX5_tree_94 C hr hlocks N _ _ _ _ _ hf _ _ _ hW (lv_sub hl [0, 1, 2, 3, 4] rfl)
        · replace hf := (if_neg q3).symm.trans hf
          refine lv_aload_n C.1 C.2.1 dX5_tree_43 rfl (lv_at hl 0 rfl) ?_
          refine fg_5_0 C kX5_tree_5 mX5_tree_11 hW dX5_tree_44 ?_
          refine lv_iload C.1 C.2.1 dX5_tree_47 (lv_at hl 5 rfl) ?_
          obtain ⟨h4, hf⟩ := ckx_el hf
          refine al_5_0 C hW h4 dX5_tree_49 ?_
          refine lv_iload_n C.1 C.2.1 dX5_tree_50 rfl (lv_at hl 1 rfl) ?_
          refine lv_icmp_ne (tgt := 79) C.1 C.2.1 dX5_tree_51 (by decide) (fun q5 => ?_) (fun q5 => ?_)
          · replace hf := (if_neg q5).symm.trans hf
            exact lX5_tree_79 C hr hlocks N _ ih _ _ _ _ _ _ _ hf _ _ _ hW (lv_sub hl [0, 1, 2, 3, 4, 5, 6] rfl)
          · replace hf := (if_pos q5).symm.trans hf
            refine lv_aload_n C.1 C.2.1 dX5_tree_54 rfl (lv_at hl 0 rfl) ?_
            refine fg_5_1 C kX5_tree_5 mX5_tree_15 hW dX5_tree_55 ?_
            refine lv_iload C.1 C.2.1 dX5_tree_58 (lv_at hl 5 rfl) ?_
            obtain ⟨h6, hf⟩ := ckx_el hf
            refine al_5_1 C hW h6 dX5_tree_60 ?_
            refine lv_iload_n C.1 C.2.1 dX5_tree_61 rfl (lv_at hl 2 rfl) ?_
            refine lv_icmp_ne (tgt := 79) C.1 C.2.1 dX5_tree_62 (by decide) (fun q7 => ?_) (fun q7 => ?_)
            · replace hf := (if_neg q7).symm.trans hf
              exact lX5_tree_79 C hr hlocks N _ ih _ _ _ _ _ _ _ hf _ _ _ hW (lv_sub hl [0, 1, 2, 3, 4, 5, 6] rfl)
            · replace hf := (if_pos q7).symm.trans hf
              refine lv_aload_n C.1 C.2.1 dX5_tree_65 rfl (lv_at hl 0 rfl) ?_
              refine fg_5_2 C kX5_tree_5 mX5_tree_18 hW dX5_tree_66 ?_
              refine lv_iload C.1 C.2.1 dX5_tree_69 (lv_at hl 5 rfl) ?_
              obtain ⟨h8, hf⟩ := ckx_el hf
              refine al_5_2 C hW h8 dX5_tree_71 ?_
              refine lv_iload_n C.1 C.2.1 dX5_tree_72 rfl (lv_at hl 3 rfl) ?_
              refine lv_icmp_ne (tgt := 79) C.1 C.2.1 dX5_tree_73 (by decide) (fun q9 => ?_) (fun q9 => ?_)
              · replace hf := (if_neg q9).symm.trans hf
                exact lX5_tree_79 C hr hlocks N _ ih _ _ _ _ _ _ _ hf _ _ _ hW (lv_sub hl [0, 1, 2, 3, 4, 5, 6] rfl)
              · replace hf := (if_pos q9).symm.trans hf
                refine lv_iload C.1 C.2.1 dX5_tree_76 (lv_at hl 5 rfl) ?_
                exact mrI C hr hlocks rfl hf hW dX5_tree_78
def fX5_tree (N : Nat) (S : St) (p1 : Int32) (p2 : Int32) (p3 : Int32) : Option (Int32 × St) :=
  bdo (fX5_bucketOf p1 p2 p3) fun v1 =>
  ckx v1 4096 <|
  bnd (S.2.1 104 (v1 : Int32).toNatClampNeg) fun z4 =>
  bnd (0 : Int32) fun z5 =>
  fX5_tree_20 N (S, p1, p2, p3, v1, z4, z5)
set_option maxHeartbeats 4000000 in
set_option maxRecDepth 100000 in
theorem cX5_tree_met (l : Launch) (D : va_G) (cy : Nat → ClassId) (a r : Nat → Nat) (sz N : Nat) (S : St) (p1 : Int32) (p2 : Int32) (p3 : Int32) (Rr : Int32 × St) (hf : fX5_tree N S p1 p2 p3 = some Rr) : Met l yX5_tree wsX5_tree ({ frames := 1, cells := 0, slots := 0, locals := 25 } : Room) (va_Pc [.ref (a 119), .int p1, .int p2, .int p3] (preW D cy (wC cy a r S) sz)) (QI D cy (wC cy a r) (va_A (wC cy a r S) sz) Rr) 0 0 (va_A (wC cy a r S) sz) := by
  refine Met.ofW (cc := cX5_tree) (maxL := 7) (ret := (some .int)) (by decide) rfl ?_
  intro p e s m args below meth c s₁ B hml hv
  obtain ⟨rfl, rfl, hP, hK, hD0, hN⟩ := hv
  have hlocks := B.notSynchronized
  have hr := B.returns
  have C : Cx p s m _ c cX5_tree 7 wsX5_tree RX5 D cy := ⟨B.exec, B.bytes, hml, findClass_of_methodNamed B.named, atoms_spec (ws := wsX5_tree) B.pre, hK, hN⟩
  have hW := ww_start (w := wC cy a r) hP hD0
  generalize va_A (wC cy a r S) s.heap.size = A at hW ⊢
  have hl := lv_entry ([.ref (a 119), .int p1, .int p2, .int p3]) (n := 7) (Nat.le_of_ble_eq_true rfl)
  rw [lg_entry_eq]
  generalize (lg_sl ([.ref (a 119), .int p1, .int p2, .int p3]) ++ List.replicate (7 - (lg_sl ([.ref (a 119), .int p1, .int p2, .int p3])).length) Slot.unset).toArray = ls at hl ⊢
  have hl : lv_has ls 7 [(0, .ref (a 119)), (1, .int p1), (2, .int p2), (3, .int p3)] := hl
  unfold fX5_tree at hf
  refine lv_iload_n C.1 C.2.1 dX5_tree_0 rfl (lv_at hl 1 rfl) ?_
  refine lv_iload_n C.1 C.2.1 dX5_tree_1 rfl (lv_at hl 2 rfl) ?_
  refine lv_iload_n C.1 C.2.1 dX5_tree_2 rfl (lv_at hl 3 rfl) ?_
  obtain ⟨v1, h2, hf⟩ := bdo_el hf
  refine mcS (As := [.int p1, .int p2, .int p3]) (rest := []) C (cX5_bucketOf_met l p1 p2 p3 v1 h2) (va_cwS 3 C.2.2.2.2.1 gX5_tree_X5_bucketOf rfl rfl rfl (by decide +kernel) ⟨Nat.le_of_ble_eq_true rfl, Nat.le_of_ble_eq_true rfl⟩) rfl hl.1 (Nat.le_of_ble_eq_true rfl) dX5_tree_3 ⟨Nat.zero_le _, Nat.zero_le _⟩ rfl ?_
  refine lv_istore (lv' := [(4, .int v1), (0, .ref (a 119)), (1, .int p1), (2, .int p2), (3, .int p3)]) C.1 C.2.1 dX5_tree_6 hl (by decide) rfl (fun ls hl => ?_)
  refine lv_aload_n C.1 C.2.1 dX5_tree_8 rfl (lv_at hl 1 rfl) ?_
  refine fg_5_4 C kX5_tree_5 mX5_tree_24 hW dX5_tree_9 ?_
  refine lv_iload C.1 C.2.1 dX5_tree_12 (lv_at hl 0 rfl) ?_
  obtain ⟨h3, hf⟩ := ckx_el hf
  refine al_5_4 C hW h3 dX5_tree_14 ?_
  obtain ⟨z4, ez4, hf⟩ := bnd_el hf
  refine lv_as ez4 ?_
  refine lv_istore (lv' := [(5, .int z4), (4, .int v1), (0, .ref (a 119)), (1, .int p1), (2, .int p2), (3, .int p3)]) C.1 C.2.1 dX5_tree_15 hl (by decide) rfl (fun ls hl => ?_)
  refine lv_iconst (v := 0) C.1 C.2.1 dX5_tree_17 (by decide) ?_
  obtain ⟨z5, ez5, hf⟩ := bnd_el hf
  refine lv_as ez5 ?_
  refine lv_istore (lv' := [(6, .int z5), (5, .int z4), (4, .int v1), (0, .ref (a 119)), (1, .int p1), (2, .int p2), (3, .int p3)]) C.1 C.2.1 dX5_tree_18 hl (by decide) rfl (fun ls hl => ?_)
  exact lX5_tree_20 C hr hlocks N _ _ _ _ _ _ _ _ hf _ _ _ hW (lv_sub hl [3, 4, 5, 6, 2, 1, 0] rfl)
theorem mX5_cut_27 : Cond.fieldLink RX5 27 "SharedLambda$Trees" "count" "I" ∈ wsX5_cut := by decide +kernel
theorem mX5_cut_24 : Cond.fieldLink RX5 24 "SharedLambda$Trees" "newest" "[I" ∈ wsX5_cut := by decide +kernel
theorem mX5_cut_11 : Cond.fieldLink RX5 11 "SharedLambda$Trees" "forms" "[I" ∈ wsX5_cut := by decide +kernel
theorem mX5_cut_15 : Cond.fieldLink RX5 15 "SharedLambda$Trees" "lefts" "[I" ∈ wsX5_cut := by decide +kernel
theorem mX5_cut_18 : Cond.fieldLink RX5 18 "SharedLambda$Trees" "rights" "[I" ∈ wsX5_cut := by decide +kernel
theorem mX5_cut_21 : Cond.fieldLink RX5 21 "SharedLambda$Trees" "olders" "[I" ∈ wsX5_cut := by decide +kernel
theorem kX5_cut_5 : ∀ w ∈ u_ws RX5 TX5 6, w ∈ wsX5_cut := fun _ h => List.mem_cons_of_mem _ (List.mem_append_right _ h)
def fX5_cut_0s (N : Nat) (k0 : St × Int32 → Option (St)) (S : St) (x1 : Int32) : Option (St) :=
  if S.1 105 ≤ x1 then
    some S
  else
    if S.1 105 ≤ (1 : Int32) then
      some S
    else
      if (4002 : Int32) < S.1 105 then
        some S
      else
        bnd (sI S 105 ((S.1 105 - (1 : Int32)))) fun S4 =>
        ckx (S4.1 105) 4002 <|
        ckx (S4.1 105) 4002 <|
        ckx (S4.1 105) 4002 <|
        bdo (fX5_bucketOf (S4.2.1 100 (S4.1 105 : Int32).toNatClampNeg) (S4.2.1 101 (S4.1 105 : Int32).toNatClampNeg) (S4.2.1 102 (S4.1 105 : Int32).toNatClampNeg)) fun v8 =>
        ckx (S4.1 105) 4002 <|
        ckx v8 4096 <|
        bnd (sA S4 104 (upd (S4.2.1 104) (v8 : Int32).toNatClampNeg (S4.2.1 103 (S4.1 105 : Int32).toNatClampNeg))) fun S12 =>
        k0 (S12, x1)
def fX5_cut_0 (N : Nat) : St × Int32 → Option (St) := loopN (fun k x => fX5_cut_0s N k x.1 x.2) N
set_option maxHeartbeats 4000000 in
set_option maxRecDepth 100000 in
theorem lX5_cut_0 {p : Program} {l : Launch} {e : Env} {s : State} {m : MethodId} {args : Array Value} {below : List Frame} {meth : Method} {c : Code} {D : va_G} {cy : Nat → ClassId} {a r : Nat → Nat} {A : Nat → Prop} {Rr : St} (C : Cx p s m args c cX5_cut 2 wsX5_cut RX5 D cy) (hr : meth.sig.returnType = none) (hlocks : meth.locks = false) (N : Nat) : ∀ (n : Nat) (S : St) (x1 : Int32), loopN (fun k x => fX5_cut_0s N k x.1 x.2) n (S, x1) = some Rr → ∀ (H : Heap) (locs : List Loc) (ls : Array Slot), WW D A s.heap (wC cy a r S) H locs → lv_has ls 2 [(0, .ref (a 119)), (1, .int x1)] → W p l e ({ frames := 1, cells := 0, slots := 0, locals := 22 } : Room) s m args below meth c H locs 0 0 (MQ below (QV D cy (wC cy a r) A Rr) args s 0 0 A) (F0 m 0 ls []) := by
  intro n
  induction n with
  | zero =>
    intro S x1 hf
    cases hf
  | succ n ih =>
    intro S x1 hf H locs ls hW hl
    have hf : fX5_cut_0s N (loopN (fun k x => fX5_cut_0s N k x.1 x.2) n) S x1 = some Rr := hf
    unfold fX5_cut_0s at hf
    refine lv_aload_n C.1 C.2.1 dX5_cut_0 rfl (lv_at hl 0 rfl) ?_
    refine fg_5_5 C kX5_cut_5 mX5_cut_27 hW dX5_cut_1 ?_
    refine lv_iload_n C.1 C.2.1 dX5_cut_4 rfl (lv_at hl 1 rfl) ?_
    refine lv_icmp_le (tgt := 83) C.1 C.2.1 dX5_cut_5 (by decide) (fun q1 => ?_) (fun q1 => ?_)
    · replace hf := (if_pos q1).symm.trans hf
      exact mrV C hr hlocks hf hW dX5_cut_83
    · replace hf := (if_neg q1).symm.trans hf
      refine lv_aload_n C.1 C.2.1 dX5_cut_8 rfl (lv_at hl 0 rfl) ?_
      refine fg_5_5 C kX5_cut_5 mX5_cut_27 hW dX5_cut_9 ?_
      refine lv_iconst (v := 1) C.1 C.2.1 dX5_cut_12 (by decide) ?_
      refine lv_icmp_le (tgt := 83) C.1 C.2.1 dX5_cut_13 (by decide) (fun q2 => ?_) (fun q2 => ?_)
      · replace hf := (if_pos q2).symm.trans hf
        exact mrV C hr hlocks hf hW dX5_cut_83
      · replace hf := (if_neg q2).symm.trans hf
        refine lv_aload_n C.1 C.2.1 dX5_cut_16 rfl (lv_at hl 0 rfl) ?_
        refine fg_5_5 C kX5_cut_5 mX5_cut_27 hW dX5_cut_17 ?_
        refine lv_sipush (v := 4002) C.1 C.2.1 dX5_cut_20 (by decide) ?_
        refine lv_icmp_gt (tgt := 83) C.1 C.2.1 dX5_cut_23 (by decide) (fun q3 => ?_) (fun q3 => ?_)
        · replace hf := (if_pos q3).symm.trans hf
          exact mrV C hr hlocks hf hW dX5_cut_83
        · replace hf := (if_neg q3).symm.trans hf
          refine lv_aload_n C.1 C.2.1 dX5_cut_26 rfl (lv_at hl 0 rfl) ?_
          refine lv_dup C.1 C.2.1 dX5_cut_27 rfl ?_
          refine fg_5_5 C kX5_cut_5 mX5_cut_27 hW dX5_cut_28 ?_
          refine lv_iconst (v := 1) C.1 C.2.1 dX5_cut_31 (by decide) ?_
          refine lv_isub C.1 C.2.1 dX5_cut_32 ?_
          obtain ⟨S4, eS4, hf⟩ := bnd_el hf
          refine fp_5_5 C kX5_cut_5 mX5_cut_27 hW dX5_cut_33 eS4 (fun H locs hW => ?_)
          refine lv_aload_n C.1 C.2.1 dX5_cut_36 rfl (lv_at hl 0 rfl) ?_
          refine fg_5_4 C kX5_cut_5 mX5_cut_24 hW dX5_cut_37 ?_
          refine lv_aload_n C.1 C.2.1 dX5_cut_40 rfl (lv_at hl 0 rfl) ?_
          refine fg_5_0 C kX5_cut_5 mX5_cut_11 hW dX5_cut_41 ?_
          refine lv_aload_n C.1 C.2.1 dX5_cut_44 rfl (lv_at hl 0 rfl) ?_
          refine fg_5_5 C kX5_cut_5 mX5_cut_27 hW dX5_cut_45 ?_
          obtain ⟨h5, hf⟩ := ckx_el hf
          refine al_5_0 C hW h5 dX5_cut_48 ?_
          refine lv_aload_n C.1 C.2.1 dX5_cut_49 rfl (lv_at hl 0 rfl) ?_
          refine fg_5_1 C kX5_cut_5 mX5_cut_15 hW dX5_cut_50 ?_
          refine lv_aload_n C.1 C.2.1 dX5_cut_53 rfl (lv_at hl 0 rfl) ?_
          refine fg_5_5 C kX5_cut_5 mX5_cut_27 hW dX5_cut_54 ?_
          obtain ⟨h6, hf⟩ := ckx_el hf
          refine al_5_1 C hW h6 dX5_cut_57 ?_
          refine lv_aload_n C.1 C.2.1 dX5_cut_58 rfl (lv_at hl 0 rfl) ?_
          refine fg_5_2 C kX5_cut_5 mX5_cut_18 hW dX5_cut_59 ?_
          refine lv_aload_n C.1 C.2.1 dX5_cut_62 rfl (lv_at hl 0 rfl) ?_
          refine fg_5_5 C kX5_cut_5 mX5_cut_27 hW dX5_cut_63 ?_
          obtain ⟨h7, hf⟩ := ckx_el hf
          refine al_5_2 C hW h7 dX5_cut_66 ?_
          obtain ⟨v8, h9, hf⟩ := bdo_el hf
          refine mcS (As := [.int (S4.2.1 100 (S4.1 105 : Int32).toNatClampNeg), .int (S4.2.1 101 (S4.1 105 : Int32).toNatClampNeg), .int (S4.2.1 102 (S4.1 105 : Int32).toNatClampNeg)]) (rest := [.ref (a 104)]) C (cX5_bucketOf_met l (S4.2.1 100 (S4.1 105 : Int32).toNatClampNeg) (S4.2.1 101 (S4.1 105 : Int32).toNatClampNeg) (S4.2.1 102 (S4.1 105 : Int32).toNatClampNeg) v8 h9) (va_cwS 3 C.2.2.2.2.1 gX5_cut_X5_bucketOf rfl rfl rfl (by decide +kernel) ⟨Nat.le_of_ble_eq_true rfl, Nat.le_of_ble_eq_true rfl⟩) rfl hl.1 (Nat.le_of_ble_eq_true rfl) dX5_cut_67 ⟨Nat.zero_le _, Nat.zero_le _⟩ rfl ?_
          refine lv_aload_n C.1 C.2.1 dX5_cut_70 rfl (lv_at hl 0 rfl) ?_
          refine fg_5_3 C kX5_cut_5 mX5_cut_21 hW dX5_cut_71 ?_
          refine lv_aload_n C.1 C.2.1 dX5_cut_74 rfl (lv_at hl 0 rfl) ?_
          refine fg_5_5 C kX5_cut_5 mX5_cut_27 hW dX5_cut_75 ?_
          obtain ⟨h10, hf⟩ := ckx_el hf
          refine al_5_3 C hW h10 dX5_cut_78 ?_
          obtain ⟨h11, hf⟩ := ckx_el hf
          obtain ⟨S12, eS12, hf⟩ := bnd_el hf
          refine as_5_4 C hW h11 dX5_cut_79 eS12 (fun H locs hW => ?_)
          refine lv_goto (tgt := 0) C.1 C.2.1 dX5_cut_80 (by decide) ?_
          exact ih _ _ hf _ _ _ hW (lv_sub hl [0, 1] rfl)
def fX5_cut (N : Nat) (S : St) (p1 : Int32) : Option (St) :=
  fX5_cut_0 N (S, p1)
set_option maxHeartbeats 4000000 in
set_option maxRecDepth 100000 in
theorem cX5_cut_met (l : Launch) (D : va_G) (cy : Nat → ClassId) (a r : Nat → Nat) (sz N : Nat) (S : St) (p1 : Int32) (Rr : St) (hf : fX5_cut N S p1 = some Rr) : Met l yX5_cut wsX5_cut ({ frames := 1, cells := 0, slots := 0, locals := 22 } : Room) (va_Pc [.ref (a 119), .int p1] (preW D cy (wC cy a r S) sz)) (QV D cy (wC cy a r) (va_A (wC cy a r S) sz) Rr) 0 0 (va_A (wC cy a r S) sz) := by
  refine Met.ofW (cc := cX5_cut) (maxL := 2) (ret := none) (by decide) rfl ?_
  intro p e s m args below meth c s₁ B hml hv
  obtain ⟨rfl, rfl, hP, hK, hD0, hN⟩ := hv
  have hlocks := B.notSynchronized
  have hr := B.returns
  have C : Cx p s m _ c cX5_cut 2 wsX5_cut RX5 D cy := ⟨B.exec, B.bytes, hml, findClass_of_methodNamed B.named, atoms_spec (ws := wsX5_cut) B.pre, hK, hN⟩
  have hW := ww_start (w := wC cy a r) hP hD0
  generalize va_A (wC cy a r S) s.heap.size = A at hW ⊢
  have hl := lv_entry ([.ref (a 119), .int p1]) (n := 2) (Nat.le_of_ble_eq_true rfl)
  rw [lg_entry_eq]
  generalize (lg_sl ([.ref (a 119), .int p1]) ++ List.replicate (2 - (lg_sl ([.ref (a 119), .int p1])).length) Slot.unset).toArray = ls at hl ⊢
  have hl : lv_has ls 2 [(0, .ref (a 119)), (1, .int p1)] := hl
  unfold fX5_cut at hf
  exact lX5_cut_0 C hr hlocks N _ _ _ hf _ _ _ hW (lv_sub hl [0, 1] rfl)
