theorem mX4_begin_37 : Cond.fieldLink RX4 37 "SharedLambda$TermReader" "length" "I" ∈ wsX4_begin := by decide +kernel
theorem mX4_begin_41 : Cond.fieldLink RX4 41 "SharedLambda$TermReader" "at" "I" ∈ wsX4_begin := by decide +kernel
theorem mX4_begin_53 : Cond.fieldLink RX4 53 "SharedLambda$TermReader" "words" "I" ∈ wsX4_begin := by decide +kernel
theorem mX4_begin_56 : Cond.fieldLink RX4 56 "SharedLambda$TermReader" "open" "I" ∈ wsX4_begin := by decide +kernel
theorem mX4_begin_59 : Cond.fieldLink RX4 59 "SharedLambda$TermReader" "names" "I" ∈ wsX4_begin := by decide +kernel
theorem mX4_begin_62 : Cond.fieldLink RX4 62 "SharedLambda$TermReader" "index" "I" ∈ wsX4_begin := by decide +kernel
theorem mX4_begin_65 : Cond.fieldLink RX4 65 "SharedLambda$TermReader" "parts" "I" ∈ wsX4_begin := by decide +kernel
theorem mX4_begin_44 : Cond.fieldLink RX4 44 "SharedLambda$TermReader" "fault" "I" ∈ wsX4_begin := by decide +kernel
theorem mX4_begin_30 : Cond.fieldLink RX4 30 "SharedLambda$TermReader" "text" "[I" ∈ wsX4_begin := by decide +kernel
theorem kX4_begin_4 : ∀ w ∈ u_ws RX4 TX4 15, w ∈ wsX4_begin := fun _ h => List.mem_cons_of_mem _ (List.mem_append_right _ h)
def fX4_begin_18 (N : Nat) (S : St) (y1 : Int32) : Option (St) :=
  bnd (sI S 89 y1) fun S1 =>
  bnd (sI S1 90 (0 : Int32)) fun S2 =>
  bnd (sI S2 83 (0 : Int32)) fun S3 =>
  bnd (sI S3 87 (0 : Int32)) fun S4 =>
  bnd (sI S4 91 (0 : Int32)) fun S5 =>
  bnd (sI S5 92 (0 : Int32)) fun S6 =>
  bnd (sI S6 93 (0 : Int32)) fun S7 =>
  bnd (sI S7 94 (0 : Int32)) fun S8 =>
  some S8
set_option maxHeartbeats 4000000 in
set_option maxRecDepth 100000 in
theorem lX4_begin_18 {p : Program} {l : Launch} {e : Env} {s : State} {m : MethodId} {args : Array Value} {below : List Frame} {meth : Method} {c : Code} {D : va_G} {cy : Nat → ClassId} {a r : Nat → Nat} {A : Nat → Prop} {Rr : St} (C : Cx p s m args c cX4_begin 3 wsX4_begin RX4 D cy) (hr : meth.sig.returnType = none) (hlocks : meth.locks = false) (N : Nat) (S : St) (y1 : Int32) (hf : fX4_begin_18 N S y1 = some Rr) : ∀ (H : Heap) (locs : List Loc) (ls : Array Slot), WW D A s.heap (wC cy a r S) H locs → lv_has ls 3 [(0, .ref (a 99))] → W p l e ({ frames := 0, cells := 0, slots := 0, locals := 0 } : Room) s m args below meth c H locs 0 0 (MQ below (QV D cy (wC cy a r) A Rr) args s 0 0 A) (F0 m 18 ls [.int y1, .ref (a 99)]) := by
  intro H locs ls hW hl
  unfold fX4_begin_18 at hf
  obtain ⟨S1, eS1, hf⟩ := bnd_el hf
  refine fp_4_9 C kX4_begin_4 mX4_begin_37 hW dX4_begin_18 eS1 (fun H locs hW => ?_)
  refine lv_aload_n C.1 C.2.1 dX4_begin_21 rfl (lv_at hl 0 rfl) ?_
  refine lv_iconst (v := 0) C.1 C.2.1 dX4_begin_22 (by decide) ?_
  obtain ⟨S2, eS2, hf⟩ := bnd_el hf
  refine fp_4_10 C kX4_begin_4 mX4_begin_41 hW dX4_begin_23 eS2 (fun H locs hW => ?_)
  refine lv_aload_n C.1 C.2.1 dX4_begin_26 rfl (lv_at hl 0 rfl) ?_
  refine lv_iconst (v := 0) C.1 C.2.1 dX4_begin_27 (by decide) ?_
  obtain ⟨S3, eS3, hf⟩ := bnd_el hf
  refine fp_4_3 C kX4_begin_4 mX4_begin_53 hW dX4_begin_28 eS3 (fun H locs hW => ?_)
  refine lv_aload_n C.1 C.2.1 dX4_begin_31 rfl (lv_at hl 0 rfl) ?_
  refine lv_iconst (v := 0) C.1 C.2.1 dX4_begin_32 (by decide) ?_
  obtain ⟨S4, eS4, hf⟩ := bnd_el hf
  refine fp_4_7 C kX4_begin_4 mX4_begin_56 hW dX4_begin_33 eS4 (fun H locs hW => ?_)
  refine lv_aload_n C.1 C.2.1 dX4_begin_36 rfl (lv_at hl 0 rfl) ?_
  refine lv_iconst (v := 0) C.1 C.2.1 dX4_begin_37 (by decide) ?_
  obtain ⟨S5, eS5, hf⟩ := bnd_el hf
  refine fp_4_11 C kX4_begin_4 mX4_begin_59 hW dX4_begin_38 eS5 (fun H locs hW => ?_)
  refine lv_aload_n C.1 C.2.1 dX4_begin_41 rfl (lv_at hl 0 rfl) ?_
  refine lv_iconst (v := 0) C.1 C.2.1 dX4_begin_42 (by decide) ?_
  obtain ⟨S6, eS6, hf⟩ := bnd_el hf
  refine fp_4_12 C kX4_begin_4 mX4_begin_62 hW dX4_begin_43 eS6 (fun H locs hW => ?_)
  refine lv_aload_n C.1 C.2.1 dX4_begin_46 rfl (lv_at hl 0 rfl) ?_
  refine lv_iconst (v := 0) C.1 C.2.1 dX4_begin_47 (by decide) ?_
  obtain ⟨S7, eS7, hf⟩ := bnd_el hf
  refine fp_4_13 C kX4_begin_4 mX4_begin_65 hW dX4_begin_48 eS7 (fun H locs hW => ?_)
  refine lv_aload_n C.1 C.2.1 dX4_begin_51 rfl (lv_at hl 0 rfl) ?_
  refine lv_iconst (v := 0) C.1 C.2.1 dX4_begin_52 (by decide) ?_
  obtain ⟨S8, eS8, hf⟩ := bnd_el hf
  refine fp_4_14 C kX4_begin_4 mX4_begin_44 hW dX4_begin_53 eS8 (fun H locs hW => ?_)
  exact mrV C hr hlocks hf hW dX4_begin_56
def fX4_begin (N : Nat) (S : St) (p2 : Int32) : Option (St) :=
  bnd (sI S 88 1) fun S1 =>
  if (Int32.ofNat 600) < p2 then
    fX4_begin_18 N S1 (Int32.ofNat 600)
  else
    fX4_begin_18 N S1 p2
set_option maxHeartbeats 4000000 in
set_option maxRecDepth 100000 in
theorem cX4_begin_met (l : Launch) (D : va_G) (cy : Nat → ClassId) (a r : Nat → Nat) (sz N : Nat) (S : St) (p2 : Int32) (Rr : St) (hf : fX4_begin N S p2 = some Rr) : Met l yX4_begin wsX4_begin ({ frames := 0, cells := 0, slots := 0, locals := 0 } : Room) (va_Pc [.ref (a 99), .ref (a 140), .int p2] (preW D cy (wC cy a r S) sz)) (QV D cy (wC cy a r) (va_A (wC cy a r S) sz) Rr) 0 0 (va_A (wC cy a r S) sz) := by
  refine Met.ofW (cc := cX4_begin) (maxL := 3) (ret := none) (by decide) rfl ?_
  intro p e s m args below meth c s₁ B hml hv
  obtain ⟨rfl, rfl, hP, hK, hD0, hN⟩ := hv
  have hlocks := B.notSynchronized
  have hr := B.returns
  have C : Cx p s m _ c cX4_begin 3 wsX4_begin RX4 D cy := ⟨B.exec, B.bytes, hml, findClass_of_methodNamed B.named, atoms_spec (ws := wsX4_begin) B.pre, hK, hN⟩
  have hW := ww_start (w := wC cy a r) hP hD0
  generalize va_A (wC cy a r S) s.heap.size = A at hW ⊢
  have hl := lv_entry ([.ref (a 99), .ref (a 140), .int p2]) (n := 3) (Nat.le_of_ble_eq_true rfl)
  rw [lg_entry_eq]
  generalize (lg_sl ([.ref (a 99), .ref (a 140), .int p2]) ++ List.replicate (3 - (lg_sl ([.ref (a 99), .ref (a 140), .int p2])).length) Slot.unset).toArray = ls at hl ⊢
  have hl : lv_has ls 3 [(0, .ref (a 99)), (1, .ref (a 140)), (2, .int p2)] := hl
  unfold fX4_begin at hf
  refine lv_aload_n C.1 C.2.1 dX4_begin_0 rfl (lv_at hl 0 rfl) ?_
  refine lv_aload_n C.1 C.2.1 dX4_begin_1 rfl (lv_at hl 1 rfl) ?_
  obtain ⟨S1, eS1, hf⟩ := bnd_el hf
  refine fp_4_8 C kX4_begin_4 mX4_begin_30 hW dX4_begin_2 eS1 (fun H locs hW => ?_)
  refine lv_aload_n C.1 C.2.1 dX4_begin_5 rfl (lv_at hl 0 rfl) ?_
  refine lv_iload_n C.1 C.2.1 dX4_begin_6 rfl (lv_at hl 2 rfl) ?_
  refine lv_aload_n C.1 C.2.1 dX4_begin_7 rfl (lv_at hl 1 rfl) ?_
  refine an_7_0 C hW dX4_begin_8 ?_
  refine lv_icmp_gt (tgt := 16) C.1 C.2.1 dX4_begin_9 (by decide) (fun q2 => ?_) (fun q2 => ?_)
  · replace hf := (if_pos q2).symm.trans hf
    refine lv_aload_n C.1 C.2.1 dX4_begin_16 rfl (lv_at hl 1 rfl) ?_
    refine an_7_0 C hW dX4_begin_17 ?_
    exact lX4_begin_18 C hr hlocks N _ _ hf _ _ _ hW (lv_sub hl [0] rfl)
  · replace hf := (if_neg q2).symm.trans hf
    refine lv_iload_n C.1 C.2.1 dX4_begin_12 rfl (lv_at hl 2 rfl) ?_
    refine lv_goto (tgt := 18) C.1 C.2.1 dX4_begin_13 (by decide) ?_
    exact lX4_begin_18 C hr hlocks N _ _ hf _ _ _ hW (lv_sub hl [0] rfl)
theorem mX4_byteAt_37 : Cond.fieldLink RX4 37 "SharedLambda$TermReader" "length" "I" ∈ wsX4_byteAt := by decide +kernel
theorem mX4_byteAt_30 : Cond.fieldLink RX4 30 "SharedLambda$TermReader" "text" "[I" ∈ wsX4_byteAt := by decide +kernel
theorem kX4_byteAt_4 : ∀ w ∈ u_ws RX4 TX4 15, w ∈ wsX4_byteAt := fun _ h => List.mem_cons_of_mem _ (List.mem_append_right _ h)
def fX4_byteAt (N : Nat) (S : St) (p1 : Int32) : Option (Int32 × St) :=
  if p1 < 0 then
    some ((-1 : Int32), S)
  else
    if S.1 89 ≤ p1 then
      some ((-1 : Int32), S)
    else
      ckp (!(S.1 88 == 0)) <|
      if (Int32.ofNat 600) ≤ p1 then
        some ((-1 : Int32), S)
      else
        ckp (!(S.1 88 == 0)) <|
        ckx p1 600 <|
        some (S.2.1 140 (p1 : Int32).toNatClampNeg, S)
set_option maxHeartbeats 4000000 in
set_option maxRecDepth 100000 in
theorem cX4_byteAt_met (l : Launch) (D : va_G) (cy : Nat → ClassId) (a r : Nat → Nat) (sz N : Nat) (S : St) (p1 : Int32) (Rr : Int32 × St) (hf : fX4_byteAt N S p1 = some Rr) : Met l yX4_byteAt wsX4_byteAt ({ frames := 0, cells := 0, slots := 0, locals := 0 } : Room) (va_Pc [.ref (a 99), .int p1] (preW D cy (wC cy a r S) sz)) (QI D cy (wC cy a r) (va_A (wC cy a r S) sz) Rr) 0 0 (va_A (wC cy a r S) sz) := by
  refine Met.ofW (cc := cX4_byteAt) (maxL := 2) (ret := (some .int)) (by decide) rfl ?_
  intro p e s m args below meth c s₁ B hml hv
  obtain ⟨rfl, rfl, hP, hK, hD0, hN⟩ := hv
  have hlocks := B.notSynchronized
  have hr := B.returns
  have C : Cx p s m _ c cX4_byteAt 2 wsX4_byteAt RX4 D cy := ⟨B.exec, B.bytes, hml, findClass_of_methodNamed B.named, atoms_spec (ws := wsX4_byteAt) B.pre, hK, hN⟩
  have hW := ww_start (w := wC cy a r) hP hD0
  generalize va_A (wC cy a r S) s.heap.size = A at hW ⊢
  have hl := lv_entry ([.ref (a 99), .int p1]) (n := 2) (Nat.le_of_ble_eq_true rfl)
  rw [lg_entry_eq]
  generalize (lg_sl ([.ref (a 99), .int p1]) ++ List.replicate (2 - (lg_sl ([.ref (a 99), .int p1])).length) Slot.unset).toArray = ls at hl ⊢
  have hl : lv_has ls 2 [(0, .ref (a 99)), (1, .int p1)] := hl
  unfold fX4_byteAt at hf
  refine lv_iload_n C.1 C.2.1 dX4_byteAt_0 rfl (lv_at hl 1 rfl) ?_
  refine lv_if_lt (tgt := 30) C.1 C.2.1 dX4_byteAt_1 (by decide) (fun q1 => ?_) (fun q1 => ?_)
  · replace hf := (if_pos q1).symm.trans hf
    refine lv_iconst (v := -1) C.1 C.2.1 dX4_byteAt_30 (by decide) ?_
    exact mrI C hr hlocks rfl hf hW dX4_byteAt_31
  · replace hf := (if_neg q1).symm.trans hf
    refine lv_iload_n C.1 C.2.1 dX4_byteAt_4 rfl (lv_at hl 1 rfl) ?_
    refine lv_aload_n C.1 C.2.1 dX4_byteAt_5 rfl (lv_at hl 0 rfl) ?_
    refine fg_4_9 C kX4_byteAt_4 mX4_byteAt_37 hW dX4_byteAt_6 ?_
    refine lv_icmp_ge (tgt := 30) C.1 C.2.1 dX4_byteAt_9 (by decide) (fun q2 => ?_) (fun q2 => ?_)
    · replace hf := (if_pos q2).symm.trans hf
      refine lv_iconst (v := -1) C.1 C.2.1 dX4_byteAt_30 (by decide) ?_
      exact mrI C hr hlocks rfl hf hW dX4_byteAt_31
    · replace hf := (if_neg q2).symm.trans hf
      refine lv_iload_n C.1 C.2.1 dX4_byteAt_12 rfl (lv_at hl 1 rfl) ?_
      refine lv_aload_n C.1 C.2.1 dX4_byteAt_13 rfl (lv_at hl 0 rfl) ?_
      obtain ⟨h3, hf⟩ := ckp_el hf
      refine fg_4_8 C kX4_byteAt_4 mX4_byteAt_30 hW h3 dX4_byteAt_14 ?_
      refine an_7_0 C hW dX4_byteAt_17 ?_
      refine lv_icmp_ge (tgt := 30) C.1 C.2.1 dX4_byteAt_18 (by decide) (fun q4 => ?_) (fun q4 => ?_)
      · replace hf := (if_pos q4).symm.trans hf
        refine lv_iconst (v := -1) C.1 C.2.1 dX4_byteAt_30 (by decide) ?_
        exact mrI C hr hlocks rfl hf hW dX4_byteAt_31
      · replace hf := (if_neg q4).symm.trans hf
        refine lv_aload_n C.1 C.2.1 dX4_byteAt_21 rfl (lv_at hl 0 rfl) ?_
        obtain ⟨h5, hf⟩ := ckp_el hf
        refine fg_4_8 C kX4_byteAt_4 mX4_byteAt_30 hW h5 dX4_byteAt_22 ?_
        refine lv_iload_n C.1 C.2.1 dX4_byteAt_25 rfl (lv_at hl 1 rfl) ?_
        obtain ⟨h6, hf⟩ := ckx_el hf
        refine al_7_0 C hW h6 dX4_byteAt_26 ?_
        refine lv_goto (tgt := 31) C.1 C.2.1 dX4_byteAt_27 (by decide) ?_
        exact mrI C hr hlocks rfl hf hW dX4_byteAt_31
def fX4_isBlank (p0 : Int32) : Option Int32 :=
  if p0 = (9 : Int32) then
    some (1 : Int32)
  else
    if p0 = (10 : Int32) then
      some (1 : Int32)
    else
      if p0 = (13 : Int32) then
        some (1 : Int32)
      else
        if p0 = (32 : Int32) then
          some (1 : Int32)
        else
          some (0 : Int32)
set_option maxHeartbeats 4000000 in
set_option maxRecDepth 100000 in
theorem cX4_isBlank_met (l : Launch) (p0 : Int32) (v1 : Int32) (hf : fX4_isBlank p0 = some v1) : MetS l yX4_isBlank wsX4_isBlank ({ frames := 0, cells := 0, slots := 0, locals := 0 } : Room) [.int p0] v1 := by
  refine Met.ofW (cc := cX4_isBlank) (maxL := 1) (ret := (some .boolean)) (by decide) rfl ?_
  intro p e s m args below meth c s₁ B hml hv
  obtain ⟨rfl, -⟩ := hv
  have hlocks := B.notSynchronized
  have hr := B.returns
  have C : p.tables.exec = Jvm.exec ∧ c.code = cX4_isBlank ∧ True := ⟨B.exec, B.bytes, trivial⟩
  have hl := lv_entry ([.int p0]) (n := 1) (Nat.le_of_ble_eq_true rfl)
  rw [lg_entry_eq]
  generalize (lg_sl ([.int p0]) ++ List.replicate (1 - (lg_sl ([.int p0])).length) Slot.unset).toArray = ls at hl ⊢
  have hl : lv_has ls 1 [(0, .int p0)] := hl
  unfold fX4_isBlank at hf
  refine lv_iload_n C.1 C.2.1 dX4_isBlank_0 rfl (lv_at hl 0 rfl) ?_
  refine lv_bipush (v := 9) C.1 C.2.1 dX4_isBlank_1 (by decide) ?_
  refine lv_icmp_eq (tgt := 24) C.1 C.2.1 dX4_isBlank_3 (by decide) (fun q1 => ?_) (fun q1 => ?_)
  · replace hf := (if_pos q1).symm.trans hf
    refine lv_iconst (v := 1) C.1 C.2.1 dX4_isBlank_24 (by decide) ?_
    refine lv_goto (tgt := 29) C.1 C.2.1 dX4_isBlank_25 (by decide) ?_
    exact mrS C.1 C.2.1 hr hlocks rfl hf rfl dX4_isBlank_29
  · replace hf := (if_neg q1).symm.trans hf
    refine lv_iload_n C.1 C.2.1 dX4_isBlank_6 rfl (lv_at hl 0 rfl) ?_
    refine lv_bipush (v := 10) C.1 C.2.1 dX4_isBlank_7 (by decide) ?_
    refine lv_icmp_eq (tgt := 24) C.1 C.2.1 dX4_isBlank_9 (by decide) (fun q2 => ?_) (fun q2 => ?_)
    · replace hf := (if_pos q2).symm.trans hf
      refine lv_iconst (v := 1) C.1 C.2.1 dX4_isBlank_24 (by decide) ?_
      refine lv_goto (tgt := 29) C.1 C.2.1 dX4_isBlank_25 (by decide) ?_
      exact mrS C.1 C.2.1 hr hlocks rfl hf rfl dX4_isBlank_29
    · replace hf := (if_neg q2).symm.trans hf
      refine lv_iload_n C.1 C.2.1 dX4_isBlank_12 rfl (lv_at hl 0 rfl) ?_
      refine lv_bipush (v := 13) C.1 C.2.1 dX4_isBlank_13 (by decide) ?_
      refine lv_icmp_eq (tgt := 24) C.1 C.2.1 dX4_isBlank_15 (by decide) (fun q3 => ?_) (fun q3 => ?_)
      · replace hf := (if_pos q3).symm.trans hf
        refine lv_iconst (v := 1) C.1 C.2.1 dX4_isBlank_24 (by decide) ?_
        refine lv_goto (tgt := 29) C.1 C.2.1 dX4_isBlank_25 (by decide) ?_
        exact mrS C.1 C.2.1 hr hlocks rfl hf rfl dX4_isBlank_29
      · replace hf := (if_neg q3).symm.trans hf
        refine lv_iload_n C.1 C.2.1 dX4_isBlank_18 rfl (lv_at hl 0 rfl) ?_
        refine lv_bipush (v := 32) C.1 C.2.1 dX4_isBlank_19 (by decide) ?_
        refine lv_icmp_ne (tgt := 28) C.1 C.2.1 dX4_isBlank_21 (by decide) (fun q4 => ?_) (fun q4 => ?_)
        · replace hf := (if_neg q4).symm.trans hf
          refine lv_iconst (v := 0) C.1 C.2.1 dX4_isBlank_28 (by decide) ?_
          exact mrS C.1 C.2.1 hr hlocks rfl hf rfl dX4_isBlank_29
        · replace hf := (if_pos q4).symm.trans hf
          refine lv_iconst (v := 1) C.1 C.2.1 dX4_isBlank_24 (by decide) ?_
          refine lv_goto (tgt := 29) C.1 C.2.1 dX4_isBlank_25 (by decide) ?_
          exact mrS C.1 C.2.1 hr hlocks rfl hf rfl dX4_isBlank_29
theorem mX4_skipBlanks_41 : Cond.fieldLink RX4 41 "SharedLambda$TermReader" "at" "I" ∈ wsX4_skipBlanks := by decide +kernel
theorem mX4_skipBlanks_37 : Cond.fieldLink RX4 37 "SharedLambda$TermReader" "length" "I" ∈ wsX4_skipBlanks := by decide +kernel
theorem kX4_skipBlanks_4 : ∀ w ∈ u_ws RX4 TX4 15, w ∈ wsX4_skipBlanks := fun _ h => List.mem_cons_of_mem _ (List.mem_append_right _ h)
def fX4_skipBlanks_0s (N : Nat) (k0 : St → Option (St)) (S : St) : Option (St) :=
  if S.1 89 ≤ S.1 90 then
    some S
  else
    bd2 (fX4_byteAt N S (S.1 90)) fun v2 S4 =>
    bdo (fX4_isBlank v2) fun v5 =>
    if v5 = 0 then
      some S4
    else
      bnd (sI S4 90 ((S4.1 90 + (1 : Int32)))) fun S8 =>
      k0 (S8)
def fX4_skipBlanks_0 (N : Nat) : St → Option (St) := loopN (fun k x => fX4_skipBlanks_0s N k x) N
set_option maxHeartbeats 4000000 in
set_option maxRecDepth 100000 in
theorem lX4_skipBlanks_0 {p : Program} {l : Launch} {e : Env} {s : State} {m : MethodId} {args : Array Value} {below : List Frame} {meth : Method} {c : Code} {D : va_G} {cy : Nat → ClassId} {a r : Nat → Nat} {A : Nat → Prop} {Rr : St} (C : Cx p s m args c cX4_skipBlanks 1 wsX4_skipBlanks RX4 D cy) (hr : meth.sig.returnType = none) (hlocks : meth.locks = false) (N : Nat) : ∀ (n : Nat) (S : St), loopN (fun k x => fX4_skipBlanks_0s N k x) n (S) = some Rr → ∀ (H : Heap) (locs : List Loc) (ls : Array Slot), WW D A s.heap (wC cy a r S) H locs → lv_has ls 1 [(0, .ref (a 99))] → W p l e ({ frames := 1, cells := 0, slots := 0, locals := 21 } : Room) s m args below meth c H locs 0 0 (MQ below (QV D cy (wC cy a r) A Rr) args s 0 0 A) (F0 m 0 ls []) := by
  intro n
  induction n with
  | zero =>
    intro S hf
    cases hf
  | succ n ih =>
    intro S hf H locs ls hW hl
    have hf : fX4_skipBlanks_0s N (loopN (fun k x => fX4_skipBlanks_0s N k x) n) S = some Rr := hf
    unfold fX4_skipBlanks_0s at hf
    refine lv_aload_n C.1 C.2.1 dX4_skipBlanks_0 rfl (lv_at hl 0 rfl) ?_
    refine fg_4_10 C kX4_skipBlanks_4 mX4_skipBlanks_41 hW dX4_skipBlanks_1 ?_
    refine lv_aload_n C.1 C.2.1 dX4_skipBlanks_4 rfl (lv_at hl 0 rfl) ?_
    refine fg_4_9 C kX4_skipBlanks_4 mX4_skipBlanks_37 hW dX4_skipBlanks_5 ?_
    refine lv_icmp_ge (tgt := 38) C.1 C.2.1 dX4_skipBlanks_8 (by decide) (fun q1 => ?_) (fun q1 => ?_)
    · replace hf := (if_pos q1).symm.trans hf
      exact mrV C hr hlocks hf hW dX4_skipBlanks_38
    · replace hf := (if_neg q1).symm.trans hf
      refine lv_aload_n C.1 C.2.1 dX4_skipBlanks_11 rfl (lv_at hl 0 rfl) ?_
      refine lv_aload_n C.1 C.2.1 dX4_skipBlanks_12 rfl (lv_at hl 0 rfl) ?_
      refine fg_4_10 C kX4_skipBlanks_4 mX4_skipBlanks_41 hW dX4_skipBlanks_13 ?_
      obtain ⟨v2, S4, h3, hf⟩ := bd2_el hf
      refine mcVi (w := wC cy a r) (S := S) (As := [.int (S.1 90)]) (rest := []) (q0 := 4) (ci := 4) C (cX4_byteAt_met l D cy a r _ N S (S.1 90) (v2, S4) h3) (cwV 1 C.2.2.2.2.1 gX4_skipBlanks_X4_byteAt rfl rfl rfl (by decide +kernel) ⟨Nat.le_of_ble_eq_true rfl, Nat.le_of_ble_eq_true rfl⟩) rfl rfl rfl hl.1 (Nat.le_of_ble_eq_true rfl) hW dX4_skipBlanks_16 ⟨Nat.zero_le _, Nat.zero_le _⟩ rfl (fun H locs hW => ?_)
      obtain ⟨v5, h6, hf⟩ := bdo_el hf
      refine mcS (As := [.int v2]) (rest := []) C (cX4_isBlank_met l v2 v5 h6) (va_cwS 1 C.2.2.2.2.1 gX4_skipBlanks_X4_isBlank rfl rfl rfl (by decide +kernel) ⟨Nat.le_of_ble_eq_true rfl, Nat.le_of_ble_eq_true rfl⟩) rfl hl.1 (Nat.le_of_ble_eq_true rfl) dX4_skipBlanks_19 ⟨Nat.zero_le _, Nat.zero_le _⟩ rfl ?_
      refine lv_if_eq (tgt := 38) C.1 C.2.1 dX4_skipBlanks_22 (by decide) (fun q7 => ?_) (fun q7 => ?_)
      · replace hf := (if_pos q7).symm.trans hf
        exact mrV C hr hlocks hf hW dX4_skipBlanks_38
      · replace hf := (if_neg q7).symm.trans hf
        refine lv_aload_n C.1 C.2.1 dX4_skipBlanks_25 rfl (lv_at hl 0 rfl) ?_
        refine lv_dup C.1 C.2.1 dX4_skipBlanks_26 rfl ?_
        refine fg_4_10 C kX4_skipBlanks_4 mX4_skipBlanks_41 hW dX4_skipBlanks_27 ?_
        refine lv_iconst (v := 1) C.1 C.2.1 dX4_skipBlanks_30 (by decide) ?_
        refine lv_iadd C.1 C.2.1 dX4_skipBlanks_31 ?_
        obtain ⟨S8, eS8, hf⟩ := bnd_el hf
        refine fp_4_10 C kX4_skipBlanks_4 mX4_skipBlanks_41 hW dX4_skipBlanks_32 eS8 (fun H locs hW => ?_)
        refine lv_goto (tgt := 0) C.1 C.2.1 dX4_skipBlanks_35 (by decide) ?_
        exact ih _ hf _ _ _ hW (lv_sub hl [0] rfl)
def fX4_skipBlanks (N : Nat) (S : St) : Option (St) :=
  fX4_skipBlanks_0 N (S)
set_option maxHeartbeats 4000000 in
set_option maxRecDepth 100000 in
theorem cX4_skipBlanks_met (l : Launch) (D : va_G) (cy : Nat → ClassId) (a r : Nat → Nat) (sz N : Nat) (S : St) (Rr : St) (hf : fX4_skipBlanks N S  = some Rr) : Met l yX4_skipBlanks wsX4_skipBlanks ({ frames := 1, cells := 0, slots := 0, locals := 21 } : Room) (va_Pc [.ref (a 99)] (preW D cy (wC cy a r S) sz)) (QV D cy (wC cy a r) (va_A (wC cy a r S) sz) Rr) 0 0 (va_A (wC cy a r S) sz) := by
  refine Met.ofW (cc := cX4_skipBlanks) (maxL := 1) (ret := none) (by decide) rfl ?_
  intro p e s m args below meth c s₁ B hml hv
  obtain ⟨rfl, rfl, hP, hK, hD0, hN⟩ := hv
  have hlocks := B.notSynchronized
  have hr := B.returns
  have C : Cx p s m _ c cX4_skipBlanks 1 wsX4_skipBlanks RX4 D cy := ⟨B.exec, B.bytes, hml, findClass_of_methodNamed B.named, atoms_spec (ws := wsX4_skipBlanks) B.pre, hK, hN⟩
  have hW := ww_start (w := wC cy a r) hP hD0
  generalize va_A (wC cy a r S) s.heap.size = A at hW ⊢
  have hl := lv_entry ([.ref (a 99)]) (n := 1) (Nat.le_of_ble_eq_true rfl)
  rw [lg_entry_eq]
  generalize (lg_sl ([.ref (a 99)]) ++ List.replicate (1 - (lg_sl ([.ref (a 99)])).length) Slot.unset).toArray = ls at hl ⊢
  have hl : lv_has ls 1 [(0, .ref (a 99))] := hl
  unfold fX4_skipBlanks at hf
  exact lX4_skipBlanks_0 C hr hlocks N _ _ hf _ _ _ hW (lv_sub hl [0] rfl)
def fX4_isLetter (p0 : Int32) : Option Int32 :=
  if p0 < (97 : Int32) then
    some (0 : Int32)
  else
    if (122 : Int32) < p0 then
      some (0 : Int32)
    else
      some (1 : Int32)
set_option maxHeartbeats 4000000 in
set_option maxRecDepth 100000 in
theorem cX4_isLetter_met (l : Launch) (p0 : Int32) (v1 : Int32) (hf : fX4_isLetter p0 = some v1) : MetS l yX4_isLetter wsX4_isLetter ({ frames := 0, cells := 0, slots := 0, locals := 0 } : Room) [.int p0] v1 := by
  refine Met.ofW (cc := cX4_isLetter) (maxL := 1) (ret := (some .boolean)) (by decide) rfl ?_
  intro p e s m args below meth c s₁ B hml hv
  obtain ⟨rfl, -⟩ := hv
  have hlocks := B.notSynchronized
  have hr := B.returns
  have C : p.tables.exec = Jvm.exec ∧ c.code = cX4_isLetter ∧ True := ⟨B.exec, B.bytes, trivial⟩
  have hl := lv_entry ([.int p0]) (n := 1) (Nat.le_of_ble_eq_true rfl)
  rw [lg_entry_eq]
  generalize (lg_sl ([.int p0]) ++ List.replicate (1 - (lg_sl ([.int p0])).length) Slot.unset).toArray = ls at hl ⊢
  have hl : lv_has ls 1 [(0, .int p0)] := hl
  unfold fX4_isLetter at hf
  refine lv_iload_n C.1 C.2.1 dX4_isLetter_0 rfl (lv_at hl 0 rfl) ?_
  refine lv_bipush (v := 97) C.1 C.2.1 dX4_isLetter_1 (by decide) ?_
  refine lv_icmp_lt (tgt := 16) C.1 C.2.1 dX4_isLetter_3 (by decide) (fun q1 => ?_) (fun q1 => ?_)
  · replace hf := (if_pos q1).symm.trans hf
    refine lv_iconst (v := 0) C.1 C.2.1 dX4_isLetter_16 (by decide) ?_
    exact mrS C.1 C.2.1 hr hlocks rfl hf rfl dX4_isLetter_17
  · replace hf := (if_neg q1).symm.trans hf
    refine lv_iload_n C.1 C.2.1 dX4_isLetter_6 rfl (lv_at hl 0 rfl) ?_
    refine lv_bipush (v := 122) C.1 C.2.1 dX4_isLetter_7 (by decide) ?_
    refine lv_icmp_gt (tgt := 16) C.1 C.2.1 dX4_isLetter_9 (by decide) (fun q2 => ?_) (fun q2 => ?_)
    · replace hf := (if_pos q2).symm.trans hf
      refine lv_iconst (v := 0) C.1 C.2.1 dX4_isLetter_16 (by decide) ?_
      exact mrS C.1 C.2.1 hr hlocks rfl hf rfl dX4_isLetter_17
    · replace hf := (if_neg q2).symm.trans hf
      refine lv_iconst (v := 1) C.1 C.2.1 dX4_isLetter_12 (by decide) ?_
      refine lv_goto (tgt := 17) C.1 C.2.1 dX4_isLetter_13 (by decide) ?_
      exact mrS C.1 C.2.1 hr hlocks rfl hf rfl dX4_isLetter_17
def fX4_isDigit (p0 : Int32) : Option Int32 :=
  if p0 < (48 : Int32) then
    some (0 : Int32)
  else
    if (57 : Int32) < p0 then
      some (0 : Int32)
    else
      some (1 : Int32)
set_option maxHeartbeats 4000000 in
set_option maxRecDepth 100000 in
theorem cX4_isDigit_met (l : Launch) (p0 : Int32) (v1 : Int32) (hf : fX4_isDigit p0 = some v1) : MetS l yX4_isDigit wsX4_isDigit ({ frames := 0, cells := 0, slots := 0, locals := 0 } : Room) [.int p0] v1 := by
  refine Met.ofW (cc := cX4_isDigit) (maxL := 1) (ret := (some .boolean)) (by decide) rfl ?_
  intro p e s m args below meth c s₁ B hml hv
  obtain ⟨rfl, -⟩ := hv
  have hlocks := B.notSynchronized
  have hr := B.returns
  have C : p.tables.exec = Jvm.exec ∧ c.code = cX4_isDigit ∧ True := ⟨B.exec, B.bytes, trivial⟩
  have hl := lv_entry ([.int p0]) (n := 1) (Nat.le_of_ble_eq_true rfl)
  rw [lg_entry_eq]
  generalize (lg_sl ([.int p0]) ++ List.replicate (1 - (lg_sl ([.int p0])).length) Slot.unset).toArray = ls at hl ⊢
  have hl : lv_has ls 1 [(0, .int p0)] := hl
  unfold fX4_isDigit at hf
  refine lv_iload_n C.1 C.2.1 dX4_isDigit_0 rfl (lv_at hl 0 rfl) ?_
  refine lv_bipush (v := 48) C.1 C.2.1 dX4_isDigit_1 (by decide) ?_
  refine lv_icmp_lt (tgt := 16) C.1 C.2.1 dX4_isDigit_3 (by decide) (fun q1 => ?_) (fun q1 => ?_)
  · replace hf := (if_pos q1).symm.trans hf
    refine lv_iconst (v := 0) C.1 C.2.1 dX4_isDigit_16 (by decide) ?_
    exact mrS C.1 C.2.1 hr hlocks rfl hf rfl dX4_isDigit_17
  · replace hf := (if_neg q1).symm.trans hf
    refine lv_iload_n C.1 C.2.1 dX4_isDigit_6 rfl (lv_at hl 0 rfl) ?_
    refine lv_bipush (v := 57) C.1 C.2.1 dX4_isDigit_7 (by decide) ?_
    refine lv_icmp_gt (tgt := 16) C.1 C.2.1 dX4_isDigit_9 (by decide) (fun q2 => ?_) (fun q2 => ?_)
    · replace hf := (if_pos q2).symm.trans hf
      refine lv_iconst (v := 0) C.1 C.2.1 dX4_isDigit_16 (by decide) ?_
      exact mrS C.1 C.2.1 hr hlocks rfl hf rfl dX4_isDigit_17
    · replace hf := (if_neg q2).symm.trans hf
      refine lv_iconst (v := 1) C.1 C.2.1 dX4_isDigit_12 (by decide) ?_
      refine lv_goto (tgt := 17) C.1 C.2.1 dX4_isDigit_13 (by decide) ?_
      exact mrS C.1 C.2.1 hr hlocks rfl hf rfl dX4_isDigit_17
theorem mX4_nameSize_37 : Cond.fieldLink RX4 37 "SharedLambda$TermReader" "length" "I" ∈ wsX4_nameSize := by decide +kernel
theorem mX4_nameSize_41 : Cond.fieldLink RX4 41 "SharedLambda$TermReader" "at" "I" ∈ wsX4_nameSize := by decide +kernel
theorem kX4_nameSize_4 : ∀ w ∈ u_ws RX4 TX4 15, w ∈ wsX4_nameSize := fun _ h => List.mem_cons_of_mem _ (List.mem_append_right _ h)
def fX4_nameSize_23s (N : Nat) (k23 : St × Int32 → Option (Int32 × St)) (S : St) (x1 : Int32) : Option (Int32 × St) :=
  if S.1 89 ≤ x1 then
    some ((x1 - S.1 90), S)
  else
    bd2 (fX4_byteAt N S x1) fun v2 S4 =>
    bdo (fX4_isDigit v2) fun v5 =>
    if v5 = 0 then
      some ((x1 - S4.1 90), S4)
    else
      bnd (x1 + (1 : Int32)) fun z8 =>
      k23 (S4, z8)
def fX4_nameSize_23 (N : Nat) : St × Int32 → Option (Int32 × St) := loopN (fun k x => fX4_nameSize_23s N k x.1 x.2) N
set_option maxHeartbeats 4000000 in
set_option maxRecDepth 100000 in
theorem lX4_nameSize_23 {p : Program} {l : Launch} {e : Env} {s : State} {m : MethodId} {args : Array Value} {below : List Frame} {meth : Method} {c : Code} {D : va_G} {cy : Nat → ClassId} {a r : Nat → Nat} {A : Nat → Prop} {Rr : Int32 × St} (C : Cx p s m args c cX4_nameSize 2 wsX4_nameSize RX4 D cy) (hr : meth.sig.returnType = some .int) (hlocks : meth.locks = false) (N : Nat) : ∀ (n : Nat) (S : St) (x1 : Int32), loopN (fun k x => fX4_nameSize_23s N k x.1 x.2) n (S, x1) = some Rr → ∀ (H : Heap) (locs : List Loc) (ls : Array Slot), WW D A s.heap (wC cy a r S) H locs → lv_has ls 2 [(0, .ref (a 99)), (1, .int x1)] → W p l e ({ frames := 1, cells := 0, slots := 0, locals := 21 } : Room) s m args below meth c H locs 0 0 (MQ below (QI D cy (wC cy a r) A Rr) args s 0 0 A) (F0 m 23 ls []) := by
  intro n
  induction n with
  | zero =>
    intro S x1 hf
    cases hf
  | succ n ih =>
    intro S x1 hf H locs ls hW hl
    have hf : fX4_nameSize_23s N (loopN (fun k x => fX4_nameSize_23s N k x.1 x.2) n) S x1 = some Rr := hf
    unfold fX4_nameSize_23s at hf
    refine lv_iload_n C.1 C.2.1 dX4_nameSize_23 rfl (lv_at hl 1 rfl) ?_
    refine lv_aload_n C.1 C.2.1 dX4_nameSize_24 rfl (lv_at hl 0 rfl) ?_
    refine fg_4_9 C kX4_nameSize_4 mX4_nameSize_37 hW dX4_nameSize_25 ?_
    refine lv_icmp_ge (tgt := 48) C.1 C.2.1 dX4_nameSize_28 (by decide) (fun q1 => ?_) (fun q1 => ?_)
    · replace hf := (if_pos q1).symm.trans hf
      refine lv_iload_n C.1 C.2.1 dX4_nameSize_48 rfl (lv_at hl 1 rfl) ?_
      refine lv_aload_n C.1 C.2.1 dX4_nameSize_49 rfl (lv_at hl 0 rfl) ?_
      refine fg_4_10 C kX4_nameSize_4 mX4_nameSize_41 hW dX4_nameSize_50 ?_
      refine lv_isub C.1 C.2.1 dX4_nameSize_53 ?_
      exact mrI C hr hlocks rfl hf hW dX4_nameSize_54
    · replace hf := (if_neg q1).symm.trans hf
      refine lv_aload_n C.1 C.2.1 dX4_nameSize_31 rfl (lv_at hl 0 rfl) ?_
      refine lv_iload_n C.1 C.2.1 dX4_nameSize_32 rfl (lv_at hl 1 rfl) ?_
      obtain ⟨v2, S4, h3, hf⟩ := bd2_el hf
      refine mcVi (w := wC cy a r) (S := S) (As := [.int x1]) (rest := []) (q0 := 4) (ci := 4) C (cX4_byteAt_met l D cy a r _ N S x1 (v2, S4) h3) (cwV 1 C.2.2.2.2.1 gX4_nameSize_X4_byteAt rfl rfl rfl (by decide +kernel) ⟨Nat.le_of_ble_eq_true rfl, Nat.le_of_ble_eq_true rfl⟩) rfl rfl rfl hl.1 (Nat.le_of_ble_eq_true rfl) hW dX4_nameSize_33 ⟨Nat.zero_le _, Nat.zero_le _⟩ rfl (fun H locs hW => ?_)
      obtain ⟨v5, h6, hf⟩ := bdo_el hf
      refine mcS (As := [.int v2]) (rest := []) C (cX4_isDigit_met l v2 v5 h6) (va_cwS 1 C.2.2.2.2.1 gX4_nameSize_X4_isDigit rfl rfl rfl (by decide +kernel) ⟨Nat.le_of_ble_eq_true rfl, Nat.le_of_ble_eq_true rfl⟩) rfl hl.1 (Nat.le_of_ble_eq_true rfl) dX4_nameSize_36 ⟨Nat.zero_le _, Nat.zero_le _⟩ rfl ?_
      refine lv_if_eq (tgt := 48) C.1 C.2.1 dX4_nameSize_39 (by decide) (fun q7 => ?_) (fun q7 => ?_)
      · replace hf := (if_pos q7).symm.trans hf
        refine lv_iload_n C.1 C.2.1 dX4_nameSize_48 rfl (lv_at hl 1 rfl) ?_
        refine lv_aload_n C.1 C.2.1 dX4_nameSize_49 rfl (lv_at hl 0 rfl) ?_
        refine fg_4_10 C kX4_nameSize_4 mX4_nameSize_41 hW dX4_nameSize_50 ?_
        refine lv_isub C.1 C.2.1 dX4_nameSize_53 ?_
        exact mrI C hr hlocks rfl hf hW dX4_nameSize_54
      · replace hf := (if_neg q7).symm.trans hf
        obtain ⟨z8, ez8, hf⟩ := bnd_el hf
        refine lv_iinc (v := z8) (lv' := [(1, .int z8), (0, .ref (a 99))]) C.1 C.2.1 dX4_nameSize_42 hl (k := 1) rfl (by rw [ez8]; rfl) (by decide) rfl (fun ls hl => ?_)
        refine lv_goto (tgt := 23) C.1 C.2.1 dX4_nameSize_45 (by decide) ?_
        exact ih _ _ hf _ _ _ hW (lv_sub hl [1, 0] rfl)
def fX4_nameSize (N : Nat) (S : St) : Option (Int32 × St) :=
  bd2 (fX4_byteAt N S (S.1 90)) fun v1 S3 =>
  bdo (fX4_isLetter v1) fun v4 =>
  if v4 = 0 then
    some ((0 : Int32), S3)
  else
    bnd ((S3.1 90 + (1 : Int32))) fun z7 =>
    fX4_nameSize_23 N (S3, z7)
set_option maxHeartbeats 4000000 in
set_option maxRecDepth 100000 in
theorem cX4_nameSize_met (l : Launch) (D : va_G) (cy : Nat → ClassId) (a r : Nat → Nat) (sz N : Nat) (S : St) (Rr : Int32 × St) (hf : fX4_nameSize N S  = some Rr) : Met l yX4_nameSize wsX4_nameSize ({ frames := 1, cells := 0, slots := 0, locals := 21 } : Room) (va_Pc [.ref (a 99)] (preW D cy (wC cy a r S) sz)) (QI D cy (wC cy a r) (va_A (wC cy a r S) sz) Rr) 0 0 (va_A (wC cy a r S) sz) := by
  refine Met.ofW (cc := cX4_nameSize) (maxL := 2) (ret := (some .int)) (by decide) rfl ?_
  intro p e s m args below meth c s₁ B hml hv
  obtain ⟨rfl, rfl, hP, hK, hD0, hN⟩ := hv
  have hlocks := B.notSynchronized
  have hr := B.returns
  have C : Cx p s m _ c cX4_nameSize 2 wsX4_nameSize RX4 D cy := ⟨B.exec, B.bytes, hml, findClass_of_methodNamed B.named, atoms_spec (ws := wsX4_nameSize) B.pre, hK, hN⟩
  have hW := ww_start (w := wC cy a r) hP hD0
  generalize va_A (wC cy a r S) s.heap.size = A at hW ⊢
  have hl := lv_entry ([.ref (a 99)]) (n := 2) (Nat.le_of_ble_eq_true rfl)
  rw [lg_entry_eq]
  generalize (lg_sl ([.ref (a 99)]) ++ List.replicate (2 - (lg_sl ([.ref (a 99)])).length) Slot.unset).toArray = ls at hl ⊢
  have hl : lv_has ls 2 [(0, .ref (a 99))] := hl
  unfold fX4_nameSize at hf
  refine lv_aload_n C.1 C.2.1 dX4_nameSize_0 rfl (lv_at hl 0 rfl) ?_
  refine lv_aload_n C.1 C.2.1 dX4_nameSize_1 rfl (lv_at hl 0 rfl) ?_
  refine fg_4_10 C kX4_nameSize_4 mX4_nameSize_41 hW dX4_nameSize_2 ?_
  obtain ⟨v1, S3, h2, hf⟩ := bd2_el hf
  refine mcVi (w := wC cy a r) (S := S) (As := [.int (S.1 90)]) (rest := []) (q0 := 4) (ci := 4) C (cX4_byteAt_met l D cy a r _ N S (S.1 90) (v1, S3) h2) (cwV 1 C.2.2.2.2.1 gX4_nameSize_X4_byteAt rfl rfl rfl (by decide +kernel) ⟨Nat.le_of_ble_eq_true rfl, Nat.le_of_ble_eq_true rfl⟩) rfl rfl rfl hl.1 (Nat.le_of_ble_eq_true rfl) hW dX4_nameSize_5 ⟨Nat.zero_le _, Nat.zero_le _⟩ rfl (fun H locs hW => ?_)
  obtain ⟨v4, h5, hf⟩ := bdo_el hf
  refine mcS (As := [.int v1]) (rest := []) C (cX4_isLetter_met l v1 v4 h5) (va_cwS 1 C.2.2.2.2.1 gX4_nameSize_X4_isLetter rfl rfl rfl (by decide +kernel) ⟨Nat.le_of_ble_eq_true rfl, Nat.le_of_ble_eq_true rfl⟩) rfl hl.1 (Nat.le_of_ble_eq_true rfl) dX4_nameSize_8 ⟨Nat.zero_le _, Nat.zero_le _⟩ rfl ?_
  refine lv_if_ne (tgt := 16) C.1 C.2.1 dX4_nameSize_11 (by decide) (fun q6 => ?_) (fun q6 => ?_)
  · replace hf := (if_neg q6).symm.trans hf
    refine lv_aload_n C.1 C.2.1 dX4_nameSize_16 rfl (lv_at hl 0 rfl) ?_
    refine fg_4_10 C kX4_nameSize_4 mX4_nameSize_41 hW dX4_nameSize_17 ?_
    refine lv_iconst (v := 1) C.1 C.2.1 dX4_nameSize_20 (by decide) ?_
    refine lv_iadd C.1 C.2.1 dX4_nameSize_21 ?_
    obtain ⟨z7, ez7, hf⟩ := bnd_el hf
    refine lv_as ez7 ?_
    refine lv_istore_n (lv' := [(1, .int z7), (0, .ref (a 99))]) C.1 C.2.1 dX4_nameSize_22 rfl hl (by decide) rfl (fun ls hl => ?_)
    exact lX4_nameSize_23 C hr hlocks N _ _ _ hf _ _ _ hW (lv_sub hl [1, 0] rfl)
  · replace hf := (if_pos q6).symm.trans hf
    refine lv_iconst (v := 0) C.1 C.2.1 dX4_nameSize_14 (by decide) ?_
    exact mrI C hr hlocks rfl hf hW dX4_nameSize_15
theorem mX4_countName_59 : Cond.fieldLink RX4 59 "SharedLambda$TermReader" "names" "I" ∈ wsX4_countName := by decide +kernel
theorem kX4_countName_4 : ∀ w ∈ u_ws RX4 TX4 15, w ∈ wsX4_countName := fun _ h => List.mem_cons_of_mem _ (List.mem_append_right _ h)
def fX4_countName (N : Nat) (S : St) : Option (Int32 × St) :=
  bnd (sI S 91 ((S.1 91 + (1 : Int32)))) fun S1 =>
  if S1.1 91 ≤ (80 : Int32) then
    some ((0 : Int32), S1)
  else
    some ((4 : Int32), S1)
set_option maxHeartbeats 4000000 in
set_option maxRecDepth 100000 in
theorem cX4_countName_met (l : Launch) (D : va_G) (cy : Nat → ClassId) (a r : Nat → Nat) (sz N : Nat) (S : St) (Rr : Int32 × St) (hf : fX4_countName N S  = some Rr) : Met l yX4_countName wsX4_countName ({ frames := 0, cells := 0, slots := 0, locals := 0 } : Room) (va_Pc [.ref (a 99)] (preW D cy (wC cy a r S) sz)) (QI D cy (wC cy a r) (va_A (wC cy a r S) sz) Rr) 0 0 (va_A (wC cy a r S) sz) := by
  refine Met.ofW (cc := cX4_countName) (maxL := 1) (ret := (some .int)) (by decide) rfl ?_
  intro p e s m args below meth c s₁ B hml hv
  obtain ⟨rfl, rfl, hP, hK, hD0, hN⟩ := hv
  have hlocks := B.notSynchronized
  have hr := B.returns
  have C : Cx p s m _ c cX4_countName 1 wsX4_countName RX4 D cy := ⟨B.exec, B.bytes, hml, findClass_of_methodNamed B.named, atoms_spec (ws := wsX4_countName) B.pre, hK, hN⟩
  have hW := ww_start (w := wC cy a r) hP hD0
  generalize va_A (wC cy a r S) s.heap.size = A at hW ⊢
  have hl := lv_entry ([.ref (a 99)]) (n := 1) (Nat.le_of_ble_eq_true rfl)
  rw [lg_entry_eq]
  generalize (lg_sl ([.ref (a 99)]) ++ List.replicate (1 - (lg_sl ([.ref (a 99)])).length) Slot.unset).toArray = ls at hl ⊢
  have hl : lv_has ls 1 [(0, .ref (a 99))] := hl
  unfold fX4_countName at hf
  refine lv_aload_n C.1 C.2.1 dX4_countName_0 rfl (lv_at hl 0 rfl) ?_
  refine lv_dup C.1 C.2.1 dX4_countName_1 rfl ?_
  refine fg_4_11 C kX4_countName_4 mX4_countName_59 hW dX4_countName_2 ?_
  refine lv_iconst (v := 1) C.1 C.2.1 dX4_countName_5 (by decide) ?_
  refine lv_iadd C.1 C.2.1 dX4_countName_6 ?_
  obtain ⟨S1, eS1, hf⟩ := bnd_el hf
  refine fp_4_11 C kX4_countName_4 mX4_countName_59 hW dX4_countName_7 eS1 (fun H locs hW => ?_)
  refine lv_aload_n C.1 C.2.1 dX4_countName_10 rfl (lv_at hl 0 rfl) ?_
  refine fg_4_11 C kX4_countName_4 mX4_countName_59 hW dX4_countName_11 ?_
  refine lv_bipush (v := 80) C.1 C.2.1 dX4_countName_14 (by decide) ?_
  refine lv_icmp_le (tgt := 23) C.1 C.2.1 dX4_countName_16 (by decide) (fun q2 => ?_) (fun q2 => ?_)
  · replace hf := (if_pos q2).symm.trans hf
    refine lv_iconst (v := 0) C.1 C.2.1 dX4_countName_23 (by decide) ?_
    exact mrI C hr hlocks rfl hf hW dX4_countName_24
  · replace hf := (if_neg q2).symm.trans hf
    refine lv_iconst (v := 4) C.1 C.2.1 dX4_countName_19 (by decide) ?_
    refine lv_goto (tgt := 24) C.1 C.2.1 dX4_countName_20 (by decide) ?_
    exact mrI C hr hlocks rfl hf hW dX4_countName_24
theorem mX4_nameOf_41 : Cond.fieldLink RX4 41 "SharedLambda$TermReader" "at" "I" ∈ wsX4_nameOf := by decide +kernel
theorem kX4_nameOf_4 : ∀ w ∈ u_ws RX4 TX4 15, w ∈ wsX4_nameOf := fun _ h => List.mem_cons_of_mem _ (List.mem_append_right _ h)
def fX4_nameOf_4s (N : Nat) (k4 : St × Int32 × Int32 × Int32 → Option (Int32 × St)) (S : St) (x1 : Int32) (x2 : Int32) (x3 : Int32) : Option (Int32 × St) :=
  if x1 ≤ x3 then
    some (x2, S)
  else
    bd2 (fX4_byteAt N S (S.1 90 + x3)) fun v2 S4 =>
    bnd (((x2 * (256 : Int32)) + v2)) fun z5 =>
    bnd (x3 + (1 : Int32)) fun z6 =>
    k4 (S4, x1, z5, z6)
def fX4_nameOf_4 (N : Nat) : St × Int32 × Int32 × Int32 → Option (Int32 × St) := loopN (fun k x => fX4_nameOf_4s N k x.1 x.2.1 x.2.2.1 x.2.2.2) N
set_option maxHeartbeats 4000000 in
set_option maxRecDepth 100000 in
theorem lX4_nameOf_4 {p : Program} {l : Launch} {e : Env} {s : State} {m : MethodId} {args : Array Value} {below : List Frame} {meth : Method} {c : Code} {D : va_G} {cy : Nat → ClassId} {a r : Nat → Nat} {A : Nat → Prop} {Rr : Int32 × St} (C : Cx p s m args c cX4_nameOf 4 wsX4_nameOf RX4 D cy) (hr : meth.sig.returnType = some .int) (hlocks : meth.locks = false) (N : Nat) : ∀ (n : Nat) (S : St) (x1 : Int32) (x2 : Int32) (x3 : Int32), loopN (fun k x => fX4_nameOf_4s N k x.1 x.2.1 x.2.2.1 x.2.2.2) n (S, x1, x2, x3) = some Rr → ∀ (H : Heap) (locs : List Loc) (ls : Array Slot), WW D A s.heap (wC cy a r S) H locs → lv_has ls 4 [(0, .ref (a 99)), (1, .int x1), (2, .int x2), (3, .int x3)] → W p l e ({ frames := 1, cells := 0, slots := 0, locals := 21 } : Room) s m args below meth c H locs 0 0 (MQ below (QI D cy (wC cy a r) A Rr) args s 0 0 A) (F0 m 4 ls []) := by
  intro n
  induction n with
  | zero =>
    intro S x1 x2 x3 hf
    cases hf
  | succ n ih =>
    intro S x1 x2 x3 hf H locs ls hW hl
    have hf : fX4_nameOf_4s N (loopN (fun k x => fX4_nameOf_4s N k x.1 x.2.1 x.2.2.1 x.2.2.2) n) S x1 x2 x3 = some Rr := hf
    unfold fX4_nameOf_4s at hf
    refine lv_iload_n C.1 C.2.1 dX4_nameOf_4 rfl (lv_at hl 3 rfl) ?_
    refine lv_iload_n C.1 C.2.1 dX4_nameOf_5 rfl (lv_at hl 1 rfl) ?_
    refine lv_icmp_ge (tgt := 32) C.1 C.2.1 dX4_nameOf_6 (by decide) (fun q1 => ?_) (fun q1 => ?_)
    · replace hf := (if_pos q1).symm.trans hf
      refine lv_iload_n C.1 C.2.1 dX4_nameOf_32 rfl (lv_at hl 2 rfl) ?_
      exact mrI C hr hlocks rfl hf hW dX4_nameOf_33
    · replace hf := (if_neg q1).symm.trans hf
      refine lv_iload_n C.1 C.2.1 dX4_nameOf_9 rfl (lv_at hl 2 rfl) ?_
      refine lv_sipush (v := 256) C.1 C.2.1 dX4_nameOf_10 (by decide) ?_
      refine lv_imul C.1 C.2.1 dX4_nameOf_13 ?_
      refine lv_aload_n C.1 C.2.1 dX4_nameOf_14 rfl (lv_at hl 0 rfl) ?_
      refine lv_aload_n C.1 C.2.1 dX4_nameOf_15 rfl (lv_at hl 0 rfl) ?_
      refine fg_4_10 C kX4_nameOf_4 mX4_nameOf_41 hW dX4_nameOf_16 ?_
      refine lv_iload_n C.1 C.2.1 dX4_nameOf_19 rfl (lv_at hl 3 rfl) ?_
      refine lv_iadd C.1 C.2.1 dX4_nameOf_20 ?_
      obtain ⟨v2, S4, h3, hf⟩ := bd2_el hf
      refine mcVi (w := wC cy a r) (S := S) (As := [.int (S.1 90 + x3)]) (rest := [.int ((x2 * (256 : Int32)))]) (q0 := 4) (ci := 4) C (cX4_byteAt_met l D cy a r _ N S (S.1 90 + x3) (v2, S4) h3) (cwV 1 C.2.2.2.2.1 gX4_nameOf_X4_byteAt rfl rfl rfl (by decide +kernel) ⟨Nat.le_of_ble_eq_true rfl, Nat.le_of_ble_eq_true rfl⟩) rfl rfl rfl hl.1 (Nat.le_of_ble_eq_true rfl) hW dX4_nameOf_21 ⟨Nat.zero_le _, Nat.zero_le _⟩ rfl (fun H locs hW => ?_)
      refine lv_iadd C.1 C.2.1 dX4_nameOf_24 ?_
      obtain ⟨z5, ez5, hf⟩ := bnd_el hf
      refine lv_as ez5 ?_
      refine lv_istore_n (lv' := [(2, .int z5), (0, .ref (a 99)), (1, .int x1), (3, .int x3)]) C.1 C.2.1 dX4_nameOf_25 rfl hl (by decide) rfl (fun ls hl => ?_)
      obtain ⟨z6, ez6, hf⟩ := bnd_el hf
      refine lv_iinc (v := z6) (lv' := [(3, .int z6), (2, .int z5), (0, .ref (a 99)), (1, .int x1)]) C.1 C.2.1 dX4_nameOf_26 hl (k := 3) rfl (by rw [ez6]; rfl) (by decide) rfl (fun ls hl => ?_)
      refine lv_goto (tgt := 4) C.1 C.2.1 dX4_nameOf_29 (by decide) ?_
      exact ih _ _ _ _ hf _ _ _ hW (lv_sub hl [2, 3, 1, 0] rfl)
def fX4_nameOf (N : Nat) (S : St) (p1 : Int32) : Option (Int32 × St) :=
  bnd (0 : Int32) fun z1 =>
  bnd (0 : Int32) fun z2 =>
  fX4_nameOf_4 N (S, p1, z1, z2)
set_option maxHeartbeats 4000000 in
set_option maxRecDepth 100000 in
theorem cX4_nameOf_met (l : Launch) (D : va_G) (cy : Nat → ClassId) (a r : Nat → Nat) (sz N : Nat) (S : St) (p1 : Int32) (Rr : Int32 × St) (hf : fX4_nameOf N S p1 = some Rr) : Met l yX4_nameOf wsX4_nameOf ({ frames := 1, cells := 0, slots := 0, locals := 21 } : Room) (va_Pc [.ref (a 99), .int p1] (preW D cy (wC cy a r S) sz)) (QI D cy (wC cy a r) (va_A (wC cy a r S) sz) Rr) 0 0 (va_A (wC cy a r S) sz) := by
  refine Met.ofW (cc := cX4_nameOf) (maxL := 4) (ret := (some .int)) (by decide) rfl ?_
  intro p e s m args below meth c s₁ B hml hv
  obtain ⟨rfl, rfl, hP, hK, hD0, hN⟩ := hv
  have hlocks := B.notSynchronized
  have hr := B.returns
  have C : Cx p s m _ c cX4_nameOf 4 wsX4_nameOf RX4 D cy := ⟨B.exec, B.bytes, hml, findClass_of_methodNamed B.named, atoms_spec (ws := wsX4_nameOf) B.pre, hK, hN⟩
  have hW := ww_start (w := wC cy a r) hP hD0
  generalize va_A (wC cy a r S) s.heap.size = A at hW ⊢
  have hl := lv_entry ([.ref (a 99), .int p1]) (n := 4) (Nat.le_of_ble_eq_true rfl)
  rw [lg_entry_eq]
  generalize (lg_sl ([.ref (a 99), .int p1]) ++ List.replicate (4 - (lg_sl ([.ref (a 99), .int p1])).length) Slot.unset).toArray = ls at hl ⊢
  have hl : lv_has ls 4 [(0, .ref (a 99)), (1, .int p1)] := hl
  unfold fX4_nameOf at hf
  refine lv_iconst (v := 0) C.1 C.2.1 dX4_nameOf_0 (by decide) ?_
  obtain ⟨z1, ez1, hf⟩ := bnd_el hf
  refine lv_as ez1 ?_
  refine lv_istore_n (lv' := [(2, .int z1), (0, .ref (a 99)), (1, .int p1)]) C.1 C.2.1 dX4_nameOf_1 rfl hl (by decide) rfl (fun ls hl => ?_)
  refine lv_iconst (v := 0) C.1 C.2.1 dX4_nameOf_2 (by decide) ?_
  obtain ⟨z2, ez2, hf⟩ := bnd_el hf
  refine lv_as ez2 ?_
  refine lv_istore_n (lv' := [(3, .int z2), (2, .int z1), (0, .ref (a 99)), (1, .int p1)]) C.1 C.2.1 dX4_nameOf_3 rfl hl (by decide) rfl (fun ls hl => ?_)
  exact lX4_nameOf_4 C hr hlocks N _ _ _ _ _ hf _ _ _ hW (lv_sub hl [2, 3, 1, 0] rfl)
theorem mX4_push_56 : Cond.fieldLink RX4 56 "SharedLambda$TermReader" "open" "I" ∈ wsX4_push := by decide +kernel
theorem mX4_push_21 : Cond.fieldLink RX4 21 "SharedLambda$TermReader" "openNames" "[I" ∈ wsX4_push := by decide +kernel
theorem mX4_push_24 : Cond.fieldLink RX4 24 "SharedLambda$TermReader" "outerIndexes" "[I" ∈ wsX4_push := by decide +kernel
theorem mX4_push_62 : Cond.fieldLink RX4 62 "SharedLambda$TermReader" "index" "I" ∈ wsX4_push := by decide +kernel
theorem mX4_push_27 : Cond.fieldLink RX4 27 "SharedLambda$TermReader" "outerParts" "[I" ∈ wsX4_push := by decide +kernel
theorem mX4_push_65 : Cond.fieldLink RX4 65 "SharedLambda$TermReader" "parts" "I" ∈ wsX4_push := by decide +kernel
theorem kX4_push_4 : ∀ w ∈ u_ws RX4 TX4 15, w ∈ wsX4_push := fun _ h => List.mem_cons_of_mem _ (List.mem_append_right _ h)
def fX4_push (N : Nat) (S : St) (p1 : Int32) : Option (St) :=
  if (40 : Int32) ≤ S.1 87 then
    some S
  else
    ckx (S.1 87) 40 <|
    bnd (sA S 84 (upd (S.2.1 84) (S.1 87 : Int32).toNatClampNeg p1)) fun S3 =>
    ckx (S3.1 87) 40 <|
    bnd (sA S3 85 (upd (S3.2.1 85) (S3.1 87 : Int32).toNatClampNeg (S3.1 92))) fun S5 =>
    ckx (S5.1 87) 40 <|
    bnd (sA S5 86 (upd (S5.2.1 86) (S5.1 87 : Int32).toNatClampNeg (S5.1 93))) fun S7 =>
    bnd (sI S7 87 ((S7.1 87 + (1 : Int32)))) fun S8 =>
    some S8
set_option maxHeartbeats 4000000 in
set_option maxRecDepth 100000 in
theorem cX4_push_met (l : Launch) (D : va_G) (cy : Nat → ClassId) (a r : Nat → Nat) (sz N : Nat) (S : St) (p1 : Int32) (Rr : St) (hf : fX4_push N S p1 = some Rr) : Met l yX4_push wsX4_push ({ frames := 0, cells := 0, slots := 0, locals := 0 } : Room) (va_Pc [.ref (a 99), .int p1] (preW D cy (wC cy a r S) sz)) (QV D cy (wC cy a r) (va_A (wC cy a r S) sz) Rr) 0 0 (va_A (wC cy a r S) sz) := by
  refine Met.ofW (cc := cX4_push) (maxL := 2) (ret := none) (by decide) rfl ?_
  intro p e s m args below meth c s₁ B hml hv
  obtain ⟨rfl, rfl, hP, hK, hD0, hN⟩ := hv
  have hlocks := B.notSynchronized
  have hr := B.returns
  have C : Cx p s m _ c cX4_push 2 wsX4_push RX4 D cy := ⟨B.exec, B.bytes, hml, findClass_of_methodNamed B.named, atoms_spec (ws := wsX4_push) B.pre, hK, hN⟩
  have hW := ww_start (w := wC cy a r) hP hD0
  generalize va_A (wC cy a r S) s.heap.size = A at hW ⊢
  have hl := lv_entry ([.ref (a 99), .int p1]) (n := 2) (Nat.le_of_ble_eq_true rfl)
  rw [lg_entry_eq]
  generalize (lg_sl ([.ref (a 99), .int p1]) ++ List.replicate (2 - (lg_sl ([.ref (a 99), .int p1])).length) Slot.unset).toArray = ls at hl ⊢
  have hl : lv_has ls 2 [(0, .ref (a 99)), (1, .int p1)] := hl
  unfold fX4_push at hf
  refine lv_aload_n C.1 C.2.1 dX4_push_0 rfl (lv_at hl 0 rfl) ?_
  refine fg_4_7 C kX4_push_4 mX4_push_56 hW dX4_push_1 ?_
  refine lv_bipush (v := 40) C.1 C.2.1 dX4_push_4 (by decide) ?_
  refine lv_icmp_ge (tgt := 55) C.1 C.2.1 dX4_push_6 (by decide) (fun q1 => ?_) (fun q1 => ?_)
  · replace hf := (if_pos q1).symm.trans hf
    exact mrV C hr hlocks hf hW dX4_push_55
  · replace hf := (if_neg q1).symm.trans hf
    refine lv_aload_n C.1 C.2.1 dX4_push_9 rfl (lv_at hl 0 rfl) ?_
    refine fg_4_4 C kX4_push_4 mX4_push_21 hW dX4_push_10 ?_
    refine lv_aload_n C.1 C.2.1 dX4_push_13 rfl (lv_at hl 0 rfl) ?_
    refine fg_4_7 C kX4_push_4 mX4_push_56 hW dX4_push_14 ?_
    refine lv_iload_n C.1 C.2.1 dX4_push_17 rfl (lv_at hl 1 rfl) ?_
    obtain ⟨h2, hf⟩ := ckx_el hf
    obtain ⟨S3, eS3, hf⟩ := bnd_el hf
    refine as_4_4 C hW h2 dX4_push_18 eS3 (fun H locs hW => ?_)
    refine lv_aload_n C.1 C.2.1 dX4_push_19 rfl (lv_at hl 0 rfl) ?_
    refine fg_4_5 C kX4_push_4 mX4_push_24 hW dX4_push_20 ?_
    refine lv_aload_n C.1 C.2.1 dX4_push_23 rfl (lv_at hl 0 rfl) ?_
    refine fg_4_7 C kX4_push_4 mX4_push_56 hW dX4_push_24 ?_
    refine lv_aload_n C.1 C.2.1 dX4_push_27 rfl (lv_at hl 0 rfl) ?_
    refine fg_4_12 C kX4_push_4 mX4_push_62 hW dX4_push_28 ?_
    obtain ⟨h4, hf⟩ := ckx_el hf
    obtain ⟨S5, eS5, hf⟩ := bnd_el hf
    refine as_4_5 C hW h4 dX4_push_31 eS5 (fun H locs hW => ?_)
    refine lv_aload_n C.1 C.2.1 dX4_push_32 rfl (lv_at hl 0 rfl) ?_
    refine fg_4_6 C kX4_push_4 mX4_push_27 hW dX4_push_33 ?_
    refine lv_aload_n C.1 C.2.1 dX4_push_36 rfl (lv_at hl 0 rfl) ?_
    refine fg_4_7 C kX4_push_4 mX4_push_56 hW dX4_push_37 ?_
    refine lv_aload_n C.1 C.2.1 dX4_push_40 rfl (lv_at hl 0 rfl) ?_
    refine fg_4_13 C kX4_push_4 mX4_push_65 hW dX4_push_41 ?_
    obtain ⟨h6, hf⟩ := ckx_el hf
    obtain ⟨S7, eS7, hf⟩ := bnd_el hf
    refine as_4_6 C hW h6 dX4_push_44 eS7 (fun H locs hW => ?_)
    refine lv_aload_n C.1 C.2.1 dX4_push_45 rfl (lv_at hl 0 rfl) ?_
    refine lv_dup C.1 C.2.1 dX4_push_46 rfl ?_
    refine fg_4_7 C kX4_push_4 mX4_push_56 hW dX4_push_47 ?_
    refine lv_iconst (v := 1) C.1 C.2.1 dX4_push_50 (by decide) ?_
    refine lv_iadd C.1 C.2.1 dX4_push_51 ?_
    obtain ⟨S8, eS8, hf⟩ := bnd_el hf
    refine fp_4_7 C kX4_push_4 mX4_push_56 hW dX4_push_52 eS8 (fun H locs hW => ?_)
    exact mrV C hr hlocks hf hW dX4_push_55
theorem mX4_openLambda_44 : Cond.fieldLink RX4 44 "SharedLambda$TermReader" "fault" "I" ∈ wsX4_openLambda := by decide +kernel
theorem mX4_openLambda_41 : Cond.fieldLink RX4 41 "SharedLambda$TermReader" "at" "I" ∈ wsX4_openLambda := by decide +kernel
theorem mX4_openLambda_65 : Cond.fieldLink RX4 65 "SharedLambda$TermReader" "parts" "I" ∈ wsX4_openLambda := by decide +kernel
theorem mX4_openLambda_56 : Cond.fieldLink RX4 56 "SharedLambda$TermReader" "open" "I" ∈ wsX4_openLambda := by decide +kernel
theorem kX4_openLambda_4 : ∀ w ∈ u_ws RX4 TX4 15, w ∈ wsX4_openLambda := fun _ h => List.mem_cons_of_mem _ (List.mem_append_right _ h)
def fX4_openLambda_65 (N : Nat) (S : St) (x1 : Int32) (y1 : Int32) : Option (St) :=
  bnd (sI S 94 y1) fun S1 =>
  if S1.1 94 = 0 then
    bd2 (fX4_nameOf N S1 x1) fun v3 S5 =>
    bnd (sI S5 90 (S5.1 90 + x1)) fun S6 =>
    bdo (fX4_skipBlanks N S6) fun S9 =>
    bd2 (fX4_byteAt N S9 (S9.1 90)) fun v10 S12 =>
    if v10 = (46 : Int32) then
      bnd (sI S12 90 ((S12.1 90 + (1 : Int32)))) fun S14 =>
      bdo (fX4_push N S14 v3) fun S17 =>
      some S17
    else
      bnd (sI S12 94 (1 : Int32)) fun S18 =>
      some S18
  else
    some S1
set_option maxHeartbeats 4000000 in
set_option maxRecDepth 100000 in
theorem lX4_openLambda_65 {p : Program} {l : Launch} {e : Env} {s : State} {m : MethodId} {args : Array Value} {below : List Frame} {meth : Method} {c : Code} {D : va_G} {cy : Nat → ClassId} {a r : Nat → Nat} {A : Nat → Prop} {Rr : St} (C : Cx p s m args c cX4_openLambda 3 wsX4_openLambda RX4 D cy) (hr : meth.sig.returnType = none) (hlocks : meth.locks = false) (N : Nat) (S : St) (x1 : Int32) (y1 : Int32) (hf : fX4_openLambda_65 N S x1 y1 = some Rr) : ∀ (H : Heap) (locs : List Loc) (ls : Array Slot), WW D A s.heap (wC cy a r S) H locs → lv_has ls 3 [(0, .ref (a 99)), (1, .int x1)] → W p l e ({ frames := 2, cells := 0, slots := 0, locals := 44 } : Room) s m args below meth c H locs 0 0 (MQ below (QV D cy (wC cy a r) A Rr) args s 0 0 A) (F0 m 65 ls [.int y1, .ref (a 99)]) := by
  intro H locs ls hW hl
  unfold fX4_openLambda_65 at hf
  obtain ⟨S1, eS1, hf⟩ := bnd_el hf
  refine fp_4_14 C kX4_openLambda_4 mX4_openLambda_44 hW dX4_openLambda_65 eS1 (fun H locs hW => ?_)
  refine lv_aload_n C.1 C.2.1 dX4_openLambda_68 rfl (lv_at hl 0 rfl) ?_
  refine fg_4_14 C kX4_openLambda_4 mX4_openLambda_44 hW dX4_openLambda_69 ?_
  refine lv_if_eq (tgt := 76) C.1 C.2.1 dX4_openLambda_72 (by decide) (fun q2 => ?_) (fun q2 => ?_)
  · replace hf := (if_pos q2).symm.trans hf
    refine lv_aload_n C.1 C.2.1 dX4_openLambda_76 rfl (lv_at hl 0 rfl) ?_
    refine lv_iload_n C.1 C.2.1 dX4_openLambda_77 rfl (lv_at hl 1 rfl) ?_
    obtain ⟨v3, S5, h4, hf⟩ := bd2_el hf
    refine mcVi (w := wC cy a r) (S := S1) (As := [.int x1]) (rest := []) (q0 := 4) (ci := 4) C (cX4_nameOf_met l D cy a r _ N S1 x1 (v3, S5) h4) (cwV 1 C.2.2.2.2.1 gX4_openLambda_X4_nameOf rfl rfl rfl (by decide +kernel) ⟨Nat.le_of_ble_eq_true rfl, Nat.le_of_ble_eq_true rfl⟩) rfl rfl rfl hl.1 (Nat.le_of_ble_eq_true rfl) hW dX4_openLambda_78 ⟨Nat.zero_le _, Nat.zero_le _⟩ rfl (fun H locs hW => ?_)
    refine lv_istore_n (lv' := [(2, .int v3), (0, .ref (a 99)), (1, .int x1)]) C.1 C.2.1 dX4_openLambda_81 rfl hl (by decide) rfl (fun ls hl => ?_)
    refine lv_aload_n C.1 C.2.1 dX4_openLambda_82 rfl (lv_at hl 1 rfl) ?_
    refine lv_dup C.1 C.2.1 dX4_openLambda_83 rfl ?_
    refine fg_4_10 C kX4_openLambda_4 mX4_openLambda_41 hW dX4_openLambda_84 ?_
    refine lv_iload_n C.1 C.2.1 dX4_openLambda_87 rfl (lv_at hl 2 rfl) ?_
    refine lv_iadd C.1 C.2.1 dX4_openLambda_88 ?_
    obtain ⟨S6, eS6, hf⟩ := bnd_el hf
    refine fp_4_10 C kX4_openLambda_4 mX4_openLambda_41 hW dX4_openLambda_89 eS6 (fun H locs hW => ?_)
    refine lv_aload_n C.1 C.2.1 dX4_openLambda_92 rfl (lv_at hl 1 rfl) ?_
    obtain ⟨S9, h8, hf⟩ := bdo_el hf
    refine mcVv (w := wC cy a r) (S := S6) (As := []) (rest := []) (q0 := 4) (ci := 4) C (cX4_skipBlanks_met l D cy a r _ N S6  S9 h8) (cwV 0 C.2.2.2.2.1 gX4_openLambda_X4_skipBlanks rfl rfl rfl (by decide +kernel) ⟨Nat.le_of_ble_eq_true rfl, Nat.le_of_ble_eq_true rfl⟩) rfl rfl rfl hl.1 (Nat.le_of_ble_eq_true rfl) hW dX4_openLambda_93 ⟨Nat.zero_le _, Nat.zero_le _⟩ rfl (fun H locs hW => ?_)
    refine lv_aload_n C.1 C.2.1 dX4_openLambda_96 rfl (lv_at hl 1 rfl) ?_
    refine lv_aload_n C.1 C.2.1 dX4_openLambda_97 rfl (lv_at hl 1 rfl) ?_
    refine fg_4_10 C kX4_openLambda_4 mX4_openLambda_41 hW dX4_openLambda_98 ?_
    obtain ⟨v10, S12, h11, hf⟩ := bd2_el hf
    refine mcVi (w := wC cy a r) (S := S9) (As := [.int (S9.1 90)]) (rest := []) (q0 := 4) (ci := 4) C (cX4_byteAt_met l D cy a r _ N S9 (S9.1 90) (v10, S12) h11) (cwV 1 C.2.2.2.2.1 gX4_openLambda_X4_byteAt rfl rfl rfl (by decide +kernel) ⟨Nat.le_of_ble_eq_true rfl, Nat.le_of_ble_eq_true rfl⟩) rfl rfl rfl hl.1 (Nat.le_of_ble_eq_true rfl) hW dX4_openLambda_101 ⟨Nat.zero_le _, Nat.zero_le _⟩ rfl (fun H locs hW => ?_)
    refine lv_bipush (v := 46) C.1 C.2.1 dX4_openLambda_104 (by decide) ?_
    refine lv_icmp_eq (tgt := 115) C.1 C.2.1 dX4_openLambda_106 (by decide) (fun q13 => ?_) (fun q13 => ?_)
    · replace hf := (if_pos q13).symm.trans hf
      refine lv_aload_n C.1 C.2.1 dX4_openLambda_115 rfl (lv_at hl 1 rfl) ?_
      refine lv_dup C.1 C.2.1 dX4_openLambda_116 rfl ?_
      refine fg_4_10 C kX4_openLambda_4 mX4_openLambda_41 hW dX4_openLambda_117 ?_
      refine lv_iconst (v := 1) C.1 C.2.1 dX4_openLambda_120 (by decide) ?_
      refine lv_iadd C.1 C.2.1 dX4_openLambda_121 ?_
      obtain ⟨S14, eS14, hf⟩ := bnd_el hf
      refine fp_4_10 C kX4_openLambda_4 mX4_openLambda_41 hW dX4_openLambda_122 eS14 (fun H locs hW => ?_)
      refine lv_aload_n C.1 C.2.1 dX4_openLambda_125 rfl (lv_at hl 1 rfl) ?_
      refine lv_iload_n C.1 C.2.1 dX4_openLambda_126 rfl (lv_at hl 0 rfl) ?_
      obtain ⟨S17, h16, hf⟩ := bdo_el hf
      refine mcVv (w := wC cy a r) (S := S14) (As := [.int v3]) (rest := []) (q0 := 4) (ci := 4) C (cX4_push_met l D cy a r _ N S14 v3 S17 h16) (cwV 1 C.2.2.2.2.1 gX4_openLambda_X4_push rfl rfl rfl (by decide +kernel) ⟨Nat.le_of_ble_eq_true rfl, Nat.le_of_ble_eq_true rfl⟩) rfl rfl rfl hl.1 (Nat.le_of_ble_eq_true rfl) hW dX4_openLambda_127 ⟨Nat.zero_le _, Nat.zero_le _⟩ rfl (fun H locs hW => ?_)
      exact mrV C hr hlocks hf hW dX4_openLambda_130
    · replace hf := (if_neg q13).symm.trans hf
      refine lv_aload_n C.1 C.2.1 dX4_openLambda_109 rfl (lv_at hl 1 rfl) ?_
      refine lv_iconst (v := 1) C.1 C.2.1 dX4_openLambda_110 (by decide) ?_
      obtain ⟨S18, eS18, hf⟩ := bnd_el hf
      refine fp_4_14 C kX4_openLambda_4 mX4_openLambda_44 hW dX4_openLambda_111 eS18 (fun H locs hW => ?_)
      exact mrV C hr hlocks hf hW dX4_openLambda_114
  · replace hf := (if_neg q2).symm.trans hf
    exact mrV C hr hlocks hf hW dX4_openLambda_75
def fX4_openLambda_57 (N : Nat) (S : St) (x1 : Int32) : Option (St) :=
  fX4_openLambda_65 N S x1 (1 : Int32)
set_option maxHeartbeats 4000000 in
set_option maxRecDepth 100000 in
theorem lX4_openLambda_57 {p : Program} {l : Launch} {e : Env} {s : State} {m : MethodId} {args : Array Value} {below : List Frame} {meth : Method} {c : Code} {D : va_G} {cy : Nat → ClassId} {a r : Nat → Nat} {A : Nat → Prop} {Rr : St} (C : Cx p s m args c cX4_openLambda 3 wsX4_openLambda RX4 D cy) (hr : meth.sig.returnType = none) (hlocks : meth.locks = false) (N : Nat) (S : St) (x1 : Int32) (hf : fX4_openLambda_57 N S x1 = some Rr) : ∀ (H : Heap) (locs : List Loc) (ls : Array Slot), WW D A s.heap (wC cy a r S) H locs → lv_has ls 3 [(0, .ref (a 99)), (1, .int x1)] → W p l e ({ frames := 2, cells := 0, slots := 0, locals := 44 } : Room) s m args below meth c H locs 0 0 (MQ below (QV D cy (wC cy a r) A Rr) args s 0 0 A) (F0 m 57 ls [.ref (a 99)]) := by
  intro H locs ls hW hl
  unfold fX4_openLambda_57 at hf
  refine lv_iconst (v := 1) C.1 C.2.1 dX4_openLambda_57 (by decide) ?_
  refine lv_goto (tgt := 65) C.1 C.2.1 dX4_openLambda_58 (by decide) ?_
  exact lX4_openLambda_65 C hr hlocks N _ _ _ hf _ _ _ hW (lv_sub hl [0, 1] rfl)
def fX4_openLambda (N : Nat) (S : St) : Option (St) :=
  if S.1 93 ≤ 0 then
    if S.1 87 < (40 : Int32) then
      bnd (sI S 90 ((S.1 90 + (1 : Int32)))) fun S3 =>
      bdo (fX4_skipBlanks N S3) fun S6 =>
      bd2 (fX4_nameSize N S6) fun v7 S9 =>
      if v7 = 0 then
        fX4_openLambda_57 N S9 v7
      else
        if v7 ≤ (4 : Int32) then
          bd2 (fX4_countName N S9) fun v12 S14 =>
          fX4_openLambda_65 N S14 v7 v12
        else
          fX4_openLambda_57 N S9 v7
    else
      bnd (sI S 94 (3 : Int32)) fun S15 =>
      some S15
  else
    bnd (sI S 94 (1 : Int32)) fun S16 =>
    some S16
set_option maxHeartbeats 4000000 in
set_option maxRecDepth 100000 in
theorem cX4_openLambda_met (l : Launch) (D : va_G) (cy : Nat → ClassId) (a r : Nat → Nat) (sz N : Nat) (S : St) (Rr : St) (hf : fX4_openLambda N S  = some Rr) : Met l yX4_openLambda wsX4_openLambda ({ frames := 2, cells := 0, slots := 0, locals := 44 } : Room) (va_Pc [.ref (a 99)] (preW D cy (wC cy a r S) sz)) (QV D cy (wC cy a r) (va_A (wC cy a r S) sz) Rr) 0 0 (va_A (wC cy a r S) sz) := by
  refine Met.ofW (cc := cX4_openLambda) (maxL := 3) (ret := none) (by decide) rfl ?_
  intro p e s m args below meth c s₁ B hml hv
  obtain ⟨rfl, rfl, hP, hK, hD0, hN⟩ := hv
  have hlocks := B.notSynchronized
  have hr := B.returns
  have C : Cx p s m _ c cX4_openLambda 3 wsX4_openLambda RX4 D cy := ⟨B.exec, B.bytes, hml, findClass_of_methodNamed B.named, atoms_spec (ws := wsX4_openLambda) B.pre, hK, hN⟩
  have hW := ww_start (w := wC cy a r) hP hD0
  generalize va_A (wC cy a r S) s.heap.size = A at hW ⊢
  have hl := lv_entry ([.ref (a 99)]) (n := 3) (Nat.le_of_ble_eq_true rfl)
  rw [lg_entry_eq]
  generalize (lg_sl ([.ref (a 99)]) ++ List.replicate (3 - (lg_sl ([.ref (a 99)])).length) Slot.unset).toArray = ls at hl ⊢
  have hl : lv_has ls 3 [(0, .ref (a 99))] := hl
  unfold fX4_openLambda at hf
  refine lv_aload_n C.1 C.2.1 dX4_openLambda_0 rfl (lv_at hl 0 rfl) ?_
  refine fg_4_13 C kX4_openLambda_4 mX4_openLambda_65 hW dX4_openLambda_1 ?_
  refine lv_if_le (tgt := 13) C.1 C.2.1 dX4_openLambda_4 (by decide) (fun q1 => ?_) (fun q1 => ?_)
  · replace hf := (if_pos q1).symm.trans hf
    refine lv_aload_n C.1 C.2.1 dX4_openLambda_13 rfl (lv_at hl 0 rfl) ?_
    refine fg_4_7 C kX4_openLambda_4 mX4_openLambda_56 hW dX4_openLambda_14 ?_
    refine lv_bipush (v := 40) C.1 C.2.1 dX4_openLambda_17 (by decide) ?_
    refine lv_icmp_lt (tgt := 28) C.1 C.2.1 dX4_openLambda_19 (by decide) (fun q2 => ?_) (fun q2 => ?_)
    · replace hf := (if_pos q2).symm.trans hf
      refine lv_aload_n C.1 C.2.1 dX4_openLambda_28 rfl (lv_at hl 0 rfl) ?_
      refine lv_dup C.1 C.2.1 dX4_openLambda_29 rfl ?_
      refine fg_4_10 C kX4_openLambda_4 mX4_openLambda_41 hW dX4_openLambda_30 ?_
      refine lv_iconst (v := 1) C.1 C.2.1 dX4_openLambda_33 (by decide) ?_
      refine lv_iadd C.1 C.2.1 dX4_openLambda_34 ?_
      obtain ⟨S3, eS3, hf⟩ := bnd_el hf
      refine fp_4_10 C kX4_openLambda_4 mX4_openLambda_41 hW dX4_openLambda_35 eS3 (fun H locs hW => ?_)
      refine lv_aload_n C.1 C.2.1 dX4_openLambda_38 rfl (lv_at hl 0 rfl) ?_
      obtain ⟨S6, h5, hf⟩ := bdo_el hf
      refine mcVv (w := wC cy a r) (S := S3) (As := []) (rest := []) (q0 := 4) (ci := 4) C (cX4_skipBlanks_met l D cy a r _ N S3  S6 h5) (cwV 0 C.2.2.2.2.1 gX4_openLambda_X4_skipBlanks rfl rfl rfl (by decide +kernel) ⟨Nat.le_of_ble_eq_true rfl, Nat.le_of_ble_eq_true rfl⟩) rfl rfl rfl hl.1 (Nat.le_of_ble_eq_true rfl) hW dX4_openLambda_39 ⟨Nat.zero_le _, Nat.zero_le _⟩ rfl (fun H locs hW => ?_)
      refine lv_aload_n C.1 C.2.1 dX4_openLambda_42 rfl (lv_at hl 0 rfl) ?_
      obtain ⟨v7, S9, h8, hf⟩ := bd2_el hf
      refine mcVi (w := wC cy a r) (S := S6) (As := []) (rest := []) (q0 := 4) (ci := 4) C (cX4_nameSize_met l D cy a r _ N S6  (v7, S9) h8) (cwV 0 C.2.2.2.2.1 gX4_openLambda_X4_nameSize rfl rfl rfl (by decide +kernel) ⟨Nat.le_of_ble_eq_true rfl, Nat.le_of_ble_eq_true rfl⟩) rfl rfl rfl hl.1 (Nat.le_of_ble_eq_true rfl) hW dX4_openLambda_43 ⟨Nat.zero_le _, Nat.zero_le _⟩ rfl (fun H locs hW => ?_)
      refine lv_istore_n (lv' := [(1, .int v7), (0, .ref (a 99))]) C.1 C.2.1 dX4_openLambda_46 rfl hl (by decide) rfl (fun ls hl => ?_)
      refine lv_aload_n C.1 C.2.1 dX4_openLambda_47 rfl (lv_at hl 1 rfl) ?_
      refine lv_iload_n C.1 C.2.1 dX4_openLambda_48 rfl (lv_at hl 0 rfl) ?_
      refine lv_if_eq (tgt := 57) C.1 C.2.1 dX4_openLambda_49 (by decide) (fun q10 => ?_) (fun q10 => ?_)
      · replace hf := (if_pos q10).symm.trans hf
        exact lX4_openLambda_57 C hr hlocks N _ _ hf _ _ _ hW (lv_sub hl [1, 0] rfl)
      · replace hf := (if_neg q10).symm.trans hf
        refine lv_iload_n C.1 C.2.1 dX4_openLambda_52 rfl (lv_at hl 0 rfl) ?_
        refine lv_iconst (v := 4) C.1 C.2.1 dX4_openLambda_53 (by decide) ?_
        refine lv_icmp_le (tgt := 61) C.1 C.2.1 dX4_openLambda_54 (by decide) (fun q11 => ?_) (fun q11 => ?_)
        · replace hf := (if_pos q11).symm.trans hf
          refine lv_aload_n C.1 C.2.1 dX4_openLambda_61 rfl (lv_at hl 1 rfl) ?_
          obtain ⟨v12, S14, h13, hf⟩ := bd2_el hf
          refine mcVi (w := wC cy a r) (S := S9) (As := []) (rest := [.ref (a 99)]) (q0 := 4) (ci := 4) C (cX4_countName_met l D cy a r _ N S9  (v12, S14) h13) (cwV 0 C.2.2.2.2.1 gX4_openLambda_X4_countName rfl rfl rfl (by decide +kernel) ⟨Nat.le_of_ble_eq_true rfl, Nat.le_of_ble_eq_true rfl⟩) rfl rfl rfl hl.1 (Nat.le_of_ble_eq_true rfl) hW dX4_openLambda_62 ⟨Nat.zero_le _, Nat.zero_le _⟩ rfl (fun H locs hW => ?_)
          exact lX4_openLambda_65 C hr hlocks N _ _ _ hf _ _ _ hW (lv_sub hl [1, 0] rfl)
        · replace hf := (if_neg q11).symm.trans hf
          exact lX4_openLambda_57 C hr hlocks N _ _ hf _ _ _ hW (lv_sub hl [1, 0] rfl)
    · replace hf := (if_neg q2).symm.trans hf
      refine lv_aload_n C.1 C.2.1 dX4_openLambda_22 rfl (lv_at hl 0 rfl) ?_
      refine lv_iconst (v := 3) C.1 C.2.1 dX4_openLambda_23 (by decide) ?_
      obtain ⟨S15, eS15, hf⟩ := bnd_el hf
      refine fp_4_14 C kX4_openLambda_4 mX4_openLambda_44 hW dX4_openLambda_24 eS15 (fun H locs hW => ?_)
      exact mrV C hr hlocks hf hW dX4_openLambda_27
  · replace hf := (if_neg q1).symm.trans hf
    refine lv_aload_n C.1 C.2.1 dX4_openLambda_7 rfl (lv_at hl 0 rfl) ?_
    refine lv_iconst (v := 1) C.1 C.2.1 dX4_openLambda_8 (by decide) ?_
    obtain ⟨S16, eS16, hf⟩ := bnd_el hf
    refine fp_4_14 C kX4_openLambda_4 mX4_openLambda_44 hW dX4_openLambda_9 eS16 (fun H locs hW => ?_)
    exact mrV C hr hlocks hf hW dX4_openLambda_12
theorem mX4_partIndex_65 : Cond.fieldLink RX4 65 "SharedLambda$TermReader" "parts" "I" ∈ wsX4_partIndex := by decide +kernel
theorem mX4_partIndex_62 : Cond.fieldLink RX4 62 "SharedLambda$TermReader" "index" "I" ∈ wsX4_partIndex := by decide +kernel
theorem kX4_partIndex_4 : ∀ w ∈ u_ws RX4 TX4 15, w ∈ wsX4_partIndex := fun _ h => List.mem_cons_of_mem _ (List.mem_append_right _ h)
def fX4_partIndex (N : Nat) (S : St) : Option (Int32 × St) :=
  if S.1 93 = 0 then
    some (S.1 92, S)
  else
    some ((S.1 92 + (1 : Int32)), S)
set_option maxHeartbeats 4000000 in
set_option maxRecDepth 100000 in
theorem cX4_partIndex_met (l : Launch) (D : va_G) (cy : Nat → ClassId) (a r : Nat → Nat) (sz N : Nat) (S : St) (Rr : Int32 × St) (hf : fX4_partIndex N S  = some Rr) : Met l yX4_partIndex wsX4_partIndex ({ frames := 0, cells := 0, slots := 0, locals := 0 } : Room) (va_Pc [.ref (a 99)] (preW D cy (wC cy a r S) sz)) (QI D cy (wC cy a r) (va_A (wC cy a r S) sz) Rr) 0 0 (va_A (wC cy a r S) sz) := by
  refine Met.ofW (cc := cX4_partIndex) (maxL := 1) (ret := (some .int)) (by decide) rfl ?_
  intro p e s m args below meth c s₁ B hml hv
  obtain ⟨rfl, rfl, hP, hK, hD0, hN⟩ := hv
  have hlocks := B.notSynchronized
  have hr := B.returns
  have C : Cx p s m _ c cX4_partIndex 1 wsX4_partIndex RX4 D cy := ⟨B.exec, B.bytes, hml, findClass_of_methodNamed B.named, atoms_spec (ws := wsX4_partIndex) B.pre, hK, hN⟩
  have hW := ww_start (w := wC cy a r) hP hD0
  generalize va_A (wC cy a r S) s.heap.size = A at hW ⊢
  have hl := lv_entry ([.ref (a 99)]) (n := 1) (Nat.le_of_ble_eq_true rfl)
  rw [lg_entry_eq]
  generalize (lg_sl ([.ref (a 99)]) ++ List.replicate (1 - (lg_sl ([.ref (a 99)])).length) Slot.unset).toArray = ls at hl ⊢
  have hl : lv_has ls 1 [(0, .ref (a 99))] := hl
  unfold fX4_partIndex at hf
  refine lv_aload_n C.1 C.2.1 dX4_partIndex_0 rfl (lv_at hl 0 rfl) ?_
  refine fg_4_13 C kX4_partIndex_4 mX4_partIndex_65 hW dX4_partIndex_1 ?_
  refine lv_if_ne (tgt := 14) C.1 C.2.1 dX4_partIndex_4 (by decide) (fun q1 => ?_) (fun q1 => ?_)
  · replace hf := (if_neg q1).symm.trans hf
    refine lv_aload_n C.1 C.2.1 dX4_partIndex_14 rfl (lv_at hl 0 rfl) ?_
    refine fg_4_12 C kX4_partIndex_4 mX4_partIndex_62 hW dX4_partIndex_15 ?_
    refine lv_iconst (v := 1) C.1 C.2.1 dX4_partIndex_18 (by decide) ?_
    refine lv_iadd C.1 C.2.1 dX4_partIndex_19 ?_
    exact mrI C hr hlocks rfl hf hW dX4_partIndex_20
  · replace hf := (if_pos q1).symm.trans hf
    refine lv_aload_n C.1 C.2.1 dX4_partIndex_7 rfl (lv_at hl 0 rfl) ?_
    refine fg_4_12 C kX4_partIndex_4 mX4_partIndex_62 hW dX4_partIndex_8 ?_
    refine lv_goto (tgt := 20) C.1 C.2.1 dX4_partIndex_11 (by decide) ?_
    exact mrI C hr hlocks rfl hf hW dX4_partIndex_20
theorem mX4_openParenthesis_56 : Cond.fieldLink RX4 56 "SharedLambda$TermReader" "open" "I" ∈ wsX4_openParenthesis := by decide +kernel
theorem mX4_openParenthesis_41 : Cond.fieldLink RX4 41 "SharedLambda$TermReader" "at" "I" ∈ wsX4_openParenthesis := by decide +kernel
theorem mX4_openParenthesis_62 : Cond.fieldLink RX4 62 "SharedLambda$TermReader" "index" "I" ∈ wsX4_openParenthesis := by decide +kernel
theorem mX4_openParenthesis_65 : Cond.fieldLink RX4 65 "SharedLambda$TermReader" "parts" "I" ∈ wsX4_openParenthesis := by decide +kernel
theorem mX4_openParenthesis_44 : Cond.fieldLink RX4 44 "SharedLambda$TermReader" "fault" "I" ∈ wsX4_openParenthesis := by decide +kernel
theorem kX4_openParenthesis_4 : ∀ w ∈ u_ws RX4 TX4 15, w ∈ wsX4_openParenthesis := fun _ h => List.mem_cons_of_mem _ (List.mem_append_right _ h)
def fX4_openParenthesis (N : Nat) (S : St) : Option (St) :=
  if S.1 87 < (40 : Int32) then
    bnd (sI S 90 ((S.1 90 + (1 : Int32)))) fun S2 =>
    bdo (fX4_push N S2 (0 : Int32)) fun S5 =>
    bd2 (fX4_partIndex N S5) fun v6 S8 =>
    bnd (sI S8 92 v6) fun S9 =>
    bnd (sI S9 93 (0 : Int32)) fun S10 =>
    some S10
  else
    bnd (sI S 94 (3 : Int32)) fun S11 =>
    some S11
set_option maxHeartbeats 4000000 in
set_option maxRecDepth 100000 in
theorem cX4_openParenthesis_met (l : Launch) (D : va_G) (cy : Nat → ClassId) (a r : Nat → Nat) (sz N : Nat) (S : St) (Rr : St) (hf : fX4_openParenthesis N S  = some Rr) : Met l yX4_openParenthesis wsX4_openParenthesis ({ frames := 1, cells := 0, slots := 0, locals := 21 } : Room) (va_Pc [.ref (a 99)] (preW D cy (wC cy a r S) sz)) (QV D cy (wC cy a r) (va_A (wC cy a r S) sz) Rr) 0 0 (va_A (wC cy a r S) sz) := by
  refine Met.ofW (cc := cX4_openParenthesis) (maxL := 1) (ret := none) (by decide) rfl ?_
  intro p e s m args below meth c s₁ B hml hv
  obtain ⟨rfl, rfl, hP, hK, hD0, hN⟩ := hv
  have hlocks := B.notSynchronized
  have hr := B.returns
  have C : Cx p s m _ c cX4_openParenthesis 1 wsX4_openParenthesis RX4 D cy := ⟨B.exec, B.bytes, hml, findClass_of_methodNamed B.named, atoms_spec (ws := wsX4_openParenthesis) B.pre, hK, hN⟩
  have hW := ww_start (w := wC cy a r) hP hD0
  generalize va_A (wC cy a r S) s.heap.size = A at hW ⊢
  have hl := lv_entry ([.ref (a 99)]) (n := 1) (Nat.le_of_ble_eq_true rfl)
  rw [lg_entry_eq]
  generalize (lg_sl ([.ref (a 99)]) ++ List.replicate (1 - (lg_sl ([.ref (a 99)])).length) Slot.unset).toArray = ls at hl ⊢
  have hl : lv_has ls 1 [(0, .ref (a 99))] := hl
  unfold fX4_openParenthesis at hf
  refine lv_aload_n C.1 C.2.1 dX4_openParenthesis_0 rfl (lv_at hl 0 rfl) ?_
  refine fg_4_7 C kX4_openParenthesis_4 mX4_openParenthesis_56 hW dX4_openParenthesis_1 ?_
  refine lv_bipush (v := 40) C.1 C.2.1 dX4_openParenthesis_4 (by decide) ?_
  refine lv_icmp_lt (tgt := 15) C.1 C.2.1 dX4_openParenthesis_6 (by decide) (fun q1 => ?_) (fun q1 => ?_)
  · replace hf := (if_pos q1).symm.trans hf
    refine lv_aload_n C.1 C.2.1 dX4_openParenthesis_15 rfl (lv_at hl 0 rfl) ?_
    refine lv_dup C.1 C.2.1 dX4_openParenthesis_16 rfl ?_
    refine fg_4_10 C kX4_openParenthesis_4 mX4_openParenthesis_41 hW dX4_openParenthesis_17 ?_
    refine lv_iconst (v := 1) C.1 C.2.1 dX4_openParenthesis_20 (by decide) ?_
    refine lv_iadd C.1 C.2.1 dX4_openParenthesis_21 ?_
    obtain ⟨S2, eS2, hf⟩ := bnd_el hf
    refine fp_4_10 C kX4_openParenthesis_4 mX4_openParenthesis_41 hW dX4_openParenthesis_22 eS2 (fun H locs hW => ?_)
    refine lv_aload_n C.1 C.2.1 dX4_openParenthesis_25 rfl (lv_at hl 0 rfl) ?_
    refine lv_iconst (v := 0) C.1 C.2.1 dX4_openParenthesis_26 (by decide) ?_
    obtain ⟨S5, h4, hf⟩ := bdo_el hf
    refine mcVv (w := wC cy a r) (S := S2) (As := [.int (0 : Int32)]) (rest := []) (q0 := 4) (ci := 4) C (cX4_push_met l D cy a r _ N S2 (0 : Int32) S5 h4) (cwV 1 C.2.2.2.2.1 gX4_openParenthesis_X4_push rfl rfl rfl (by decide +kernel) ⟨Nat.le_of_ble_eq_true rfl, Nat.le_of_ble_eq_true rfl⟩) rfl rfl rfl hl.1 (Nat.le_of_ble_eq_true rfl) hW dX4_openParenthesis_27 ⟨Nat.zero_le _, Nat.zero_le _⟩ rfl (fun H locs hW => ?_)
    refine lv_aload_n C.1 C.2.1 dX4_openParenthesis_30 rfl (lv_at hl 0 rfl) ?_
    refine lv_aload_n C.1 C.2.1 dX4_openParenthesis_31 rfl (lv_at hl 0 rfl) ?_
    obtain ⟨v6, S8, h7, hf⟩ := bd2_el hf
    refine mcVi (w := wC cy a r) (S := S5) (As := []) (rest := [.ref (a 99)]) (q0 := 4) (ci := 4) C (cX4_partIndex_met l D cy a r _ N S5  (v6, S8) h7) (cwV 0 C.2.2.2.2.1 gX4_openParenthesis_X4_partIndex rfl rfl rfl (by decide +kernel) ⟨Nat.le_of_ble_eq_true rfl, Nat.le_of_ble_eq_true rfl⟩) rfl rfl rfl hl.1 (Nat.le_of_ble_eq_true rfl) hW dX4_openParenthesis_32 ⟨Nat.zero_le _, Nat.zero_le _⟩ rfl (fun H locs hW => ?_)
    obtain ⟨S9, eS9, hf⟩ := bnd_el hf
    refine fp_4_12 C kX4_openParenthesis_4 mX4_openParenthesis_62 hW dX4_openParenthesis_35 eS9 (fun H locs hW => ?_)
    refine lv_aload_n C.1 C.2.1 dX4_openParenthesis_38 rfl (lv_at hl 0 rfl) ?_
    refine lv_iconst (v := 0) C.1 C.2.1 dX4_openParenthesis_39 (by decide) ?_
    obtain ⟨S10, eS10, hf⟩ := bnd_el hf
    refine fp_4_13 C kX4_openParenthesis_4 mX4_openParenthesis_65 hW dX4_openParenthesis_40 eS10 (fun H locs hW => ?_)
    exact mrV C hr hlocks hf hW dX4_openParenthesis_43
  · replace hf := (if_neg q1).symm.trans hf
    refine lv_aload_n C.1 C.2.1 dX4_openParenthesis_9 rfl (lv_at hl 0 rfl) ?_
    refine lv_iconst (v := 3) C.1 C.2.1 dX4_openParenthesis_10 (by decide) ?_
    obtain ⟨S11, eS11, hf⟩ := bnd_el hf
    refine fp_4_14 C kX4_openParenthesis_4 mX4_openParenthesis_44 hW dX4_openParenthesis_11 eS11 (fun H locs hW => ?_)
    exact mrV C hr hlocks hf hW dX4_openParenthesis_14
theorem mX4_addWord_53 : Cond.fieldLink RX4 53 "SharedLambda$TermReader" "words" "I" ∈ wsX4_addWord := by decide +kernel
theorem mX4_addWord_11 : Cond.fieldLink RX4 11 "SharedLambda$TermReader" "wordKinds" "[I" ∈ wsX4_addWord := by decide +kernel
theorem mX4_addWord_15 : Cond.fieldLink RX4 15 "SharedLambda$TermReader" "wordIndexes" "[I" ∈ wsX4_addWord := by decide +kernel
theorem mX4_addWord_18 : Cond.fieldLink RX4 18 "SharedLambda$TermReader" "wordSlots" "[I" ∈ wsX4_addWord := by decide +kernel
theorem kX4_addWord_4 : ∀ w ∈ u_ws RX4 TX4 15, w ∈ wsX4_addWord := fun _ h => List.mem_cons_of_mem _ (List.mem_append_right _ h)
def fX4_addWord (N : Nat) (S : St) (p1 : Int32) (p2 : Int32) (p3 : Int32) : Option (St) :=
  if (162 : Int32) ≤ S.1 83 then
    some S
  else
    ckx (S.1 83) 162 <|
    bnd (sA S 80 (upd (S.2.1 80) (S.1 83 : Int32).toNatClampNeg p1)) fun S3 =>
    ckx (S3.1 83) 162 <|
    bnd (sA S3 81 (upd (S3.2.1 81) (S3.1 83 : Int32).toNatClampNeg p2)) fun S5 =>
    ckx (S5.1 83) 162 <|
    bnd (sA S5 82 (upd (S5.2.1 82) (S5.1 83 : Int32).toNatClampNeg p3)) fun S7 =>
    bnd (sI S7 83 ((S7.1 83 + (1 : Int32)))) fun S8 =>
    some S8
set_option maxHeartbeats 4000000 in
set_option maxRecDepth 100000 in
theorem cX4_addWord_met (l : Launch) (D : va_G) (cy : Nat → ClassId) (a r : Nat → Nat) (sz N : Nat) (S : St) (p1 : Int32) (p2 : Int32) (p3 : Int32) (Rr : St) (hf : fX4_addWord N S p1 p2 p3 = some Rr) : Met l yX4_addWord wsX4_addWord ({ frames := 0, cells := 0, slots := 0, locals := 0 } : Room) (va_Pc [.ref (a 99), .int p1, .int p2, .int p3] (preW D cy (wC cy a r S) sz)) (QV D cy (wC cy a r) (va_A (wC cy a r S) sz) Rr) 0 0 (va_A (wC cy a r S) sz) := by
  refine Met.ofW (cc := cX4_addWord) (maxL := 4) (ret := none) (by decide) rfl ?_
  intro p e s m args below meth c s₁ B hml hv
  obtain ⟨rfl, rfl, hP, hK, hD0, hN⟩ := hv
  have hlocks := B.notSynchronized
  have hr := B.returns
  have C : Cx p s m _ c cX4_addWord 4 wsX4_addWord RX4 D cy := ⟨B.exec, B.bytes, hml, findClass_of_methodNamed B.named, atoms_spec (ws := wsX4_addWord) B.pre, hK, hN⟩
  have hW := ww_start (w := wC cy a r) hP hD0
  generalize va_A (wC cy a r S) s.heap.size = A at hW ⊢
  have hl := lv_entry ([.ref (a 99), .int p1, .int p2, .int p3]) (n := 4) (Nat.le_of_ble_eq_true rfl)
  rw [lg_entry_eq]
  generalize (lg_sl ([.ref (a 99), .int p1, .int p2, .int p3]) ++ List.replicate (4 - (lg_sl ([.ref (a 99), .int p1, .int p2, .int p3])).length) Slot.unset).toArray = ls at hl ⊢
  have hl : lv_has ls 4 [(0, .ref (a 99)), (1, .int p1), (2, .int p2), (3, .int p3)] := hl
  unfold fX4_addWord at hf
  refine lv_aload_n C.1 C.2.1 dX4_addWord_0 rfl (lv_at hl 0 rfl) ?_
  refine fg_4_3 C kX4_addWord_4 mX4_addWord_53 hW dX4_addWord_1 ?_
  refine lv_sipush (v := 162) C.1 C.2.1 dX4_addWord_4 (by decide) ?_
  refine lv_icmp_ge (tgt := 50) C.1 C.2.1 dX4_addWord_7 (by decide) (fun q1 => ?_) (fun q1 => ?_)
  · replace hf := (if_pos q1).symm.trans hf
    exact mrV C hr hlocks hf hW dX4_addWord_50
  · replace hf := (if_neg q1).symm.trans hf
    refine lv_aload_n C.1 C.2.1 dX4_addWord_10 rfl (lv_at hl 0 rfl) ?_
    refine fg_4_0 C kX4_addWord_4 mX4_addWord_11 hW dX4_addWord_11 ?_
    refine lv_aload_n C.1 C.2.1 dX4_addWord_14 rfl (lv_at hl 0 rfl) ?_
    refine fg_4_3 C kX4_addWord_4 mX4_addWord_53 hW dX4_addWord_15 ?_
    refine lv_iload_n C.1 C.2.1 dX4_addWord_18 rfl (lv_at hl 1 rfl) ?_
    obtain ⟨h2, hf⟩ := ckx_el hf
    obtain ⟨S3, eS3, hf⟩ := bnd_el hf
    refine as_4_0 C hW h2 dX4_addWord_19 eS3 (fun H locs hW => ?_)
    refine lv_aload_n C.1 C.2.1 dX4_addWord_20 rfl (lv_at hl 0 rfl) ?_
    refine fg_4_1 C kX4_addWord_4 mX4_addWord_15 hW dX4_addWord_21 ?_
    refine lv_aload_n C.1 C.2.1 dX4_addWord_24 rfl (lv_at hl 0 rfl) ?_
    refine fg_4_3 C kX4_addWord_4 mX4_addWord_53 hW dX4_addWord_25 ?_
    refine lv_iload_n C.1 C.2.1 dX4_addWord_28 rfl (lv_at hl 2 rfl) ?_
    obtain ⟨h4, hf⟩ := ckx_el hf
    obtain ⟨S5, eS5, hf⟩ := bnd_el hf
    refine as_4_1 C hW h4 dX4_addWord_29 eS5 (fun H locs hW => ?_)
    refine lv_aload_n C.1 C.2.1 dX4_addWord_30 rfl (lv_at hl 0 rfl) ?_
    refine fg_4_2 C kX4_addWord_4 mX4_addWord_18 hW dX4_addWord_31 ?_
    refine lv_aload_n C.1 C.2.1 dX4_addWord_34 rfl (lv_at hl 0 rfl) ?_
    refine fg_4_3 C kX4_addWord_4 mX4_addWord_53 hW dX4_addWord_35 ?_
    refine lv_iload_n C.1 C.2.1 dX4_addWord_38 rfl (lv_at hl 3 rfl) ?_
    obtain ⟨h6, hf⟩ := ckx_el hf
    obtain ⟨S7, eS7, hf⟩ := bnd_el hf
    refine as_4_2 C hW h6 dX4_addWord_39 eS7 (fun H locs hW => ?_)
    refine lv_aload_n C.1 C.2.1 dX4_addWord_40 rfl (lv_at hl 0 rfl) ?_
    refine lv_dup C.1 C.2.1 dX4_addWord_41 rfl ?_
    refine fg_4_3 C kX4_addWord_4 mX4_addWord_53 hW dX4_addWord_42 ?_
    refine lv_iconst (v := 1) C.1 C.2.1 dX4_addWord_45 (by decide) ?_
    refine lv_iadd C.1 C.2.1 dX4_addWord_46 ?_
    obtain ⟨S8, eS8, hf⟩ := bnd_el hf
    refine fp_4_3 C kX4_addWord_4 mX4_addWord_53 hW dX4_addWord_47 eS8 (fun H locs hW => ?_)
    exact mrV C hr hlocks hf hW dX4_addWord_50
theorem mX4_closeLambdas_56 : Cond.fieldLink RX4 56 "SharedLambda$TermReader" "open" "I" ∈ wsX4_closeLambdas := by decide +kernel
theorem mX4_closeLambdas_21 : Cond.fieldLink RX4 21 "SharedLambda$TermReader" "openNames" "[I" ∈ wsX4_closeLambdas := by decide +kernel
theorem mX4_closeLambdas_62 : Cond.fieldLink RX4 62 "SharedLambda$TermReader" "index" "I" ∈ wsX4_closeLambdas := by decide +kernel
theorem kX4_closeLambdas_4 : ∀ w ∈ u_ws RX4 TX4 15, w ∈ wsX4_closeLambdas := fun _ h => List.mem_cons_of_mem _ (List.mem_append_right _ h)
def fX4_closeLambdas_0s (N : Nat) (k0 : St → Option (St)) (S : St) : Option (St) :=
  if S.1 87 ≤ 0 then
    some S
  else
    ckx ((S.1 87 - (1 : Int32))) 40 <|
    if S.2.1 84 ((S.1 87 - (1 : Int32)) : Int32).toNatClampNeg = 0 then
      some S
    else
      bnd (sI S 87 ((S.1 87 - (1 : Int32)))) fun S4 =>
      bdo (fX4_addWord N S4 (1 : Int32) (S4.1 92) (S4.1 87)) fun S7 =>
      k0 (S7)
def fX4_closeLambdas_0 (N : Nat) : St → Option (St) := loopN (fun k x => fX4_closeLambdas_0s N k x) N
set_option maxHeartbeats 4000000 in
set_option maxRecDepth 100000 in
theorem lX4_closeLambdas_0 {p : Program} {l : Launch} {e : Env} {s : State} {m : MethodId} {args : Array Value} {below : List Frame} {meth : Method} {c : Code} {D : va_G} {cy : Nat → ClassId} {a r : Nat → Nat} {A : Nat → Prop} {Rr : St} (C : Cx p s m args c cX4_closeLambdas 1 wsX4_closeLambdas RX4 D cy) (hr : meth.sig.returnType = none) (hlocks : meth.locks = false) (N : Nat) : ∀ (n : Nat) (S : St), loopN (fun k x => fX4_closeLambdas_0s N k x) n (S) = some Rr → ∀ (H : Heap) (locs : List Loc) (ls : Array Slot), WW D A s.heap (wC cy a r S) H locs → lv_has ls 1 [(0, .ref (a 99))] → W p l e ({ frames := 1, cells := 0, slots := 0, locals := 23 } : Room) s m args below meth c H locs 0 0 (MQ below (QV D cy (wC cy a r) A Rr) args s 0 0 A) (F0 m 0 ls []) := by
  intro n
  induction n with
  | zero =>
    intro S hf
    cases hf
  | succ n ih =>
    intro S hf H locs ls hW hl
    have hf : fX4_closeLambdas_0s N (loopN (fun k x => fX4_closeLambdas_0s N k x) n) S = some Rr := hf
    unfold fX4_closeLambdas_0s at hf
    refine lv_aload_n C.1 C.2.1 dX4_closeLambdas_0 rfl (lv_at hl 0 rfl) ?_
    refine fg_4_7 C kX4_closeLambdas_4 mX4_closeLambdas_56 hW dX4_closeLambdas_1 ?_
    refine lv_if_le (tgt := 47) C.1 C.2.1 dX4_closeLambdas_4 (by decide) (fun q1 => ?_) (fun q1 => ?_)
    · replace hf := (if_pos q1).symm.trans hf
      exact mrV C hr hlocks hf hW dX4_closeLambdas_47
    · replace hf := (if_neg q1).symm.trans hf
      refine lv_aload_n C.1 C.2.1 dX4_closeLambdas_7 rfl (lv_at hl 0 rfl) ?_
      refine fg_4_4 C kX4_closeLambdas_4 mX4_closeLambdas_21 hW dX4_closeLambdas_8 ?_
      refine lv_aload_n C.1 C.2.1 dX4_closeLambdas_11 rfl (lv_at hl 0 rfl) ?_
      refine fg_4_7 C kX4_closeLambdas_4 mX4_closeLambdas_56 hW dX4_closeLambdas_12 ?_
      refine lv_iconst (v := 1) C.1 C.2.1 dX4_closeLambdas_15 (by decide) ?_
      refine lv_isub C.1 C.2.1 dX4_closeLambdas_16 ?_
      obtain ⟨h2, hf⟩ := ckx_el hf
      refine al_4_4 C hW h2 dX4_closeLambdas_17 ?_
      refine lv_if_eq (tgt := 47) C.1 C.2.1 dX4_closeLambdas_18 (by decide) (fun q3 => ?_) (fun q3 => ?_)
      · replace hf := (if_pos q3).symm.trans hf
        exact mrV C hr hlocks hf hW dX4_closeLambdas_47
      · replace hf := (if_neg q3).symm.trans hf
        refine lv_aload_n C.1 C.2.1 dX4_closeLambdas_21 rfl (lv_at hl 0 rfl) ?_
        refine lv_dup C.1 C.2.1 dX4_closeLambdas_22 rfl ?_
        refine fg_4_7 C kX4_closeLambdas_4 mX4_closeLambdas_56 hW dX4_closeLambdas_23 ?_
        refine lv_iconst (v := 1) C.1 C.2.1 dX4_closeLambdas_26 (by decide) ?_
        refine lv_isub C.1 C.2.1 dX4_closeLambdas_27 ?_
        obtain ⟨S4, eS4, hf⟩ := bnd_el hf
        refine fp_4_7 C kX4_closeLambdas_4 mX4_closeLambdas_56 hW dX4_closeLambdas_28 eS4 (fun H locs hW => ?_)
        refine lv_aload_n C.1 C.2.1 dX4_closeLambdas_31 rfl (lv_at hl 0 rfl) ?_
        refine lv_iconst (v := 1) C.1 C.2.1 dX4_closeLambdas_32 (by decide) ?_
        refine lv_aload_n C.1 C.2.1 dX4_closeLambdas_33 rfl (lv_at hl 0 rfl) ?_
        refine fg_4_12 C kX4_closeLambdas_4 mX4_closeLambdas_62 hW dX4_closeLambdas_34 ?_
        refine lv_aload_n C.1 C.2.1 dX4_closeLambdas_37 rfl (lv_at hl 0 rfl) ?_
        refine fg_4_7 C kX4_closeLambdas_4 mX4_closeLambdas_56 hW dX4_closeLambdas_38 ?_
        obtain ⟨S7, h6, hf⟩ := bdo_el hf
        refine mcVv (w := wC cy a r) (S := S4) (As := [.int (1 : Int32), .int (S4.1 92), .int (S4.1 87)]) (rest := []) (q0 := 4) (ci := 4) C (cX4_addWord_met l D cy a r _ N S4 (1 : Int32) (S4.1 92) (S4.1 87) S7 h6) (cwV 3 C.2.2.2.2.1 gX4_closeLambdas_X4_addWord rfl rfl rfl (by decide +kernel) ⟨Nat.le_of_ble_eq_true rfl, Nat.le_of_ble_eq_true rfl⟩) rfl rfl rfl hl.1 (Nat.le_of_ble_eq_true rfl) hW dX4_closeLambdas_41 ⟨Nat.zero_le _, Nat.zero_le _⟩ rfl (fun H locs hW => ?_)
        refine lv_goto (tgt := 0) C.1 C.2.1 dX4_closeLambdas_44 (by decide) ?_
        exact ih _ hf _ _ _ hW (lv_sub hl [0] rfl)
def fX4_closeLambdas (N : Nat) (S : St) : Option (St) :=
  fX4_closeLambdas_0 N (S)
set_option maxHeartbeats 4000000 in
set_option maxRecDepth 100000 in
theorem cX4_closeLambdas_met (l : Launch) (D : va_G) (cy : Nat → ClassId) (a r : Nat → Nat) (sz N : Nat) (S : St) (Rr : St) (hf : fX4_closeLambdas N S  = some Rr) : Met l yX4_closeLambdas wsX4_closeLambdas ({ frames := 1, cells := 0, slots := 0, locals := 23 } : Room) (va_Pc [.ref (a 99)] (preW D cy (wC cy a r S) sz)) (QV D cy (wC cy a r) (va_A (wC cy a r S) sz) Rr) 0 0 (va_A (wC cy a r S) sz) := by
  refine Met.ofW (cc := cX4_closeLambdas) (maxL := 1) (ret := none) (by decide) rfl ?_
  intro p e s m args below meth c s₁ B hml hv
  obtain ⟨rfl, rfl, hP, hK, hD0, hN⟩ := hv
  have hlocks := B.notSynchronized
  have hr := B.returns
  have C : Cx p s m _ c cX4_closeLambdas 1 wsX4_closeLambdas RX4 D cy := ⟨B.exec, B.bytes, hml, findClass_of_methodNamed B.named, atoms_spec (ws := wsX4_closeLambdas) B.pre, hK, hN⟩
  have hW := ww_start (w := wC cy a r) hP hD0
  generalize va_A (wC cy a r S) s.heap.size = A at hW ⊢
  have hl := lv_entry ([.ref (a 99)]) (n := 1) (Nat.le_of_ble_eq_true rfl)
  rw [lg_entry_eq]
  generalize (lg_sl ([.ref (a 99)]) ++ List.replicate (1 - (lg_sl ([.ref (a 99)])).length) Slot.unset).toArray = ls at hl ⊢
  have hl : lv_has ls 1 [(0, .ref (a 99))] := hl
  unfold fX4_closeLambdas at hf
  exact lX4_closeLambdas_0 C hr hlocks N _ _ hf _ _ _ hW (lv_sub hl [0] rfl)
theorem mX4_endPart_65 : Cond.fieldLink RX4 65 "SharedLambda$TermReader" "parts" "I" ∈ wsX4_endPart := by decide +kernel
theorem mX4_endPart_62 : Cond.fieldLink RX4 62 "SharedLambda$TermReader" "index" "I" ∈ wsX4_endPart := by decide +kernel
theorem kX4_endPart_4 : ∀ w ∈ u_ws RX4 TX4 15, w ∈ wsX4_endPart := fun _ h => List.mem_cons_of_mem _ (List.mem_append_right _ h)
def fX4_endPart (N : Nat) (S : St) : Option (St) :=
  bnd (sI S 93 ((S.1 93 + (1 : Int32)))) fun S1 =>
  if S1.1 93 ≤ (1 : Int32) then
    some S1
  else
    bdo (fX4_addWord N S1 (2 : Int32) (S1.1 92) (-1 : Int32)) fun S5 =>
    some S5
set_option maxHeartbeats 4000000 in
set_option maxRecDepth 100000 in
theorem cX4_endPart_met (l : Launch) (D : va_G) (cy : Nat → ClassId) (a r : Nat → Nat) (sz N : Nat) (S : St) (Rr : St) (hf : fX4_endPart N S  = some Rr) : Met l yX4_endPart wsX4_endPart ({ frames := 1, cells := 0, slots := 0, locals := 23 } : Room) (va_Pc [.ref (a 99)] (preW D cy (wC cy a r S) sz)) (QV D cy (wC cy a r) (va_A (wC cy a r S) sz) Rr) 0 0 (va_A (wC cy a r S) sz) := by
  refine Met.ofW (cc := cX4_endPart) (maxL := 1) (ret := none) (by decide) rfl ?_
  intro p e s m args below meth c s₁ B hml hv
  obtain ⟨rfl, rfl, hP, hK, hD0, hN⟩ := hv
  have hlocks := B.notSynchronized
  have hr := B.returns
  have C : Cx p s m _ c cX4_endPart 1 wsX4_endPart RX4 D cy := ⟨B.exec, B.bytes, hml, findClass_of_methodNamed B.named, atoms_spec (ws := wsX4_endPart) B.pre, hK, hN⟩
  have hW := ww_start (w := wC cy a r) hP hD0
  generalize va_A (wC cy a r S) s.heap.size = A at hW ⊢
  have hl := lv_entry ([.ref (a 99)]) (n := 1) (Nat.le_of_ble_eq_true rfl)
  rw [lg_entry_eq]
  generalize (lg_sl ([.ref (a 99)]) ++ List.replicate (1 - (lg_sl ([.ref (a 99)])).length) Slot.unset).toArray = ls at hl ⊢
  have hl : lv_has ls 1 [(0, .ref (a 99))] := hl
  unfold fX4_endPart at hf
  refine lv_aload_n C.1 C.2.1 dX4_endPart_0 rfl (lv_at hl 0 rfl) ?_
  refine lv_dup C.1 C.2.1 dX4_endPart_1 rfl ?_
  refine fg_4_13 C kX4_endPart_4 mX4_endPart_65 hW dX4_endPart_2 ?_
  refine lv_iconst (v := 1) C.1 C.2.1 dX4_endPart_5 (by decide) ?_
  refine lv_iadd C.1 C.2.1 dX4_endPart_6 ?_
  obtain ⟨S1, eS1, hf⟩ := bnd_el hf
  refine fp_4_13 C kX4_endPart_4 mX4_endPart_65 hW dX4_endPart_7 eS1 (fun H locs hW => ?_)
  refine lv_aload_n C.1 C.2.1 dX4_endPart_10 rfl (lv_at hl 0 rfl) ?_
  refine fg_4_13 C kX4_endPart_4 mX4_endPart_65 hW dX4_endPart_11 ?_
  refine lv_iconst (v := 1) C.1 C.2.1 dX4_endPart_14 (by decide) ?_
  refine lv_icmp_le (tgt := 28) C.1 C.2.1 dX4_endPart_15 (by decide) (fun q2 => ?_) (fun q2 => ?_)
  · replace hf := (if_pos q2).symm.trans hf
    exact mrV C hr hlocks hf hW dX4_endPart_28
  · replace hf := (if_neg q2).symm.trans hf
    refine lv_aload_n C.1 C.2.1 dX4_endPart_18 rfl (lv_at hl 0 rfl) ?_
    refine lv_iconst (v := 2) C.1 C.2.1 dX4_endPart_19 (by decide) ?_
    refine lv_aload_n C.1 C.2.1 dX4_endPart_20 rfl (lv_at hl 0 rfl) ?_
    refine fg_4_12 C kX4_endPart_4 mX4_endPart_62 hW dX4_endPart_21 ?_
    refine lv_iconst (v := -1) C.1 C.2.1 dX4_endPart_24 (by decide) ?_
    obtain ⟨S5, h4, hf⟩ := bdo_el hf
    refine mcVv (w := wC cy a r) (S := S1) (As := [.int (2 : Int32), .int (S1.1 92), .int (-1 : Int32)]) (rest := []) (q0 := 4) (ci := 4) C (cX4_addWord_met l D cy a r _ N S1 (2 : Int32) (S1.1 92) (-1 : Int32) S5 h4) (cwV 3 C.2.2.2.2.1 gX4_endPart_X4_addWord rfl rfl rfl (by decide +kernel) ⟨Nat.le_of_ble_eq_true rfl, Nat.le_of_ble_eq_true rfl⟩) rfl rfl rfl hl.1 (Nat.le_of_ble_eq_true rfl) hW dX4_endPart_25 ⟨Nat.zero_le _, Nat.zero_le _⟩ rfl (fun H locs hW => ?_)
    exact mrV C hr hlocks hf hW dX4_endPart_28
theorem mX4_closeParenthesis_65 : Cond.fieldLink RX4 65 "SharedLambda$TermReader" "parts" "I" ∈ wsX4_closeParenthesis := by decide +kernel
theorem mX4_closeParenthesis_56 : Cond.fieldLink RX4 56 "SharedLambda$TermReader" "open" "I" ∈ wsX4_closeParenthesis := by decide +kernel
theorem mX4_closeParenthesis_41 : Cond.fieldLink RX4 41 "SharedLambda$TermReader" "at" "I" ∈ wsX4_closeParenthesis := by decide +kernel
theorem mX4_closeParenthesis_24 : Cond.fieldLink RX4 24 "SharedLambda$TermReader" "outerIndexes" "[I" ∈ wsX4_closeParenthesis := by decide +kernel
theorem mX4_closeParenthesis_62 : Cond.fieldLink RX4 62 "SharedLambda$TermReader" "index" "I" ∈ wsX4_closeParenthesis := by decide +kernel
theorem mX4_closeParenthesis_27 : Cond.fieldLink RX4 27 "SharedLambda$TermReader" "outerParts" "[I" ∈ wsX4_closeParenthesis := by decide +kernel
theorem mX4_closeParenthesis_44 : Cond.fieldLink RX4 44 "SharedLambda$TermReader" "fault" "I" ∈ wsX4_closeParenthesis := by decide +kernel
theorem kX4_closeParenthesis_4 : ∀ w ∈ u_ws RX4 TX4 15, w ∈ wsX4_closeParenthesis := fun _ h => List.mem_cons_of_mem _ (List.mem_append_right _ h)
def fX4_closeParenthesis (N : Nat) (S : St) : Option (St) :=
  if S.1 93 = 0 then
    bnd (sI S 94 (1 : Int32)) fun S16 =>
    some S16
  else
    bdo (fX4_closeLambdas N S) fun S4 =>
    if S4.1 87 = 0 then
      bnd (sI S4 94 (1 : Int32)) fun S15 =>
      some S15
    else
      bnd (sI S4 90 ((S4.1 90 + (1 : Int32)))) fun S6 =>
      bnd (sI S6 87 ((S6.1 87 - (1 : Int32)))) fun S7 =>
      ckx (S7.1 87) 40 <|
      bnd (sI S7 92 (S7.2.1 85 (S7.1 87 : Int32).toNatClampNeg)) fun S9 =>
      ckx (S9.1 87) 40 <|
      bnd (sI S9 93 (S9.2.1 86 (S9.1 87 : Int32).toNatClampNeg)) fun S11 =>
      bdo (fX4_endPart N S11) fun S14 =>
      some S14
set_option maxHeartbeats 4000000 in
set_option maxRecDepth 100000 in
theorem cX4_closeParenthesis_met (l : Launch) (D : va_G) (cy : Nat → ClassId) (a r : Nat → Nat) (sz N : Nat) (S : St) (Rr : St) (hf : fX4_closeParenthesis N S  = some Rr) : Met l yX4_closeParenthesis wsX4_closeParenthesis ({ frames := 2, cells := 0, slots := 0, locals := 43 } : Room) (va_Pc [.ref (a 99)] (preW D cy (wC cy a r S) sz)) (QV D cy (wC cy a r) (va_A (wC cy a r S) sz) Rr) 0 0 (va_A (wC cy a r S) sz) := by
  refine Met.ofW (cc := cX4_closeParenthesis) (maxL := 1) (ret := none) (by decide) rfl ?_
  intro p e s m args below meth c s₁ B hml hv
  obtain ⟨rfl, rfl, hP, hK, hD0, hN⟩ := hv
  have hlocks := B.notSynchronized
  have hr := B.returns
  have C : Cx p s m _ c cX4_closeParenthesis 1 wsX4_closeParenthesis RX4 D cy := ⟨B.exec, B.bytes, hml, findClass_of_methodNamed B.named, atoms_spec (ws := wsX4_closeParenthesis) B.pre, hK, hN⟩
  have hW := ww_start (w := wC cy a r) hP hD0
  generalize va_A (wC cy a r S) s.heap.size = A at hW ⊢
  have hl := lv_entry ([.ref (a 99)]) (n := 1) (Nat.le_of_ble_eq_true rfl)
  rw [lg_entry_eq]
  generalize (lg_sl ([.ref (a 99)]) ++ List.replicate (1 - (lg_sl ([.ref (a 99)])).length) Slot.unset).toArray = ls at hl ⊢
  have hl : lv_has ls 1 [(0, .ref (a 99))] := hl
  unfold fX4_closeParenthesis at hf
  refine lv_aload_n C.1 C.2.1 dX4_closeParenthesis_0 rfl (lv_at hl 0 rfl) ?_
  refine fg_4_13 C kX4_closeParenthesis_4 mX4_closeParenthesis_65 hW dX4_closeParenthesis_1 ?_
  refine lv_if_ne (tgt := 13) C.1 C.2.1 dX4_closeParenthesis_4 (by decide) (fun q1 => ?_) (fun q1 => ?_)
  · replace hf := (if_neg q1).symm.trans hf
    refine lv_aload_n C.1 C.2.1 dX4_closeParenthesis_13 rfl (lv_at hl 0 rfl) ?_
    obtain ⟨S4, h3, hf⟩ := bdo_el hf
    refine mcVv (w := wC cy a r) (S := S) (As := []) (rest := []) (q0 := 4) (ci := 4) C (cX4_closeLambdas_met l D cy a r _ N S  S4 h3) (cwV 0 C.2.2.2.2.1 gX4_closeParenthesis_X4_closeLambdas rfl rfl rfl (by decide +kernel) ⟨Nat.le_of_ble_eq_true rfl, Nat.le_of_ble_eq_true rfl⟩) rfl rfl rfl hl.1 (Nat.le_of_ble_eq_true rfl) hW dX4_closeParenthesis_14 ⟨Nat.zero_le _, Nat.zero_le _⟩ rfl (fun H locs hW => ?_)
    refine lv_aload_n C.1 C.2.1 dX4_closeParenthesis_17 rfl (lv_at hl 0 rfl) ?_
    refine fg_4_7 C kX4_closeParenthesis_4 mX4_closeParenthesis_56 hW dX4_closeParenthesis_18 ?_
    refine lv_if_ne (tgt := 30) C.1 C.2.1 dX4_closeParenthesis_21 (by decide) (fun q5 => ?_) (fun q5 => ?_)
    · replace hf := (if_neg q5).symm.trans hf
      refine lv_aload_n C.1 C.2.1 dX4_closeParenthesis_30 rfl (lv_at hl 0 rfl) ?_
      refine lv_dup C.1 C.2.1 dX4_closeParenthesis_31 rfl ?_
      refine fg_4_10 C kX4_closeParenthesis_4 mX4_closeParenthesis_41 hW dX4_closeParenthesis_32 ?_
      refine lv_iconst (v := 1) C.1 C.2.1 dX4_closeParenthesis_35 (by decide) ?_
      refine lv_iadd C.1 C.2.1 dX4_closeParenthesis_36 ?_
      obtain ⟨S6, eS6, hf⟩ := bnd_el hf
      refine fp_4_10 C kX4_closeParenthesis_4 mX4_closeParenthesis_41 hW dX4_closeParenthesis_37 eS6 (fun H locs hW => ?_)
      refine lv_aload_n C.1 C.2.1 dX4_closeParenthesis_40 rfl (lv_at hl 0 rfl) ?_
      refine lv_dup C.1 C.2.1 dX4_closeParenthesis_41 rfl ?_
      refine fg_4_7 C kX4_closeParenthesis_4 mX4_closeParenthesis_56 hW dX4_closeParenthesis_42 ?_
      refine lv_iconst (v := 1) C.1 C.2.1 dX4_closeParenthesis_45 (by decide) ?_
      refine lv_isub C.1 C.2.1 dX4_closeParenthesis_46 ?_
      obtain ⟨S7, eS7, hf⟩ := bnd_el hf
      refine fp_4_7 C kX4_closeParenthesis_4 mX4_closeParenthesis_56 hW dX4_closeParenthesis_47 eS7 (fun H locs hW => ?_)
      refine lv_aload_n C.1 C.2.1 dX4_closeParenthesis_50 rfl (lv_at hl 0 rfl) ?_
      refine lv_aload_n C.1 C.2.1 dX4_closeParenthesis_51 rfl (lv_at hl 0 rfl) ?_
      refine fg_4_5 C kX4_closeParenthesis_4 mX4_closeParenthesis_24 hW dX4_closeParenthesis_52 ?_
      refine lv_aload_n C.1 C.2.1 dX4_closeParenthesis_55 rfl (lv_at hl 0 rfl) ?_
      refine fg_4_7 C kX4_closeParenthesis_4 mX4_closeParenthesis_56 hW dX4_closeParenthesis_56 ?_
      obtain ⟨h8, hf⟩ := ckx_el hf
      refine al_4_5 C hW h8 dX4_closeParenthesis_59 ?_
      obtain ⟨S9, eS9, hf⟩ := bnd_el hf
      refine fp_4_12 C kX4_closeParenthesis_4 mX4_closeParenthesis_62 hW dX4_closeParenthesis_60 eS9 (fun H locs hW => ?_)
      refine lv_aload_n C.1 C.2.1 dX4_closeParenthesis_63 rfl (lv_at hl 0 rfl) ?_
      refine lv_aload_n C.1 C.2.1 dX4_closeParenthesis_64 rfl (lv_at hl 0 rfl) ?_
      refine fg_4_6 C kX4_closeParenthesis_4 mX4_closeParenthesis_27 hW dX4_closeParenthesis_65 ?_
      refine lv_aload_n C.1 C.2.1 dX4_closeParenthesis_68 rfl (lv_at hl 0 rfl) ?_
      refine fg_4_7 C kX4_closeParenthesis_4 mX4_closeParenthesis_56 hW dX4_closeParenthesis_69 ?_
      obtain ⟨h10, hf⟩ := ckx_el hf
      refine al_4_6 C hW h10 dX4_closeParenthesis_72 ?_
      obtain ⟨S11, eS11, hf⟩ := bnd_el hf
      refine fp_4_13 C kX4_closeParenthesis_4 mX4_closeParenthesis_65 hW dX4_closeParenthesis_73 eS11 (fun H locs hW => ?_)
      refine lv_aload_n C.1 C.2.1 dX4_closeParenthesis_76 rfl (lv_at hl 0 rfl) ?_
      obtain ⟨S14, h13, hf⟩ := bdo_el hf
      refine mcVv (w := wC cy a r) (S := S11) (As := []) (rest := []) (q0 := 4) (ci := 4) C (cX4_endPart_met l D cy a r _ N S11  S14 h13) (cwV 0 C.2.2.2.2.1 gX4_closeParenthesis_X4_endPart rfl rfl rfl (by decide +kernel) ⟨Nat.le_of_ble_eq_true rfl, Nat.le_of_ble_eq_true rfl⟩) rfl rfl rfl hl.1 (Nat.le_of_ble_eq_true rfl) hW dX4_closeParenthesis_77 ⟨Nat.zero_le _, Nat.zero_le _⟩ rfl (fun H locs hW => ?_)
      exact mrV C hr hlocks hf hW dX4_closeParenthesis_80
    · replace hf := (if_pos q5).symm.trans hf
      refine lv_aload_n C.1 C.2.1 dX4_closeParenthesis_24 rfl (lv_at hl 0 rfl) ?_
      refine lv_iconst (v := 1) C.1 C.2.1 dX4_closeParenthesis_25 (by decide) ?_
      obtain ⟨S15, eS15, hf⟩ := bnd_el hf
      refine fp_4_14 C kX4_closeParenthesis_4 mX4_closeParenthesis_44 hW dX4_closeParenthesis_26 eS15 (fun H locs hW => ?_)
      exact mrV C hr hlocks hf hW dX4_closeParenthesis_29
  · replace hf := (if_pos q1).symm.trans hf
    refine lv_aload_n C.1 C.2.1 dX4_closeParenthesis_7 rfl (lv_at hl 0 rfl) ?_
    refine lv_iconst (v := 1) C.1 C.2.1 dX4_closeParenthesis_8 (by decide) ?_
    obtain ⟨S16, eS16, hf⟩ := bnd_el hf
    refine fp_4_14 C kX4_closeParenthesis_4 mX4_closeParenthesis_44 hW dX4_closeParenthesis_9 eS16 (fun H locs hW => ?_)
    exact mrV C hr hlocks hf hW dX4_closeParenthesis_12
theorem mX4_slotOf_21 : Cond.fieldLink RX4 21 "SharedLambda$TermReader" "openNames" "[I" ∈ wsX4_slotOf := by decide +kernel
theorem mX4_slotOf_56 : Cond.fieldLink RX4 56 "SharedLambda$TermReader" "open" "I" ∈ wsX4_slotOf := by decide +kernel
theorem kX4_slotOf_4 : ∀ w ∈ u_ws RX4 TX4 15, w ∈ wsX4_slotOf := fun _ h => List.mem_cons_of_mem _ (List.mem_append_right _ h)
def fX4_slotOf_7s (N : Nat) (k7 : St × Int32 × Int32 → Option (Int32 × St)) (S : St) (x1 : Int32) (x2 : Int32) : Option (Int32 × St) :=
  if x2 < 0 then
    some ((-1 : Int32), S)
  else
    ckx x2 40 <|
    if S.2.1 84 (x2 : Int32).toNatClampNeg = x1 then
      some (x2, S)
    else
      bnd (x2 + (-1 : Int32)) fun z4 =>
      k7 (S, x1, z4)
def fX4_slotOf_7 (N : Nat) : St × Int32 × Int32 → Option (Int32 × St) := loopN (fun k x => fX4_slotOf_7s N k x.1 x.2.1 x.2.2) N
set_option maxHeartbeats 4000000 in
set_option maxRecDepth 100000 in
theorem lX4_slotOf_7 {p : Program} {l : Launch} {e : Env} {s : State} {m : MethodId} {args : Array Value} {below : List Frame} {meth : Method} {c : Code} {D : va_G} {cy : Nat → ClassId} {a r : Nat → Nat} {A : Nat → Prop} {Rr : Int32 × St} (C : Cx p s m args c cX4_slotOf 3 wsX4_slotOf RX4 D cy) (hr : meth.sig.returnType = some .int) (hlocks : meth.locks = false) (N : Nat) : ∀ (n : Nat) (S : St) (x1 : Int32) (x2 : Int32), loopN (fun k x => fX4_slotOf_7s N k x.1 x.2.1 x.2.2) n (S, x1, x2) = some Rr → ∀ (H : Heap) (locs : List Loc) (ls : Array Slot), WW D A s.heap (wC cy a r S) H locs → lv_has ls 3 [(0, .ref (a 99)), (1, .int x1), (2, .int x2)] → W p l e ({ frames := 0, cells := 0, slots := 0, locals := 0 } : Room) s m args below meth c H locs 0 0 (MQ below (QI D cy (wC cy a r) A Rr) args s 0 0 A) (F0 m 7 ls []) := by
  intro n
  induction n with
  | zero =>
    intro S x1 x2 hf
    cases hf
  | succ n ih =>
    intro S x1 x2 hf H locs ls hW hl
    have hf : fX4_slotOf_7s N (loopN (fun k x => fX4_slotOf_7s N k x.1 x.2.1 x.2.2) n) S x1 x2 = some Rr := hf
    unfold fX4_slotOf_7s at hf
    refine lv_iload_n C.1 C.2.1 dX4_slotOf_7 rfl (lv_at hl 2 rfl) ?_
    refine lv_if_lt (tgt := 29) C.1 C.2.1 dX4_slotOf_8 (by decide) (fun q1 => ?_) (fun q1 => ?_)
    · replace hf := (if_pos q1).symm.trans hf
      refine lv_iconst (v := -1) C.1 C.2.1 dX4_slotOf_29 (by decide) ?_
      exact mrI C hr hlocks rfl hf hW dX4_slotOf_30
    · replace hf := (if_neg q1).symm.trans hf
      refine lv_aload_n C.1 C.2.1 dX4_slotOf_11 rfl (lv_at hl 0 rfl) ?_
      refine fg_4_4 C kX4_slotOf_4 mX4_slotOf_21 hW dX4_slotOf_12 ?_
      refine lv_iload_n C.1 C.2.1 dX4_slotOf_15 rfl (lv_at hl 2 rfl) ?_
      obtain ⟨h2, hf⟩ := ckx_el hf
      refine al_4_4 C hW h2 dX4_slotOf_16 ?_
      refine lv_iload_n C.1 C.2.1 dX4_slotOf_17 rfl (lv_at hl 1 rfl) ?_
      refine lv_icmp_ne (tgt := 23) C.1 C.2.1 dX4_slotOf_18 (by decide) (fun q3 => ?_) (fun q3 => ?_)
      · replace hf := (if_neg q3).symm.trans hf
        obtain ⟨z4, ez4, hf⟩ := bnd_el hf
        refine lv_iinc (v := z4) (lv' := [(2, .int z4), (0, .ref (a 99)), (1, .int x1)]) C.1 C.2.1 dX4_slotOf_23 hl (k := 2) rfl (by rw [ez4]; rfl) (by decide) rfl (fun ls hl => ?_)
        refine lv_goto (tgt := 7) C.1 C.2.1 dX4_slotOf_26 (by decide) ?_
        exact ih _ _ _ hf _ _ _ hW (lv_sub hl [1, 2, 0] rfl)
      · replace hf := (if_pos q3).symm.trans hf
        refine lv_iload_n C.1 C.2.1 dX4_slotOf_21 rfl (lv_at hl 2 rfl) ?_
        exact mrI C hr hlocks rfl hf hW dX4_slotOf_22
def fX4_slotOf (N : Nat) (S : St) (p1 : Int32) : Option (Int32 × St) :=
  bnd ((S.1 87 - (1 : Int32))) fun z1 =>
  fX4_slotOf_7 N (S, p1, z1)
set_option maxHeartbeats 4000000 in
set_option maxRecDepth 100000 in
theorem cX4_slotOf_met (l : Launch) (D : va_G) (cy : Nat → ClassId) (a r : Nat → Nat) (sz N : Nat) (S : St) (p1 : Int32) (Rr : Int32 × St) (hf : fX4_slotOf N S p1 = some Rr) : Met l yX4_slotOf wsX4_slotOf ({ frames := 0, cells := 0, slots := 0, locals := 0 } : Room) (va_Pc [.ref (a 99), .int p1] (preW D cy (wC cy a r S) sz)) (QI D cy (wC cy a r) (va_A (wC cy a r S) sz) Rr) 0 0 (va_A (wC cy a r S) sz) := by
  refine Met.ofW (cc := cX4_slotOf) (maxL := 3) (ret := (some .int)) (by decide) rfl ?_
  intro p e s m args below meth c s₁ B hml hv
  obtain ⟨rfl, rfl, hP, hK, hD0, hN⟩ := hv
  have hlocks := B.notSynchronized
  have hr := B.returns
  have C : Cx p s m _ c cX4_slotOf 3 wsX4_slotOf RX4 D cy := ⟨B.exec, B.bytes, hml, findClass_of_methodNamed B.named, atoms_spec (ws := wsX4_slotOf) B.pre, hK, hN⟩
  have hW := ww_start (w := wC cy a r) hP hD0
  generalize va_A (wC cy a r S) s.heap.size = A at hW ⊢
  have hl := lv_entry ([.ref (a 99), .int p1]) (n := 3) (Nat.le_of_ble_eq_true rfl)
  rw [lg_entry_eq]
  generalize (lg_sl ([.ref (a 99), .int p1]) ++ List.replicate (3 - (lg_sl ([.ref (a 99), .int p1])).length) Slot.unset).toArray = ls at hl ⊢
  have hl : lv_has ls 3 [(0, .ref (a 99)), (1, .int p1)] := hl
  unfold fX4_slotOf at hf
  refine lv_aload_n C.1 C.2.1 dX4_slotOf_0 rfl (lv_at hl 0 rfl) ?_
  refine fg_4_7 C kX4_slotOf_4 mX4_slotOf_56 hW dX4_slotOf_1 ?_
  refine lv_iconst (v := 1) C.1 C.2.1 dX4_slotOf_4 (by decide) ?_
  refine lv_isub C.1 C.2.1 dX4_slotOf_5 ?_
  obtain ⟨z1, ez1, hf⟩ := bnd_el hf
  refine lv_as ez1 ?_
  refine lv_istore_n (lv' := [(2, .int z1), (0, .ref (a 99)), (1, .int p1)]) C.1 C.2.1 dX4_slotOf_6 rfl hl (by decide) rfl (fun ls hl => ?_)
  exact lX4_slotOf_7 C hr hlocks N _ _ _ _ hf _ _ _ hW (lv_sub hl [1, 2, 0] rfl)
theorem mX4_takeVariable_44 : Cond.fieldLink RX4 44 "SharedLambda$TermReader" "fault" "I" ∈ wsX4_takeVariable := by decide +kernel
theorem mX4_takeVariable_41 : Cond.fieldLink RX4 41 "SharedLambda$TermReader" "at" "I" ∈ wsX4_takeVariable := by decide +kernel
theorem kX4_takeVariable_4 : ∀ w ∈ u_ws RX4 TX4 15, w ∈ wsX4_takeVariable := fun _ h => List.mem_cons_of_mem _ (List.mem_append_right _ h)
def fX4_takeVariable (N : Nat) (S : St) : Option (St) :=
  bd2 (fX4_nameSize N S) fun v1 S3 =>
  if v1 ≤ (4 : Int32) then
    bd2 (fX4_nameOf N S3 v1) fun v5 S7 =>
    bd2 (fX4_slotOf N S7 v5) fun v8 S10 =>
    if v8 = (-1 : Int32) then
      bnd (sI S10 94 (2 : Int32)) fun S27 =>
      some S27
    else
      bd2 (fX4_countName N S10) fun v12 S14 =>
      bnd (sI S14 94 v12) fun S15 =>
      if S15.1 94 = 0 then
        bnd (sI S15 90 (S15.1 90 + v1)) fun S17 =>
        bd2 (fX4_partIndex N S17) fun v18 S20 =>
        bdo (fX4_addWord N S20 (0 : Int32) v18 v8) fun S23 =>
        bdo (fX4_endPart N S23) fun S26 =>
        some S26
      else
        some S15
  else
    bnd (sI S3 94 (1 : Int32)) fun S28 =>
    some S28
set_option maxHeartbeats 4000000 in
set_option maxRecDepth 100000 in
theorem cX4_takeVariable_met (l : Launch) (D : va_G) (cy : Nat → ClassId) (a r : Nat → Nat) (sz N : Nat) (S : St) (Rr : St) (hf : fX4_takeVariable N S  = some Rr) : Met l yX4_takeVariable wsX4_takeVariable ({ frames := 2, cells := 0, slots := 0, locals := 44 } : Room) (va_Pc [.ref (a 99)] (preW D cy (wC cy a r S) sz)) (QV D cy (wC cy a r) (va_A (wC cy a r S) sz) Rr) 0 0 (va_A (wC cy a r S) sz) := by
  refine Met.ofW (cc := cX4_takeVariable) (maxL := 3) (ret := none) (by decide) rfl ?_
  intro p e s m args below meth c s₁ B hml hv
  obtain ⟨rfl, rfl, hP, hK, hD0, hN⟩ := hv
  have hlocks := B.notSynchronized
  have hr := B.returns
  have C : Cx p s m _ c cX4_takeVariable 3 wsX4_takeVariable RX4 D cy := ⟨B.exec, B.bytes, hml, findClass_of_methodNamed B.named, atoms_spec (ws := wsX4_takeVariable) B.pre, hK, hN⟩
  have hW := ww_start (w := wC cy a r) hP hD0
  generalize va_A (wC cy a r S) s.heap.size = A at hW ⊢
  have hl := lv_entry ([.ref (a 99)]) (n := 3) (Nat.le_of_ble_eq_true rfl)
  rw [lg_entry_eq]
  generalize (lg_sl ([.ref (a 99)]) ++ List.replicate (3 - (lg_sl ([.ref (a 99)])).length) Slot.unset).toArray = ls at hl ⊢
  have hl : lv_has ls 3 [(0, .ref (a 99))] := hl
  unfold fX4_takeVariable at hf
  refine lv_aload_n C.1 C.2.1 dX4_takeVariable_0 rfl (lv_at hl 0 rfl) ?_
  obtain ⟨v1, S3, h2, hf⟩ := bd2_el hf
  refine mcVi (w := wC cy a r) (S := S) (As := []) (rest := []) (q0 := 4) (ci := 4) C (cX4_nameSize_met l D cy a r _ N S  (v1, S3) h2) (cwV 0 C.2.2.2.2.1 gX4_takeVariable_X4_nameSize rfl rfl rfl (by decide +kernel) ⟨Nat.le_of_ble_eq_true rfl, Nat.le_of_ble_eq_true rfl⟩) rfl rfl rfl hl.1 (Nat.le_of_ble_eq_true rfl) hW dX4_takeVariable_1 ⟨Nat.zero_le _, Nat.zero_le _⟩ rfl (fun H locs hW => ?_)
  refine lv_istore_n (lv' := [(1, .int v1), (0, .ref (a 99))]) C.1 C.2.1 dX4_takeVariable_4 rfl hl (by decide) rfl (fun ls hl => ?_)
  refine lv_iload_n C.1 C.2.1 dX4_takeVariable_5 rfl (lv_at hl 0 rfl) ?_
  refine lv_iconst (v := 4) C.1 C.2.1 dX4_takeVariable_6 (by decide) ?_
  refine lv_icmp_le (tgt := 16) C.1 C.2.1 dX4_takeVariable_7 (by decide) (fun q4 => ?_) (fun q4 => ?_)
  · replace hf := (if_pos q4).symm.trans hf
    refine lv_aload_n C.1 C.2.1 dX4_takeVariable_16 rfl (lv_at hl 1 rfl) ?_
    refine lv_aload_n C.1 C.2.1 dX4_takeVariable_17 rfl (lv_at hl 1 rfl) ?_
    refine lv_iload_n C.1 C.2.1 dX4_takeVariable_18 rfl (lv_at hl 0 rfl) ?_
    obtain ⟨v5, S7, h6, hf⟩ := bd2_el hf
    refine mcVi (w := wC cy a r) (S := S3) (As := [.int v1]) (rest := [.ref (a 99)]) (q0 := 4) (ci := 4) C (cX4_nameOf_met l D cy a r _ N S3 v1 (v5, S7) h6) (cwV 1 C.2.2.2.2.1 gX4_takeVariable_X4_nameOf rfl rfl rfl (by decide +kernel) ⟨Nat.le_of_ble_eq_true rfl, Nat.le_of_ble_eq_true rfl⟩) rfl rfl rfl hl.1 (Nat.le_of_ble_eq_true rfl) hW dX4_takeVariable_19 ⟨Nat.zero_le _, Nat.zero_le _⟩ rfl (fun H locs hW => ?_)
    obtain ⟨v8, S10, h9, hf⟩ := bd2_el hf
    refine mcVi (w := wC cy a r) (S := S7) (As := [.int v5]) (rest := []) (q0 := 4) (ci := 4) C (cX4_slotOf_met l D cy a r _ N S7 v5 (v8, S10) h9) (cwV 1 C.2.2.2.2.1 gX4_takeVariable_X4_slotOf rfl rfl rfl (by decide +kernel) ⟨Nat.le_of_ble_eq_true rfl, Nat.le_of_ble_eq_true rfl⟩) rfl rfl rfl hl.1 (Nat.le_of_ble_eq_true rfl) hW dX4_takeVariable_22 ⟨Nat.zero_le _, Nat.zero_le _⟩ rfl (fun H locs hW => ?_)
    refine lv_istore_n (lv' := [(2, .int v8), (1, .int v1), (0, .ref (a 99))]) C.1 C.2.1 dX4_takeVariable_25 rfl hl (by decide) rfl (fun ls hl => ?_)
    refine lv_iload_n C.1 C.2.1 dX4_takeVariable_26 rfl (lv_at hl 0 rfl) ?_
    refine lv_iconst (v := -1) C.1 C.2.1 dX4_takeVariable_27 (by decide) ?_
    refine lv_icmp_ne (tgt := 37) C.1 C.2.1 dX4_takeVariable_28 (by decide) (fun q11 => ?_) (fun q11 => ?_)
    · replace hf := (if_neg q11).symm.trans hf
      refine lv_aload_n C.1 C.2.1 dX4_takeVariable_37 rfl (lv_at hl 2 rfl) ?_
      refine lv_aload_n C.1 C.2.1 dX4_takeVariable_38 rfl (lv_at hl 2 rfl) ?_
      obtain ⟨v12, S14, h13, hf⟩ := bd2_el hf
      refine mcVi (w := wC cy a r) (S := S10) (As := []) (rest := [.ref (a 99)]) (q0 := 4) (ci := 4) C (cX4_countName_met l D cy a r _ N S10  (v12, S14) h13) (cwV 0 C.2.2.2.2.1 gX4_takeVariable_X4_countName rfl rfl rfl (by decide +kernel) ⟨Nat.le_of_ble_eq_true rfl, Nat.le_of_ble_eq_true rfl⟩) rfl rfl rfl hl.1 (Nat.le_of_ble_eq_true rfl) hW dX4_takeVariable_39 ⟨Nat.zero_le _, Nat.zero_le _⟩ rfl (fun H locs hW => ?_)
      obtain ⟨S15, eS15, hf⟩ := bnd_el hf
      refine fp_4_14 C kX4_takeVariable_4 mX4_takeVariable_44 hW dX4_takeVariable_42 eS15 (fun H locs hW => ?_)
      refine lv_aload_n C.1 C.2.1 dX4_takeVariable_45 rfl (lv_at hl 2 rfl) ?_
      refine fg_4_14 C kX4_takeVariable_4 mX4_takeVariable_44 hW dX4_takeVariable_46 ?_
      refine lv_if_eq (tgt := 53) C.1 C.2.1 dX4_takeVariable_49 (by decide) (fun q16 => ?_) (fun q16 => ?_)
      · replace hf := (if_pos q16).symm.trans hf
        refine lv_aload_n C.1 C.2.1 dX4_takeVariable_53 rfl (lv_at hl 2 rfl) ?_
        refine lv_dup C.1 C.2.1 dX4_takeVariable_54 rfl ?_
        refine fg_4_10 C kX4_takeVariable_4 mX4_takeVariable_41 hW dX4_takeVariable_55 ?_
        refine lv_iload_n C.1 C.2.1 dX4_takeVariable_58 rfl (lv_at hl 1 rfl) ?_
        refine lv_iadd C.1 C.2.1 dX4_takeVariable_59 ?_
        obtain ⟨S17, eS17, hf⟩ := bnd_el hf
        refine fp_4_10 C kX4_takeVariable_4 mX4_takeVariable_41 hW dX4_takeVariable_60 eS17 (fun H locs hW => ?_)
        refine lv_aload_n C.1 C.2.1 dX4_takeVariable_63 rfl (lv_at hl 2 rfl) ?_
        refine lv_iconst (v := 0) C.1 C.2.1 dX4_takeVariable_64 (by decide) ?_
        refine lv_aload_n C.1 C.2.1 dX4_takeVariable_65 rfl (lv_at hl 2 rfl) ?_
        obtain ⟨v18, S20, h19, hf⟩ := bd2_el hf
        refine mcVi (w := wC cy a r) (S := S17) (As := []) (rest := [.int (0 : Int32), .ref (a 99)]) (q0 := 4) (ci := 4) C (cX4_partIndex_met l D cy a r _ N S17  (v18, S20) h19) (cwV 0 C.2.2.2.2.1 gX4_takeVariable_X4_partIndex rfl rfl rfl (by decide +kernel) ⟨Nat.le_of_ble_eq_true rfl, Nat.le_of_ble_eq_true rfl⟩) rfl rfl rfl hl.1 (Nat.le_of_ble_eq_true rfl) hW dX4_takeVariable_66 ⟨Nat.zero_le _, Nat.zero_le _⟩ rfl (fun H locs hW => ?_)
        refine lv_iload_n C.1 C.2.1 dX4_takeVariable_69 rfl (lv_at hl 0 rfl) ?_
        obtain ⟨S23, h22, hf⟩ := bdo_el hf
        refine mcVv (w := wC cy a r) (S := S20) (As := [.int (0 : Int32), .int v18, .int v8]) (rest := []) (q0 := 4) (ci := 4) C (cX4_addWord_met l D cy a r _ N S20 (0 : Int32) v18 v8 S23 h22) (cwV 3 C.2.2.2.2.1 gX4_takeVariable_X4_addWord rfl rfl rfl (by decide +kernel) ⟨Nat.le_of_ble_eq_true rfl, Nat.le_of_ble_eq_true rfl⟩) rfl rfl rfl hl.1 (Nat.le_of_ble_eq_true rfl) hW dX4_takeVariable_70 ⟨Nat.zero_le _, Nat.zero_le _⟩ rfl (fun H locs hW => ?_)
        refine lv_aload_n C.1 C.2.1 dX4_takeVariable_73 rfl (lv_at hl 2 rfl) ?_
        obtain ⟨S26, h25, hf⟩ := bdo_el hf
        refine mcVv (w := wC cy a r) (S := S23) (As := []) (rest := []) (q0 := 4) (ci := 4) C (cX4_endPart_met l D cy a r _ N S23  S26 h25) (cwV 0 C.2.2.2.2.1 gX4_takeVariable_X4_endPart rfl rfl rfl (by decide +kernel) ⟨Nat.le_of_ble_eq_true rfl, Nat.le_of_ble_eq_true rfl⟩) rfl rfl rfl hl.1 (Nat.le_of_ble_eq_true rfl) hW dX4_takeVariable_74 ⟨Nat.zero_le _, Nat.zero_le _⟩ rfl (fun H locs hW => ?_)
        exact mrV C hr hlocks hf hW dX4_takeVariable_77
      · replace hf := (if_neg q16).symm.trans hf
        exact mrV C hr hlocks hf hW dX4_takeVariable_52
    · replace hf := (if_pos q11).symm.trans hf
      refine lv_aload_n C.1 C.2.1 dX4_takeVariable_31 rfl (lv_at hl 2 rfl) ?_
      refine lv_iconst (v := 2) C.1 C.2.1 dX4_takeVariable_32 (by decide) ?_
      obtain ⟨S27, eS27, hf⟩ := bnd_el hf
      refine fp_4_14 C kX4_takeVariable_4 mX4_takeVariable_44 hW dX4_takeVariable_33 eS27 (fun H locs hW => ?_)
      exact mrV C hr hlocks hf hW dX4_takeVariable_36
  · replace hf := (if_neg q4).symm.trans hf
    refine lv_aload_n C.1 C.2.1 dX4_takeVariable_10 rfl (lv_at hl 1 rfl) ?_
    refine lv_iconst (v := 1) C.1 C.2.1 dX4_takeVariable_11 (by decide) ?_
    obtain ⟨S28, eS28, hf⟩ := bnd_el hf
    refine fp_4_14 C kX4_takeVariable_4 mX4_takeVariable_44 hW dX4_takeVariable_12 eS28 (fun H locs hW => ?_)
    exact mrV C hr hlocks hf hW dX4_takeVariable_15
theorem mX4_takeNext_41 : Cond.fieldLink RX4 41 "SharedLambda$TermReader" "at" "I" ∈ wsX4_takeNext := by decide +kernel
theorem mX4_takeNext_44 : Cond.fieldLink RX4 44 "SharedLambda$TermReader" "fault" "I" ∈ wsX4_takeNext := by decide +kernel
theorem kX4_takeNext_4 : ∀ w ∈ u_ws RX4 TX4 15, w ∈ wsX4_takeNext := fun _ h => List.mem_cons_of_mem _ (List.mem_append_right _ h)
def fX4_takeNext (N : Nat) (S : St) : Option (St) :=
  bd2 (fX4_byteAt N S (S.1 90)) fun v1 S3 =>
  bdo (fX4_isBlank v1) fun v4 =>
  if v4 = 0 then
    if v1 = (92 : Int32) then
      bdo (fX4_openLambda N S3) fun S25 =>
      some S25
    else
      if v1 = (40 : Int32) then
        bdo (fX4_openParenthesis N S3) fun S22 =>
        some S22
      else
        if v1 = (41 : Int32) then
          bdo (fX4_closeParenthesis N S3) fun S19 =>
          some S19
        else
          bdo (fX4_isLetter v1) fun v10 =>
          if v10 = 0 then
            bnd (sI S3 94 (1 : Int32)) fun S13 =>
            some S13
          else
            bdo (fX4_takeVariable N S3) fun S16 =>
            some S16
  else
    bnd (sI S3 90 ((S3.1 90 + (1 : Int32)))) fun S26 =>
    some S26
set_option maxHeartbeats 4000000 in
set_option maxRecDepth 100000 in
theorem cX4_takeNext_met (l : Launch) (D : va_G) (cy : Nat → ClassId) (a r : Nat → Nat) (sz N : Nat) (S : St) (Rr : St) (hf : fX4_takeNext N S  = some Rr) : Met l yX4_takeNext wsX4_takeNext ({ frames := 3, cells := 0, slots := 0, locals := 66 } : Room) (va_Pc [.ref (a 99)] (preW D cy (wC cy a r S) sz)) (QV D cy (wC cy a r) (va_A (wC cy a r S) sz) Rr) 0 0 (va_A (wC cy a r S) sz) := by
  refine Met.ofW (cc := cX4_takeNext) (maxL := 2) (ret := none) (by decide) rfl ?_
  intro p e s m args below meth c s₁ B hml hv
  obtain ⟨rfl, rfl, hP, hK, hD0, hN⟩ := hv
  have hlocks := B.notSynchronized
  have hr := B.returns
  have C : Cx p s m _ c cX4_takeNext 2 wsX4_takeNext RX4 D cy := ⟨B.exec, B.bytes, hml, findClass_of_methodNamed B.named, atoms_spec (ws := wsX4_takeNext) B.pre, hK, hN⟩
  have hW := ww_start (w := wC cy a r) hP hD0
  generalize va_A (wC cy a r S) s.heap.size = A at hW ⊢
  have hl := lv_entry ([.ref (a 99)]) (n := 2) (Nat.le_of_ble_eq_true rfl)
  rw [lg_entry_eq]
  generalize (lg_sl ([.ref (a 99)]) ++ List.replicate (2 - (lg_sl ([.ref (a 99)])).length) Slot.unset).toArray = ls at hl ⊢
  have hl : lv_has ls 2 [(0, .ref (a 99))] := hl
  unfold fX4_takeNext at hf
  refine lv_aload_n C.1 C.2.1 dX4_takeNext_0 rfl (lv_at hl 0 rfl) ?_
  refine lv_aload_n C.1 C.2.1 dX4_takeNext_1 rfl (lv_at hl 0 rfl) ?_
  refine fg_4_10 C kX4_takeNext_4 mX4_takeNext_41 hW dX4_takeNext_2 ?_
  obtain ⟨v1, S3, h2, hf⟩ := bd2_el hf
  refine mcVi (w := wC cy a r) (S := S) (As := [.int (S.1 90)]) (rest := []) (q0 := 4) (ci := 4) C (cX4_byteAt_met l D cy a r _ N S (S.1 90) (v1, S3) h2) (cwV 1 C.2.2.2.2.1 gX4_takeNext_X4_byteAt rfl rfl rfl (by decide +kernel) ⟨Nat.le_of_ble_eq_true rfl, Nat.le_of_ble_eq_true rfl⟩) rfl rfl rfl hl.1 (Nat.le_of_ble_eq_true rfl) hW dX4_takeNext_5 ⟨Nat.zero_le _, Nat.zero_le _⟩ rfl (fun H locs hW => ?_)
  refine lv_istore_n (lv' := [(1, .int v1), (0, .ref (a 99))]) C.1 C.2.1 dX4_takeNext_8 rfl hl (by decide) rfl (fun ls hl => ?_)
  refine lv_iload_n C.1 C.2.1 dX4_takeNext_9 rfl (lv_at hl 0 rfl) ?_
  obtain ⟨v4, h5, hf⟩ := bdo_el hf
  refine mcS (As := [.int v1]) (rest := []) C (cX4_isBlank_met l v1 v4 h5) (va_cwS 1 C.2.2.2.2.1 gX4_takeNext_X4_isBlank rfl rfl rfl (by decide +kernel) ⟨Nat.le_of_ble_eq_true rfl, Nat.le_of_ble_eq_true rfl⟩) rfl hl.1 (Nat.le_of_ble_eq_true rfl) dX4_takeNext_10 ⟨Nat.zero_le _, Nat.zero_le _⟩ rfl ?_
  refine lv_if_eq (tgt := 29) C.1 C.2.1 dX4_takeNext_13 (by decide) (fun q6 => ?_) (fun q6 => ?_)
  · replace hf := (if_pos q6).symm.trans hf
    refine lv_iload_n C.1 C.2.1 dX4_takeNext_29 rfl (lv_at hl 0 rfl) ?_
    refine lv_bipush (v := 92) C.1 C.2.1 dX4_takeNext_30 (by decide) ?_
    refine lv_icmp_ne (tgt := 42) C.1 C.2.1 dX4_takeNext_32 (by decide) (fun q7 => ?_) (fun q7 => ?_)
    · replace hf := (if_neg q7).symm.trans hf
      refine lv_iload_n C.1 C.2.1 dX4_takeNext_42 rfl (lv_at hl 0 rfl) ?_
      refine lv_bipush (v := 40) C.1 C.2.1 dX4_takeNext_43 (by decide) ?_
      refine lv_icmp_ne (tgt := 55) C.1 C.2.1 dX4_takeNext_45 (by decide) (fun q8 => ?_) (fun q8 => ?_)
      · replace hf := (if_neg q8).symm.trans hf
        refine lv_iload_n C.1 C.2.1 dX4_takeNext_55 rfl (lv_at hl 0 rfl) ?_
        refine lv_bipush (v := 41) C.1 C.2.1 dX4_takeNext_56 (by decide) ?_
        refine lv_icmp_ne (tgt := 68) C.1 C.2.1 dX4_takeNext_58 (by decide) (fun q9 => ?_) (fun q9 => ?_)
        · replace hf := (if_neg q9).symm.trans hf
          refine lv_iload_n C.1 C.2.1 dX4_takeNext_68 rfl (lv_at hl 0 rfl) ?_
          obtain ⟨v10, h11, hf⟩ := bdo_el hf
          refine mcS (As := [.int v1]) (rest := []) C (cX4_isLetter_met l v1 v10 h11) (va_cwS 1 C.2.2.2.2.1 gX4_takeNext_X4_isLetter rfl rfl rfl (by decide +kernel) ⟨Nat.le_of_ble_eq_true rfl, Nat.le_of_ble_eq_true rfl⟩) rfl hl.1 (Nat.le_of_ble_eq_true rfl) dX4_takeNext_69 ⟨Nat.zero_le _, Nat.zero_le _⟩ rfl ?_
          refine lv_if_eq (tgt := 82) C.1 C.2.1 dX4_takeNext_72 (by decide) (fun q12 => ?_) (fun q12 => ?_)
          · replace hf := (if_pos q12).symm.trans hf
            refine lv_aload_n C.1 C.2.1 dX4_takeNext_82 rfl (lv_at hl 1 rfl) ?_
            refine lv_iconst (v := 1) C.1 C.2.1 dX4_takeNext_83 (by decide) ?_
            obtain ⟨S13, eS13, hf⟩ := bnd_el hf
            refine fp_4_14 C kX4_takeNext_4 mX4_takeNext_44 hW dX4_takeNext_84 eS13 (fun H locs hW => ?_)
            exact mrV C hr hlocks hf hW dX4_takeNext_87
          · replace hf := (if_neg q12).symm.trans hf
            refine lv_aload_n C.1 C.2.1 dX4_takeNext_75 rfl (lv_at hl 1 rfl) ?_
            obtain ⟨S16, h15, hf⟩ := bdo_el hf
            refine mcVv (w := wC cy a r) (S := S3) (As := []) (rest := []) (q0 := 4) (ci := 4) C (cX4_takeVariable_met l D cy a r _ N S3  S16 h15) (cwV 0 C.2.2.2.2.1 gX4_takeNext_X4_takeVariable rfl rfl rfl (by decide +kernel) ⟨Nat.le_of_ble_eq_true rfl, Nat.le_of_ble_eq_true rfl⟩) rfl rfl rfl hl.1 (Nat.le_of_ble_eq_true rfl) hW dX4_takeNext_76 ⟨Nat.zero_le _, Nat.zero_le _⟩ rfl (fun H locs hW => ?_)
            refine lv_goto (tgt := 87) C.1 C.2.1 dX4_takeNext_79 (by decide) ?_
            exact mrV C hr hlocks hf hW dX4_takeNext_87
        · replace hf := (if_pos q9).symm.trans hf
          refine lv_aload_n C.1 C.2.1 dX4_takeNext_61 rfl (lv_at hl 1 rfl) ?_
          obtain ⟨S19, h18, hf⟩ := bdo_el hf
          refine mcVv (w := wC cy a r) (S := S3) (As := []) (rest := []) (q0 := 4) (ci := 4) C (cX4_closeParenthesis_met l D cy a r _ N S3  S19 h18) (cwV 0 C.2.2.2.2.1 gX4_takeNext_X4_closeParenthesis rfl rfl rfl (by decide +kernel) ⟨Nat.le_of_ble_eq_true rfl, Nat.le_of_ble_eq_true rfl⟩) rfl rfl rfl hl.1 (Nat.le_of_ble_eq_true rfl) hW dX4_takeNext_62 ⟨Nat.zero_le _, Nat.zero_le _⟩ rfl (fun H locs hW => ?_)
          refine lv_goto (tgt := 87) C.1 C.2.1 dX4_takeNext_65 (by decide) ?_
          exact mrV C hr hlocks hf hW dX4_takeNext_87
      · replace hf := (if_pos q8).symm.trans hf
        refine lv_aload_n C.1 C.2.1 dX4_takeNext_48 rfl (lv_at hl 1 rfl) ?_
        obtain ⟨S22, h21, hf⟩ := bdo_el hf
        refine mcVv (w := wC cy a r) (S := S3) (As := []) (rest := []) (q0 := 4) (ci := 4) C (cX4_openParenthesis_met l D cy a r _ N S3  S22 h21) (cwV 0 C.2.2.2.2.1 gX4_takeNext_X4_openParenthesis rfl rfl rfl (by decide +kernel) ⟨Nat.le_of_ble_eq_true rfl, Nat.le_of_ble_eq_true rfl⟩) rfl rfl rfl hl.1 (Nat.le_of_ble_eq_true rfl) hW dX4_takeNext_49 ⟨Nat.zero_le _, Nat.zero_le _⟩ rfl (fun H locs hW => ?_)
        refine lv_goto (tgt := 87) C.1 C.2.1 dX4_takeNext_52 (by decide) ?_
        exact mrV C hr hlocks hf hW dX4_takeNext_87
    · replace hf := (if_pos q7).symm.trans hf
      refine lv_aload_n C.1 C.2.1 dX4_takeNext_35 rfl (lv_at hl 1 rfl) ?_
      obtain ⟨S25, h24, hf⟩ := bdo_el hf
      refine mcVv (w := wC cy a r) (S := S3) (As := []) (rest := []) (q0 := 4) (ci := 4) C (cX4_openLambda_met l D cy a r _ N S3  S25 h24) (cwV 0 C.2.2.2.2.1 gX4_takeNext_X4_openLambda rfl rfl rfl (by decide +kernel) ⟨Nat.le_of_ble_eq_true rfl, Nat.le_of_ble_eq_true rfl⟩) rfl rfl rfl hl.1 (Nat.le_of_ble_eq_true rfl) hW dX4_takeNext_36 ⟨Nat.zero_le _, Nat.zero_le _⟩ rfl (fun H locs hW => ?_)
      refine lv_goto (tgt := 87) C.1 C.2.1 dX4_takeNext_39 (by decide) ?_
      exact mrV C hr hlocks hf hW dX4_takeNext_87
  · replace hf := (if_neg q6).symm.trans hf
    refine lv_aload_n C.1 C.2.1 dX4_takeNext_16 rfl (lv_at hl 1 rfl) ?_
    refine lv_dup C.1 C.2.1 dX4_takeNext_17 rfl ?_
    refine fg_4_10 C kX4_takeNext_4 mX4_takeNext_41 hW dX4_takeNext_18 ?_
    refine lv_iconst (v := 1) C.1 C.2.1 dX4_takeNext_21 (by decide) ?_
    refine lv_iadd C.1 C.2.1 dX4_takeNext_22 ?_
    obtain ⟨S26, eS26, hf⟩ := bnd_el hf
    refine fp_4_10 C kX4_takeNext_4 mX4_takeNext_41 hW dX4_takeNext_23 eS26 (fun H locs hW => ?_)
    refine lv_goto (tgt := 87) C.1 C.2.1 dX4_takeNext_26 (by decide) ?_
    exact mrV C hr hlocks hf hW dX4_takeNext_87
theorem mX4_endText_65 : Cond.fieldLink RX4 65 "SharedLambda$TermReader" "parts" "I" ∈ wsX4_endText := by decide +kernel
theorem mX4_endText_56 : Cond.fieldLink RX4 56 "SharedLambda$TermReader" "open" "I" ∈ wsX4_endText := by decide +kernel
theorem mX4_endText_44 : Cond.fieldLink RX4 44 "SharedLambda$TermReader" "fault" "I" ∈ wsX4_endText := by decide +kernel
theorem kX4_endText_4 : ∀ w ∈ u_ws RX4 TX4 15, w ∈ wsX4_endText := fun _ h => List.mem_cons_of_mem _ (List.mem_append_right _ h)
def fX4_endText (N : Nat) (S : St) : Option (St) :=
  if S.1 93 = 0 then
    bnd (sI S 94 (1 : Int32)) fun S7 =>
    some S7
  else
    bdo (fX4_closeLambdas N S) fun S4 =>
    if S4.1 87 ≤ 0 then
      some S4
    else
      bnd (sI S4 94 (1 : Int32)) fun S6 =>
      some S6
set_option maxHeartbeats 4000000 in
set_option maxRecDepth 100000 in
theorem cX4_endText_met (l : Launch) (D : va_G) (cy : Nat → ClassId) (a r : Nat → Nat) (sz N : Nat) (S : St) (Rr : St) (hf : fX4_endText N S  = some Rr) : Met l yX4_endText wsX4_endText ({ frames := 2, cells := 0, slots := 0, locals := 43 } : Room) (va_Pc [.ref (a 99)] (preW D cy (wC cy a r S) sz)) (QV D cy (wC cy a r) (va_A (wC cy a r S) sz) Rr) 0 0 (va_A (wC cy a r S) sz) := by
  refine Met.ofW (cc := cX4_endText) (maxL := 1) (ret := none) (by decide) rfl ?_
  intro p e s m args below meth c s₁ B hml hv
  obtain ⟨rfl, rfl, hP, hK, hD0, hN⟩ := hv
  have hlocks := B.notSynchronized
  have hr := B.returns
  have C : Cx p s m _ c cX4_endText 1 wsX4_endText RX4 D cy := ⟨B.exec, B.bytes, hml, findClass_of_methodNamed B.named, atoms_spec (ws := wsX4_endText) B.pre, hK, hN⟩
  have hW := ww_start (w := wC cy a r) hP hD0
  generalize va_A (wC cy a r S) s.heap.size = A at hW ⊢
  have hl := lv_entry ([.ref (a 99)]) (n := 1) (Nat.le_of_ble_eq_true rfl)
  rw [lg_entry_eq]
  generalize (lg_sl ([.ref (a 99)]) ++ List.replicate (1 - (lg_sl ([.ref (a 99)])).length) Slot.unset).toArray = ls at hl ⊢
  have hl : lv_has ls 1 [(0, .ref (a 99))] := hl
  unfold fX4_endText at hf
  refine lv_aload_n C.1 C.2.1 dX4_endText_0 rfl (lv_at hl 0 rfl) ?_
  refine fg_4_13 C kX4_endText_4 mX4_endText_65 hW dX4_endText_1 ?_
  refine lv_if_ne (tgt := 13) C.1 C.2.1 dX4_endText_4 (by decide) (fun q1 => ?_) (fun q1 => ?_)
  · replace hf := (if_neg q1).symm.trans hf
    refine lv_aload_n C.1 C.2.1 dX4_endText_13 rfl (lv_at hl 0 rfl) ?_
    obtain ⟨S4, h3, hf⟩ := bdo_el hf
    refine mcVv (w := wC cy a r) (S := S) (As := []) (rest := []) (q0 := 4) (ci := 4) C (cX4_closeLambdas_met l D cy a r _ N S  S4 h3) (cwV 0 C.2.2.2.2.1 gX4_endText_X4_closeLambdas rfl rfl rfl (by decide +kernel) ⟨Nat.le_of_ble_eq_true rfl, Nat.le_of_ble_eq_true rfl⟩) rfl rfl rfl hl.1 (Nat.le_of_ble_eq_true rfl) hW dX4_endText_14 ⟨Nat.zero_le _, Nat.zero_le _⟩ rfl (fun H locs hW => ?_)
    refine lv_aload_n C.1 C.2.1 dX4_endText_17 rfl (lv_at hl 0 rfl) ?_
    refine fg_4_7 C kX4_endText_4 mX4_endText_56 hW dX4_endText_18 ?_
    refine lv_if_le (tgt := 29) C.1 C.2.1 dX4_endText_21 (by decide) (fun q5 => ?_) (fun q5 => ?_)
    · replace hf := (if_pos q5).symm.trans hf
      exact mrV C hr hlocks hf hW dX4_endText_29
    · replace hf := (if_neg q5).symm.trans hf
      refine lv_aload_n C.1 C.2.1 dX4_endText_24 rfl (lv_at hl 0 rfl) ?_
      refine lv_iconst (v := 1) C.1 C.2.1 dX4_endText_25 (by decide) ?_
      obtain ⟨S6, eS6, hf⟩ := bnd_el hf
      refine fp_4_14 C kX4_endText_4 mX4_endText_44 hW dX4_endText_26 eS6 (fun H locs hW => ?_)
      exact mrV C hr hlocks hf hW dX4_endText_29
  · replace hf := (if_pos q1).symm.trans hf
    refine lv_aload_n C.1 C.2.1 dX4_endText_7 rfl (lv_at hl 0 rfl) ?_
    refine lv_iconst (v := 1) C.1 C.2.1 dX4_endText_8 (by decide) ?_
    obtain ⟨S7, eS7, hf⟩ := bnd_el hf
    refine fp_4_14 C kX4_endText_4 mX4_endText_44 hW dX4_endText_9 eS7 (fun H locs hW => ?_)
    exact mrV C hr hlocks hf hW dX4_endText_12
theorem mX4_scan_44 : Cond.fieldLink RX4 44 "SharedLambda$TermReader" "fault" "I" ∈ wsX4_scan := by decide +kernel
theorem mX4_scan_37 : Cond.fieldLink RX4 37 "SharedLambda$TermReader" "length" "I" ∈ wsX4_scan := by decide +kernel
theorem mX4_scan_41 : Cond.fieldLink RX4 41 "SharedLambda$TermReader" "at" "I" ∈ wsX4_scan := by decide +kernel
theorem kX4_scan_4 : ∀ w ∈ u_ws RX4 TX4 15, w ∈ wsX4_scan := fun _ h => List.mem_cons_of_mem _ (List.mem_append_right _ h)
def fX4_scan_44 (N : Nat) (S : St) : Option (Int32 × St) :=
  if S.1 94 = 0 then
    bdo (fX4_endText N S) fun S4 =>
    some (S4.1 94, S4)
  else
    some (S.1 94, S)
set_option maxHeartbeats 4000000 in
set_option maxRecDepth 100000 in
theorem lX4_scan_44 {p : Program} {l : Launch} {e : Env} {s : State} {m : MethodId} {args : Array Value} {below : List Frame} {meth : Method} {c : Code} {D : va_G} {cy : Nat → ClassId} {a r : Nat → Nat} {A : Nat → Prop} {Rr : Int32 × St} (C : Cx p s m args c cX4_scan 4 wsX4_scan RX4 D cy) (hr : meth.sig.returnType = some .int) (hlocks : meth.locks = false) (N : Nat) (S : St) (hf : fX4_scan_44 N S = some Rr) : ∀ (H : Heap) (locs : List Loc) (ls : Array Slot), WW D A s.heap (wC cy a r S) H locs → lv_has ls 4 [(0, .ref (a 99))] → W p l e ({ frames := 4, cells := 0, slots := 0, locals := 87 } : Room) s m args below meth c H locs 0 0 (MQ below (QI D cy (wC cy a r) A Rr) args s 0 0 A) (F0 m 44 ls []) := by
  intro H locs ls hW hl
  unfold fX4_scan_44 at hf
  refine lv_aload_n C.1 C.2.1 dX4_scan_44 rfl (lv_at hl 0 rfl) ?_
  refine fg_4_14 C kX4_scan_4 mX4_scan_44 hW dX4_scan_45 ?_
  refine lv_if_ne (tgt := 55) C.1 C.2.1 dX4_scan_48 (by decide) (fun q1 => ?_) (fun q1 => ?_)
  · replace hf := (if_neg q1).symm.trans hf
    refine lv_aload_n C.1 C.2.1 dX4_scan_55 rfl (lv_at hl 0 rfl) ?_
    refine fg_4_14 C kX4_scan_4 mX4_scan_44 hW dX4_scan_56 ?_
    exact mrI C hr hlocks rfl hf hW dX4_scan_59
  · replace hf := (if_pos q1).symm.trans hf
    refine lv_aload_n C.1 C.2.1 dX4_scan_51 rfl (lv_at hl 0 rfl) ?_
    obtain ⟨S4, h3, hf⟩ := bdo_el hf
    refine mcVv (w := wC cy a r) (S := S) (As := []) (rest := []) (q0 := 4) (ci := 4) C (cX4_endText_met l D cy a r _ N S  S4 h3) (cwV 0 C.2.2.2.2.1 gX4_scan_X4_endText rfl rfl rfl (by decide +kernel) ⟨Nat.le_of_ble_eq_true rfl, Nat.le_of_ble_eq_true rfl⟩) rfl rfl rfl hl.1 (Nat.le_of_ble_eq_true rfl) hW dX4_scan_52 ⟨Nat.zero_le _, Nat.zero_le _⟩ rfl (fun H locs hW => ?_)
    refine lv_aload_n C.1 C.2.1 dX4_scan_55 rfl (lv_at hl 0 rfl) ?_
    refine fg_4_14 C kX4_scan_4 mX4_scan_44 hW dX4_scan_56 ?_
    exact mrI C hr hlocks rfl hf hW dX4_scan_59
def fX4_scan_8s (N : Nat) (k8 : St × Int32 → Option (Int32 × St)) (S : St) (x3 : Int32) : Option (Int32 × St) :=
  if S.1 89 ≤ x3 then
    fX4_scan_44 N S
  else
    if S.1 89 ≤ S.1 90 then
      fX4_scan_44 N S
    else
      if S.1 94 = 0 then
        bdo (fX4_takeNext N S) fun S6 =>
        bnd (x3 + (1 : Int32)) fun z7 =>
        k8 (S6, z7)
      else
        fX4_scan_44 N S
def fX4_scan_8 (N : Nat) : St × Int32 → Option (Int32 × St) := loopN (fun k x => fX4_scan_8s N k x.1 x.2) N
set_option maxHeartbeats 4000000 in
set_option maxRecDepth 100000 in
theorem lX4_scan_8 {p : Program} {l : Launch} {e : Env} {s : State} {m : MethodId} {args : Array Value} {below : List Frame} {meth : Method} {c : Code} {D : va_G} {cy : Nat → ClassId} {a r : Nat → Nat} {A : Nat → Prop} {Rr : Int32 × St} (C : Cx p s m args c cX4_scan 4 wsX4_scan RX4 D cy) (hr : meth.sig.returnType = some .int) (hlocks : meth.locks = false) (N : Nat) : ∀ (n : Nat) (S : St) (x3 : Int32), loopN (fun k x => fX4_scan_8s N k x.1 x.2) n (S, x3) = some Rr → ∀ (H : Heap) (locs : List Loc) (ls : Array Slot), WW D A s.heap (wC cy a r S) H locs → lv_has ls 4 [(0, .ref (a 99)), (3, .int x3)] → W p l e ({ frames := 4, cells := 0, slots := 0, locals := 87 } : Room) s m args below meth c H locs 0 0 (MQ below (QI D cy (wC cy a r) A Rr) args s 0 0 A) (F0 m 8 ls []) := by
  intro n
  induction n with
  | zero =>
    intro S x3 hf
    cases hf
  | succ n ih =>
    intro S x3 hf H locs ls hW hl
    have hf : fX4_scan_8s N (loopN (fun k x => fX4_scan_8s N k x.1 x.2) n) S x3 = some Rr := hf
    unfold fX4_scan_8s at hf
    refine lv_iload_n C.1 C.2.1 dX4_scan_8 rfl (lv_at hl 1 rfl) ?_
    refine lv_aload_n C.1 C.2.1 dX4_scan_9 rfl (lv_at hl 0 rfl) ?_
    refine fg_4_9 C kX4_scan_4 mX4_scan_37 hW dX4_scan_10 ?_
    refine lv_icmp_ge (tgt := 44) C.1 C.2.1 dX4_scan_13 (by decide) (fun q1 => ?_) (fun q1 => ?_)
    · replace hf := (if_pos q1).symm.trans hf
      exact lX4_scan_44 C hr hlocks N _ hf _ _ _ hW (lv_sub hl [0] rfl)
    · replace hf := (if_neg q1).symm.trans hf
      refine lv_aload_n C.1 C.2.1 dX4_scan_16 rfl (lv_at hl 0 rfl) ?_
      refine fg_4_10 C kX4_scan_4 mX4_scan_41 hW dX4_scan_17 ?_
      refine lv_aload_n C.1 C.2.1 dX4_scan_20 rfl (lv_at hl 0 rfl) ?_
      refine fg_4_9 C kX4_scan_4 mX4_scan_37 hW dX4_scan_21 ?_
      refine lv_icmp_ge (tgt := 44) C.1 C.2.1 dX4_scan_24 (by decide) (fun q2 => ?_) (fun q2 => ?_)
      · replace hf := (if_pos q2).symm.trans hf
        exact lX4_scan_44 C hr hlocks N _ hf _ _ _ hW (lv_sub hl [0] rfl)
      · replace hf := (if_neg q2).symm.trans hf
        refine lv_aload_n C.1 C.2.1 dX4_scan_27 rfl (lv_at hl 0 rfl) ?_
        refine fg_4_14 C kX4_scan_4 mX4_scan_44 hW dX4_scan_28 ?_
        refine lv_if_ne (tgt := 44) C.1 C.2.1 dX4_scan_31 (by decide) (fun q3 => ?_) (fun q3 => ?_)
        · replace hf := (if_neg q3).symm.trans hf
          exact lX4_scan_44 C hr hlocks N _ hf _ _ _ hW (lv_sub hl [0] rfl)
        · replace hf := (if_pos q3).symm.trans hf
          refine lv_aload_n C.1 C.2.1 dX4_scan_34 rfl (lv_at hl 0 rfl) ?_
          obtain ⟨S6, h5, hf⟩ := bdo_el hf
          refine mcVv (w := wC cy a r) (S := S) (As := []) (rest := []) (q0 := 4) (ci := 4) C (cX4_takeNext_met l D cy a r _ N S  S6 h5) (cwV 0 C.2.2.2.2.1 gX4_scan_X4_takeNext rfl rfl rfl (by decide +kernel) ⟨Nat.le_of_ble_eq_true rfl, Nat.le_of_ble_eq_true rfl⟩) rfl rfl rfl hl.1 (Nat.le_of_ble_eq_true rfl) hW dX4_scan_35 ⟨Nat.zero_le _, Nat.zero_le _⟩ rfl (fun H locs hW => ?_)
          obtain ⟨z7, ez7, hf⟩ := bnd_el hf
          refine lv_iinc (v := z7) (lv' := [(3, .int z7), (0, .ref (a 99))]) C.1 C.2.1 dX4_scan_38 hl (k := 1) rfl (by rw [ez7]; rfl) (by decide) rfl (fun ls hl => ?_)
          refine lv_goto (tgt := 8) C.1 C.2.1 dX4_scan_41 (by decide) ?_
          exact ih _ _ hf _ _ _ hW (lv_sub hl [1, 0] rfl)
def fX4_scan (N : Nat) (S : St) (p2 : Int32) : Option (Int32 × St) :=
  bdo (fX4_begin N S p2) fun S3 =>
  bnd (0 : Int32) fun z4 =>
  fX4_scan_8 N (S3, z4)
set_option maxHeartbeats 4000000 in
set_option maxRecDepth 100000 in
theorem cX4_scan_met (l : Launch) (D : va_G) (cy : Nat → ClassId) (a r : Nat → Nat) (sz N : Nat) (S : St) (p2 : Int32) (Rr : Int32 × St) (hf : fX4_scan N S p2 = some Rr) : Met l yX4_scan wsX4_scan ({ frames := 4, cells := 0, slots := 0, locals := 87 } : Room) (va_Pc [.ref (a 99), .ref (a 140), .int p2] (preW D cy (wC cy a r S) sz)) (QI D cy (wC cy a r) (va_A (wC cy a r S) sz) Rr) 0 0 (va_A (wC cy a r S) sz) := by
  refine Met.ofW (cc := cX4_scan) (maxL := 4) (ret := (some .int)) (by decide) rfl ?_
  intro p e s m args below meth c s₁ B hml hv
  obtain ⟨rfl, rfl, hP, hK, hD0, hN⟩ := hv
  have hlocks := B.notSynchronized
  have hr := B.returns
  have C : Cx p s m _ c cX4_scan 4 wsX4_scan RX4 D cy := ⟨B.exec, B.bytes, hml, findClass_of_methodNamed B.named, atoms_spec (ws := wsX4_scan) B.pre, hK, hN⟩
  have hW := ww_start (w := wC cy a r) hP hD0
  generalize va_A (wC cy a r S) s.heap.size = A at hW ⊢
  have hl := lv_entry ([.ref (a 99), .ref (a 140), .int p2]) (n := 4) (Nat.le_of_ble_eq_true rfl)
  rw [lg_entry_eq]
  generalize (lg_sl ([.ref (a 99), .ref (a 140), .int p2]) ++ List.replicate (4 - (lg_sl ([.ref (a 99), .ref (a 140), .int p2])).length) Slot.unset).toArray = ls at hl ⊢
  have hl : lv_has ls 4 [(0, .ref (a 99)), (1, .ref (a 140)), (2, .int p2)] := hl
  unfold fX4_scan at hf
  refine lv_aload_n C.1 C.2.1 dX4_scan_0 rfl (lv_at hl 0 rfl) ?_
  refine lv_aload_n C.1 C.2.1 dX4_scan_1 rfl (lv_at hl 1 rfl) ?_
  refine lv_iload_n C.1 C.2.1 dX4_scan_2 rfl (lv_at hl 2 rfl) ?_
  obtain ⟨S3, h2, hf⟩ := bdo_el hf
  refine mcVv (w := wC cy a r) (S := S) (As := [.ref (a 140), .int p2]) (rest := []) (q0 := 4) (ci := 4) C (cX4_begin_met l D cy a r _ N S p2 S3 h2) (cwV 2 C.2.2.2.2.1 gX4_scan_X4_begin rfl rfl rfl (by decide +kernel) ⟨Nat.le_of_ble_eq_true rfl, Nat.le_of_ble_eq_true rfl⟩) rfl rfl rfl hl.1 (Nat.le_of_ble_eq_true rfl) hW dX4_scan_3 ⟨Nat.zero_le _, Nat.zero_le _⟩ rfl (fun H locs hW => ?_)
  refine lv_iconst (v := 0) C.1 C.2.1 dX4_scan_6 (by decide) ?_
  obtain ⟨z4, ez4, hf⟩ := bnd_el hf
  refine lv_as ez4 ?_
  refine lv_istore_n (lv' := [(3, .int z4), (0, .ref (a 99)), (1, .ref (a 140)), (2, .int p2)]) C.1 C.2.1 dX4_scan_7 rfl hl (by decide) rfl (fun ls hl => ?_)
  exact lX4_scan_8 C hr hlocks N _ _ _ hf _ _ _ hW (lv_sub hl [1, 0] rfl)
theorem mX4_place_41 : Cond.fieldLink RX4 41 "SharedLambda$TermReader" "at" "I" ∈ wsX4_place := by decide +kernel
theorem kX4_place_4 : ∀ w ∈ u_ws RX4 TX4 15, w ∈ wsX4_place := fun _ h => List.mem_cons_of_mem _ (List.mem_append_right _ h)
def fX4_place (N : Nat) (S : St) : Option (Int32 × St) :=
  some (S.1 90, S)
set_option maxHeartbeats 4000000 in
set_option maxRecDepth 100000 in
theorem cX4_place_met (l : Launch) (D : va_G) (cy : Nat → ClassId) (a r : Nat → Nat) (sz N : Nat) (S : St) (Rr : Int32 × St) (hf : fX4_place N S  = some Rr) : Met l yX4_place wsX4_place ({ frames := 0, cells := 0, slots := 0, locals := 0 } : Room) (va_Pc [.ref (a 99)] (preW D cy (wC cy a r S) sz)) (QI D cy (wC cy a r) (va_A (wC cy a r S) sz) Rr) 0 0 (va_A (wC cy a r S) sz) := by
  refine Met.ofW (cc := cX4_place) (maxL := 1) (ret := (some .int)) (by decide) rfl ?_
  intro p e s m args below meth c s₁ B hml hv
  obtain ⟨rfl, rfl, hP, hK, hD0, hN⟩ := hv
  have hlocks := B.notSynchronized
  have hr := B.returns
  have C : Cx p s m _ c cX4_place 1 wsX4_place RX4 D cy := ⟨B.exec, B.bytes, hml, findClass_of_methodNamed B.named, atoms_spec (ws := wsX4_place) B.pre, hK, hN⟩
  have hW := ww_start (w := wC cy a r) hP hD0
  generalize va_A (wC cy a r S) s.heap.size = A at hW ⊢
  have hl := lv_entry ([.ref (a 99)]) (n := 1) (Nat.le_of_ble_eq_true rfl)
  rw [lg_entry_eq]
  generalize (lg_sl ([.ref (a 99)]) ++ List.replicate (1 - (lg_sl ([.ref (a 99)])).length) Slot.unset).toArray = ls at hl ⊢
  have hl : lv_has ls 1 [(0, .ref (a 99))] := hl
  unfold fX4_place at hf
  refine lv_aload_n C.1 C.2.1 dX4_place_0 rfl (lv_at hl 0 rfl) ?_
  refine fg_4_10 C kX4_place_4 mX4_place_41 hW dX4_place_1 ?_
  exact mrI C hr hlocks rfl hf hW dX4_place_4
theorem mX4_wordCount_53 : Cond.fieldLink RX4 53 "SharedLambda$TermReader" "words" "I" ∈ wsX4_wordCount := by decide +kernel
theorem kX4_wordCount_4 : ∀ w ∈ u_ws RX4 TX4 15, w ∈ wsX4_wordCount := fun _ h => List.mem_cons_of_mem _ (List.mem_append_right _ h)
def fX4_wordCount (N : Nat) (S : St) : Option (Int32 × St) :=
  some (S.1 83, S)
set_option maxHeartbeats 4000000 in
set_option maxRecDepth 100000 in
theorem cX4_wordCount_met (l : Launch) (D : va_G) (cy : Nat → ClassId) (a r : Nat → Nat) (sz N : Nat) (S : St) (Rr : Int32 × St) (hf : fX4_wordCount N S  = some Rr) : Met l yX4_wordCount wsX4_wordCount ({ frames := 0, cells := 0, slots := 0, locals := 0 } : Room) (va_Pc [.ref (a 99)] (preW D cy (wC cy a r S) sz)) (QI D cy (wC cy a r) (va_A (wC cy a r S) sz) Rr) 0 0 (va_A (wC cy a r S) sz) := by
  refine Met.ofW (cc := cX4_wordCount) (maxL := 1) (ret := (some .int)) (by decide) rfl ?_
  intro p e s m args below meth c s₁ B hml hv
  obtain ⟨rfl, rfl, hP, hK, hD0, hN⟩ := hv
  have hlocks := B.notSynchronized
  have hr := B.returns
  have C : Cx p s m _ c cX4_wordCount 1 wsX4_wordCount RX4 D cy := ⟨B.exec, B.bytes, hml, findClass_of_methodNamed B.named, atoms_spec (ws := wsX4_wordCount) B.pre, hK, hN⟩
  have hW := ww_start (w := wC cy a r) hP hD0
  generalize va_A (wC cy a r S) s.heap.size = A at hW ⊢
  have hl := lv_entry ([.ref (a 99)]) (n := 1) (Nat.le_of_ble_eq_true rfl)
  rw [lg_entry_eq]
  generalize (lg_sl ([.ref (a 99)]) ++ List.replicate (1 - (lg_sl ([.ref (a 99)])).length) Slot.unset).toArray = ls at hl ⊢
  have hl : lv_has ls 1 [(0, .ref (a 99))] := hl
  unfold fX4_wordCount at hf
  refine lv_aload_n C.1 C.2.1 dX4_wordCount_0 rfl (lv_at hl 0 rfl) ?_
  refine fg_4_3 C kX4_wordCount_4 mX4_wordCount_53 hW dX4_wordCount_1 ?_
  exact mrI C hr hlocks rfl hf hW dX4_wordCount_4
theorem mX4_wordKind_53 : Cond.fieldLink RX4 53 "SharedLambda$TermReader" "words" "I" ∈ wsX4_wordKind := by decide +kernel
theorem mX4_wordKind_11 : Cond.fieldLink RX4 11 "SharedLambda$TermReader" "wordKinds" "[I" ∈ wsX4_wordKind := by decide +kernel
theorem kX4_wordKind_4 : ∀ w ∈ u_ws RX4 TX4 15, w ∈ wsX4_wordKind := fun _ h => List.mem_cons_of_mem _ (List.mem_append_right _ h)
def fX4_wordKind (N : Nat) (S : St) (p1 : Int32) : Option (Int32 × St) :=
  if p1 < 0 then
    some ((-1 : Int32), S)
  else
    if S.1 83 ≤ p1 then
      some ((-1 : Int32), S)
    else
      ckx p1 162 <|
      some (S.2.1 80 (p1 : Int32).toNatClampNeg, S)
set_option maxHeartbeats 4000000 in
set_option maxRecDepth 100000 in
theorem cX4_wordKind_met (l : Launch) (D : va_G) (cy : Nat → ClassId) (a r : Nat → Nat) (sz N : Nat) (S : St) (p1 : Int32) (Rr : Int32 × St) (hf : fX4_wordKind N S p1 = some Rr) : Met l yX4_wordKind wsX4_wordKind ({ frames := 0, cells := 0, slots := 0, locals := 0 } : Room) (va_Pc [.ref (a 99), .int p1] (preW D cy (wC cy a r S) sz)) (QI D cy (wC cy a r) (va_A (wC cy a r S) sz) Rr) 0 0 (va_A (wC cy a r S) sz) := by
  refine Met.ofW (cc := cX4_wordKind) (maxL := 2) (ret := (some .int)) (by decide) rfl ?_
  intro p e s m args below meth c s₁ B hml hv
  obtain ⟨rfl, rfl, hP, hK, hD0, hN⟩ := hv
  have hlocks := B.notSynchronized
  have hr := B.returns
  have C : Cx p s m _ c cX4_wordKind 2 wsX4_wordKind RX4 D cy := ⟨B.exec, B.bytes, hml, findClass_of_methodNamed B.named, atoms_spec (ws := wsX4_wordKind) B.pre, hK, hN⟩
  have hW := ww_start (w := wC cy a r) hP hD0
  generalize va_A (wC cy a r S) s.heap.size = A at hW ⊢
  have hl := lv_entry ([.ref (a 99), .int p1]) (n := 2) (Nat.le_of_ble_eq_true rfl)
  rw [lg_entry_eq]
  generalize (lg_sl ([.ref (a 99), .int p1]) ++ List.replicate (2 - (lg_sl ([.ref (a 99), .int p1])).length) Slot.unset).toArray = ls at hl ⊢
  have hl : lv_has ls 2 [(0, .ref (a 99)), (1, .int p1)] := hl
  unfold fX4_wordKind at hf
  refine lv_iload_n C.1 C.2.1 dX4_wordKind_0 rfl (lv_at hl 1 rfl) ?_
  refine lv_if_lt (tgt := 21) C.1 C.2.1 dX4_wordKind_1 (by decide) (fun q1 => ?_) (fun q1 => ?_)
  · replace hf := (if_pos q1).symm.trans hf
    refine lv_iconst (v := -1) C.1 C.2.1 dX4_wordKind_21 (by decide) ?_
    exact mrI C hr hlocks rfl hf hW dX4_wordKind_22
  · replace hf := (if_neg q1).symm.trans hf
    refine lv_iload_n C.1 C.2.1 dX4_wordKind_4 rfl (lv_at hl 1 rfl) ?_
    refine lv_aload_n C.1 C.2.1 dX4_wordKind_5 rfl (lv_at hl 0 rfl) ?_
    refine fg_4_3 C kX4_wordKind_4 mX4_wordKind_53 hW dX4_wordKind_6 ?_
    refine lv_icmp_ge (tgt := 21) C.1 C.2.1 dX4_wordKind_9 (by decide) (fun q2 => ?_) (fun q2 => ?_)
    · replace hf := (if_pos q2).symm.trans hf
      refine lv_iconst (v := -1) C.1 C.2.1 dX4_wordKind_21 (by decide) ?_
      exact mrI C hr hlocks rfl hf hW dX4_wordKind_22
    · replace hf := (if_neg q2).symm.trans hf
      refine lv_aload_n C.1 C.2.1 dX4_wordKind_12 rfl (lv_at hl 0 rfl) ?_
      refine fg_4_0 C kX4_wordKind_4 mX4_wordKind_11 hW dX4_wordKind_13 ?_
      refine lv_iload_n C.1 C.2.1 dX4_wordKind_16 rfl (lv_at hl 1 rfl) ?_
      obtain ⟨h3, hf⟩ := ckx_el hf
      refine al_4_0 C hW h3 dX4_wordKind_17 ?_
      refine lv_goto (tgt := 22) C.1 C.2.1 dX4_wordKind_18 (by decide) ?_
      exact mrI C hr hlocks rfl hf hW dX4_wordKind_22
theorem mX4_wordIndex_53 : Cond.fieldLink RX4 53 "SharedLambda$TermReader" "words" "I" ∈ wsX4_wordIndex := by decide +kernel
theorem mX4_wordIndex_15 : Cond.fieldLink RX4 15 "SharedLambda$TermReader" "wordIndexes" "[I" ∈ wsX4_wordIndex := by decide +kernel
theorem kX4_wordIndex_4 : ∀ w ∈ u_ws RX4 TX4 15, w ∈ wsX4_wordIndex := fun _ h => List.mem_cons_of_mem _ (List.mem_append_right _ h)
def fX4_wordIndex (N : Nat) (S : St) (p1 : Int32) : Option (Int32 × St) :=
  if p1 < 0 then
    some ((0 : Int32), S)
  else
    if S.1 83 ≤ p1 then
      some ((0 : Int32), S)
    else
      ckx p1 162 <|
      some (S.2.1 81 (p1 : Int32).toNatClampNeg, S)
set_option maxHeartbeats 4000000 in
set_option maxRecDepth 100000 in
theorem cX4_wordIndex_met (l : Launch) (D : va_G) (cy : Nat → ClassId) (a r : Nat → Nat) (sz N : Nat) (S : St) (p1 : Int32) (Rr : Int32 × St) (hf : fX4_wordIndex N S p1 = some Rr) : Met l yX4_wordIndex wsX4_wordIndex ({ frames := 0, cells := 0, slots := 0, locals := 0 } : Room) (va_Pc [.ref (a 99), .int p1] (preW D cy (wC cy a r S) sz)) (QI D cy (wC cy a r) (va_A (wC cy a r S) sz) Rr) 0 0 (va_A (wC cy a r S) sz) := by
  refine Met.ofW (cc := cX4_wordIndex) (maxL := 2) (ret := (some .int)) (by decide) rfl ?_
  intro p e s m args below meth c s₁ B hml hv
  obtain ⟨rfl, rfl, hP, hK, hD0, hN⟩ := hv
  have hlocks := B.notSynchronized
  have hr := B.returns
  have C : Cx p s m _ c cX4_wordIndex 2 wsX4_wordIndex RX4 D cy := ⟨B.exec, B.bytes, hml, findClass_of_methodNamed B.named, atoms_spec (ws := wsX4_wordIndex) B.pre, hK, hN⟩
  have hW := ww_start (w := wC cy a r) hP hD0
  generalize va_A (wC cy a r S) s.heap.size = A at hW ⊢
  have hl := lv_entry ([.ref (a 99), .int p1]) (n := 2) (Nat.le_of_ble_eq_true rfl)
  rw [lg_entry_eq]
  generalize (lg_sl ([.ref (a 99), .int p1]) ++ List.replicate (2 - (lg_sl ([.ref (a 99), .int p1])).length) Slot.unset).toArray = ls at hl ⊢
  have hl : lv_has ls 2 [(0, .ref (a 99)), (1, .int p1)] := hl
  unfold fX4_wordIndex at hf
  refine lv_iload_n C.1 C.2.1 dX4_wordIndex_0 rfl (lv_at hl 1 rfl) ?_
  refine lv_if_lt (tgt := 21) C.1 C.2.1 dX4_wordIndex_1 (by decide) (fun q1 => ?_) (fun q1 => ?_)
  · replace hf := (if_pos q1).symm.trans hf
    refine lv_iconst (v := 0) C.1 C.2.1 dX4_wordIndex_21 (by decide) ?_
    exact mrI C hr hlocks rfl hf hW dX4_wordIndex_22
  · replace hf := (if_neg q1).symm.trans hf
    refine lv_iload_n C.1 C.2.1 dX4_wordIndex_4 rfl (lv_at hl 1 rfl) ?_
    refine lv_aload_n C.1 C.2.1 dX4_wordIndex_5 rfl (lv_at hl 0 rfl) ?_
    refine fg_4_3 C kX4_wordIndex_4 mX4_wordIndex_53 hW dX4_wordIndex_6 ?_
    refine lv_icmp_ge (tgt := 21) C.1 C.2.1 dX4_wordIndex_9 (by decide) (fun q2 => ?_) (fun q2 => ?_)
    · replace hf := (if_pos q2).symm.trans hf
      refine lv_iconst (v := 0) C.1 C.2.1 dX4_wordIndex_21 (by decide) ?_
      exact mrI C hr hlocks rfl hf hW dX4_wordIndex_22
    · replace hf := (if_neg q2).symm.trans hf
      refine lv_aload_n C.1 C.2.1 dX4_wordIndex_12 rfl (lv_at hl 0 rfl) ?_
      refine fg_4_1 C kX4_wordIndex_4 mX4_wordIndex_15 hW dX4_wordIndex_13 ?_
      refine lv_iload_n C.1 C.2.1 dX4_wordIndex_16 rfl (lv_at hl 1 rfl) ?_
      obtain ⟨h3, hf⟩ := ckx_el hf
      refine al_4_1 C hW h3 dX4_wordIndex_17 ?_
      refine lv_goto (tgt := 22) C.1 C.2.1 dX4_wordIndex_18 (by decide) ?_
      exact mrI C hr hlocks rfl hf hW dX4_wordIndex_22
theorem mX4_wordSlot_53 : Cond.fieldLink RX4 53 "SharedLambda$TermReader" "words" "I" ∈ wsX4_wordSlot := by decide +kernel
theorem mX4_wordSlot_18 : Cond.fieldLink RX4 18 "SharedLambda$TermReader" "wordSlots" "[I" ∈ wsX4_wordSlot := by decide +kernel
theorem kX4_wordSlot_4 : ∀ w ∈ u_ws RX4 TX4 15, w ∈ wsX4_wordSlot := fun _ h => List.mem_cons_of_mem _ (List.mem_append_right _ h)
def fX4_wordSlot (N : Nat) (S : St) (p1 : Int32) : Option (Int32 × St) :=
  if p1 < 0 then
    some ((-1 : Int32), S)
  else
    if S.1 83 ≤ p1 then
      some ((-1 : Int32), S)
    else
      ckx p1 162 <|
      some (S.2.1 82 (p1 : Int32).toNatClampNeg, S)
set_option maxHeartbeats 4000000 in
set_option maxRecDepth 100000 in
theorem cX4_wordSlot_met (l : Launch) (D : va_G) (cy : Nat → ClassId) (a r : Nat → Nat) (sz N : Nat) (S : St) (p1 : Int32) (Rr : Int32 × St) (hf : fX4_wordSlot N S p1 = some Rr) : Met l yX4_wordSlot wsX4_wordSlot ({ frames := 0, cells := 0, slots := 0, locals := 0 } : Room) (va_Pc [.ref (a 99), .int p1] (preW D cy (wC cy a r S) sz)) (QI D cy (wC cy a r) (va_A (wC cy a r S) sz) Rr) 0 0 (va_A (wC cy a r S) sz) := by
  refine Met.ofW (cc := cX4_wordSlot) (maxL := 2) (ret := (some .int)) (by decide) rfl ?_
  intro p e s m args below meth c s₁ B hml hv
  obtain ⟨rfl, rfl, hP, hK, hD0, hN⟩ := hv
  have hlocks := B.notSynchronized
  have hr := B.returns
  have C : Cx p s m _ c cX4_wordSlot 2 wsX4_wordSlot RX4 D cy := ⟨B.exec, B.bytes, hml, findClass_of_methodNamed B.named, atoms_spec (ws := wsX4_wordSlot) B.pre, hK, hN⟩
  have hW := ww_start (w := wC cy a r) hP hD0
  generalize va_A (wC cy a r S) s.heap.size = A at hW ⊢
  have hl := lv_entry ([.ref (a 99), .int p1]) (n := 2) (Nat.le_of_ble_eq_true rfl)
  rw [lg_entry_eq]
  generalize (lg_sl ([.ref (a 99), .int p1]) ++ List.replicate (2 - (lg_sl ([.ref (a 99), .int p1])).length) Slot.unset).toArray = ls at hl ⊢
  have hl : lv_has ls 2 [(0, .ref (a 99)), (1, .int p1)] := hl
  unfold fX4_wordSlot at hf
  refine lv_iload_n C.1 C.2.1 dX4_wordSlot_0 rfl (lv_at hl 1 rfl) ?_
  refine lv_if_lt (tgt := 21) C.1 C.2.1 dX4_wordSlot_1 (by decide) (fun q1 => ?_) (fun q1 => ?_)
  · replace hf := (if_pos q1).symm.trans hf
    refine lv_iconst (v := -1) C.1 C.2.1 dX4_wordSlot_21 (by decide) ?_
    exact mrI C hr hlocks rfl hf hW dX4_wordSlot_22
  · replace hf := (if_neg q1).symm.trans hf
    refine lv_iload_n C.1 C.2.1 dX4_wordSlot_4 rfl (lv_at hl 1 rfl) ?_
    refine lv_aload_n C.1 C.2.1 dX4_wordSlot_5 rfl (lv_at hl 0 rfl) ?_
    refine fg_4_3 C kX4_wordSlot_4 mX4_wordSlot_53 hW dX4_wordSlot_6 ?_
    refine lv_icmp_ge (tgt := 21) C.1 C.2.1 dX4_wordSlot_9 (by decide) (fun q2 => ?_) (fun q2 => ?_)
    · replace hf := (if_pos q2).symm.trans hf
      refine lv_iconst (v := -1) C.1 C.2.1 dX4_wordSlot_21 (by decide) ?_
      exact mrI C hr hlocks rfl hf hW dX4_wordSlot_22
    · replace hf := (if_neg q2).symm.trans hf
      refine lv_aload_n C.1 C.2.1 dX4_wordSlot_12 rfl (lv_at hl 0 rfl) ?_
      refine fg_4_2 C kX4_wordSlot_4 mX4_wordSlot_18 hW dX4_wordSlot_13 ?_
      refine lv_iload_n C.1 C.2.1 dX4_wordSlot_16 rfl (lv_at hl 1 rfl) ?_
      obtain ⟨h3, hf⟩ := ckx_el hf
      refine al_4_2 C hW h3 dX4_wordSlot_17 ?_
      refine lv_goto (tgt := 22) C.1 C.2.1 dX4_wordSlot_18 (by decide) ?_
      exact mrI C hr hlocks rfl hf hW dX4_wordSlot_22
