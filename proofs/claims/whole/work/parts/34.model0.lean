theorem mX8_thrown_1 : Cond.fieldLink RX8 1 "SharedLambdaModel" "thrown" "I" ∈ wsX8_thrown := by decide +kernel
theorem kX8_thrown_8 : ∀ w ∈ u_ws RX8 TX8 58, w ∈ wsX8_thrown := fun _ h => List.mem_cons_of_mem _ (List.mem_append_right _ h)
def fX8_thrown (N : Nat) (S : St) : Option (Int32 × St) :=
  some (S.1 0, S)
set_option maxHeartbeats 4000000 in
set_option maxRecDepth 100000 in
theorem cX8_thrown_met (l : Launch) (D : va_G) (cy : Nat → ClassId) (a r : Nat → Nat) (sz N : Nat) (S : St) (Rr : Int32 × St) (hf : fX8_thrown N S  = some Rr) : Met l yX8_thrown wsX8_thrown ({ frames := 0, cells := 0, slots := 0, locals := 0 } : Room) (va_Pc [.ref (a 99)] (preW D cy (wM cy a r S) sz)) (QI D cy (wM cy a r) (va_A (wM cy a r S) sz) Rr) 0 0 (va_A (wM cy a r S) sz) := by
  refine Met.ofW (cc := cX8_thrown) (maxL := 1) (ret := (some .int)) (by decide) rfl ?_
  intro p e s m args below meth c s₁ B hml hv
  obtain ⟨rfl, rfl, hP, hK, hD0, hN⟩ := hv
  have hlocks := B.notSynchronized
  have hr := B.returns
  have C : Cx p s m _ c cX8_thrown 1 wsX8_thrown RX8 D cy := ⟨B.exec, B.bytes, hml, findClass_of_methodNamed B.named, atoms_spec (ws := wsX8_thrown) B.pre, hK, hN⟩
  have hW := ww_start (w := wM cy a r) hP hD0
  generalize va_A (wM cy a r S) s.heap.size = A at hW ⊢
  have hl := lv_entry ([.ref (a 99)]) (n := 1) (Nat.le_of_ble_eq_true rfl)
  rw [lg_entry_eq]
  generalize (lg_sl ([.ref (a 99)]) ++ List.replicate (1 - (lg_sl ([.ref (a 99)])).length) Slot.unset).toArray = ls at hl ⊢
  have hl : lv_has ls 1 [(0, .ref (a 99))] := hl
  unfold fX8_thrown at hf
  refine lv_aload_n C.1 C.2.1 dX8_thrown_0 rfl (lv_at hl 0 rfl) ?_
  refine fg_8_0 C kX8_thrown_8 mX8_thrown_1 hW dX8_thrown_1 ?_
  exact mrI C hr hlocks rfl hf hW dX8_thrown_4
theorem mX8_type_7 : Cond.fieldLink RX8 7 "SharedLambdaModel" "size" "I" ∈ wsX8_type := by decide +kernel
theorem mX8_type_10 : Cond.fieldLink RX8 10 "SharedLambdaModel" "tape" "[B" ∈ wsX8_type := by decide +kernel
theorem mX8_type_1 : Cond.fieldLink RX8 1 "SharedLambdaModel" "thrown" "I" ∈ wsX8_type := by decide +kernel
theorem kX8_type_8 : ∀ w ∈ u_ws RX8 TX8 58, w ∈ wsX8_type := fun _ h => List.mem_cons_of_mem _ (List.mem_append_right _ h)
def fX8_type_50s (N : Nat) (k50 : St × Int64 × Int32 → Option (Int32 × St)) (S : St) (x1 : Int64) (x4 : Int32) : Option (Int32 × St) :=
  if x4 < 0 then
    some (S.1 2, S)
  else
    ckx (S.1 2) 600 <|
    bnd (sA S 1 (upd (S.2.1 1) (S.1 2 : Int32).toNatClampNeg (vp_nar .byte ((((x1 >>> ((((8 : Int32) * x4)).toInt64 &&& 63)) : Int64).toInt32 : Int32).toInt8.toInt32)))) fun S3 =>
    bnd (sI S3 2 ((S3.1 2 + (1 : Int32)))) fun S4 =>
    bnd (x4 + (-1 : Int32)) fun z5 =>
    k50 (S4, x1, z5)
def fX8_type_50 (N : Nat) : St × Int64 × Int32 → Option (Int32 × St) := loopN (fun k x => fX8_type_50s N k x.1 x.2.1 x.2.2) N
set_option maxHeartbeats 4000000 in
set_option maxRecDepth 100000 in
theorem lX8_type_50 {p : Program} {l : Launch} {e : Env} {s : State} {m : MethodId} {args : Array Value} {below : List Frame} {meth : Method} {c : Code} {D : va_G} {cy : Nat → ClassId} {a r : Nat → Nat} {A : Nat → Prop} {Rr : Int32 × St} (C : Cx p s m args c cX8_type 5 wsX8_type RX8 D cy) (hr : meth.sig.returnType = some .int) (hlocks : meth.locks = false) (N : Nat) : ∀ (n : Nat) (S : St) (x1 : Int64) (x4 : Int32), loopN (fun k x => fX8_type_50s N k x.1 x.2.1 x.2.2) n (S, x1, x4) = some Rr → ∀ (H : Heap) (locs : List Loc) (ls : Array Slot), WW D A s.heap (wM cy a r S) H locs → lv_has ls 5 [(0, .ref (a 99)), (1, .long x1), (4, .int x4)] → W p l e ({ frames := 0, cells := 0, slots := 0, locals := 0 } : Room) s m args below meth c H locs 0 0 (MQ below (QI D cy (wM cy a r) A Rr) args s 0 0 A) (F0 m 50 ls []) := by
  intro n
  induction n with
  | zero =>
    intro S x1 x4 hf
    cases hf
  | succ n ih =>
    intro S x1 x4 hf H locs ls hW hl
    have hf : fX8_type_50s N (loopN (fun k x => fX8_type_50s N k x.1 x.2.1 x.2.2) n) S x1 x4 = some Rr := hf
    unfold fX8_type_50s at hf
    refine lv_iload C.1 C.2.1 dX8_type_50 (lv_at hl 2 rfl) ?_
    refine lv_if_lt (tgt := 89) C.1 C.2.1 dX8_type_52 (by decide) (fun q1 => ?_) (fun q1 => ?_)
    · replace hf := (if_pos q1).symm.trans hf
      refine lv_aload_n C.1 C.2.1 dX8_type_89 rfl (lv_at hl 0 rfl) ?_
      refine fg_8_2 C kX8_type_8 mX8_type_7 hW dX8_type_90 ?_
      exact mrI C hr hlocks rfl hf hW dX8_type_93
    · replace hf := (if_neg q1).symm.trans hf
      refine lv_aload_n C.1 C.2.1 dX8_type_55 rfl (lv_at hl 0 rfl) ?_
      refine fg_8_1 C kX8_type_8 mX8_type_10 hW dX8_type_56 ?_
      refine lv_aload_n C.1 C.2.1 dX8_type_59 rfl (lv_at hl 0 rfl) ?_
      refine fg_8_2 C kX8_type_8 mX8_type_7 hW dX8_type_60 ?_
      refine lv_lload_n C.1 C.2.1 dX8_type_63 rfl (lv_at hl 1 rfl) ?_
      refine lv_bipush (v := 8) C.1 C.2.1 dX8_type_64 (by decide) ?_
      refine lv_iload C.1 C.2.1 dX8_type_66 (lv_at hl 2 rfl) ?_
      refine lv_imul C.1 C.2.1 dX8_type_68 ?_
      refine lv_lshr C.1 C.2.1 dX8_type_69 rfl ?_
      refine lv_l2i C.1 C.2.1 dX8_type_70 rfl ?_
      refine lv_i2b C.1 C.2.1 dX8_type_71 rfl ?_
      obtain ⟨h2, hf⟩ := ckx_el hf
      obtain ⟨S3, eS3, hf⟩ := bnd_el hf
      refine as_8_1 C hW h2 dX8_type_72 eS3 (fun H locs hW => ?_)
      refine lv_aload_n C.1 C.2.1 dX8_type_73 rfl (lv_at hl 0 rfl) ?_
      refine lv_dup C.1 C.2.1 dX8_type_74 rfl ?_
      refine fg_8_2 C kX8_type_8 mX8_type_7 hW dX8_type_75 ?_
      refine lv_iconst (v := 1) C.1 C.2.1 dX8_type_78 (by decide) ?_
      refine lv_iadd C.1 C.2.1 dX8_type_79 ?_
      obtain ⟨S4, eS4, hf⟩ := bnd_el hf
      refine fp_8_2 C kX8_type_8 mX8_type_7 hW dX8_type_80 eS4 (fun H locs hW => ?_)
      obtain ⟨z5, ez5, hf⟩ := bnd_el hf
      refine lv_iinc (v := z5) (lv' := [(4, .int z5), (0, .ref (a 99)), (1, .long x1)]) C.1 C.2.1 dX8_type_83 hl (k := 2) rfl (by rw [ez5]; rfl) (by decide) rfl (fun ls hl => ?_)
      refine lv_goto (tgt := 50) C.1 C.2.1 dX8_type_86 (by decide) ?_
      exact ih _ _ _ hf _ _ _ hW (lv_sub hl [1, 2, 0] rfl)
def fX8_type_33 (N : Nat) (S : St) (x1 : Int64) (x3 : Int32) (y1 : Int32) : Option (Int32 × St) :=
  bnd (sI S 0 y1) fun S1 =>
  if S1.1 0 ≤ 0 then
    bnd ((x3 - (1 : Int32))) fun z3 =>
    fX8_type_50 N (S1, x1, z3)
  else
    some ((0 : Int32), S1)
set_option maxHeartbeats 4000000 in
set_option maxRecDepth 100000 in
theorem lX8_type_33 {p : Program} {l : Launch} {e : Env} {s : State} {m : MethodId} {args : Array Value} {below : List Frame} {meth : Method} {c : Code} {D : va_G} {cy : Nat → ClassId} {a r : Nat → Nat} {A : Nat → Prop} {Rr : Int32 × St} (C : Cx p s m args c cX8_type 5 wsX8_type RX8 D cy) (hr : meth.sig.returnType = some .int) (hlocks : meth.locks = false) (N : Nat) (S : St) (x1 : Int64) (x3 : Int32) (y1 : Int32) (hf : fX8_type_33 N S x1 x3 y1 = some Rr) : ∀ (H : Heap) (locs : List Loc) (ls : Array Slot), WW D A s.heap (wM cy a r S) H locs → lv_has ls 5 [(0, .ref (a 99)), (1, .long x1), (3, .int x3)] → W p l e ({ frames := 0, cells := 0, slots := 0, locals := 0 } : Room) s m args below meth c H locs 0 0 (MQ below (QI D cy (wM cy a r) A Rr) args s 0 0 A) (F0 m 33 ls [.int y1, .ref (a 99)]) := by
  intro H locs ls hW hl
  unfold fX8_type_33 at hf
  obtain ⟨S1, eS1, hf⟩ := bnd_el hf
  refine fp_8_0 C kX8_type_8 mX8_type_1 hW dX8_type_33 eS1 (fun H locs hW => ?_)
  refine lv_aload_n C.1 C.2.1 dX8_type_36 rfl (lv_at hl 0 rfl) ?_
  refine fg_8_0 C kX8_type_8 mX8_type_1 hW dX8_type_37 ?_
  refine lv_if_le (tgt := 45) C.1 C.2.1 dX8_type_40 (by decide) (fun q2 => ?_) (fun q2 => ?_)
  · replace hf := (if_pos q2).symm.trans hf
    refine lv_iload_n C.1 C.2.1 dX8_type_45 rfl (lv_at hl 2 rfl) ?_
    refine lv_iconst (v := 1) C.1 C.2.1 dX8_type_46 (by decide) ?_
    refine lv_isub C.1 C.2.1 dX8_type_47 ?_
    obtain ⟨z3, ez3, hf⟩ := bnd_el hf
    refine lv_as ez3 ?_
    refine lv_istore (lv' := [(4, .int z3), (0, .ref (a 99)), (1, .long x1), (3, .int x3)]) C.1 C.2.1 dX8_type_48 hl (by decide) rfl (fun ls hl => ?_)
    exact lX8_type_50 C hr hlocks N _ _ _ _ hf _ _ _ hW (lv_sub hl [1, 2, 0] rfl)
  · replace hf := (if_neg q2).symm.trans hf
    refine lv_iconst (v := 0) C.1 C.2.1 dX8_type_43 (by decide) ?_
    exact mrI C hr hlocks rfl hf hW dX8_type_44
def fX8_type_12 (N : Nat) (S : St) (x1 : Int64) (x3 : Int32) : Option (Int32 × St) :=
  fX8_type_33 N S x1 x3 (1 : Int32)
set_option maxHeartbeats 4000000 in
set_option maxRecDepth 100000 in
theorem lX8_type_12 {p : Program} {l : Launch} {e : Env} {s : State} {m : MethodId} {args : Array Value} {below : List Frame} {meth : Method} {c : Code} {D : va_G} {cy : Nat → ClassId} {a r : Nat → Nat} {A : Nat → Prop} {Rr : Int32 × St} (C : Cx p s m args c cX8_type 5 wsX8_type RX8 D cy) (hr : meth.sig.returnType = some .int) (hlocks : meth.locks = false) (N : Nat) (S : St) (x1 : Int64) (x3 : Int32) (hf : fX8_type_12 N S x1 x3 = some Rr) : ∀ (H : Heap) (locs : List Loc) (ls : Array Slot), WW D A s.heap (wM cy a r S) H locs → lv_has ls 5 [(0, .ref (a 99)), (1, .long x1), (3, .int x3)] → W p l e ({ frames := 0, cells := 0, slots := 0, locals := 0 } : Room) s m args below meth c H locs 0 0 (MQ below (QI D cy (wM cy a r) A Rr) args s 0 0 A) (F0 m 12 ls [.ref (a 99)]) := by
  intro H locs ls hW hl
  unfold fX8_type_12 at hf
  refine lv_iconst (v := 1) C.1 C.2.1 dX8_type_12 (by decide) ?_
  refine lv_goto (tgt := 33) C.1 C.2.1 dX8_type_13 (by decide) ?_
  exact lX8_type_33 C hr hlocks N _ _ _ _ hf _ _ _ hW (lv_sub hl [0, 1, 2] rfl)
def fX8_type (N : Nat) (S : St) (p1 : Int64) (p3 : Int32) : Option (Int32 × St) :=
  if p3 < (1 : Int32) then
    fX8_type_12 N S p1 p3
  else
    if p3 ≤ (8 : Int32) then
      if (S.1 2 + p3) ≤ (600 : Int32) then
        fX8_type_33 N S p1 p3 (0 : Int32)
      else
        fX8_type_33 N S p1 p3 (2 : Int32)
    else
      fX8_type_12 N S p1 p3
set_option maxHeartbeats 4000000 in
set_option maxRecDepth 100000 in
theorem cX8_type_met (l : Launch) (D : va_G) (cy : Nat → ClassId) (a r : Nat → Nat) (sz N : Nat) (S : St) (p1 : Int64) (p3 : Int32) (Rr : Int32 × St) (hf : fX8_type N S p1 p3 = some Rr) : Met l yX8_type wsX8_type ({ frames := 0, cells := 0, slots := 0, locals := 0 } : Room) (va_Pc [.ref (a 99), .long p1, .int p3] (preW D cy (wM cy a r S) sz)) (QI D cy (wM cy a r) (va_A (wM cy a r S) sz) Rr) 0 0 (va_A (wM cy a r S) sz) := by
  refine Met.ofW (cc := cX8_type) (maxL := 5) (ret := (some .int)) (by decide) rfl ?_
  intro p e s m args below meth c s₁ B hml hv
  obtain ⟨rfl, rfl, hP, hK, hD0, hN⟩ := hv
  have hlocks := B.notSynchronized
  have hr := B.returns
  have C : Cx p s m _ c cX8_type 5 wsX8_type RX8 D cy := ⟨B.exec, B.bytes, hml, findClass_of_methodNamed B.named, atoms_spec (ws := wsX8_type) B.pre, hK, hN⟩
  have hW := ww_start (w := wM cy a r) hP hD0
  generalize va_A (wM cy a r S) s.heap.size = A at hW ⊢
  have hl := lv_entry ([.ref (a 99), .long p1, .int p3]) (n := 5) (Nat.le_of_ble_eq_true rfl)
  rw [lg_entry_eq]
  generalize (lg_sl ([.ref (a 99), .long p1, .int p3]) ++ List.replicate (5 - (lg_sl ([.ref (a 99), .long p1, .int p3])).length) Slot.unset).toArray = ls at hl ⊢
  have hl : lv_has ls 5 [(0, .ref (a 99)), (1, .long p1), (3, .int p3)] := hl
  unfold fX8_type at hf
  refine lv_aload_n C.1 C.2.1 dX8_type_0 rfl (lv_at hl 0 rfl) ?_
  refine lv_iload_n C.1 C.2.1 dX8_type_1 rfl (lv_at hl 2 rfl) ?_
  refine lv_iconst (v := 1) C.1 C.2.1 dX8_type_2 (by decide) ?_
  refine lv_icmp_lt (tgt := 12) C.1 C.2.1 dX8_type_3 (by decide) (fun q1 => ?_) (fun q1 => ?_)
  · replace hf := (if_pos q1).symm.trans hf
    exact lX8_type_12 C hr hlocks N _ _ _ hf _ _ _ hW (lv_sub hl [0, 1, 2] rfl)
  · replace hf := (if_neg q1).symm.trans hf
    refine lv_iload_n C.1 C.2.1 dX8_type_6 rfl (lv_at hl 2 rfl) ?_
    refine lv_bipush (v := 8) C.1 C.2.1 dX8_type_7 (by decide) ?_
    refine lv_icmp_le (tgt := 16) C.1 C.2.1 dX8_type_9 (by decide) (fun q2 => ?_) (fun q2 => ?_)
    · replace hf := (if_pos q2).symm.trans hf
      refine lv_aload_n C.1 C.2.1 dX8_type_16 rfl (lv_at hl 0 rfl) ?_
      refine fg_8_2 C kX8_type_8 mX8_type_7 hW dX8_type_17 ?_
      refine lv_iload_n C.1 C.2.1 dX8_type_20 rfl (lv_at hl 2 rfl) ?_
      refine lv_iadd C.1 C.2.1 dX8_type_21 ?_
      refine lv_sipush (v := 600) C.1 C.2.1 dX8_type_22 (by decide) ?_
      refine lv_icmp_le (tgt := 32) C.1 C.2.1 dX8_type_25 (by decide) (fun q3 => ?_) (fun q3 => ?_)
      · replace hf := (if_pos q3).symm.trans hf
        refine lv_iconst (v := 0) C.1 C.2.1 dX8_type_32 (by decide) ?_
        exact lX8_type_33 C hr hlocks N _ _ _ _ hf _ _ _ hW (lv_sub hl [0, 1, 2] rfl)
      · replace hf := (if_neg q3).symm.trans hf
        refine lv_iconst (v := 2) C.1 C.2.1 dX8_type_28 (by decide) ?_
        refine lv_goto (tgt := 33) C.1 C.2.1 dX8_type_29 (by decide) ?_
        exact lX8_type_33 C hr hlocks N _ _ _ _ hf _ _ _ hW (lv_sub hl [0, 1, 2] rfl)
    · replace hf := (if_neg q2).symm.trans hf
      exact lX8_type_12 C hr hlocks N _ _ _ hf _ _ _ hW (lv_sub hl [0, 1, 2] rfl)
theorem mX8_keep_1 : Cond.fieldLink RX8 1 "SharedLambdaModel" "thrown" "I" ∈ wsX8_keep := by decide +kernel
theorem mX8_keep_7 : Cond.fieldLink RX8 7 "SharedLambdaModel" "size" "I" ∈ wsX8_keep := by decide +kernel
theorem kX8_keep_8 : ∀ w ∈ u_ws RX8 TX8 58, w ∈ wsX8_keep := fun _ h => List.mem_cons_of_mem _ (List.mem_append_right _ h)
def fX8_keep_18 (N : Nat) (S : St) (x1 : Int32) (y1 : Int32) : Option (St) :=
  bnd (sI S 0 y1) fun S1 =>
  if S1.1 0 ≤ 0 then
    bnd (sI S1 2 x1) fun S3 =>
    some S3
  else
    bnd (sI S1 2 (S1.1 2)) fun S4 =>
    some S4
set_option maxHeartbeats 4000000 in
set_option maxRecDepth 100000 in
theorem lX8_keep_18 {p : Program} {l : Launch} {e : Env} {s : State} {m : MethodId} {args : Array Value} {below : List Frame} {meth : Method} {c : Code} {D : va_G} {cy : Nat → ClassId} {a r : Nat → Nat} {A : Nat → Prop} {Rr : St} (C : Cx p s m args c cX8_keep 2 wsX8_keep RX8 D cy) (hr : meth.sig.returnType = none) (hlocks : meth.locks = false) (N : Nat) (S : St) (x1 : Int32) (y1 : Int32) (hf : fX8_keep_18 N S x1 y1 = some Rr) : ∀ (H : Heap) (locs : List Loc) (ls : Array Slot), WW D A s.heap (wM cy a r S) H locs → lv_has ls 2 [(0, .ref (a 99)), (1, .int x1)] → W p l e ({ frames := 0, cells := 0, slots := 0, locals := 0 } : Room) s m args below meth c H locs 0 0 (MQ below (QV D cy (wM cy a r) A Rr) args s 0 0 A) (F0 m 18 ls [.int y1, .ref (a 99)]) := by
  intro H locs ls hW hl
  unfold fX8_keep_18 at hf
  obtain ⟨S1, eS1, hf⟩ := bnd_el hf
  refine fp_8_0 C kX8_keep_8 mX8_keep_1 hW dX8_keep_18 eS1 (fun H locs hW => ?_)
  refine lv_aload_n C.1 C.2.1 dX8_keep_21 rfl (lv_at hl 0 rfl) ?_
  refine lv_aload_n C.1 C.2.1 dX8_keep_22 rfl (lv_at hl 0 rfl) ?_
  refine fg_8_0 C kX8_keep_8 mX8_keep_1 hW dX8_keep_23 ?_
  refine lv_if_le (tgt := 36) C.1 C.2.1 dX8_keep_26 (by decide) (fun q2 => ?_) (fun q2 => ?_)
  · replace hf := (if_pos q2).symm.trans hf
    refine lv_iload_n C.1 C.2.1 dX8_keep_36 rfl (lv_at hl 1 rfl) ?_
    obtain ⟨S3, eS3, hf⟩ := bnd_el hf
    refine fp_8_2 C kX8_keep_8 mX8_keep_7 hW dX8_keep_37 eS3 (fun H locs hW => ?_)
    exact mrV C hr hlocks hf hW dX8_keep_40
  · replace hf := (if_neg q2).symm.trans hf
    refine lv_aload_n C.1 C.2.1 dX8_keep_29 rfl (lv_at hl 0 rfl) ?_
    refine fg_8_2 C kX8_keep_8 mX8_keep_7 hW dX8_keep_30 ?_
    refine lv_goto (tgt := 37) C.1 C.2.1 dX8_keep_33 (by decide) ?_
    obtain ⟨S4, eS4, hf⟩ := bnd_el hf
    refine fp_8_2 C kX8_keep_8 mX8_keep_7 hW dX8_keep_37 eS4 (fun H locs hW => ?_)
    exact mrV C hr hlocks hf hW dX8_keep_40
def fX8_keep_13 (N : Nat) (S : St) (x1 : Int32) : Option (St) :=
  fX8_keep_18 N S x1 (1 : Int32)
set_option maxHeartbeats 4000000 in
set_option maxRecDepth 100000 in
theorem lX8_keep_13 {p : Program} {l : Launch} {e : Env} {s : State} {m : MethodId} {args : Array Value} {below : List Frame} {meth : Method} {c : Code} {D : va_G} {cy : Nat → ClassId} {a r : Nat → Nat} {A : Nat → Prop} {Rr : St} (C : Cx p s m args c cX8_keep 2 wsX8_keep RX8 D cy) (hr : meth.sig.returnType = none) (hlocks : meth.locks = false) (N : Nat) (S : St) (x1 : Int32) (hf : fX8_keep_13 N S x1 = some Rr) : ∀ (H : Heap) (locs : List Loc) (ls : Array Slot), WW D A s.heap (wM cy a r S) H locs → lv_has ls 2 [(0, .ref (a 99)), (1, .int x1)] → W p l e ({ frames := 0, cells := 0, slots := 0, locals := 0 } : Room) s m args below meth c H locs 0 0 (MQ below (QV D cy (wM cy a r) A Rr) args s 0 0 A) (F0 m 13 ls [.ref (a 99)]) := by
  intro H locs ls hW hl
  unfold fX8_keep_13 at hf
  refine lv_iconst (v := 1) C.1 C.2.1 dX8_keep_13 (by decide) ?_
  refine lv_goto (tgt := 18) C.1 C.2.1 dX8_keep_14 (by decide) ?_
  exact lX8_keep_18 C hr hlocks N _ _ _ hf _ _ _ hW (lv_sub hl [0, 1] rfl)
def fX8_keep (N : Nat) (S : St) (p1 : Int32) : Option (St) :=
  if p1 < 0 then
    fX8_keep_13 N S p1
  else
    if p1 ≤ S.1 2 then
      fX8_keep_18 N S p1 (0 : Int32)
    else
      fX8_keep_13 N S p1
set_option maxHeartbeats 4000000 in
set_option maxRecDepth 100000 in
theorem cX8_keep_met (l : Launch) (D : va_G) (cy : Nat → ClassId) (a r : Nat → Nat) (sz N : Nat) (S : St) (p1 : Int32) (Rr : St) (hf : fX8_keep N S p1 = some Rr) : Met l yX8_keep wsX8_keep ({ frames := 0, cells := 0, slots := 0, locals := 0 } : Room) (va_Pc [.ref (a 99), .int p1] (preW D cy (wM cy a r S) sz)) (QV D cy (wM cy a r) (va_A (wM cy a r S) sz) Rr) 0 0 (va_A (wM cy a r S) sz) := by
  refine Met.ofW (cc := cX8_keep) (maxL := 2) (ret := none) (by decide) rfl ?_
  intro p e s m args below meth c s₁ B hml hv
  obtain ⟨rfl, rfl, hP, hK, hD0, hN⟩ := hv
  have hlocks := B.notSynchronized
  have hr := B.returns
  have C : Cx p s m _ c cX8_keep 2 wsX8_keep RX8 D cy := ⟨B.exec, B.bytes, hml, findClass_of_methodNamed B.named, atoms_spec (ws := wsX8_keep) B.pre, hK, hN⟩
  have hW := ww_start (w := wM cy a r) hP hD0
  generalize va_A (wM cy a r S) s.heap.size = A at hW ⊢
  have hl := lv_entry ([.ref (a 99), .int p1]) (n := 2) (Nat.le_of_ble_eq_true rfl)
  rw [lg_entry_eq]
  generalize (lg_sl ([.ref (a 99), .int p1]) ++ List.replicate (2 - (lg_sl ([.ref (a 99), .int p1])).length) Slot.unset).toArray = ls at hl ⊢
  have hl : lv_has ls 2 [(0, .ref (a 99)), (1, .int p1)] := hl
  unfold fX8_keep at hf
  refine lv_aload_n C.1 C.2.1 dX8_keep_0 rfl (lv_at hl 0 rfl) ?_
  refine lv_iload_n C.1 C.2.1 dX8_keep_1 rfl (lv_at hl 1 rfl) ?_
  refine lv_if_lt (tgt := 13) C.1 C.2.1 dX8_keep_2 (by decide) (fun q1 => ?_) (fun q1 => ?_)
  · replace hf := (if_pos q1).symm.trans hf
    exact lX8_keep_13 C hr hlocks N _ _ hf _ _ _ hW (lv_sub hl [0, 1] rfl)
  · replace hf := (if_neg q1).symm.trans hf
    refine lv_iload_n C.1 C.2.1 dX8_keep_5 rfl (lv_at hl 1 rfl) ?_
    refine lv_aload_n C.1 C.2.1 dX8_keep_6 rfl (lv_at hl 0 rfl) ?_
    refine fg_8_2 C kX8_keep_8 mX8_keep_7 hW dX8_keep_7 ?_
    refine lv_icmp_le (tgt := 17) C.1 C.2.1 dX8_keep_10 (by decide) (fun q2 => ?_) (fun q2 => ?_)
    · replace hf := (if_pos q2).symm.trans hf
      refine lv_iconst (v := 0) C.1 C.2.1 dX8_keep_17 (by decide) ?_
      exact lX8_keep_18 C hr hlocks N _ _ _ hf _ _ _ hW (lv_sub hl [0, 1] rfl)
    · replace hf := (if_neg q2).symm.trans hf
      exact lX8_keep_13 C hr hlocks N _ _ hf _ _ _ hW (lv_sub hl [0, 1] rfl)
theorem mX8_look_14 : Cond.fieldLink RX8 14 "SharedLambdaModel" "at" "I" ∈ wsX8_look := by decide +kernel
theorem mX8_look_7 : Cond.fieldLink RX8 7 "SharedLambdaModel" "size" "I" ∈ wsX8_look := by decide +kernel
theorem mX8_look_10 : Cond.fieldLink RX8 10 "SharedLambdaModel" "tape" "[B" ∈ wsX8_look := by decide +kernel
theorem kX8_look_8 : ∀ w ∈ u_ws RX8 TX8 58, w ∈ wsX8_look := fun _ h => List.mem_cons_of_mem _ (List.mem_append_right _ h)
def fX8_look_80 (N : Nat) (S : St) : Option (Int32 × St) :=
  if S.1 2 ≤ S.1 7 then
    some ((-1 : Int32), S)
  else
    ckx (S.1 7) 600 <|
    some ((S.2.1 1 (S.1 7 : Int32).toNatClampNeg &&& (255 : Int32)), S)
set_option maxHeartbeats 4000000 in
set_option maxRecDepth 100000 in
theorem lX8_look_80 {p : Program} {l : Launch} {e : Env} {s : State} {m : MethodId} {args : Array Value} {below : List Frame} {meth : Method} {c : Code} {D : va_G} {cy : Nat → ClassId} {a r : Nat → Nat} {A : Nat → Prop} {Rr : Int32 × St} (C : Cx p s m args c cX8_look 1 wsX8_look RX8 D cy) (hr : meth.sig.returnType = some .int) (hlocks : meth.locks = false) (N : Nat) (S : St) (hf : fX8_look_80 N S = some Rr) : ∀ (H : Heap) (locs : List Loc) (ls : Array Slot), WW D A s.heap (wM cy a r S) H locs → lv_has ls 1 [(0, .ref (a 99))] → W p l e ({ frames := 0, cells := 0, slots := 0, locals := 0 } : Room) s m args below meth c H locs 0 0 (MQ below (QI D cy (wM cy a r) A Rr) args s 0 0 A) (F0 m 80 ls []) := by
  intro H locs ls hW hl
  unfold fX8_look_80 at hf
  refine lv_aload_n C.1 C.2.1 dX8_look_80 rfl (lv_at hl 0 rfl) ?_
  refine fg_8_7 C kX8_look_8 mX8_look_14 hW dX8_look_81 ?_
  refine lv_aload_n C.1 C.2.1 dX8_look_84 rfl (lv_at hl 0 rfl) ?_
  refine fg_8_2 C kX8_look_8 mX8_look_7 hW dX8_look_85 ?_
  refine lv_icmp_ge (tgt := 107) C.1 C.2.1 dX8_look_88 (by decide) (fun q1 => ?_) (fun q1 => ?_)
  · replace hf := (if_pos q1).symm.trans hf
    refine lv_iconst (v := -1) C.1 C.2.1 dX8_look_107 (by decide) ?_
    exact mrI C hr hlocks rfl hf hW dX8_look_108
  · replace hf := (if_neg q1).symm.trans hf
    refine lv_aload_n C.1 C.2.1 dX8_look_91 rfl (lv_at hl 0 rfl) ?_
    refine fg_8_1 C kX8_look_8 mX8_look_10 hW dX8_look_92 ?_
    refine lv_aload_n C.1 C.2.1 dX8_look_95 rfl (lv_at hl 0 rfl) ?_
    refine fg_8_7 C kX8_look_8 mX8_look_14 hW dX8_look_96 ?_
    obtain ⟨h2, hf⟩ := ckx_el hf
    refine al_8_1 C hW h2 dX8_look_99 ?_
    refine lv_sipush (v := 255) C.1 C.2.1 dX8_look_100 (by decide) ?_
    refine lv_iand C.1 C.2.1 dX8_look_103 ?_
    refine lv_goto (tgt := 108) C.1 C.2.1 dX8_look_104 (by decide) ?_
    exact mrI C hr hlocks rfl hf hW dX8_look_108
def fX8_look_67 (N : Nat) (k0 : St → Option (Int32 × St)) (S : St) : Option (Int32 × St) :=
  bnd (sI S 7 ((S.1 7 + (1 : Int32)))) fun S1 =>
  k0 (S1)
set_option maxHeartbeats 4000000 in
set_option maxRecDepth 100000 in
theorem lX8_look_67 {p : Program} {l : Launch} {e : Env} {s : State} {m : MethodId} {args : Array Value} {below : List Frame} {meth : Method} {c : Code} {D : va_G} {cy : Nat → ClassId} {a r : Nat → Nat} {A : Nat → Prop} {Rr : Int32 × St} (C : Cx p s m args c cX8_look 1 wsX8_look RX8 D cy) (hr : meth.sig.returnType = some .int) (hlocks : meth.locks = false) (N : Nat) (k0 : St → Option (Int32 × St)) (hk0 : ∀ (S : St), k0 (S) = some Rr → ∀ (H : Heap) (locs : List Loc) (ls : Array Slot), WW D A s.heap (wM cy a r S) H locs → lv_has ls 1 [(0, .ref (a 99))] → W p l e ({ frames := 0, cells := 0, slots := 0, locals := 0 } : Room) s m args below meth c H locs 0 0 (MQ below (QI D cy (wM cy a r) A Rr) args s 0 0 A) (F0 m 0 ls [])) (S : St) (hf : fX8_look_67 N k0 S = some Rr) : ∀ (H : Heap) (locs : List Loc) (ls : Array Slot), WW D A s.heap (wM cy a r S) H locs → lv_has ls 1 [(0, .ref (a 99))] → W p l e ({ frames := 0, cells := 0, slots := 0, locals := 0 } : Room) s m args below meth c H locs 0 0 (MQ below (QI D cy (wM cy a r) A Rr) args s 0 0 A) (F0 m 67 ls []) := by
  intro H locs ls hW hl
  unfold fX8_look_67 at hf
  refine lv_aload_n C.1 C.2.1 dX8_look_67 rfl (lv_at hl 0 rfl) ?_
  refine lv_dup C.1 C.2.1 dX8_look_68 rfl ?_
  refine fg_8_7 C kX8_look_8 mX8_look_14 hW dX8_look_69 ?_
  refine lv_iconst (v := 1) C.1 C.2.1 dX8_look_72 (by decide) ?_
  refine lv_iadd C.1 C.2.1 dX8_look_73 ?_
  obtain ⟨S1, eS1, hf⟩ := bnd_el hf
  refine fp_8_7 C kX8_look_8 mX8_look_14 hW dX8_look_74 eS1 (fun H locs hW => ?_)
  refine lv_goto (tgt := 0) C.1 C.2.1 dX8_look_77 (by decide) ?_
  exact hk0 _ hf _ _ _ hW (lv_sub hl [0] rfl)
def fX8_look_0s (N : Nat) (k0 : St → Option (Int32 × St)) (S : St) : Option (Int32 × St) :=
  if S.1 2 ≤ S.1 7 then
    fX8_look_80 N S
  else
    ckx (S.1 7) 600 <|
    if S.2.1 1 (S.1 7 : Int32).toNatClampNeg = (9 : Int32) then
      fX8_look_67 N k0 S
    else
      ckx (S.1 7) 600 <|
      if S.2.1 1 (S.1 7 : Int32).toNatClampNeg = (10 : Int32) then
        fX8_look_67 N k0 S
      else
        ckx (S.1 7) 600 <|
        if S.2.1 1 (S.1 7 : Int32).toNatClampNeg = (13 : Int32) then
          fX8_look_67 N k0 S
        else
          ckx (S.1 7) 600 <|
          if S.2.1 1 (S.1 7 : Int32).toNatClampNeg = (32 : Int32) then
            fX8_look_67 N k0 S
          else
            fX8_look_80 N S
def fX8_look_0 (N : Nat) : St → Option (Int32 × St) := loopN (fun k x => fX8_look_0s N k x) N
set_option maxHeartbeats 4000000 in
set_option maxRecDepth 100000 in
theorem lX8_look_0 {p : Program} {l : Launch} {e : Env} {s : State} {m : MethodId} {args : Array Value} {below : List Frame} {meth : Method} {c : Code} {D : va_G} {cy : Nat → ClassId} {a r : Nat → Nat} {A : Nat → Prop} {Rr : Int32 × St} (C : Cx p s m args c cX8_look 1 wsX8_look RX8 D cy) (hr : meth.sig.returnType = some .int) (hlocks : meth.locks = false) (N : Nat) : ∀ (n : Nat) (S : St), loopN (fun k x => fX8_look_0s N k x) n (S) = some Rr → ∀ (H : Heap) (locs : List Loc) (ls : Array Slot), WW D A s.heap (wM cy a r S) H locs → lv_has ls 1 [(0, .ref (a 99))] → W p l e ({ frames := 0, cells := 0, slots := 0, locals := 0 } : Room) s m args below meth c H locs 0 0 (MQ below (QI D cy (wM cy a r) A Rr) args s 0 0 A) (F0 m 0 ls []) := by
  intro n
  induction n with
  | zero =>
    intro S hf
    cases hf
  | succ n ih =>
    intro S hf H locs ls hW hl
    have hf : fX8_look_0s N (loopN (fun k x => fX8_look_0s N k x) n) S = some Rr := hf
    unfold fX8_look_0s at hf
    refine lv_aload_n C.1 C.2.1 dX8_look_0 rfl (lv_at hl 0 rfl) ?_
    refine fg_8_7 C kX8_look_8 mX8_look_14 hW dX8_look_1 ?_
    refine lv_aload_n C.1 C.2.1 dX8_look_4 rfl (lv_at hl 0 rfl) ?_
    refine fg_8_2 C kX8_look_8 mX8_look_7 hW dX8_look_5 ?_
    refine lv_icmp_ge (tgt := 80) C.1 C.2.1 dX8_look_8 (by decide) (fun q1 => ?_) (fun q1 => ?_)
    · replace hf := (if_pos q1).symm.trans hf
      exact lX8_look_80 C hr hlocks N _ hf _ _ _ hW (lv_sub hl [0] rfl)
    · replace hf := (if_neg q1).symm.trans hf
      refine lv_aload_n C.1 C.2.1 dX8_look_11 rfl (lv_at hl 0 rfl) ?_
      refine fg_8_1 C kX8_look_8 mX8_look_10 hW dX8_look_12 ?_
      refine lv_aload_n C.1 C.2.1 dX8_look_15 rfl (lv_at hl 0 rfl) ?_
      refine fg_8_7 C kX8_look_8 mX8_look_14 hW dX8_look_16 ?_
      obtain ⟨h2, hf⟩ := ckx_el hf
      refine al_8_1 C hW h2 dX8_look_19 ?_
      refine lv_bipush (v := 9) C.1 C.2.1 dX8_look_20 (by decide) ?_
      refine lv_icmp_eq (tgt := 67) C.1 C.2.1 dX8_look_22 (by decide) (fun q3 => ?_) (fun q3 => ?_)
      · replace hf := (if_pos q3).symm.trans hf
        exact lX8_look_67 C hr hlocks N _ ih _ hf _ _ _ hW (lv_sub hl [0] rfl)
      · replace hf := (if_neg q3).symm.trans hf
        refine lv_aload_n C.1 C.2.1 dX8_look_25 rfl (lv_at hl 0 rfl) ?_
        refine fg_8_1 C kX8_look_8 mX8_look_10 hW dX8_look_26 ?_
        refine lv_aload_n C.1 C.2.1 dX8_look_29 rfl (lv_at hl 0 rfl) ?_
        refine fg_8_7 C kX8_look_8 mX8_look_14 hW dX8_look_30 ?_
        obtain ⟨h4, hf⟩ := ckx_el hf
        refine al_8_1 C hW h4 dX8_look_33 ?_
        refine lv_bipush (v := 10) C.1 C.2.1 dX8_look_34 (by decide) ?_
        refine lv_icmp_eq (tgt := 67) C.1 C.2.1 dX8_look_36 (by decide) (fun q5 => ?_) (fun q5 => ?_)
        · replace hf := (if_pos q5).symm.trans hf
          exact lX8_look_67 C hr hlocks N _ ih _ hf _ _ _ hW (lv_sub hl [0] rfl)
        · replace hf := (if_neg q5).symm.trans hf
          refine lv_aload_n C.1 C.2.1 dX8_look_39 rfl (lv_at hl 0 rfl) ?_
          refine fg_8_1 C kX8_look_8 mX8_look_10 hW dX8_look_40 ?_
          refine lv_aload_n C.1 C.2.1 dX8_look_43 rfl (lv_at hl 0 rfl) ?_
          refine fg_8_7 C kX8_look_8 mX8_look_14 hW dX8_look_44 ?_
          obtain ⟨h6, hf⟩ := ckx_el hf
          refine al_8_1 C hW h6 dX8_look_47 ?_
          refine lv_bipush (v := 13) C.1 C.2.1 dX8_look_48 (by decide) ?_
          refine lv_icmp_eq (tgt := 67) C.1 C.2.1 dX8_look_50 (by decide) (fun q7 => ?_) (fun q7 => ?_)
          · replace hf := (if_pos q7).symm.trans hf
            exact lX8_look_67 C hr hlocks N _ ih _ hf _ _ _ hW (lv_sub hl [0] rfl)
          · replace hf := (if_neg q7).symm.trans hf
            refine lv_aload_n C.1 C.2.1 dX8_look_53 rfl (lv_at hl 0 rfl) ?_
            refine fg_8_1 C kX8_look_8 mX8_look_10 hW dX8_look_54 ?_
            refine lv_aload_n C.1 C.2.1 dX8_look_57 rfl (lv_at hl 0 rfl) ?_
            refine fg_8_7 C kX8_look_8 mX8_look_14 hW dX8_look_58 ?_
            obtain ⟨h8, hf⟩ := ckx_el hf
            refine al_8_1 C hW h8 dX8_look_61 ?_
            refine lv_bipush (v := 32) C.1 C.2.1 dX8_look_62 (by decide) ?_
            refine lv_icmp_ne (tgt := 80) C.1 C.2.1 dX8_look_64 (by decide) (fun q9 => ?_) (fun q9 => ?_)
            · replace hf := (if_neg q9).symm.trans hf
              exact lX8_look_80 C hr hlocks N _ hf _ _ _ hW (lv_sub hl [0] rfl)
            · replace hf := (if_pos q9).symm.trans hf
              exact lX8_look_67 C hr hlocks N _ ih _ hf _ _ _ hW (lv_sub hl [0] rfl)
def fX8_look (N : Nat) (S : St) : Option (Int32 × St) :=
  fX8_look_0 N (S)
set_option maxHeartbeats 4000000 in
set_option maxRecDepth 100000 in
theorem cX8_look_met (l : Launch) (D : va_G) (cy : Nat → ClassId) (a r : Nat → Nat) (sz N : Nat) (S : St) (Rr : Int32 × St) (hf : fX8_look N S  = some Rr) : Met l yX8_look wsX8_look ({ frames := 0, cells := 0, slots := 0, locals := 0 } : Room) (va_Pc [.ref (a 99)] (preW D cy (wM cy a r S) sz)) (QI D cy (wM cy a r) (va_A (wM cy a r S) sz) Rr) 0 0 (va_A (wM cy a r S) sz) := by
  refine Met.ofW (cc := cX8_look) (maxL := 1) (ret := (some .int)) (by decide) rfl ?_
  intro p e s m args below meth c s₁ B hml hv
  obtain ⟨rfl, rfl, hP, hK, hD0, hN⟩ := hv
  have hlocks := B.notSynchronized
  have hr := B.returns
  have C : Cx p s m _ c cX8_look 1 wsX8_look RX8 D cy := ⟨B.exec, B.bytes, hml, findClass_of_methodNamed B.named, atoms_spec (ws := wsX8_look) B.pre, hK, hN⟩
  have hW := ww_start (w := wM cy a r) hP hD0
  generalize va_A (wM cy a r S) s.heap.size = A at hW ⊢
  have hl := lv_entry ([.ref (a 99)]) (n := 1) (Nat.le_of_ble_eq_true rfl)
  rw [lg_entry_eq]
  generalize (lg_sl ([.ref (a 99)]) ++ List.replicate (1 - (lg_sl ([.ref (a 99)])).length) Slot.unset).toArray = ls at hl ⊢
  have hl : lv_has ls 1 [(0, .ref (a 99))] := hl
  unfold fX8_look at hf
  exact lX8_look_0 C hr hlocks N _ _ hf _ _ _ hW (lv_sub hl [0] rfl)
theorem mX8_bad_17 : Cond.fieldLink RX8 17 "SharedLambdaModel" "fault" "I" ∈ wsX8_bad := by decide +kernel
theorem mX8_bad_14 : Cond.fieldLink RX8 14 "SharedLambdaModel" "at" "I" ∈ wsX8_bad := by decide +kernel
theorem kX8_bad_8 : ∀ w ∈ u_ws RX8 TX8 58, w ∈ wsX8_bad := fun _ h => List.mem_cons_of_mem _ (List.mem_append_right _ h)
def fX8_bad (N : Nat) (S : St) (p1 : Int32) (p2 : Int32) : Option (St) :=
  if S.1 8 = 0 then
    bnd (sI S 8 p1) fun S2 =>
    bnd (sI S2 7 p2) fun S3 =>
    some S3
  else
    some S
set_option maxHeartbeats 4000000 in
set_option maxRecDepth 100000 in
theorem cX8_bad_met (l : Launch) (D : va_G) (cy : Nat → ClassId) (a r : Nat → Nat) (sz N : Nat) (S : St) (p1 : Int32) (p2 : Int32) (Rr : St) (hf : fX8_bad N S p1 p2 = some Rr) : Met l yX8_bad wsX8_bad ({ frames := 0, cells := 0, slots := 0, locals := 0 } : Room) (va_Pc [.ref (a 99), .int p1, .int p2] (preW D cy (wM cy a r S) sz)) (QV D cy (wM cy a r) (va_A (wM cy a r S) sz) Rr) 0 0 (va_A (wM cy a r S) sz) := by
  refine Met.ofW (cc := cX8_bad) (maxL := 3) (ret := none) (by decide) rfl ?_
  intro p e s m args below meth c s₁ B hml hv
  obtain ⟨rfl, rfl, hP, hK, hD0, hN⟩ := hv
  have hlocks := B.notSynchronized
  have hr := B.returns
  have C : Cx p s m _ c cX8_bad 3 wsX8_bad RX8 D cy := ⟨B.exec, B.bytes, hml, findClass_of_methodNamed B.named, atoms_spec (ws := wsX8_bad) B.pre, hK, hN⟩
  have hW := ww_start (w := wM cy a r) hP hD0
  generalize va_A (wM cy a r S) s.heap.size = A at hW ⊢
  have hl := lv_entry ([.ref (a 99), .int p1, .int p2]) (n := 3) (Nat.le_of_ble_eq_true rfl)
  rw [lg_entry_eq]
  generalize (lg_sl ([.ref (a 99), .int p1, .int p2]) ++ List.replicate (3 - (lg_sl ([.ref (a 99), .int p1, .int p2])).length) Slot.unset).toArray = ls at hl ⊢
  have hl : lv_has ls 3 [(0, .ref (a 99)), (1, .int p1), (2, .int p2)] := hl
  unfold fX8_bad at hf
  refine lv_aload_n C.1 C.2.1 dX8_bad_0 rfl (lv_at hl 0 rfl) ?_
  refine fg_8_8 C kX8_bad_8 mX8_bad_17 hW dX8_bad_1 ?_
  refine lv_if_ne (tgt := 17) C.1 C.2.1 dX8_bad_4 (by decide) (fun q1 => ?_) (fun q1 => ?_)
  · replace hf := (if_neg q1).symm.trans hf
    exact mrV C hr hlocks hf hW dX8_bad_17
  · replace hf := (if_pos q1).symm.trans hf
    refine lv_aload_n C.1 C.2.1 dX8_bad_7 rfl (lv_at hl 0 rfl) ?_
    refine lv_iload_n C.1 C.2.1 dX8_bad_8 rfl (lv_at hl 1 rfl) ?_
    obtain ⟨S2, eS2, hf⟩ := bnd_el hf
    refine fp_8_8 C kX8_bad_8 mX8_bad_17 hW dX8_bad_9 eS2 (fun H locs hW => ?_)
    refine lv_aload_n C.1 C.2.1 dX8_bad_12 rfl (lv_at hl 0 rfl) ?_
    refine lv_iload_n C.1 C.2.1 dX8_bad_13 rfl (lv_at hl 2 rfl) ?_
    obtain ⟨S3, eS3, hf⟩ := bnd_el hf
    refine fp_8_7 C kX8_bad_8 mX8_bad_14 hW dX8_bad_14 eS3 (fun H locs hW => ?_)
    exact mrV C hr hlocks hf hW dX8_bad_17
theorem mX8_tree_20 : Cond.fieldLink RX8 20 "SharedLambdaModel" "sort" "[I" ∈ wsX8_tree := by decide +kernel
theorem mX8_tree_24 : Cond.fieldLink RX8 24 "SharedLambdaModel" "trees" "I" ∈ wsX8_tree := by decide +kernel
theorem mX8_tree_27 : Cond.fieldLink RX8 27 "SharedLambdaModel" "first" "[I" ∈ wsX8_tree := by decide +kernel
theorem mX8_tree_30 : Cond.fieldLink RX8 30 "SharedLambdaModel" "second" "[I" ∈ wsX8_tree := by decide +kernel
theorem kX8_tree_8 : ∀ w ∈ u_ws RX8 TX8 58, w ∈ wsX8_tree := fun _ h => List.mem_cons_of_mem _ (List.mem_append_right _ h)
def fX8_tree (N : Nat) (S : St) (p1 : Int32) (p2 : Int32) (p3 : Int32) : Option (Int32 × St) :=
  ckx (S.1 6) 300 <|
  bnd (sA S 3 (upd (S.2.1 3) (S.1 6 : Int32).toNatClampNeg p1)) fun S2 =>
  ckx (S2.1 6) 300 <|
  bnd (sA S2 4 (upd (S2.2.1 4) (S2.1 6 : Int32).toNatClampNeg p2)) fun S4 =>
  ckx (S4.1 6) 300 <|
  bnd (sA S4 5 (upd (S4.2.1 5) (S4.1 6 : Int32).toNatClampNeg p3)) fun S6 =>
  bnd (sI S6 6 ((S6.1 6 + (1 : Int32)))) fun S7 =>
  some ((S7.1 6 - (1 : Int32)), S7)
set_option maxHeartbeats 4000000 in
set_option maxRecDepth 100000 in
theorem cX8_tree_met (l : Launch) (D : va_G) (cy : Nat → ClassId) (a r : Nat → Nat) (sz N : Nat) (S : St) (p1 : Int32) (p2 : Int32) (p3 : Int32) (Rr : Int32 × St) (hf : fX8_tree N S p1 p2 p3 = some Rr) : Met l yX8_tree wsX8_tree ({ frames := 0, cells := 0, slots := 0, locals := 0 } : Room) (va_Pc [.ref (a 99), .int p1, .int p2, .int p3] (preW D cy (wM cy a r S) sz)) (QI D cy (wM cy a r) (va_A (wM cy a r S) sz) Rr) 0 0 (va_A (wM cy a r S) sz) := by
  refine Met.ofW (cc := cX8_tree) (maxL := 4) (ret := (some .int)) (by decide) rfl ?_
  intro p e s m args below meth c s₁ B hml hv
  obtain ⟨rfl, rfl, hP, hK, hD0, hN⟩ := hv
  have hlocks := B.notSynchronized
  have hr := B.returns
  have C : Cx p s m _ c cX8_tree 4 wsX8_tree RX8 D cy := ⟨B.exec, B.bytes, hml, findClass_of_methodNamed B.named, atoms_spec (ws := wsX8_tree) B.pre, hK, hN⟩
  have hW := ww_start (w := wM cy a r) hP hD0
  generalize va_A (wM cy a r S) s.heap.size = A at hW ⊢
  have hl := lv_entry ([.ref (a 99), .int p1, .int p2, .int p3]) (n := 4) (Nat.le_of_ble_eq_true rfl)
  rw [lg_entry_eq]
  generalize (lg_sl ([.ref (a 99), .int p1, .int p2, .int p3]) ++ List.replicate (4 - (lg_sl ([.ref (a 99), .int p1, .int p2, .int p3])).length) Slot.unset).toArray = ls at hl ⊢
  have hl : lv_has ls 4 [(0, .ref (a 99)), (1, .int p1), (2, .int p2), (3, .int p3)] := hl
  unfold fX8_tree at hf
  refine lv_aload_n C.1 C.2.1 dX8_tree_0 rfl (lv_at hl 0 rfl) ?_
  refine fg_8_3 C kX8_tree_8 mX8_tree_20 hW dX8_tree_1 ?_
  refine lv_aload_n C.1 C.2.1 dX8_tree_4 rfl (lv_at hl 0 rfl) ?_
  refine fg_8_6 C kX8_tree_8 mX8_tree_24 hW dX8_tree_5 ?_
  refine lv_iload_n C.1 C.2.1 dX8_tree_8 rfl (lv_at hl 1 rfl) ?_
  obtain ⟨h1, hf⟩ := ckx_el hf
  obtain ⟨S2, eS2, hf⟩ := bnd_el hf
  refine as_8_3 C hW h1 dX8_tree_9 eS2 (fun H locs hW => ?_)
  refine lv_aload_n C.1 C.2.1 dX8_tree_10 rfl (lv_at hl 0 rfl) ?_
  refine fg_8_4 C kX8_tree_8 mX8_tree_27 hW dX8_tree_11 ?_
  refine lv_aload_n C.1 C.2.1 dX8_tree_14 rfl (lv_at hl 0 rfl) ?_
  refine fg_8_6 C kX8_tree_8 mX8_tree_24 hW dX8_tree_15 ?_
  refine lv_iload_n C.1 C.2.1 dX8_tree_18 rfl (lv_at hl 2 rfl) ?_
  obtain ⟨h3, hf⟩ := ckx_el hf
  obtain ⟨S4, eS4, hf⟩ := bnd_el hf
  refine as_8_4 C hW h3 dX8_tree_19 eS4 (fun H locs hW => ?_)
  refine lv_aload_n C.1 C.2.1 dX8_tree_20 rfl (lv_at hl 0 rfl) ?_
  refine fg_8_5 C kX8_tree_8 mX8_tree_30 hW dX8_tree_21 ?_
  refine lv_aload_n C.1 C.2.1 dX8_tree_24 rfl (lv_at hl 0 rfl) ?_
  refine fg_8_6 C kX8_tree_8 mX8_tree_24 hW dX8_tree_25 ?_
  refine lv_iload_n C.1 C.2.1 dX8_tree_28 rfl (lv_at hl 3 rfl) ?_
  obtain ⟨h5, hf⟩ := ckx_el hf
  obtain ⟨S6, eS6, hf⟩ := bnd_el hf
  refine as_8_5 C hW h5 dX8_tree_29 eS6 (fun H locs hW => ?_)
  refine lv_aload_n C.1 C.2.1 dX8_tree_30 rfl (lv_at hl 0 rfl) ?_
  refine lv_dup C.1 C.2.1 dX8_tree_31 rfl ?_
  refine fg_8_6 C kX8_tree_8 mX8_tree_24 hW dX8_tree_32 ?_
  refine lv_iconst (v := 1) C.1 C.2.1 dX8_tree_35 (by decide) ?_
  refine lv_iadd C.1 C.2.1 dX8_tree_36 ?_
  obtain ⟨S7, eS7, hf⟩ := bnd_el hf
  refine fp_8_6 C kX8_tree_8 mX8_tree_24 hW dX8_tree_37 eS7 (fun H locs hW => ?_)
  refine lv_aload_n C.1 C.2.1 dX8_tree_40 rfl (lv_at hl 0 rfl) ?_
  refine fg_8_6 C kX8_tree_8 mX8_tree_24 hW dX8_tree_41 ?_
  refine lv_iconst (v := 1) C.1 C.2.1 dX8_tree_44 (by decide) ?_
  refine lv_isub C.1 C.2.1 dX8_tree_45 ?_
  exact mrI C hr hlocks rfl hf hW dX8_tree_46
def fX8_isLetter (p0 : Int32) : Option Int32 :=
  if p0 < (97 : Int32) then
    some (0 : Int32)
  else
    if (122 : Int32) < p0 then
      some (0 : Int32)
    else
      some (1 : Int32)
set_option maxHeartbeats 4000000 in
set_option maxRecDepth 100000 in
theorem cX8_isLetter_met (l : Launch) (p0 : Int32) (v1 : Int32) (hf : fX8_isLetter p0 = some v1) : MetS l yX8_isLetter wsX8_isLetter ({ frames := 0, cells := 0, slots := 0, locals := 0 } : Room) [.int p0] v1 := by
  refine Met.ofW (cc := cX8_isLetter) (maxL := 1) (ret := (some .boolean)) (by decide) rfl ?_
  intro p e s m args below meth c s₁ B hml hv
  obtain ⟨rfl, -⟩ := hv
  have hlocks := B.notSynchronized
  have hr := B.returns
  have C : p.tables.exec = Jvm.exec ∧ c.code = cX8_isLetter ∧ True := ⟨B.exec, B.bytes, trivial⟩
  have hl := lv_entry ([.int p0]) (n := 1) (Nat.le_of_ble_eq_true rfl)
  rw [lg_entry_eq]
  generalize (lg_sl ([.int p0]) ++ List.replicate (1 - (lg_sl ([.int p0])).length) Slot.unset).toArray = ls at hl ⊢
  have hl : lv_has ls 1 [(0, .int p0)] := hl
  unfold fX8_isLetter at hf
  refine lv_iload_n C.1 C.2.1 dX8_isLetter_0 rfl (lv_at hl 0 rfl) ?_
  refine lv_bipush (v := 97) C.1 C.2.1 dX8_isLetter_1 (by decide) ?_
  refine lv_icmp_lt (tgt := 16) C.1 C.2.1 dX8_isLetter_3 (by decide) (fun q1 => ?_) (fun q1 => ?_)
  · replace hf := (if_pos q1).symm.trans hf
    refine lv_iconst (v := 0) C.1 C.2.1 dX8_isLetter_16 (by decide) ?_
    exact mrS C.1 C.2.1 hr hlocks rfl hf rfl dX8_isLetter_17
  · replace hf := (if_neg q1).symm.trans hf
    refine lv_iload_n C.1 C.2.1 dX8_isLetter_6 rfl (lv_at hl 0 rfl) ?_
    refine lv_bipush (v := 122) C.1 C.2.1 dX8_isLetter_7 (by decide) ?_
    refine lv_icmp_gt (tgt := 16) C.1 C.2.1 dX8_isLetter_9 (by decide) (fun q2 => ?_) (fun q2 => ?_)
    · replace hf := (if_pos q2).symm.trans hf
      refine lv_iconst (v := 0) C.1 C.2.1 dX8_isLetter_16 (by decide) ?_
      exact mrS C.1 C.2.1 hr hlocks rfl hf rfl dX8_isLetter_17
    · replace hf := (if_neg q2).symm.trans hf
      refine lv_iconst (v := 1) C.1 C.2.1 dX8_isLetter_12 (by decide) ?_
      refine lv_goto (tgt := 17) C.1 C.2.1 dX8_isLetter_13 (by decide) ?_
      exact mrS C.1 C.2.1 hr hlocks rfl hf rfl dX8_isLetter_17
theorem mX8_name_50 : Cond.fieldLink RX8 50 "SharedLambdaModel" "names" "I" ∈ wsX8_name := by decide +kernel
theorem mX8_name_37 : Cond.fieldLink RX8 37 "SharedLambdaModel" "deep" "I" ∈ wsX8_name := by decide +kernel
theorem mX8_name_40 : Cond.fieldLink RX8 40 "SharedLambdaModel" "aroundNames" "[I" ∈ wsX8_name := by decide +kernel
theorem mX8_name_43 : Cond.fieldLink RX8 43 "SharedLambdaModel" "around" "[I" ∈ wsX8_name := by decide +kernel
theorem mX8_name_10 : Cond.fieldLink RX8 10 "SharedLambdaModel" "tape" "[B" ∈ wsX8_name := by decide +kernel
theorem mX8_name_14 : Cond.fieldLink RX8 14 "SharedLambdaModel" "at" "I" ∈ wsX8_name := by decide +kernel
theorem mX8_name_7 : Cond.fieldLink RX8 7 "SharedLambdaModel" "size" "I" ∈ wsX8_name := by decide +kernel
theorem kX8_name_8 : ∀ w ∈ u_ws RX8 TX8 58, w ∈ wsX8_name := fun _ h => List.mem_cons_of_mem _ (List.mem_append_right _ h)
def fX8_name_197 (N : Nat) (S : St) (x1 : Int32) (x3 : Int32) (x5 : Int32) : Option (Int32 × St) :=
  bnd (sI S 10 ((S.1 10 + (1 : Int32)))) fun S1 =>
  if x1 = 0 then
    some (x5, S1)
  else
    some (x3, S1)
set_option maxHeartbeats 4000000 in
set_option maxRecDepth 100000 in
theorem lX8_name_197 {p : Program} {l : Launch} {e : Env} {s : State} {m : MethodId} {args : Array Value} {below : List Frame} {meth : Method} {c : Code} {D : va_G} {cy : Nat → ClassId} {a r : Nat → Nat} {A : Nat → Prop} {Rr : Int32 × St} (C : Cx p s m args c cX8_name 7 wsX8_name RX8 D cy) (hr : meth.sig.returnType = some .int) (hlocks : meth.locks = false) (N : Nat) (S : St) (x1 : Int32) (x3 : Int32) (x5 : Int32) (hf : fX8_name_197 N S x1 x3 x5 = some Rr) : ∀ (H : Heap) (locs : List Loc) (ls : Array Slot), WW D A s.heap (wM cy a r S) H locs → lv_has ls 7 [(0, .ref (a 99)), (1, .int x1), (3, .int x3), (5, .int x5)] → W p l e ({ frames := 1, cells := 0, slots := 0, locals := 22 } : Room) s m args below meth c H locs 0 0 (MQ below (QI D cy (wM cy a r) A Rr) args s 0 0 A) (F0 m 197 ls []) := by
  intro H locs ls hW hl
  unfold fX8_name_197 at hf
  refine lv_aload_n C.1 C.2.1 dX8_name_197 rfl (lv_at hl 0 rfl) ?_
  refine lv_dup C.1 C.2.1 dX8_name_198 rfl ?_
  refine fg_8_10 C kX8_name_8 mX8_name_50 hW dX8_name_199 ?_
  refine lv_iconst (v := 1) C.1 C.2.1 dX8_name_202 (by decide) ?_
  refine lv_iadd C.1 C.2.1 dX8_name_203 ?_
  obtain ⟨S1, eS1, hf⟩ := bnd_el hf
  refine fp_8_10 C kX8_name_8 mX8_name_50 hW dX8_name_204 eS1 (fun H locs hW => ?_)
  refine lv_iload_n C.1 C.2.1 dX8_name_207 rfl (lv_at hl 1 rfl) ?_
  refine lv_if_eq (tgt := 215) C.1 C.2.1 dX8_name_208 (by decide) (fun q2 => ?_) (fun q2 => ?_)
  · replace hf := (if_pos q2).symm.trans hf
    refine lv_iload C.1 C.2.1 dX8_name_215 (lv_at hl 3 rfl) ?_
    exact mrI C hr hlocks rfl hf hW dX8_name_217
  · replace hf := (if_neg q2).symm.trans hf
    refine lv_iload_n C.1 C.2.1 dX8_name_211 rfl (lv_at hl 2 rfl) ?_
    refine lv_goto (tgt := 217) C.1 C.2.1 dX8_name_212 (by decide) ?_
    exact mrI C hr hlocks rfl hf hW dX8_name_217
def fX8_name_182 (N : Nat) (S : St) (x1 : Int32) (x2 : Int32) (x3 : Int32) (x5 : Int32) : Option (Int32 × St) :=
  if S.1 10 = (80 : Int32) then
    bdo (fX8_bad N S (4 : Int32) x2) fun S4 =>
    fX8_name_197 N S4 x1 x3 x5
  else
    fX8_name_197 N S x1 x3 x5
set_option maxHeartbeats 4000000 in
set_option maxRecDepth 100000 in
theorem lX8_name_182 {p : Program} {l : Launch} {e : Env} {s : State} {m : MethodId} {args : Array Value} {below : List Frame} {meth : Method} {c : Code} {D : va_G} {cy : Nat → ClassId} {a r : Nat → Nat} {A : Nat → Prop} {Rr : Int32 × St} (C : Cx p s m args c cX8_name 7 wsX8_name RX8 D cy) (hr : meth.sig.returnType = some .int) (hlocks : meth.locks = false) (N : Nat) (S : St) (x1 : Int32) (x2 : Int32) (x3 : Int32) (x5 : Int32) (hf : fX8_name_182 N S x1 x2 x3 x5 = some Rr) : ∀ (H : Heap) (locs : List Loc) (ls : Array Slot), WW D A s.heap (wM cy a r S) H locs → lv_has ls 7 [(0, .ref (a 99)), (1, .int x1), (2, .int x2), (3, .int x3), (5, .int x5)] → W p l e ({ frames := 1, cells := 0, slots := 0, locals := 22 } : Room) s m args below meth c H locs 0 0 (MQ below (QI D cy (wM cy a r) A Rr) args s 0 0 A) (F0 m 182 ls []) := by
  intro H locs ls hW hl
  unfold fX8_name_182 at hf
  refine lv_aload_n C.1 C.2.1 dX8_name_182 rfl (lv_at hl 0 rfl) ?_
  refine fg_8_10 C kX8_name_8 mX8_name_50 hW dX8_name_183 ?_
  refine lv_bipush (v := 80) C.1 C.2.1 dX8_name_186 (by decide) ?_
  refine lv_icmp_ne (tgt := 197) C.1 C.2.1 dX8_name_188 (by decide) (fun q1 => ?_) (fun q1 => ?_)
  · replace hf := (if_neg q1).symm.trans hf
    exact lX8_name_197 C hr hlocks N _ _ _ _ hf _ _ _ hW (lv_sub hl [0, 1, 3, 4] rfl)
  · replace hf := (if_pos q1).symm.trans hf
    refine lv_aload_n C.1 C.2.1 dX8_name_191 rfl (lv_at hl 0 rfl) ?_
    refine lv_iconst (v := 4) C.1 C.2.1 dX8_name_192 (by decide) ?_
    refine lv_iload_n C.1 C.2.1 dX8_name_193 rfl (lv_at hl 2 rfl) ?_
    obtain ⟨S4, h3, hf⟩ := bdo_el hf
    refine mcVv (w := wM cy a r) (S := S) (As := [.int (4 : Int32), .int x2]) (rest := []) (q0 := 0) (ci := 8) C (cX8_bad_met l D cy a r _ N S (4 : Int32) x2 S4 h3) (cwV 2 C.2.2.2.2.1 gX8_name_X8_bad rfl rfl rfl (by decide +kernel) ⟨Nat.le_of_ble_eq_true rfl, Nat.le_of_ble_eq_true rfl⟩) rfl rfl rfl hl.1 (Nat.le_of_ble_eq_true rfl) hW dX8_name_194 ⟨Nat.zero_le _, Nat.zero_le _⟩ rfl (fun H locs hW => ?_)
    exact lX8_name_197 C hr hlocks N _ _ _ _ hf _ _ _ hW (lv_sub hl [0, 1, 3, 4] rfl)
def fX8_name_141 (N : Nat) (k109 : St × Int32 × Int32 × Int32 × Int32 × Int32 × Int32 → Option (Int32 × St)) (S : St) (x1 : Int32) (x2 : Int32) (x3 : Int32) (x4 : Int32) (x6 : Int32) (y0 : Int32) : Option (Int32 × St) :=
  bnd (x6 + (1 : Int32)) fun z1 =>
  k109 (S, x1, x2, x3, x4, y0, z1)
set_option maxHeartbeats 4000000 in
set_option maxRecDepth 100000 in
theorem lX8_name_141 {p : Program} {l : Launch} {e : Env} {s : State} {m : MethodId} {args : Array Value} {below : List Frame} {meth : Method} {c : Code} {D : va_G} {cy : Nat → ClassId} {a r : Nat → Nat} {A : Nat → Prop} {Rr : Int32 × St} (C : Cx p s m args c cX8_name 7 wsX8_name RX8 D cy) (hr : meth.sig.returnType = some .int) (hlocks : meth.locks = false) (N : Nat) (k109 : St × Int32 × Int32 × Int32 × Int32 × Int32 × Int32 → Option (Int32 × St)) (hk109 : ∀ (S : St) (x1 : Int32) (x2 : Int32) (x3 : Int32) (x4 : Int32) (x5 : Int32) (x6 : Int32), k109 (S, x1, x2, x3, x4, x5, x6) = some Rr → ∀ (H : Heap) (locs : List Loc) (ls : Array Slot), WW D A s.heap (wM cy a r S) H locs → lv_has ls 7 [(0, .ref (a 99)), (1, .int x1), (2, .int x2), (3, .int x3), (4, .int x4), (5, .int x5), (6, .int x6)] → W p l e ({ frames := 1, cells := 0, slots := 0, locals := 22 } : Room) s m args below meth c H locs 0 0 (MQ below (QI D cy (wM cy a r) A Rr) args s 0 0 A) (F0 m 109 ls [])) (S : St) (x1 : Int32) (x2 : Int32) (x3 : Int32) (x4 : Int32) (x6 : Int32) (y0 : Int32) (hf : fX8_name_141 N k109 S x1 x2 x3 x4 x6 y0 = some Rr) : ∀ (H : Heap) (locs : List Loc) (ls : Array Slot), WW D A s.heap (wM cy a r S) H locs → lv_has ls 7 [(0, .ref (a 99)), (1, .int x1), (2, .int x2), (3, .int x3), (4, .int x4), (6, .int x6)] → W p l e ({ frames := 1, cells := 0, slots := 0, locals := 22 } : Room) s m args below meth c H locs 0 0 (MQ below (QI D cy (wM cy a r) A Rr) args s 0 0 A) (F0 m 141 ls [.int y0]) := by
  intro H locs ls hW hl
  unfold fX8_name_141 at hf
  refine lv_istore (lv' := [(5, .int y0), (0, .ref (a 99)), (1, .int x1), (2, .int x2), (3, .int x3), (4, .int x4), (6, .int x6)]) C.1 C.2.1 dX8_name_141 hl (by decide) rfl (fun ls hl => ?_)
  obtain ⟨z1, ez1, hf⟩ := bnd_el hf
  refine lv_iinc (v := z1) (lv' := [(6, .int z1), (5, .int y0), (0, .ref (a 99)), (1, .int x1), (2, .int x2), (3, .int x3), (4, .int x4)]) C.1 C.2.1 dX8_name_143 hl (k := 6) rfl (by rw [ez1]; rfl) (by decide) rfl (fun ls hl => ?_)
  refine lv_goto (tgt := 109) C.1 C.2.1 dX8_name_146 (by decide) ?_
  exact hk109 _ _ _ _ _ _ _ hf _ _ _ hW (lv_sub hl [2, 3, 4, 5, 6, 1, 0] rfl)
def fX8_name_109s (N : Nat) (k109 : St × Int32 × Int32 × Int32 × Int32 × Int32 × Int32 → Option (Int32 × St)) (S : St) (x1 : Int32) (x2 : Int32) (x3 : Int32) (x4 : Int32) (x5 : Int32) (x6 : Int32) : Option (Int32 × St) :=
  if S.1 13 ≤ x6 then
    if x4 ≤ (4 : Int32) then
      if x1 = 0 then
        if 0 ≤ x5 then
          fX8_name_182 N S x1 x2 x3 x5
        else
          bdo (fX8_bad N S (2 : Int32) x2) fun S7 =>
          fX8_name_197 N S7 x1 x3 x5
      else
        fX8_name_182 N S x1 x2 x3 x5
    else
      bdo (fX8_bad N S (1 : Int32) x2) fun S10 =>
      fX8_name_197 N S10 x1 x3 x5
  else
    ckx x6 81 <|
    if S.2.1 12 (x6 : Int32).toNatClampNeg = x3 then
      ckx x6 81 <|
      fX8_name_141 N k109 S x1 x2 x3 x4 x6 (S.2.1 11 (x6 : Int32).toNatClampNeg)
    else
      fX8_name_141 N k109 S x1 x2 x3 x4 x6 x5
def fX8_name_109 (N : Nat) : St × Int32 × Int32 × Int32 × Int32 × Int32 × Int32 → Option (Int32 × St) := loopN (fun k x => fX8_name_109s N k x.1 x.2.1 x.2.2.1 x.2.2.2.1 x.2.2.2.2.1 x.2.2.2.2.2.1 x.2.2.2.2.2.2) N
set_option maxHeartbeats 4000000 in
set_option maxRecDepth 100000 in
theorem lX8_name_109 {p : Program} {l : Launch} {e : Env} {s : State} {m : MethodId} {args : Array Value} {below : List Frame} {meth : Method} {c : Code} {D : va_G} {cy : Nat → ClassId} {a r : Nat → Nat} {A : Nat → Prop} {Rr : Int32 × St} (C : Cx p s m args c cX8_name 7 wsX8_name RX8 D cy) (hr : meth.sig.returnType = some .int) (hlocks : meth.locks = false) (N : Nat) : ∀ (n : Nat) (S : St) (x1 : Int32) (x2 : Int32) (x3 : Int32) (x4 : Int32) (x5 : Int32) (x6 : Int32), loopN (fun k x => fX8_name_109s N k x.1 x.2.1 x.2.2.1 x.2.2.2.1 x.2.2.2.2.1 x.2.2.2.2.2.1 x.2.2.2.2.2.2) n (S, x1, x2, x3, x4, x5, x6) = some Rr → ∀ (H : Heap) (locs : List Loc) (ls : Array Slot), WW D A s.heap (wM cy a r S) H locs → lv_has ls 7 [(0, .ref (a 99)), (1, .int x1), (2, .int x2), (3, .int x3), (4, .int x4), (5, .int x5), (6, .int x6)] → W p l e ({ frames := 1, cells := 0, slots := 0, locals := 22 } : Room) s m args below meth c H locs 0 0 (MQ below (QI D cy (wM cy a r) A Rr) args s 0 0 A) (F0 m 109 ls []) := by
  intro n
  induction n with
  | zero =>
    intro S x1 x2 x3 x4 x5 x6 hf
    cases hf
  | succ n ih =>
    intro S x1 x2 x3 x4 x5 x6 hf H locs ls hW hl
    have hf : fX8_name_109s N (loopN (fun k x => fX8_name_109s N k x.1 x.2.1 x.2.2.1 x.2.2.2.1 x.2.2.2.2.1 x.2.2.2.2.2.1 x.2.2.2.2.2.2) n) S x1 x2 x3 x4 x5 x6 = some Rr := hf
    unfold fX8_name_109s at hf
    refine lv_iload C.1 C.2.1 dX8_name_109 (lv_at hl 6 rfl) ?_
    refine lv_aload_n C.1 C.2.1 dX8_name_111 rfl (lv_at hl 0 rfl) ?_
    refine fg_8_13 C kX8_name_8 mX8_name_37 hW dX8_name_112 ?_
    refine lv_icmp_ge (tgt := 149) C.1 C.2.1 dX8_name_115 (by decide) (fun q1 => ?_) (fun q1 => ?_)
    · replace hf := (if_pos q1).symm.trans hf
      refine lv_iload C.1 C.2.1 dX8_name_149 (lv_at hl 4 rfl) ?_
      refine lv_iconst (v := 4) C.1 C.2.1 dX8_name_151 (by decide) ?_
      refine lv_icmp_le (tgt := 164) C.1 C.2.1 dX8_name_152 (by decide) (fun q2 => ?_) (fun q2 => ?_)
      · replace hf := (if_pos q2).symm.trans hf
        refine lv_iload_n C.1 C.2.1 dX8_name_164 rfl (lv_at hl 1 rfl) ?_
        refine lv_if_ne (tgt := 182) C.1 C.2.1 dX8_name_165 (by decide) (fun q3 => ?_) (fun q3 => ?_)
        · replace hf := (if_neg q3).symm.trans hf
          exact lX8_name_182 C hr hlocks N _ _ _ _ _ hf _ _ _ hW (lv_sub hl [0, 1, 2, 3, 5] rfl)
        · replace hf := (if_pos q3).symm.trans hf
          refine lv_iload C.1 C.2.1 dX8_name_168 (lv_at hl 5 rfl) ?_
          refine lv_if_ge (tgt := 182) C.1 C.2.1 dX8_name_170 (by decide) (fun q4 => ?_) (fun q4 => ?_)
          · replace hf := (if_pos q4).symm.trans hf
            exact lX8_name_182 C hr hlocks N _ _ _ _ _ hf _ _ _ hW (lv_sub hl [0, 1, 2, 3, 5] rfl)
          · replace hf := (if_neg q4).symm.trans hf
            refine lv_aload_n C.1 C.2.1 dX8_name_173 rfl (lv_at hl 0 rfl) ?_
            refine lv_iconst (v := 2) C.1 C.2.1 dX8_name_174 (by decide) ?_
            refine lv_iload_n C.1 C.2.1 dX8_name_175 rfl (lv_at hl 2 rfl) ?_
            obtain ⟨S7, h6, hf⟩ := bdo_el hf
            refine mcVv (w := wM cy a r) (S := S) (As := [.int (2 : Int32), .int x2]) (rest := []) (q0 := 0) (ci := 8) C (cX8_bad_met l D cy a r _ N S (2 : Int32) x2 S7 h6) (cwV 2 C.2.2.2.2.1 gX8_name_X8_bad rfl rfl rfl (by decide +kernel) ⟨Nat.le_of_ble_eq_true rfl, Nat.le_of_ble_eq_true rfl⟩) rfl rfl rfl hl.1 (Nat.le_of_ble_eq_true rfl) hW dX8_name_176 ⟨Nat.zero_le _, Nat.zero_le _⟩ rfl (fun H locs hW => ?_)
            refine lv_goto (tgt := 197) C.1 C.2.1 dX8_name_179 (by decide) ?_
            exact lX8_name_197 C hr hlocks N _ _ _ _ hf _ _ _ hW (lv_sub hl [0, 1, 3, 5] rfl)
      · replace hf := (if_neg q2).symm.trans hf
        refine lv_aload_n C.1 C.2.1 dX8_name_155 rfl (lv_at hl 0 rfl) ?_
        refine lv_iconst (v := 1) C.1 C.2.1 dX8_name_156 (by decide) ?_
        refine lv_iload_n C.1 C.2.1 dX8_name_157 rfl (lv_at hl 2 rfl) ?_
        obtain ⟨S10, h9, hf⟩ := bdo_el hf
        refine mcVv (w := wM cy a r) (S := S) (As := [.int (1 : Int32), .int x2]) (rest := []) (q0 := 0) (ci := 8) C (cX8_bad_met l D cy a r _ N S (1 : Int32) x2 S10 h9) (cwV 2 C.2.2.2.2.1 gX8_name_X8_bad rfl rfl rfl (by decide +kernel) ⟨Nat.le_of_ble_eq_true rfl, Nat.le_of_ble_eq_true rfl⟩) rfl rfl rfl hl.1 (Nat.le_of_ble_eq_true rfl) hW dX8_name_158 ⟨Nat.zero_le _, Nat.zero_le _⟩ rfl (fun H locs hW => ?_)
        refine lv_goto (tgt := 197) C.1 C.2.1 dX8_name_161 (by decide) ?_
        exact lX8_name_197 C hr hlocks N _ _ _ _ hf _ _ _ hW (lv_sub hl [0, 1, 3, 5] rfl)
    · replace hf := (if_neg q1).symm.trans hf
      refine lv_aload_n C.1 C.2.1 dX8_name_118 rfl (lv_at hl 0 rfl) ?_
      refine fg_8_12 C kX8_name_8 mX8_name_40 hW dX8_name_119 ?_
      refine lv_iload C.1 C.2.1 dX8_name_122 (lv_at hl 6 rfl) ?_
      obtain ⟨h11, hf⟩ := ckx_el hf
      refine al_8_12 C hW h11 dX8_name_124 ?_
      refine lv_iload_n C.1 C.2.1 dX8_name_125 rfl (lv_at hl 3 rfl) ?_
      refine lv_icmp_ne (tgt := 139) C.1 C.2.1 dX8_name_126 (by decide) (fun q12 => ?_) (fun q12 => ?_)
      · replace hf := (if_neg q12).symm.trans hf
        refine lv_iload C.1 C.2.1 dX8_name_139 (lv_at hl 5 rfl) ?_
        exact lX8_name_141 C hr hlocks N _ ih _ _ _ _ _ _ _ hf _ _ _ hW (lv_sub hl [0, 1, 2, 3, 4, 6] rfl)
      · replace hf := (if_pos q12).symm.trans hf
        refine lv_aload_n C.1 C.2.1 dX8_name_129 rfl (lv_at hl 0 rfl) ?_
        refine fg_8_11 C kX8_name_8 mX8_name_43 hW dX8_name_130 ?_
        refine lv_iload C.1 C.2.1 dX8_name_133 (lv_at hl 6 rfl) ?_
        obtain ⟨h13, hf⟩ := ckx_el hf
        refine al_8_11 C hW h13 dX8_name_135 ?_
        refine lv_goto (tgt := 141) C.1 C.2.1 dX8_name_136 (by decide) ?_
        exact lX8_name_141 C hr hlocks N _ ih _ _ _ _ _ _ _ hf _ _ _ hW (lv_sub hl [0, 1, 2, 3, 4, 6] rfl)
def fX8_name_103 (N : Nat) (S : St) (x1 : Int32) (x2 : Int32) (x3 : Int32) (x4 : Int32) : Option (Int32 × St) :=
  bnd (-1 : Int32) fun z1 =>
  bnd (0 : Int32) fun z2 =>
  fX8_name_109 N (S, x1, x2, x3, x4, z1, z2)
set_option maxHeartbeats 4000000 in
set_option maxRecDepth 100000 in
theorem lX8_name_103 {p : Program} {l : Launch} {e : Env} {s : State} {m : MethodId} {args : Array Value} {below : List Frame} {meth : Method} {c : Code} {D : va_G} {cy : Nat → ClassId} {a r : Nat → Nat} {A : Nat → Prop} {Rr : Int32 × St} (C : Cx p s m args c cX8_name 7 wsX8_name RX8 D cy) (hr : meth.sig.returnType = some .int) (hlocks : meth.locks = false) (N : Nat) (S : St) (x1 : Int32) (x2 : Int32) (x3 : Int32) (x4 : Int32) (hf : fX8_name_103 N S x1 x2 x3 x4 = some Rr) : ∀ (H : Heap) (locs : List Loc) (ls : Array Slot), WW D A s.heap (wM cy a r S) H locs → lv_has ls 7 [(0, .ref (a 99)), (1, .int x1), (2, .int x2), (3, .int x3), (4, .int x4)] → W p l e ({ frames := 1, cells := 0, slots := 0, locals := 22 } : Room) s m args below meth c H locs 0 0 (MQ below (QI D cy (wM cy a r) A Rr) args s 0 0 A) (F0 m 103 ls []) := by
  intro H locs ls hW hl
  unfold fX8_name_103 at hf
  refine lv_iconst (v := -1) C.1 C.2.1 dX8_name_103 (by decide) ?_
  obtain ⟨z1, ez1, hf⟩ := bnd_el hf
  refine lv_as ez1 ?_
  refine lv_istore (lv' := [(5, .int z1), (0, .ref (a 99)), (1, .int x1), (2, .int x2), (3, .int x3), (4, .int x4)]) C.1 C.2.1 dX8_name_104 hl (by decide) rfl (fun ls hl => ?_)
  refine lv_iconst (v := 0) C.1 C.2.1 dX8_name_106 (by decide) ?_
  obtain ⟨z2, ez2, hf⟩ := bnd_el hf
  refine lv_as ez2 ?_
  refine lv_istore (lv' := [(6, .int z2), (5, .int z1), (0, .ref (a 99)), (1, .int x1), (2, .int x2), (3, .int x3), (4, .int x4)]) C.1 C.2.1 dX8_name_107 hl (by decide) rfl (fun ls hl => ?_)
  exact lX8_name_109 C hr hlocks N _ _ _ _ _ _ _ _ hf _ _ _ hW (lv_sub hl [2, 3, 4, 5, 6, 1, 0] rfl)
def fX8_name_72 (N : Nat) (k10 : St × Int32 × Int32 × Int32 × Int32 → Option (Int32 × St)) (S : St) (x1 : Int32) (x2 : Int32) (x3 : Int32) (x4 : Int32) : Option (Int32 × St) :=
  ckx (S.1 7) 600 <|
  bnd (((x3 <<< ((8 : Int32) &&& 31)) ||| S.2.1 1 (S.1 7 : Int32).toNatClampNeg)) fun z2 =>
  bnd (x4 + (1 : Int32)) fun z3 =>
  bnd (sI S 7 ((S.1 7 + (1 : Int32)))) fun S4 =>
  k10 (S4, x1, x2, z2, z3)
set_option maxHeartbeats 4000000 in
set_option maxRecDepth 100000 in
theorem lX8_name_72 {p : Program} {l : Launch} {e : Env} {s : State} {m : MethodId} {args : Array Value} {below : List Frame} {meth : Method} {c : Code} {D : va_G} {cy : Nat → ClassId} {a r : Nat → Nat} {A : Nat → Prop} {Rr : Int32 × St} (C : Cx p s m args c cX8_name 7 wsX8_name RX8 D cy) (hr : meth.sig.returnType = some .int) (hlocks : meth.locks = false) (N : Nat) (k10 : St × Int32 × Int32 × Int32 × Int32 → Option (Int32 × St)) (hk10 : ∀ (S : St) (x1 : Int32) (x2 : Int32) (x3 : Int32) (x4 : Int32), k10 (S, x1, x2, x3, x4) = some Rr → ∀ (H : Heap) (locs : List Loc) (ls : Array Slot), WW D A s.heap (wM cy a r S) H locs → lv_has ls 7 [(0, .ref (a 99)), (1, .int x1), (2, .int x2), (3, .int x3), (4, .int x4)] → W p l e ({ frames := 1, cells := 0, slots := 0, locals := 22 } : Room) s m args below meth c H locs 0 0 (MQ below (QI D cy (wM cy a r) A Rr) args s 0 0 A) (F0 m 10 ls [])) (S : St) (x1 : Int32) (x2 : Int32) (x3 : Int32) (x4 : Int32) (hf : fX8_name_72 N k10 S x1 x2 x3 x4 = some Rr) : ∀ (H : Heap) (locs : List Loc) (ls : Array Slot), WW D A s.heap (wM cy a r S) H locs → lv_has ls 7 [(0, .ref (a 99)), (1, .int x1), (2, .int x2), (3, .int x3), (4, .int x4)] → W p l e ({ frames := 1, cells := 0, slots := 0, locals := 22 } : Room) s m args below meth c H locs 0 0 (MQ below (QI D cy (wM cy a r) A Rr) args s 0 0 A) (F0 m 72 ls []) := by
  intro H locs ls hW hl
  unfold fX8_name_72 at hf
  refine lv_iload_n C.1 C.2.1 dX8_name_72 rfl (lv_at hl 3 rfl) ?_
  refine lv_bipush (v := 8) C.1 C.2.1 dX8_name_73 (by decide) ?_
  refine lv_ishl C.1 C.2.1 dX8_name_75 ?_
  refine lv_aload_n C.1 C.2.1 dX8_name_76 rfl (lv_at hl 0 rfl) ?_
  refine fg_8_1 C kX8_name_8 mX8_name_10 hW dX8_name_77 ?_
  refine lv_aload_n C.1 C.2.1 dX8_name_80 rfl (lv_at hl 0 rfl) ?_
  refine fg_8_7 C kX8_name_8 mX8_name_14 hW dX8_name_81 ?_
  obtain ⟨h1, hf⟩ := ckx_el hf
  refine al_8_1 C hW h1 dX8_name_84 ?_
  refine lv_ior C.1 C.2.1 dX8_name_85 ?_
  obtain ⟨z2, ez2, hf⟩ := bnd_el hf
  refine lv_as ez2 ?_
  refine lv_istore_n (lv' := [(3, .int z2), (0, .ref (a 99)), (1, .int x1), (2, .int x2), (4, .int x4)]) C.1 C.2.1 dX8_name_86 rfl hl (by decide) rfl (fun ls hl => ?_)
  obtain ⟨z3, ez3, hf⟩ := bnd_el hf
  refine lv_iinc (v := z3) (lv' := [(4, .int z3), (3, .int z2), (0, .ref (a 99)), (1, .int x1), (2, .int x2)]) C.1 C.2.1 dX8_name_87 hl (k := 4) rfl (by rw [ez3]; rfl) (by decide) rfl (fun ls hl => ?_)
  refine lv_aload_n C.1 C.2.1 dX8_name_90 rfl (lv_at hl 2 rfl) ?_
  refine lv_dup C.1 C.2.1 dX8_name_91 rfl ?_
  refine fg_8_7 C kX8_name_8 mX8_name_14 hW dX8_name_92 ?_
  refine lv_iconst (v := 1) C.1 C.2.1 dX8_name_95 (by decide) ?_
  refine lv_iadd C.1 C.2.1 dX8_name_96 ?_
  obtain ⟨S4, eS4, hf⟩ := bnd_el hf
  refine fp_8_7 C kX8_name_8 mX8_name_14 hW dX8_name_97 eS4 (fun H locs hW => ?_)
  refine lv_goto (tgt := 10) C.1 C.2.1 dX8_name_100 (by decide) ?_
  exact hk10 _ _ _ _ _ hf _ _ _ hW (lv_sub hl [2, 3, 4, 1, 0] rfl)
def fX8_name_10s (N : Nat) (k10 : St × Int32 × Int32 × Int32 × Int32 → Option (Int32 × St)) (S : St) (x1 : Int32) (x2 : Int32) (x3 : Int32) (x4 : Int32) : Option (Int32 × St) :=
  if S.1 2 ≤ S.1 7 then
    fX8_name_103 N S x1 x2 x3 x4
  else
    if x4 = 0 then
      ckx (S.1 7) 600 <|
      bdo (fX8_isLetter (S.2.1 1 (S.1 7 : Int32).toNatClampNeg)) fun v8 =>
      if v8 = 0 then
        fX8_name_103 N S x1 x2 x3 x4
      else
        fX8_name_72 N k10 S x1 x2 x3 x4
    else
      ckx (S.1 7) 600 <|
      if S.2.1 1 (S.1 7 : Int32).toNatClampNeg < (48 : Int32) then
        fX8_name_103 N S x1 x2 x3 x4
      else
        ckx (S.1 7) 600 <|
        if (57 : Int32) < S.2.1 1 (S.1 7 : Int32).toNatClampNeg then
          fX8_name_103 N S x1 x2 x3 x4
        else
          fX8_name_72 N k10 S x1 x2 x3 x4
def fX8_name_10 (N : Nat) : St × Int32 × Int32 × Int32 × Int32 → Option (Int32 × St) := loopN (fun k x => fX8_name_10s N k x.1 x.2.1 x.2.2.1 x.2.2.2.1 x.2.2.2.2) N
set_option maxHeartbeats 4000000 in
set_option maxRecDepth 100000 in
theorem lX8_name_10 {p : Program} {l : Launch} {e : Env} {s : State} {m : MethodId} {args : Array Value} {below : List Frame} {meth : Method} {c : Code} {D : va_G} {cy : Nat → ClassId} {a r : Nat → Nat} {A : Nat → Prop} {Rr : Int32 × St} (C : Cx p s m args c cX8_name 7 wsX8_name RX8 D cy) (hr : meth.sig.returnType = some .int) (hlocks : meth.locks = false) (N : Nat) : ∀ (n : Nat) (S : St) (x1 : Int32) (x2 : Int32) (x3 : Int32) (x4 : Int32), loopN (fun k x => fX8_name_10s N k x.1 x.2.1 x.2.2.1 x.2.2.2.1 x.2.2.2.2) n (S, x1, x2, x3, x4) = some Rr → ∀ (H : Heap) (locs : List Loc) (ls : Array Slot), WW D A s.heap (wM cy a r S) H locs → lv_has ls 7 [(0, .ref (a 99)), (1, .int x1), (2, .int x2), (3, .int x3), (4, .int x4)] → W p l e ({ frames := 1, cells := 0, slots := 0, locals := 22 } : Room) s m args below meth c H locs 0 0 (MQ below (QI D cy (wM cy a r) A Rr) args s 0 0 A) (F0 m 10 ls []) := by
  intro n
  induction n with
  | zero =>
    intro S x1 x2 x3 x4 hf
    cases hf
  | succ n ih =>
    intro S x1 x2 x3 x4 hf H locs ls hW hl
    have hf : fX8_name_10s N (loopN (fun k x => fX8_name_10s N k x.1 x.2.1 x.2.2.1 x.2.2.2.1 x.2.2.2.2) n) S x1 x2 x3 x4 = some Rr := hf
    unfold fX8_name_10s at hf
    refine lv_aload_n C.1 C.2.1 dX8_name_10 rfl (lv_at hl 0 rfl) ?_
    refine fg_8_7 C kX8_name_8 mX8_name_14 hW dX8_name_11 ?_
    refine lv_aload_n C.1 C.2.1 dX8_name_14 rfl (lv_at hl 0 rfl) ?_
    refine fg_8_2 C kX8_name_8 mX8_name_7 hW dX8_name_15 ?_
    refine lv_icmp_ge (tgt := 103) C.1 C.2.1 dX8_name_18 (by decide) (fun q1 => ?_) (fun q1 => ?_)
    · replace hf := (if_pos q1).symm.trans hf
      exact lX8_name_103 C hr hlocks N _ _ _ _ _ hf _ _ _ hW (lv_sub hl [0, 1, 2, 3, 4] rfl)
    · replace hf := (if_neg q1).symm.trans hf
      refine lv_iload C.1 C.2.1 dX8_name_21 (lv_at hl 4 rfl) ?_
      refine lv_if_ne (tgt := 44) C.1 C.2.1 dX8_name_23 (by decide) (fun q2 => ?_) (fun q2 => ?_)
      · replace hf := (if_neg q2).symm.trans hf
        refine lv_aload_n C.1 C.2.1 dX8_name_44 rfl (lv_at hl 0 rfl) ?_
        refine fg_8_1 C kX8_name_8 mX8_name_10 hW dX8_name_45 ?_
        refine lv_aload_n C.1 C.2.1 dX8_name_48 rfl (lv_at hl 0 rfl) ?_
        refine fg_8_7 C kX8_name_8 mX8_name_14 hW dX8_name_49 ?_
        obtain ⟨h3, hf⟩ := ckx_el hf
        refine al_8_1 C hW h3 dX8_name_52 ?_
        refine lv_bipush (v := 48) C.1 C.2.1 dX8_name_53 (by decide) ?_
        refine lv_icmp_lt (tgt := 103) C.1 C.2.1 dX8_name_55 (by decide) (fun q4 => ?_) (fun q4 => ?_)
        · replace hf := (if_pos q4).symm.trans hf
          exact lX8_name_103 C hr hlocks N _ _ _ _ _ hf _ _ _ hW (lv_sub hl [0, 1, 2, 3, 4] rfl)
        · replace hf := (if_neg q4).symm.trans hf
          refine lv_aload_n C.1 C.2.1 dX8_name_58 rfl (lv_at hl 0 rfl) ?_
          refine fg_8_1 C kX8_name_8 mX8_name_10 hW dX8_name_59 ?_
          refine lv_aload_n C.1 C.2.1 dX8_name_62 rfl (lv_at hl 0 rfl) ?_
          refine fg_8_7 C kX8_name_8 mX8_name_14 hW dX8_name_63 ?_
          obtain ⟨h5, hf⟩ := ckx_el hf
          refine al_8_1 C hW h5 dX8_name_66 ?_
          refine lv_bipush (v := 57) C.1 C.2.1 dX8_name_67 (by decide) ?_
          refine lv_icmp_gt (tgt := 103) C.1 C.2.1 dX8_name_69 (by decide) (fun q6 => ?_) (fun q6 => ?_)
          · replace hf := (if_pos q6).symm.trans hf
            exact lX8_name_103 C hr hlocks N _ _ _ _ _ hf _ _ _ hW (lv_sub hl [0, 1, 2, 3, 4] rfl)
          · replace hf := (if_neg q6).symm.trans hf
            exact lX8_name_72 C hr hlocks N _ ih _ _ _ _ _ hf _ _ _ hW (lv_sub hl [0, 1, 2, 3, 4] rfl)
      · replace hf := (if_pos q2).symm.trans hf
        refine lv_aload_n C.1 C.2.1 dX8_name_26 rfl (lv_at hl 0 rfl) ?_
        refine fg_8_1 C kX8_name_8 mX8_name_10 hW dX8_name_27 ?_
        refine lv_aload_n C.1 C.2.1 dX8_name_30 rfl (lv_at hl 0 rfl) ?_
        refine fg_8_7 C kX8_name_8 mX8_name_14 hW dX8_name_31 ?_
        obtain ⟨h7, hf⟩ := ckx_el hf
        refine al_8_1 C hW h7 dX8_name_34 ?_
        obtain ⟨v8, h9, hf⟩ := bdo_el hf
        refine mcS (As := [.int (S.2.1 1 (S.1 7 : Int32).toNatClampNeg)]) (rest := []) C (cX8_isLetter_met l (S.2.1 1 (S.1 7 : Int32).toNatClampNeg) v8 h9) (va_cwS 1 C.2.2.2.2.1 gX8_name_X8_isLetter rfl rfl rfl (by decide +kernel) ⟨Nat.le_of_ble_eq_true rfl, Nat.le_of_ble_eq_true rfl⟩) rfl hl.1 (Nat.le_of_ble_eq_true rfl) dX8_name_35 ⟨Nat.zero_le _, Nat.zero_le _⟩ rfl ?_
        refine lv_if_eq (tgt := 103) C.1 C.2.1 dX8_name_38 (by decide) (fun q10 => ?_) (fun q10 => ?_)
        · replace hf := (if_pos q10).symm.trans hf
          exact lX8_name_103 C hr hlocks N _ _ _ _ _ hf _ _ _ hW (lv_sub hl [0, 1, 2, 3, 4] rfl)
        · replace hf := (if_neg q10).symm.trans hf
          refine lv_goto (tgt := 72) C.1 C.2.1 dX8_name_41 (by decide) ?_
          exact lX8_name_72 C hr hlocks N _ ih _ _ _ _ _ hf _ _ _ hW (lv_sub hl [0, 1, 2, 3, 4] rfl)
def fX8_name (N : Nat) (S : St) (p1 : Int32) : Option (Int32 × St) :=
  bnd (S.1 7) fun z1 =>
  bnd (0 : Int32) fun z2 =>
  bnd (0 : Int32) fun z3 =>
  fX8_name_10 N (S, p1, z1, z2, z3)
set_option maxHeartbeats 4000000 in
set_option maxRecDepth 100000 in
theorem cX8_name_met (l : Launch) (D : va_G) (cy : Nat → ClassId) (a r : Nat → Nat) (sz N : Nat) (S : St) (p1 : Int32) (Rr : Int32 × St) (hf : fX8_name N S p1 = some Rr) : Met l yX8_name wsX8_name ({ frames := 1, cells := 0, slots := 0, locals := 22 } : Room) (va_Pc [.ref (a 99), .int p1] (preW D cy (wM cy a r S) sz)) (QI D cy (wM cy a r) (va_A (wM cy a r S) sz) Rr) 0 0 (va_A (wM cy a r S) sz) := by
  refine Met.ofW (cc := cX8_name) (maxL := 7) (ret := (some .int)) (by decide) rfl ?_
  intro p e s m args below meth c s₁ B hml hv
  obtain ⟨rfl, rfl, hP, hK, hD0, hN⟩ := hv
  have hlocks := B.notSynchronized
  have hr := B.returns
  have C : Cx p s m _ c cX8_name 7 wsX8_name RX8 D cy := ⟨B.exec, B.bytes, hml, findClass_of_methodNamed B.named, atoms_spec (ws := wsX8_name) B.pre, hK, hN⟩
  have hW := ww_start (w := wM cy a r) hP hD0
  generalize va_A (wM cy a r S) s.heap.size = A at hW ⊢
  have hl := lv_entry ([.ref (a 99), .int p1]) (n := 7) (Nat.le_of_ble_eq_true rfl)
  rw [lg_entry_eq]
  generalize (lg_sl ([.ref (a 99), .int p1]) ++ List.replicate (7 - (lg_sl ([.ref (a 99), .int p1])).length) Slot.unset).toArray = ls at hl ⊢
  have hl : lv_has ls 7 [(0, .ref (a 99)), (1, .int p1)] := hl
  unfold fX8_name at hf
  refine lv_aload_n C.1 C.2.1 dX8_name_0 rfl (lv_at hl 0 rfl) ?_
  refine fg_8_7 C kX8_name_8 mX8_name_14 hW dX8_name_1 ?_
  obtain ⟨z1, ez1, hf⟩ := bnd_el hf
  refine lv_as ez1 ?_
  refine lv_istore_n (lv' := [(2, .int z1), (0, .ref (a 99)), (1, .int p1)]) C.1 C.2.1 dX8_name_4 rfl hl (by decide) rfl (fun ls hl => ?_)
  refine lv_iconst (v := 0) C.1 C.2.1 dX8_name_5 (by decide) ?_
  obtain ⟨z2, ez2, hf⟩ := bnd_el hf
  refine lv_as ez2 ?_
  refine lv_istore_n (lv' := [(3, .int z2), (2, .int z1), (0, .ref (a 99)), (1, .int p1)]) C.1 C.2.1 dX8_name_6 rfl hl (by decide) rfl (fun ls hl => ?_)
  refine lv_iconst (v := 0) C.1 C.2.1 dX8_name_7 (by decide) ?_
  obtain ⟨z3, ez3, hf⟩ := bnd_el hf
  refine lv_as ez3 ?_
  refine lv_istore (lv' := [(4, .int z3), (3, .int z2), (2, .int z1), (0, .ref (a 99)), (1, .int p1)]) C.1 C.2.1 dX8_name_8 hl (by decide) rfl (fun ls hl => ?_)
  exact lX8_name_10 C hr hlocks N _ _ _ _ _ _ hf _ _ _ hW (lv_sub hl [3, 4, 2, 1, 0] rfl)
theorem mX8_opens_53 : Cond.fieldLink RX8 53 "SharedLambdaModel" "opened" "I" ∈ wsX8_opens := by decide +kernel
theorem mX8_opens_56 : Cond.fieldLink RX8 56 "SharedLambdaModel" "openSort" "[I" ∈ wsX8_opens := by decide +kernel
theorem mX8_opens_59 : Cond.fieldLink RX8 59 "SharedLambdaModel" "openTree" "[I" ∈ wsX8_opens := by decide +kernel
theorem mX8_opens_14 : Cond.fieldLink RX8 14 "SharedLambdaModel" "at" "I" ∈ wsX8_opens := by decide +kernel
theorem kX8_opens_8 : ∀ w ∈ u_ws RX8 TX8 58, w ∈ wsX8_opens := fun _ h => List.mem_cons_of_mem _ (List.mem_append_right _ h)
def fX8_opens (N : Nat) (S : St) (p1 : Int32) (p2 : Int32) : Option (St) :=
  if S.1 9 = (40 : Int32) then
    bdo (fX8_bad N S (3 : Int32) (S.1 7)) fun S10 =>
    some S10
  else
    ckx (S.1 9) 41 <|
    bnd (sA S 15 (upd (S.2.1 15) (S.1 9 : Int32).toNatClampNeg p1)) fun S3 =>
    ckx (S3.1 9) 41 <|
    bnd (sA S3 16 (upd (S3.2.1 16) (S3.1 9 : Int32).toNatClampNeg p2)) fun S5 =>
    bnd (sI S5 9 ((S5.1 9 + (1 : Int32)))) fun S6 =>
    bnd (sI S6 7 ((S6.1 7 + (1 : Int32)))) fun S7 =>
    some S7
set_option maxHeartbeats 4000000 in
set_option maxRecDepth 100000 in
theorem cX8_opens_met (l : Launch) (D : va_G) (cy : Nat → ClassId) (a r : Nat → Nat) (sz N : Nat) (S : St) (p1 : Int32) (p2 : Int32) (Rr : St) (hf : fX8_opens N S p1 p2 = some Rr) : Met l yX8_opens wsX8_opens ({ frames := 1, cells := 0, slots := 0, locals := 22 } : Room) (va_Pc [.ref (a 99), .int p1, .int p2] (preW D cy (wM cy a r S) sz)) (QV D cy (wM cy a r) (va_A (wM cy a r S) sz) Rr) 0 0 (va_A (wM cy a r S) sz) := by
  refine Met.ofW (cc := cX8_opens) (maxL := 3) (ret := none) (by decide) rfl ?_
  intro p e s m args below meth c s₁ B hml hv
  obtain ⟨rfl, rfl, hP, hK, hD0, hN⟩ := hv
  have hlocks := B.notSynchronized
  have hr := B.returns
  have C : Cx p s m _ c cX8_opens 3 wsX8_opens RX8 D cy := ⟨B.exec, B.bytes, hml, findClass_of_methodNamed B.named, atoms_spec (ws := wsX8_opens) B.pre, hK, hN⟩
  have hW := ww_start (w := wM cy a r) hP hD0
  generalize va_A (wM cy a r S) s.heap.size = A at hW ⊢
  have hl := lv_entry ([.ref (a 99), .int p1, .int p2]) (n := 3) (Nat.le_of_ble_eq_true rfl)
  rw [lg_entry_eq]
  generalize (lg_sl ([.ref (a 99), .int p1, .int p2]) ++ List.replicate (3 - (lg_sl ([.ref (a 99), .int p1, .int p2])).length) Slot.unset).toArray = ls at hl ⊢
  have hl : lv_has ls 3 [(0, .ref (a 99)), (1, .int p1), (2, .int p2)] := hl
  unfold fX8_opens at hf
  refine lv_aload_n C.1 C.2.1 dX8_opens_0 rfl (lv_at hl 0 rfl) ?_
  refine fg_8_9 C kX8_opens_8 mX8_opens_53 hW dX8_opens_1 ?_
  refine lv_bipush (v := 40) C.1 C.2.1 dX8_opens_4 (by decide) ?_
  refine lv_icmp_ne (tgt := 19) C.1 C.2.1 dX8_opens_6 (by decide) (fun q1 => ?_) (fun q1 => ?_)
  · replace hf := (if_neg q1).symm.trans hf
    refine lv_aload_n C.1 C.2.1 dX8_opens_19 rfl (lv_at hl 0 rfl) ?_
    refine fg_8_15 C kX8_opens_8 mX8_opens_56 hW dX8_opens_20 ?_
    refine lv_aload_n C.1 C.2.1 dX8_opens_23 rfl (lv_at hl 0 rfl) ?_
    refine fg_8_9 C kX8_opens_8 mX8_opens_53 hW dX8_opens_24 ?_
    refine lv_iload_n C.1 C.2.1 dX8_opens_27 rfl (lv_at hl 1 rfl) ?_
    obtain ⟨h2, hf⟩ := ckx_el hf
    obtain ⟨S3, eS3, hf⟩ := bnd_el hf
    refine as_8_15 C hW h2 dX8_opens_28 eS3 (fun H locs hW => ?_)
    refine lv_aload_n C.1 C.2.1 dX8_opens_29 rfl (lv_at hl 0 rfl) ?_
    refine fg_8_16 C kX8_opens_8 mX8_opens_59 hW dX8_opens_30 ?_
    refine lv_aload_n C.1 C.2.1 dX8_opens_33 rfl (lv_at hl 0 rfl) ?_
    refine fg_8_9 C kX8_opens_8 mX8_opens_53 hW dX8_opens_34 ?_
    refine lv_iload_n C.1 C.2.1 dX8_opens_37 rfl (lv_at hl 2 rfl) ?_
    obtain ⟨h4, hf⟩ := ckx_el hf
    obtain ⟨S5, eS5, hf⟩ := bnd_el hf
    refine as_8_16 C hW h4 dX8_opens_38 eS5 (fun H locs hW => ?_)
    refine lv_aload_n C.1 C.2.1 dX8_opens_39 rfl (lv_at hl 0 rfl) ?_
    refine lv_dup C.1 C.2.1 dX8_opens_40 rfl ?_
    refine fg_8_9 C kX8_opens_8 mX8_opens_53 hW dX8_opens_41 ?_
    refine lv_iconst (v := 1) C.1 C.2.1 dX8_opens_44 (by decide) ?_
    refine lv_iadd C.1 C.2.1 dX8_opens_45 ?_
    obtain ⟨S6, eS6, hf⟩ := bnd_el hf
    refine fp_8_9 C kX8_opens_8 mX8_opens_53 hW dX8_opens_46 eS6 (fun H locs hW => ?_)
    refine lv_aload_n C.1 C.2.1 dX8_opens_49 rfl (lv_at hl 0 rfl) ?_
    refine lv_dup C.1 C.2.1 dX8_opens_50 rfl ?_
    refine fg_8_7 C kX8_opens_8 mX8_opens_14 hW dX8_opens_51 ?_
    refine lv_iconst (v := 1) C.1 C.2.1 dX8_opens_54 (by decide) ?_
    refine lv_iadd C.1 C.2.1 dX8_opens_55 ?_
    obtain ⟨S7, eS7, hf⟩ := bnd_el hf
    refine fp_8_7 C kX8_opens_8 mX8_opens_14 hW dX8_opens_56 eS7 (fun H locs hW => ?_)
    exact mrV C hr hlocks hf hW dX8_opens_59
  · replace hf := (if_pos q1).symm.trans hf
    refine lv_aload_n C.1 C.2.1 dX8_opens_9 rfl (lv_at hl 0 rfl) ?_
    refine lv_iconst (v := 3) C.1 C.2.1 dX8_opens_10 (by decide) ?_
    refine lv_aload_n C.1 C.2.1 dX8_opens_11 rfl (lv_at hl 0 rfl) ?_
    refine fg_8_7 C kX8_opens_8 mX8_opens_14 hW dX8_opens_12 ?_
    obtain ⟨S10, h9, hf⟩ := bdo_el hf
    refine mcVv (w := wM cy a r) (S := S) (As := [.int (3 : Int32), .int (S.1 7)]) (rest := []) (q0 := 0) (ci := 8) C (cX8_bad_met l D cy a r _ N S (3 : Int32) (S.1 7) S10 h9) (cwV 2 C.2.2.2.2.1 gX8_opens_X8_bad rfl rfl rfl (by decide +kernel) ⟨Nat.le_of_ble_eq_true rfl, Nat.le_of_ble_eq_true rfl⟩) rfl rfl rfl hl.1 (Nat.le_of_ble_eq_true rfl) hW dX8_opens_15 ⟨Nat.zero_le _, Nat.zero_le _⟩ rfl (fun H locs hW => ?_)
    exact mrV C hr hlocks hf hW dX8_opens_18
theorem mX8_bind_17 : Cond.fieldLink RX8 17 "SharedLambdaModel" "fault" "I" ∈ wsX8_bind := by decide +kernel
theorem mX8_bind_14 : Cond.fieldLink RX8 14 "SharedLambdaModel" "at" "I" ∈ wsX8_bind := by decide +kernel
theorem mX8_bind_40 : Cond.fieldLink RX8 40 "SharedLambdaModel" "aroundNames" "[I" ∈ wsX8_bind := by decide +kernel
theorem mX8_bind_37 : Cond.fieldLink RX8 37 "SharedLambdaModel" "deep" "I" ∈ wsX8_bind := by decide +kernel
theorem mX8_bind_43 : Cond.fieldLink RX8 43 "SharedLambdaModel" "around" "[I" ∈ wsX8_bind := by decide +kernel
theorem mX8_bind_62 : Cond.fieldLink RX8 62 "SharedLambdaModel" "binders" "I" ∈ wsX8_bind := by decide +kernel
theorem kX8_bind_8 : ∀ w ∈ u_ws RX8 TX8 58, w ∈ wsX8_bind := fun _ h => List.mem_cons_of_mem _ (List.mem_append_right _ h)
def fX8_bind_77 (N : Nat) (S : St) (x1 : Int32) : Option (St) :=
  if S.1 8 = 0 then
    bnd (sI S 7 ((S.1 7 + (1 : Int32)))) fun S2 =>
    ckx (S2.1 13) 81 <|
    bnd (sA S2 12 (upd (S2.2.1 12) (S2.1 13 : Int32).toNatClampNeg x1)) fun S4 =>
    ckx (S4.1 13) 81 <|
    bnd (sA S4 11 (upd (S4.2.1 11) (S4.1 13 : Int32).toNatClampNeg (S4.1 14))) fun S6 =>
    bnd (sI S6 13 ((S6.1 13 + (1 : Int32)))) fun S7 =>
    bnd (sI S7 14 ((S7.1 14 + (1 : Int32)))) fun S8 =>
    some S8
  else
    some S
set_option maxHeartbeats 4000000 in
set_option maxRecDepth 100000 in
theorem lX8_bind_77 {p : Program} {l : Launch} {e : Env} {s : State} {m : MethodId} {args : Array Value} {below : List Frame} {meth : Method} {c : Code} {D : va_G} {cy : Nat → ClassId} {a r : Nat → Nat} {A : Nat → Prop} {Rr : St} (C : Cx p s m args c cX8_bind 2 wsX8_bind RX8 D cy) (hr : meth.sig.returnType = none) (hlocks : meth.locks = false) (N : Nat) (S : St) (x1 : Int32) (hf : fX8_bind_77 N S x1 = some Rr) : ∀ (H : Heap) (locs : List Loc) (ls : Array Slot), WW D A s.heap (wM cy a r S) H locs → lv_has ls 2 [(0, .ref (a 99)), (1, .int x1)] → W p l e ({ frames := 2, cells := 0, slots := 0, locals := 48 } : Room) s m args below meth c H locs 0 0 (MQ below (QV D cy (wM cy a r) A Rr) args s 0 0 A) (F0 m 77 ls []) := by
  intro H locs ls hW hl
  unfold fX8_bind_77 at hf
  refine lv_aload_n C.1 C.2.1 dX8_bind_77 rfl (lv_at hl 0 rfl) ?_
  refine fg_8_8 C kX8_bind_8 mX8_bind_17 hW dX8_bind_78 ?_
  refine lv_if_ne (tgt := 137) C.1 C.2.1 dX8_bind_81 (by decide) (fun q1 => ?_) (fun q1 => ?_)
  · replace hf := (if_neg q1).symm.trans hf
    exact mrV C hr hlocks hf hW dX8_bind_137
  · replace hf := (if_pos q1).symm.trans hf
    refine lv_aload_n C.1 C.2.1 dX8_bind_84 rfl (lv_at hl 0 rfl) ?_
    refine lv_dup C.1 C.2.1 dX8_bind_85 rfl ?_
    refine fg_8_7 C kX8_bind_8 mX8_bind_14 hW dX8_bind_86 ?_
    refine lv_iconst (v := 1) C.1 C.2.1 dX8_bind_89 (by decide) ?_
    refine lv_iadd C.1 C.2.1 dX8_bind_90 ?_
    obtain ⟨S2, eS2, hf⟩ := bnd_el hf
    refine fp_8_7 C kX8_bind_8 mX8_bind_14 hW dX8_bind_91 eS2 (fun H locs hW => ?_)
    refine lv_aload_n C.1 C.2.1 dX8_bind_94 rfl (lv_at hl 0 rfl) ?_
    refine fg_8_12 C kX8_bind_8 mX8_bind_40 hW dX8_bind_95 ?_
    refine lv_aload_n C.1 C.2.1 dX8_bind_98 rfl (lv_at hl 0 rfl) ?_
    refine fg_8_13 C kX8_bind_8 mX8_bind_37 hW dX8_bind_99 ?_
    refine lv_iload_n C.1 C.2.1 dX8_bind_102 rfl (lv_at hl 1 rfl) ?_
    obtain ⟨h3, hf⟩ := ckx_el hf
    obtain ⟨S4, eS4, hf⟩ := bnd_el hf
    refine as_8_12 C hW h3 dX8_bind_103 eS4 (fun H locs hW => ?_)
    refine lv_aload_n C.1 C.2.1 dX8_bind_104 rfl (lv_at hl 0 rfl) ?_
    refine fg_8_11 C kX8_bind_8 mX8_bind_43 hW dX8_bind_105 ?_
    refine lv_aload_n C.1 C.2.1 dX8_bind_108 rfl (lv_at hl 0 rfl) ?_
    refine fg_8_13 C kX8_bind_8 mX8_bind_37 hW dX8_bind_109 ?_
    refine lv_aload_n C.1 C.2.1 dX8_bind_112 rfl (lv_at hl 0 rfl) ?_
    refine fg_8_14 C kX8_bind_8 mX8_bind_62 hW dX8_bind_113 ?_
    obtain ⟨h5, hf⟩ := ckx_el hf
    obtain ⟨S6, eS6, hf⟩ := bnd_el hf
    refine as_8_11 C hW h5 dX8_bind_116 eS6 (fun H locs hW => ?_)
    refine lv_aload_n C.1 C.2.1 dX8_bind_117 rfl (lv_at hl 0 rfl) ?_
    refine lv_dup C.1 C.2.1 dX8_bind_118 rfl ?_
    refine fg_8_13 C kX8_bind_8 mX8_bind_37 hW dX8_bind_119 ?_
    refine lv_iconst (v := 1) C.1 C.2.1 dX8_bind_122 (by decide) ?_
    refine lv_iadd C.1 C.2.1 dX8_bind_123 ?_
    obtain ⟨S7, eS7, hf⟩ := bnd_el hf
    refine fp_8_13 C kX8_bind_8 mX8_bind_37 hW dX8_bind_124 eS7 (fun H locs hW => ?_)
    refine lv_aload_n C.1 C.2.1 dX8_bind_127 rfl (lv_at hl 0 rfl) ?_
    refine lv_dup C.1 C.2.1 dX8_bind_128 rfl ?_
    refine fg_8_14 C kX8_bind_8 mX8_bind_62 hW dX8_bind_129 ?_
    refine lv_iconst (v := 1) C.1 C.2.1 dX8_bind_132 (by decide) ?_
    refine lv_iadd C.1 C.2.1 dX8_bind_133 ?_
    obtain ⟨S8, eS8, hf⟩ := bnd_el hf
    refine fp_8_14 C kX8_bind_8 mX8_bind_62 hW dX8_bind_134 eS8 (fun H locs hW => ?_)
    exact mrV C hr hlocks hf hW dX8_bind_137
def fX8_bind_51 (N : Nat) (S : St) (y0 : Int32) : Option (St) :=
  if S.1 8 = 0 then
    bd2 (fX8_look N S) fun v2 S4 =>
    if v2 = (46 : Int32) then
      fX8_bind_77 N S4 y0
    else
      bdo (fX8_bad N S4 (1 : Int32) (S4.1 7)) fun S8 =>
      fX8_bind_77 N S8 y0
  else
    fX8_bind_77 N S y0
set_option maxHeartbeats 4000000 in
set_option maxRecDepth 100000 in
theorem lX8_bind_51 {p : Program} {l : Launch} {e : Env} {s : State} {m : MethodId} {args : Array Value} {below : List Frame} {meth : Method} {c : Code} {D : va_G} {cy : Nat → ClassId} {a r : Nat → Nat} {A : Nat → Prop} {Rr : St} (C : Cx p s m args c cX8_bind 2 wsX8_bind RX8 D cy) (hr : meth.sig.returnType = none) (hlocks : meth.locks = false) (N : Nat) (S : St) (y0 : Int32) (hf : fX8_bind_51 N S y0 = some Rr) : ∀ (H : Heap) (locs : List Loc) (ls : Array Slot), WW D A s.heap (wM cy a r S) H locs → lv_has ls 2 [(0, .ref (a 99))] → W p l e ({ frames := 2, cells := 0, slots := 0, locals := 48 } : Room) s m args below meth c H locs 0 0 (MQ below (QV D cy (wM cy a r) A Rr) args s 0 0 A) (F0 m 51 ls [.int y0]) := by
  intro H locs ls hW hl
  unfold fX8_bind_51 at hf
  refine lv_istore_n (lv' := [(1, .int y0), (0, .ref (a 99))]) C.1 C.2.1 dX8_bind_51 rfl hl (by decide) rfl (fun ls hl => ?_)
  refine lv_aload_n C.1 C.2.1 dX8_bind_52 rfl (lv_at hl 1 rfl) ?_
  refine fg_8_8 C kX8_bind_8 mX8_bind_17 hW dX8_bind_53 ?_
  refine lv_if_ne (tgt := 77) C.1 C.2.1 dX8_bind_56 (by decide) (fun q1 => ?_) (fun q1 => ?_)
  · replace hf := (if_neg q1).symm.trans hf
    exact lX8_bind_77 C hr hlocks N _ _ hf _ _ _ hW (lv_sub hl [1, 0] rfl)
  · replace hf := (if_pos q1).symm.trans hf
    refine lv_aload_n C.1 C.2.1 dX8_bind_59 rfl (lv_at hl 1 rfl) ?_
    obtain ⟨v2, S4, h3, hf⟩ := bd2_el hf
    refine mcVi (w := wM cy a r) (S := S) (As := []) (rest := []) (q0 := 0) (ci := 8) C (cX8_look_met l D cy a r _ N S  (v2, S4) h3) (cwV 0 C.2.2.2.2.1 gX8_bind_X8_look rfl rfl rfl (by decide +kernel) ⟨Nat.le_of_ble_eq_true rfl, Nat.le_of_ble_eq_true rfl⟩) rfl rfl rfl hl.1 (Nat.le_of_ble_eq_true rfl) hW dX8_bind_60 ⟨Nat.zero_le _, Nat.zero_le _⟩ rfl (fun H locs hW => ?_)
    refine lv_bipush (v := 46) C.1 C.2.1 dX8_bind_63 (by decide) ?_
    refine lv_icmp_eq (tgt := 77) C.1 C.2.1 dX8_bind_65 (by decide) (fun q5 => ?_) (fun q5 => ?_)
    · replace hf := (if_pos q5).symm.trans hf
      exact lX8_bind_77 C hr hlocks N _ _ hf _ _ _ hW (lv_sub hl [1, 0] rfl)
    · replace hf := (if_neg q5).symm.trans hf
      refine lv_aload_n C.1 C.2.1 dX8_bind_68 rfl (lv_at hl 1 rfl) ?_
      refine lv_iconst (v := 1) C.1 C.2.1 dX8_bind_69 (by decide) ?_
      refine lv_aload_n C.1 C.2.1 dX8_bind_70 rfl (lv_at hl 1 rfl) ?_
      refine fg_8_7 C kX8_bind_8 mX8_bind_14 hW dX8_bind_71 ?_
      obtain ⟨S8, h7, hf⟩ := bdo_el hf
      refine mcVv (w := wM cy a r) (S := S4) (As := [.int (1 : Int32), .int (S4.1 7)]) (rest := []) (q0 := 0) (ci := 8) C (cX8_bad_met l D cy a r _ N S4 (1 : Int32) (S4.1 7) S8 h7) (cwV 2 C.2.2.2.2.1 gX8_bind_X8_bad rfl rfl rfl (by decide +kernel) ⟨Nat.le_of_ble_eq_true rfl, Nat.le_of_ble_eq_true rfl⟩) rfl rfl rfl hl.1 (Nat.le_of_ble_eq_true rfl) hW dX8_bind_74 ⟨Nat.zero_le _, Nat.zero_le _⟩ rfl (fun H locs hW => ?_)
      exact lX8_bind_77 C hr hlocks N _ _ hf _ _ _ hW (lv_sub hl [1, 0] rfl)
def fX8_bind_35 (N : Nat) (S : St) : Option (St) :=
  if S.1 8 = 0 then
    bd2 (fX8_name N S (1 : Int32)) fun v2 S4 =>
    fX8_bind_51 N S4 v2
  else
    fX8_bind_51 N S (0 : Int32)
set_option maxHeartbeats 4000000 in
set_option maxRecDepth 100000 in
theorem lX8_bind_35 {p : Program} {l : Launch} {e : Env} {s : State} {m : MethodId} {args : Array Value} {below : List Frame} {meth : Method} {c : Code} {D : va_G} {cy : Nat → ClassId} {a r : Nat → Nat} {A : Nat → Prop} {Rr : St} (C : Cx p s m args c cX8_bind 2 wsX8_bind RX8 D cy) (hr : meth.sig.returnType = none) (hlocks : meth.locks = false) (N : Nat) (S : St) (hf : fX8_bind_35 N S = some Rr) : ∀ (H : Heap) (locs : List Loc) (ls : Array Slot), WW D A s.heap (wM cy a r S) H locs → lv_has ls 2 [(0, .ref (a 99))] → W p l e ({ frames := 2, cells := 0, slots := 0, locals := 48 } : Room) s m args below meth c H locs 0 0 (MQ below (QV D cy (wM cy a r) A Rr) args s 0 0 A) (F0 m 35 ls []) := by
  intro H locs ls hW hl
  unfold fX8_bind_35 at hf
  refine lv_aload_n C.1 C.2.1 dX8_bind_35 rfl (lv_at hl 0 rfl) ?_
  refine fg_8_8 C kX8_bind_8 mX8_bind_17 hW dX8_bind_36 ?_
  refine lv_if_ne (tgt := 50) C.1 C.2.1 dX8_bind_39 (by decide) (fun q1 => ?_) (fun q1 => ?_)
  · replace hf := (if_neg q1).symm.trans hf
    refine lv_iconst (v := 0) C.1 C.2.1 dX8_bind_50 (by decide) ?_
    exact lX8_bind_51 C hr hlocks N _ _ hf _ _ _ hW (lv_sub hl [0] rfl)
  · replace hf := (if_pos q1).symm.trans hf
    refine lv_aload_n C.1 C.2.1 dX8_bind_42 rfl (lv_at hl 0 rfl) ?_
    refine lv_iconst (v := 1) C.1 C.2.1 dX8_bind_43 (by decide) ?_
    obtain ⟨v2, S4, h3, hf⟩ := bd2_el hf
    refine mcVi (w := wM cy a r) (S := S) (As := [.int (1 : Int32)]) (rest := []) (q0 := 0) (ci := 8) C (cX8_name_met l D cy a r _ N S (1 : Int32) (v2, S4) h3) (cwV 1 C.2.2.2.2.1 gX8_bind_X8_name rfl rfl rfl (by decide +kernel) ⟨Nat.le_of_ble_eq_true rfl, Nat.le_of_ble_eq_true rfl⟩) rfl rfl rfl hl.1 (Nat.le_of_ble_eq_true rfl) hW dX8_bind_44 ⟨Nat.zero_le _, Nat.zero_le _⟩ rfl (fun H locs hW => ?_)
    refine lv_goto (tgt := 51) C.1 C.2.1 dX8_bind_47 (by decide) ?_
    exact lX8_bind_51 C hr hlocks N _ _ hf _ _ _ hW (lv_sub hl [0] rfl)
def fX8_bind (N : Nat) (S : St) : Option (St) :=
  bdo (fX8_opens N S (1 : Int32) (S.1 14)) fun S3 =>
  if S3.1 8 = 0 then
    bd2 (fX8_look N S3) fun v5 S7 =>
    bdo (fX8_isLetter v5) fun v8 =>
    if v8 = 0 then
      bdo (fX8_bad N S7 (1 : Int32) (S7.1 7)) fun S13 =>
      fX8_bind_35 N S13
    else
      fX8_bind_35 N S7
  else
    fX8_bind_35 N S3
set_option maxHeartbeats 4000000 in
set_option maxRecDepth 100000 in
theorem cX8_bind_met (l : Launch) (D : va_G) (cy : Nat → ClassId) (a r : Nat → Nat) (sz N : Nat) (S : St) (Rr : St) (hf : fX8_bind N S  = some Rr) : Met l yX8_bind wsX8_bind ({ frames := 2, cells := 0, slots := 0, locals := 48 } : Room) (va_Pc [.ref (a 99)] (preW D cy (wM cy a r S) sz)) (QV D cy (wM cy a r) (va_A (wM cy a r S) sz) Rr) 0 0 (va_A (wM cy a r S) sz) := by
  refine Met.ofW (cc := cX8_bind) (maxL := 2) (ret := none) (by decide) rfl ?_
  intro p e s m args below meth c s₁ B hml hv
  obtain ⟨rfl, rfl, hP, hK, hD0, hN⟩ := hv
  have hlocks := B.notSynchronized
  have hr := B.returns
  have C : Cx p s m _ c cX8_bind 2 wsX8_bind RX8 D cy := ⟨B.exec, B.bytes, hml, findClass_of_methodNamed B.named, atoms_spec (ws := wsX8_bind) B.pre, hK, hN⟩
  have hW := ww_start (w := wM cy a r) hP hD0
  generalize va_A (wM cy a r S) s.heap.size = A at hW ⊢
  have hl := lv_entry ([.ref (a 99)]) (n := 2) (Nat.le_of_ble_eq_true rfl)
  rw [lg_entry_eq]
  generalize (lg_sl ([.ref (a 99)]) ++ List.replicate (2 - (lg_sl ([.ref (a 99)])).length) Slot.unset).toArray = ls at hl ⊢
  have hl : lv_has ls 2 [(0, .ref (a 99))] := hl
  unfold fX8_bind at hf
  refine lv_aload_n C.1 C.2.1 dX8_bind_0 rfl (lv_at hl 0 rfl) ?_
  refine lv_iconst (v := 1) C.1 C.2.1 dX8_bind_1 (by decide) ?_
  refine lv_aload_n C.1 C.2.1 dX8_bind_2 rfl (lv_at hl 0 rfl) ?_
  refine fg_8_14 C kX8_bind_8 mX8_bind_62 hW dX8_bind_3 ?_
  obtain ⟨S3, h2, hf⟩ := bdo_el hf
  refine mcVv (w := wM cy a r) (S := S) (As := [.int (1 : Int32), .int (S.1 14)]) (rest := []) (q0 := 0) (ci := 8) C (cX8_opens_met l D cy a r _ N S (1 : Int32) (S.1 14) S3 h2) (cwV 2 C.2.2.2.2.1 gX8_bind_X8_opens rfl rfl rfl (by decide +kernel) ⟨Nat.le_of_ble_eq_true rfl, Nat.le_of_ble_eq_true rfl⟩) rfl rfl rfl hl.1 (Nat.le_of_ble_eq_true rfl) hW dX8_bind_6 ⟨Nat.zero_le _, Nat.zero_le _⟩ rfl (fun H locs hW => ?_)
  refine lv_aload_n C.1 C.2.1 dX8_bind_9 rfl (lv_at hl 0 rfl) ?_
  refine fg_8_8 C kX8_bind_8 mX8_bind_17 hW dX8_bind_10 ?_
  refine lv_if_ne (tgt := 35) C.1 C.2.1 dX8_bind_13 (by decide) (fun q4 => ?_) (fun q4 => ?_)
  · replace hf := (if_neg q4).symm.trans hf
    exact lX8_bind_35 C hr hlocks N _ hf _ _ _ hW (lv_sub hl [0] rfl)
  · replace hf := (if_pos q4).symm.trans hf
    refine lv_aload_n C.1 C.2.1 dX8_bind_16 rfl (lv_at hl 0 rfl) ?_
    obtain ⟨v5, S7, h6, hf⟩ := bd2_el hf
    refine mcVi (w := wM cy a r) (S := S3) (As := []) (rest := []) (q0 := 0) (ci := 8) C (cX8_look_met l D cy a r _ N S3  (v5, S7) h6) (cwV 0 C.2.2.2.2.1 gX8_bind_X8_look rfl rfl rfl (by decide +kernel) ⟨Nat.le_of_ble_eq_true rfl, Nat.le_of_ble_eq_true rfl⟩) rfl rfl rfl hl.1 (Nat.le_of_ble_eq_true rfl) hW dX8_bind_17 ⟨Nat.zero_le _, Nat.zero_le _⟩ rfl (fun H locs hW => ?_)
    obtain ⟨v8, h9, hf⟩ := bdo_el hf
    refine mcS (As := [.int v5]) (rest := []) C (cX8_isLetter_met l v5 v8 h9) (va_cwS 1 C.2.2.2.2.1 gX8_bind_X8_isLetter rfl rfl rfl (by decide +kernel) ⟨Nat.le_of_ble_eq_true rfl, Nat.le_of_ble_eq_true rfl⟩) rfl hl.1 (Nat.le_of_ble_eq_true rfl) dX8_bind_20 ⟨Nat.zero_le _, Nat.zero_le _⟩ rfl ?_
    refine lv_if_ne (tgt := 35) C.1 C.2.1 dX8_bind_23 (by decide) (fun q10 => ?_) (fun q10 => ?_)
    · replace hf := (if_neg q10).symm.trans hf
      exact lX8_bind_35 C hr hlocks N _ hf _ _ _ hW (lv_sub hl [0] rfl)
    · replace hf := (if_pos q10).symm.trans hf
      refine lv_aload_n C.1 C.2.1 dX8_bind_26 rfl (lv_at hl 0 rfl) ?_
      refine lv_iconst (v := 1) C.1 C.2.1 dX8_bind_27 (by decide) ?_
      refine lv_aload_n C.1 C.2.1 dX8_bind_28 rfl (lv_at hl 0 rfl) ?_
      refine fg_8_7 C kX8_bind_8 mX8_bind_14 hW dX8_bind_29 ?_
      obtain ⟨S13, h12, hf⟩ := bdo_el hf
      refine mcVv (w := wM cy a r) (S := S7) (As := [.int (1 : Int32), .int (S7.1 7)]) (rest := []) (q0 := 0) (ci := 8) C (cX8_bad_met l D cy a r _ N S7 (1 : Int32) (S7.1 7) S13 h12) (cwV 2 C.2.2.2.2.1 gX8_bind_X8_bad rfl rfl rfl (by decide +kernel) ⟨Nat.le_of_ble_eq_true rfl, Nat.le_of_ble_eq_true rfl⟩) rfl rfl rfl hl.1 (Nat.le_of_ble_eq_true rfl) hW dX8_bind_32 ⟨Nat.zero_le _, Nat.zero_le _⟩ rfl (fun H locs hW => ?_)
      exact lX8_bind_35 C hr hlocks N _ hf _ _ _ hW (lv_sub hl [0] rfl)
def fX8_joined (N : Nat) (S : St) (p1 : Int32) (p2 : Int32) : Option (Int32 × St) :=
  if 0 ≤ p1 then
    bd2 (fX8_tree N S (2 : Int32) p1 p2) fun v2 S4 =>
    some (v2, S4)
  else
    some (p2, S)
set_option maxHeartbeats 4000000 in
set_option maxRecDepth 100000 in
theorem cX8_joined_met (l : Launch) (D : va_G) (cy : Nat → ClassId) (a r : Nat → Nat) (sz N : Nat) (S : St) (p1 : Int32) (p2 : Int32) (Rr : Int32 × St) (hf : fX8_joined N S p1 p2 = some Rr) : Met l yX8_joined wsX8_joined ({ frames := 1, cells := 0, slots := 0, locals := 23 } : Room) (va_Pc [.ref (a 99), .int p1, .int p2] (preW D cy (wM cy a r S) sz)) (QI D cy (wM cy a r) (va_A (wM cy a r S) sz) Rr) 0 0 (va_A (wM cy a r S) sz) := by
  refine Met.ofW (cc := cX8_joined) (maxL := 3) (ret := (some .int)) (by decide) rfl ?_
  intro p e s m args below meth c s₁ B hml hv
  obtain ⟨rfl, rfl, hP, hK, hD0, hN⟩ := hv
  have hlocks := B.notSynchronized
  have hr := B.returns
  have C : Cx p s m _ c cX8_joined 3 wsX8_joined RX8 D cy := ⟨B.exec, B.bytes, hml, findClass_of_methodNamed B.named, atoms_spec (ws := wsX8_joined) B.pre, hK, hN⟩
  have hW := ww_start (w := wM cy a r) hP hD0
  generalize va_A (wM cy a r S) s.heap.size = A at hW ⊢
  have hl := lv_entry ([.ref (a 99), .int p1, .int p2]) (n := 3) (Nat.le_of_ble_eq_true rfl)
  rw [lg_entry_eq]
  generalize (lg_sl ([.ref (a 99), .int p1, .int p2]) ++ List.replicate (3 - (lg_sl ([.ref (a 99), .int p1, .int p2])).length) Slot.unset).toArray = ls at hl ⊢
  have hl : lv_has ls 3 [(0, .ref (a 99)), (1, .int p1), (2, .int p2)] := hl
  unfold fX8_joined at hf
  refine lv_iload_n C.1 C.2.1 dX8_joined_0 rfl (lv_at hl 1 rfl) ?_
  refine lv_if_ge (tgt := 8) C.1 C.2.1 dX8_joined_1 (by decide) (fun q1 => ?_) (fun q1 => ?_)
  · replace hf := (if_pos q1).symm.trans hf
    refine lv_aload_n C.1 C.2.1 dX8_joined_8 rfl (lv_at hl 0 rfl) ?_
    refine lv_iconst (v := 2) C.1 C.2.1 dX8_joined_9 (by decide) ?_
    refine lv_iload_n C.1 C.2.1 dX8_joined_10 rfl (lv_at hl 1 rfl) ?_
    refine lv_iload_n C.1 C.2.1 dX8_joined_11 rfl (lv_at hl 2 rfl) ?_
    obtain ⟨v2, S4, h3, hf⟩ := bd2_el hf
    refine mcVi (w := wM cy a r) (S := S) (As := [.int (2 : Int32), .int p1, .int p2]) (rest := []) (q0 := 0) (ci := 8) C (cX8_tree_met l D cy a r _ N S (2 : Int32) p1 p2 (v2, S4) h3) (cwV 3 C.2.2.2.2.1 gX8_joined_X8_tree rfl rfl rfl (by decide +kernel) ⟨Nat.le_of_ble_eq_true rfl, Nat.le_of_ble_eq_true rfl⟩) rfl rfl rfl hl.1 (Nat.le_of_ble_eq_true rfl) hW dX8_joined_12 ⟨Nat.zero_le _, Nat.zero_le _⟩ rfl (fun H locs hW => ?_)
    exact mrI C hr hlocks rfl hf hW dX8_joined_15
  · replace hf := (if_neg q1).symm.trans hf
    refine lv_iload_n C.1 C.2.1 dX8_joined_4 rfl (lv_at hl 2 rfl) ?_
    refine lv_goto (tgt := 15) C.1 C.2.1 dX8_joined_5 (by decide) ?_
    exact mrI C hr hlocks rfl hf hW dX8_joined_15
theorem mX8_closed_53 : Cond.fieldLink RX8 53 "SharedLambdaModel" "opened" "I" ∈ wsX8_closed := by decide +kernel
theorem mX8_closed_56 : Cond.fieldLink RX8 56 "SharedLambdaModel" "openSort" "[I" ∈ wsX8_closed := by decide +kernel
theorem mX8_closed_37 : Cond.fieldLink RX8 37 "SharedLambdaModel" "deep" "I" ∈ wsX8_closed := by decide +kernel
theorem mX8_closed_59 : Cond.fieldLink RX8 59 "SharedLambdaModel" "openTree" "[I" ∈ wsX8_closed := by decide +kernel
theorem kX8_closed_8 : ∀ w ∈ u_ws RX8 TX8 58, w ∈ wsX8_closed := fun _ h => List.mem_cons_of_mem _ (List.mem_append_right _ h)
def fX8_closed_2s (N : Nat) (k2 : St × Int32 → Option (Int32 × St)) (S : St) (x2 : Int32) : Option (Int32 × St) :=
  if S.1 9 ≤ 0 then
    some (x2, S)
  else
    ckx ((S.1 9 - (1 : Int32))) 41 <|
    if S.2.1 15 ((S.1 9 - (1 : Int32)) : Int32).toNatClampNeg = (1 : Int32) then
      bnd (sI S 9 ((S.1 9 - (1 : Int32)))) fun S4 =>
      bnd (sI S4 13 ((S4.1 13 - (1 : Int32)))) fun S5 =>
      ckx (S5.1 9) 41 <|
      bd2 (fX8_tree N S5 (1 : Int32) (S5.2.1 16 (S5.1 9 : Int32).toNatClampNeg) x2) fun v7 S9 =>
      k2 (S9, v7)
    else
      some (x2, S)
def fX8_closed_2 (N : Nat) : St × Int32 → Option (Int32 × St) := loopN (fun k x => fX8_closed_2s N k x.1 x.2) N
set_option maxHeartbeats 4000000 in
set_option maxRecDepth 100000 in
theorem lX8_closed_2 {p : Program} {l : Launch} {e : Env} {s : State} {m : MethodId} {args : Array Value} {below : List Frame} {meth : Method} {c : Code} {D : va_G} {cy : Nat → ClassId} {a r : Nat → Nat} {A : Nat → Prop} {Rr : Int32 × St} (C : Cx p s m args c cX8_closed 3 wsX8_closed RX8 D cy) (hr : meth.sig.returnType = some .int) (hlocks : meth.locks = false) (N : Nat) : ∀ (n : Nat) (S : St) (x2 : Int32), loopN (fun k x => fX8_closed_2s N k x.1 x.2) n (S, x2) = some Rr → ∀ (H : Heap) (locs : List Loc) (ls : Array Slot), WW D A s.heap (wM cy a r S) H locs → lv_has ls 3 [(0, .ref (a 99)), (2, .int x2)] → W p l e ({ frames := 1, cells := 0, slots := 0, locals := 23 } : Room) s m args below meth c H locs 0 0 (MQ below (QI D cy (wM cy a r) A Rr) args s 0 0 A) (F0 m 2 ls []) := by
  intro n
  induction n with
  | zero =>
    intro S x2 hf
    cases hf
  | succ n ih =>
    intro S x2 hf H locs ls hW hl
    have hf : fX8_closed_2s N (loopN (fun k x => fX8_closed_2s N k x.1 x.2) n) S x2 = some Rr := hf
    unfold fX8_closed_2s at hf
    refine lv_aload_n C.1 C.2.1 dX8_closed_2 rfl (lv_at hl 0 rfl) ?_
    refine fg_8_9 C kX8_closed_8 mX8_closed_53 hW dX8_closed_3 ?_
    refine lv_if_le (tgt := 63) C.1 C.2.1 dX8_closed_6 (by decide) (fun q1 => ?_) (fun q1 => ?_)
    · replace hf := (if_pos q1).symm.trans hf
      refine lv_iload_n C.1 C.2.1 dX8_closed_63 rfl (lv_at hl 1 rfl) ?_
      exact mrI C hr hlocks rfl hf hW dX8_closed_64
    · replace hf := (if_neg q1).symm.trans hf
      refine lv_aload_n C.1 C.2.1 dX8_closed_9 rfl (lv_at hl 0 rfl) ?_
      refine fg_8_15 C kX8_closed_8 mX8_closed_56 hW dX8_closed_10 ?_
      refine lv_aload_n C.1 C.2.1 dX8_closed_13 rfl (lv_at hl 0 rfl) ?_
      refine fg_8_9 C kX8_closed_8 mX8_closed_53 hW dX8_closed_14 ?_
      refine lv_iconst (v := 1) C.1 C.2.1 dX8_closed_17 (by decide) ?_
      refine lv_isub C.1 C.2.1 dX8_closed_18 ?_
      obtain ⟨h2, hf⟩ := ckx_el hf
      refine al_8_15 C hW h2 dX8_closed_19 ?_
      refine lv_iconst (v := 1) C.1 C.2.1 dX8_closed_20 (by decide) ?_
      refine lv_icmp_ne (tgt := 63) C.1 C.2.1 dX8_closed_21 (by decide) (fun q3 => ?_) (fun q3 => ?_)
      · replace hf := (if_neg q3).symm.trans hf
        refine lv_iload_n C.1 C.2.1 dX8_closed_63 rfl (lv_at hl 1 rfl) ?_
        exact mrI C hr hlocks rfl hf hW dX8_closed_64
      · replace hf := (if_pos q3).symm.trans hf
        refine lv_aload_n C.1 C.2.1 dX8_closed_24 rfl (lv_at hl 0 rfl) ?_
        refine lv_dup C.1 C.2.1 dX8_closed_25 rfl ?_
        refine fg_8_9 C kX8_closed_8 mX8_closed_53 hW dX8_closed_26 ?_
        refine lv_iconst (v := 1) C.1 C.2.1 dX8_closed_29 (by decide) ?_
        refine lv_isub C.1 C.2.1 dX8_closed_30 ?_
        obtain ⟨S4, eS4, hf⟩ := bnd_el hf
        refine fp_8_9 C kX8_closed_8 mX8_closed_53 hW dX8_closed_31 eS4 (fun H locs hW => ?_)
        refine lv_aload_n C.1 C.2.1 dX8_closed_34 rfl (lv_at hl 0 rfl) ?_
        refine lv_dup C.1 C.2.1 dX8_closed_35 rfl ?_
        refine fg_8_13 C kX8_closed_8 mX8_closed_37 hW dX8_closed_36 ?_
        refine lv_iconst (v := 1) C.1 C.2.1 dX8_closed_39 (by decide) ?_
        refine lv_isub C.1 C.2.1 dX8_closed_40 ?_
        obtain ⟨S5, eS5, hf⟩ := bnd_el hf
        refine fp_8_13 C kX8_closed_8 mX8_closed_37 hW dX8_closed_41 eS5 (fun H locs hW => ?_)
        refine lv_aload_n C.1 C.2.1 dX8_closed_44 rfl (lv_at hl 0 rfl) ?_
        refine lv_iconst (v := 1) C.1 C.2.1 dX8_closed_45 (by decide) ?_
        refine lv_aload_n C.1 C.2.1 dX8_closed_46 rfl (lv_at hl 0 rfl) ?_
        refine fg_8_16 C kX8_closed_8 mX8_closed_59 hW dX8_closed_47 ?_
        refine lv_aload_n C.1 C.2.1 dX8_closed_50 rfl (lv_at hl 0 rfl) ?_
        refine fg_8_9 C kX8_closed_8 mX8_closed_53 hW dX8_closed_51 ?_
        obtain ⟨h6, hf⟩ := ckx_el hf
        refine al_8_16 C hW h6 dX8_closed_54 ?_
        refine lv_iload_n C.1 C.2.1 dX8_closed_55 rfl (lv_at hl 1 rfl) ?_
        obtain ⟨v7, S9, h8, hf⟩ := bd2_el hf
        refine mcVi (w := wM cy a r) (S := S5) (As := [.int (1 : Int32), .int (S5.2.1 16 (S5.1 9 : Int32).toNatClampNeg), .int x2]) (rest := []) (q0 := 0) (ci := 8) C (cX8_tree_met l D cy a r _ N S5 (1 : Int32) (S5.2.1 16 (S5.1 9 : Int32).toNatClampNeg) x2 (v7, S9) h8) (cwV 3 C.2.2.2.2.1 gX8_closed_X8_tree rfl rfl rfl (by decide +kernel) ⟨Nat.le_of_ble_eq_true rfl, Nat.le_of_ble_eq_true rfl⟩) rfl rfl rfl hl.1 (Nat.le_of_ble_eq_true rfl) hW dX8_closed_56 ⟨Nat.zero_le _, Nat.zero_le _⟩ rfl (fun H locs hW => ?_)
        refine lv_istore_n (lv' := [(2, .int v7), (0, .ref (a 99))]) C.1 C.2.1 dX8_closed_59 rfl hl (by decide) rfl (fun ls hl => ?_)
        refine lv_goto (tgt := 2) C.1 C.2.1 dX8_closed_60 (by decide) ?_
        exact ih _ _ hf _ _ _ hW (lv_sub hl [1, 0] rfl)
def fX8_closed (N : Nat) (S : St) (p1 : Int32) : Option (Int32 × St) :=
  fX8_closed_2 N (S, p1)
set_option maxHeartbeats 4000000 in
set_option maxRecDepth 100000 in
theorem cX8_closed_met (l : Launch) (D : va_G) (cy : Nat → ClassId) (a r : Nat → Nat) (sz N : Nat) (S : St) (p1 : Int32) (Rr : Int32 × St) (hf : fX8_closed N S p1 = some Rr) : Met l yX8_closed wsX8_closed ({ frames := 1, cells := 0, slots := 0, locals := 23 } : Room) (va_Pc [.ref (a 99), .int p1] (preW D cy (wM cy a r S) sz)) (QI D cy (wM cy a r) (va_A (wM cy a r S) sz) Rr) 0 0 (va_A (wM cy a r S) sz) := by
  refine Met.ofW (cc := cX8_closed) (maxL := 3) (ret := (some .int)) (by decide) rfl ?_
  intro p e s m args below meth c s₁ B hml hv
  obtain ⟨rfl, rfl, hP, hK, hD0, hN⟩ := hv
  have hlocks := B.notSynchronized
  have hr := B.returns
  have C : Cx p s m _ c cX8_closed 3 wsX8_closed RX8 D cy := ⟨B.exec, B.bytes, hml, findClass_of_methodNamed B.named, atoms_spec (ws := wsX8_closed) B.pre, hK, hN⟩
  have hW := ww_start (w := wM cy a r) hP hD0
  generalize va_A (wM cy a r S) s.heap.size = A at hW ⊢
  have hl := lv_entry ([.ref (a 99), .int p1]) (n := 3) (Nat.le_of_ble_eq_true rfl)
  rw [lg_entry_eq]
  generalize (lg_sl ([.ref (a 99), .int p1]) ++ List.replicate (3 - (lg_sl ([.ref (a 99), .int p1])).length) Slot.unset).toArray = ls at hl ⊢
  have hl : lv_has ls 3 [(0, .ref (a 99)), (1, .int p1)] := hl
  unfold fX8_closed at hf
  refine lv_iload_n C.1 C.2.1 dX8_closed_0 rfl (lv_at hl 1 rfl) ?_
  refine lv_istore_n (lv' := [(2, .int p1), (0, .ref (a 99)), (1, .int p1)]) C.1 C.2.1 dX8_closed_1 rfl hl (by decide) rfl (fun ls hl => ?_)
  exact lX8_closed_2 C hr hlocks N _ _ _ hf _ _ _ hW (lv_sub hl [1, 0] rfl)
theorem mX8_term_53 : Cond.fieldLink RX8 53 "SharedLambdaModel" "opened" "I" ∈ wsX8_term := by decide +kernel
theorem mX8_term_59 : Cond.fieldLink RX8 59 "SharedLambdaModel" "openTree" "[I" ∈ wsX8_term := by decide +kernel
theorem mX8_term_14 : Cond.fieldLink RX8 14 "SharedLambdaModel" "at" "I" ∈ wsX8_term := by decide +kernel
theorem mX8_term_17 : Cond.fieldLink RX8 17 "SharedLambdaModel" "fault" "I" ∈ wsX8_term := by decide +kernel
theorem kX8_term_8 : ∀ w ∈ u_ws RX8 TX8 58, w ∈ wsX8_term := fun _ h => List.mem_cons_of_mem _ (List.mem_append_right _ h)
def fX8_term_214 (N : Nat) (k4 : St × Int32 × Int32 → Option (Int32 × St)) (S : St) (x1 : Int32) (x2 : Int32) : Option (Int32 × St) :=
  k4 (S, x1, x2)
set_option maxHeartbeats 4000000 in
set_option maxRecDepth 100000 in
theorem lX8_term_214 {p : Program} {l : Launch} {e : Env} {s : State} {m : MethodId} {args : Array Value} {below : List Frame} {meth : Method} {c : Code} {D : va_G} {cy : Nat → ClassId} {a r : Nat → Nat} {A : Nat → Prop} {Rr : Int32 × St} (C : Cx p s m args c cX8_term 5 wsX8_term RX8 D cy) (hr : meth.sig.returnType = some .int) (hlocks : meth.locks = false) (N : Nat) (k4 : St × Int32 × Int32 → Option (Int32 × St)) (hk4 : ∀ (S : St) (x1 : Int32) (x2 : Int32), k4 (S, x1, x2) = some Rr → ∀ (H : Heap) (locs : List Loc) (ls : Array Slot), WW D A s.heap (wM cy a r S) H locs → lv_has ls 5 [(0, .ref (a 99)), (1, .int x1), (2, .int x2)] → W p l e ({ frames := 3, cells := 0, slots := 0, locals := 69 } : Room) s m args below meth c H locs 0 0 (MQ below (QI D cy (wM cy a r) A Rr) args s 0 0 A) (F0 m 4 ls [])) (S : St) (x1 : Int32) (x2 : Int32) (hf : fX8_term_214 N k4 S x1 x2 = some Rr) : ∀ (H : Heap) (locs : List Loc) (ls : Array Slot), WW D A s.heap (wM cy a r S) H locs → lv_has ls 5 [(0, .ref (a 99)), (1, .int x1), (2, .int x2)] → W p l e ({ frames := 3, cells := 0, slots := 0, locals := 69 } : Room) s m args below meth c H locs 0 0 (MQ below (QI D cy (wM cy a r) A Rr) args s 0 0 A) (F0 m 214 ls []) := by
  intro H locs ls hW hl
  unfold fX8_term_214 at hf
  refine lv_goto (tgt := 4) C.1 C.2.1 dX8_term_214 (by decide) ?_
  exact hk4 _ _ _ hf _ _ _ hW (lv_sub hl [0, 1, 2] rfl)
def fX8_term_152 (N : Nat) (k4 : St × Int32 × Int32 → Option (Int32 × St)) (S : St) (x1 : Int32) (x2 : Int32) (y0 : Int32) (y1 : Int32) : Option (Int32 × St) :=
  if y0 = y1 then
    if S.1 9 ≤ 0 then
      bnd (0 : Int32) fun z3 =>
      fX8_term_214 N k4 S x1 z3
    else
      bnd (sI S 9 ((S.1 9 - (1 : Int32)))) fun S4 =>
      ckx (S4.1 9) 41 <|
      bd2 (fX8_joined N S4 (S4.2.1 16 (S4.1 9 : Int32).toNatClampNeg) x1) fun v6 S8 =>
      bnd (sI S8 7 ((S8.1 7 + (1 : Int32)))) fun S9 =>
      fX8_term_214 N k4 S9 v6 x2
  else
    bdo (fX8_bad N S (1 : Int32) (S.1 7)) fun S12 =>
    fX8_term_214 N k4 S12 x1 x2
set_option maxHeartbeats 4000000 in
set_option maxRecDepth 100000 in
theorem lX8_term_152 {p : Program} {l : Launch} {e : Env} {s : State} {m : MethodId} {args : Array Value} {below : List Frame} {meth : Method} {c : Code} {D : va_G} {cy : Nat → ClassId} {a r : Nat → Nat} {A : Nat → Prop} {Rr : Int32 × St} (C : Cx p s m args c cX8_term 5 wsX8_term RX8 D cy) (hr : meth.sig.returnType = some .int) (hlocks : meth.locks = false) (N : Nat) (k4 : St × Int32 × Int32 → Option (Int32 × St)) (hk4 : ∀ (S : St) (x1 : Int32) (x2 : Int32), k4 (S, x1, x2) = some Rr → ∀ (H : Heap) (locs : List Loc) (ls : Array Slot), WW D A s.heap (wM cy a r S) H locs → lv_has ls 5 [(0, .ref (a 99)), (1, .int x1), (2, .int x2)] → W p l e ({ frames := 3, cells := 0, slots := 0, locals := 69 } : Room) s m args below meth c H locs 0 0 (MQ below (QI D cy (wM cy a r) A Rr) args s 0 0 A) (F0 m 4 ls [])) (S : St) (x1 : Int32) (x2 : Int32) (y0 : Int32) (y1 : Int32) (hf : fX8_term_152 N k4 S x1 x2 y0 y1 = some Rr) : ∀ (H : Heap) (locs : List Loc) (ls : Array Slot), WW D A s.heap (wM cy a r S) H locs → lv_has ls 5 [(0, .ref (a 99)), (1, .int x1), (2, .int x2)] → W p l e ({ frames := 3, cells := 0, slots := 0, locals := 69 } : Room) s m args below meth c H locs 0 0 (MQ below (QI D cy (wM cy a r) A Rr) args s 0 0 A) (F0 m 152 ls [.int y1, .int y0]) := by
  intro H locs ls hW hl
  unfold fX8_term_152 at hf
  refine lv_icmp_eq (tgt := 167) C.1 C.2.1 dX8_term_152 (by decide) (fun q1 => ?_) (fun q1 => ?_)
  · replace hf := (if_pos q1).symm.trans hf
    refine lv_aload_n C.1 C.2.1 dX8_term_167 rfl (lv_at hl 0 rfl) ?_
    refine fg_8_9 C kX8_term_8 mX8_term_53 hW dX8_term_168 ?_
    refine lv_if_le (tgt := 212) C.1 C.2.1 dX8_term_171 (by decide) (fun q2 => ?_) (fun q2 => ?_)
    · replace hf := (if_pos q2).symm.trans hf
      refine lv_iconst (v := 0) C.1 C.2.1 dX8_term_212 (by decide) ?_
      obtain ⟨z3, ez3, hf⟩ := bnd_el hf
      refine lv_as ez3 ?_
      refine lv_istore_n (lv' := [(2, .int z3), (0, .ref (a 99)), (1, .int x1)]) C.1 C.2.1 dX8_term_213 rfl hl (by decide) rfl (fun ls hl => ?_)
      exact lX8_term_214 C hr hlocks N _ hk4 _ _ _ hf _ _ _ hW (lv_sub hl [1, 2, 0] rfl)
    · replace hf := (if_neg q2).symm.trans hf
      refine lv_aload_n C.1 C.2.1 dX8_term_174 rfl (lv_at hl 0 rfl) ?_
      refine lv_dup C.1 C.2.1 dX8_term_175 rfl ?_
      refine fg_8_9 C kX8_term_8 mX8_term_53 hW dX8_term_176 ?_
      refine lv_iconst (v := 1) C.1 C.2.1 dX8_term_179 (by decide) ?_
      refine lv_isub C.1 C.2.1 dX8_term_180 ?_
      obtain ⟨S4, eS4, hf⟩ := bnd_el hf
      refine fp_8_9 C kX8_term_8 mX8_term_53 hW dX8_term_181 eS4 (fun H locs hW => ?_)
      refine lv_aload_n C.1 C.2.1 dX8_term_184 rfl (lv_at hl 0 rfl) ?_
      refine lv_aload_n C.1 C.2.1 dX8_term_185 rfl (lv_at hl 0 rfl) ?_
      refine fg_8_16 C kX8_term_8 mX8_term_59 hW dX8_term_186 ?_
      refine lv_aload_n C.1 C.2.1 dX8_term_189 rfl (lv_at hl 0 rfl) ?_
      refine fg_8_9 C kX8_term_8 mX8_term_53 hW dX8_term_190 ?_
      obtain ⟨h5, hf⟩ := ckx_el hf
      refine al_8_16 C hW h5 dX8_term_193 ?_
      refine lv_iload_n C.1 C.2.1 dX8_term_194 rfl (lv_at hl 1 rfl) ?_
      obtain ⟨v6, S8, h7, hf⟩ := bd2_el hf
      refine mcVi (w := wM cy a r) (S := S4) (As := [.int (S4.2.1 16 (S4.1 9 : Int32).toNatClampNeg), .int x1]) (rest := []) (q0 := 0) (ci := 8) C (cX8_joined_met l D cy a r _ N S4 (S4.2.1 16 (S4.1 9 : Int32).toNatClampNeg) x1 (v6, S8) h7) (cwV 2 C.2.2.2.2.1 gX8_term_X8_joined rfl rfl rfl (by decide +kernel) ⟨Nat.le_of_ble_eq_true rfl, Nat.le_of_ble_eq_true rfl⟩) rfl rfl rfl hl.1 (Nat.le_of_ble_eq_true rfl) hW dX8_term_195 ⟨Nat.zero_le _, Nat.zero_le _⟩ rfl (fun H locs hW => ?_)
      refine lv_istore_n (lv' := [(1, .int v6), (0, .ref (a 99)), (2, .int x2)]) C.1 C.2.1 dX8_term_198 rfl hl (by decide) rfl (fun ls hl => ?_)
      refine lv_aload_n C.1 C.2.1 dX8_term_199 rfl (lv_at hl 1 rfl) ?_
      refine lv_dup C.1 C.2.1 dX8_term_200 rfl ?_
      refine fg_8_7 C kX8_term_8 mX8_term_14 hW dX8_term_201 ?_
      refine lv_iconst (v := 1) C.1 C.2.1 dX8_term_204 (by decide) ?_
      refine lv_iadd C.1 C.2.1 dX8_term_205 ?_
      obtain ⟨S9, eS9, hf⟩ := bnd_el hf
      refine fp_8_7 C kX8_term_8 mX8_term_14 hW dX8_term_206 eS9 (fun H locs hW => ?_)
      refine lv_goto (tgt := 214) C.1 C.2.1 dX8_term_209 (by decide) ?_
      exact lX8_term_214 C hr hlocks N _ hk4 _ _ _ hf _ _ _ hW (lv_sub hl [1, 0, 2] rfl)
  · replace hf := (if_neg q1).symm.trans hf
    refine lv_aload_n C.1 C.2.1 dX8_term_155 rfl (lv_at hl 0 rfl) ?_
    refine lv_iconst (v := 1) C.1 C.2.1 dX8_term_156 (by decide) ?_
    refine lv_aload_n C.1 C.2.1 dX8_term_157 rfl (lv_at hl 0 rfl) ?_
    refine fg_8_7 C kX8_term_8 mX8_term_14 hW dX8_term_158 ?_
    obtain ⟨S12, h11, hf⟩ := bdo_el hf
    refine mcVv (w := wM cy a r) (S := S) (As := [.int (1 : Int32), .int (S.1 7)]) (rest := []) (q0 := 0) (ci := 8) C (cX8_bad_met l D cy a r _ N S (1 : Int32) (S.1 7) S12 h11) (cwV 2 C.2.2.2.2.1 gX8_term_X8_bad rfl rfl rfl (by decide +kernel) ⟨Nat.le_of_ble_eq_true rfl, Nat.le_of_ble_eq_true rfl⟩) rfl rfl rfl hl.1 (Nat.le_of_ble_eq_true rfl) hW dX8_term_161 ⟨Nat.zero_le _, Nat.zero_le _⟩ rfl (fun H locs hW => ?_)
    refine lv_goto (tgt := 214) C.1 C.2.1 dX8_term_164 (by decide) ?_
    exact lX8_term_214 C hr hlocks N _ hk4 _ _ _ hf _ _ _ hW (lv_sub hl [0, 1, 2] rfl)
def fX8_term_141 (N : Nat) (k4 : St × Int32 × Int32 → Option (Int32 × St)) (S : St) (x1 : Int32) (x2 : Int32) (x3 : Int32) (y0 : Int32) : Option (Int32 × St) :=
  if x3 = (41 : Int32) then
    fX8_term_152 N k4 S x1 x2 y0 (1 : Int32)
  else
    fX8_term_152 N k4 S x1 x2 y0 (0 : Int32)
set_option maxHeartbeats 4000000 in
set_option maxRecDepth 100000 in
theorem lX8_term_141 {p : Program} {l : Launch} {e : Env} {s : State} {m : MethodId} {args : Array Value} {below : List Frame} {meth : Method} {c : Code} {D : va_G} {cy : Nat → ClassId} {a r : Nat → Nat} {A : Nat → Prop} {Rr : Int32 × St} (C : Cx p s m args c cX8_term 5 wsX8_term RX8 D cy) (hr : meth.sig.returnType = some .int) (hlocks : meth.locks = false) (N : Nat) (k4 : St × Int32 × Int32 → Option (Int32 × St)) (hk4 : ∀ (S : St) (x1 : Int32) (x2 : Int32), k4 (S, x1, x2) = some Rr → ∀ (H : Heap) (locs : List Loc) (ls : Array Slot), WW D A s.heap (wM cy a r S) H locs → lv_has ls 5 [(0, .ref (a 99)), (1, .int x1), (2, .int x2)] → W p l e ({ frames := 3, cells := 0, slots := 0, locals := 69 } : Room) s m args below meth c H locs 0 0 (MQ below (QI D cy (wM cy a r) A Rr) args s 0 0 A) (F0 m 4 ls [])) (S : St) (x1 : Int32) (x2 : Int32) (x3 : Int32) (y0 : Int32) (hf : fX8_term_141 N k4 S x1 x2 x3 y0 = some Rr) : ∀ (H : Heap) (locs : List Loc) (ls : Array Slot), WW D A s.heap (wM cy a r S) H locs → lv_has ls 5 [(0, .ref (a 99)), (1, .int x1), (2, .int x2), (3, .int x3)] → W p l e ({ frames := 3, cells := 0, slots := 0, locals := 69 } : Room) s m args below meth c H locs 0 0 (MQ below (QI D cy (wM cy a r) A Rr) args s 0 0 A) (F0 m 141 ls [.int y0]) := by
  intro H locs ls hW hl
  unfold fX8_term_141 at hf
  refine lv_iload_n C.1 C.2.1 dX8_term_141 rfl (lv_at hl 3 rfl) ?_
  refine lv_bipush (v := 41) C.1 C.2.1 dX8_term_142 (by decide) ?_
  refine lv_icmp_ne (tgt := 151) C.1 C.2.1 dX8_term_144 (by decide) (fun q1 => ?_) (fun q1 => ?_)
  · replace hf := (if_neg q1).symm.trans hf
    refine lv_iconst (v := 0) C.1 C.2.1 dX8_term_151 (by decide) ?_
    exact lX8_term_152 C hr hlocks N _ hk4 _ _ _ _ _ hf _ _ _ hW (lv_sub hl [0, 1, 2] rfl)
  · replace hf := (if_pos q1).symm.trans hf
    refine lv_iconst (v := 1) C.1 C.2.1 dX8_term_147 (by decide) ?_
    refine lv_goto (tgt := 152) C.1 C.2.1 dX8_term_148 (by decide) ?_
    exact lX8_term_152 C hr hlocks N _ hk4 _ _ _ _ _ hf _ _ _ hW (lv_sub hl [0, 1, 2] rfl)
def fX8_term_123 (N : Nat) (k4 : St × Int32 × Int32 → Option (Int32 × St)) (S : St) (x1 : Int32) (x2 : Int32) (x3 : Int32) : Option (Int32 × St) :=
  bd2 (fX8_closed N S x1) fun v1 S3 =>
  if S3.1 9 ≤ 0 then
    fX8_term_141 N k4 S3 v1 x2 x3 (0 : Int32)
  else
    fX8_term_141 N k4 S3 v1 x2 x3 (1 : Int32)
set_option maxHeartbeats 4000000 in
set_option maxRecDepth 100000 in
theorem lX8_term_123 {p : Program} {l : Launch} {e : Env} {s : State} {m : MethodId} {args : Array Value} {below : List Frame} {meth : Method} {c : Code} {D : va_G} {cy : Nat → ClassId} {a r : Nat → Nat} {A : Nat → Prop} {Rr : Int32 × St} (C : Cx p s m args c cX8_term 5 wsX8_term RX8 D cy) (hr : meth.sig.returnType = some .int) (hlocks : meth.locks = false) (N : Nat) (k4 : St × Int32 × Int32 → Option (Int32 × St)) (hk4 : ∀ (S : St) (x1 : Int32) (x2 : Int32), k4 (S, x1, x2) = some Rr → ∀ (H : Heap) (locs : List Loc) (ls : Array Slot), WW D A s.heap (wM cy a r S) H locs → lv_has ls 5 [(0, .ref (a 99)), (1, .int x1), (2, .int x2)] → W p l e ({ frames := 3, cells := 0, slots := 0, locals := 69 } : Room) s m args below meth c H locs 0 0 (MQ below (QI D cy (wM cy a r) A Rr) args s 0 0 A) (F0 m 4 ls [])) (S : St) (x1 : Int32) (x2 : Int32) (x3 : Int32) (hf : fX8_term_123 N k4 S x1 x2 x3 = some Rr) : ∀ (H : Heap) (locs : List Loc) (ls : Array Slot), WW D A s.heap (wM cy a r S) H locs → lv_has ls 5 [(0, .ref (a 99)), (1, .int x1), (2, .int x2), (3, .int x3)] → W p l e ({ frames := 3, cells := 0, slots := 0, locals := 69 } : Room) s m args below meth c H locs 0 0 (MQ below (QI D cy (wM cy a r) A Rr) args s 0 0 A) (F0 m 123 ls []) := by
  intro H locs ls hW hl
  unfold fX8_term_123 at hf
  refine lv_aload_n C.1 C.2.1 dX8_term_123 rfl (lv_at hl 0 rfl) ?_
  refine lv_iload_n C.1 C.2.1 dX8_term_124 rfl (lv_at hl 1 rfl) ?_
  obtain ⟨v1, S3, h2, hf⟩ := bd2_el hf
  refine mcVi (w := wM cy a r) (S := S) (As := [.int x1]) (rest := []) (q0 := 0) (ci := 8) C (cX8_closed_met l D cy a r _ N S x1 (v1, S3) h2) (cwV 1 C.2.2.2.2.1 gX8_term_X8_closed rfl rfl rfl (by decide +kernel) ⟨Nat.le_of_ble_eq_true rfl, Nat.le_of_ble_eq_true rfl⟩) rfl rfl rfl hl.1 (Nat.le_of_ble_eq_true rfl) hW dX8_term_125 ⟨Nat.zero_le _, Nat.zero_le _⟩ rfl (fun H locs hW => ?_)
  refine lv_istore_n (lv' := [(1, .int v1), (0, .ref (a 99)), (2, .int x2), (3, .int x3)]) C.1 C.2.1 dX8_term_128 rfl hl (by decide) rfl (fun ls hl => ?_)
  refine lv_aload_n C.1 C.2.1 dX8_term_129 rfl (lv_at hl 1 rfl) ?_
  refine fg_8_9 C kX8_term_8 mX8_term_53 hW dX8_term_130 ?_
  refine lv_if_le (tgt := 140) C.1 C.2.1 dX8_term_133 (by decide) (fun q4 => ?_) (fun q4 => ?_)
  · replace hf := (if_pos q4).symm.trans hf
    refine lv_iconst (v := 0) C.1 C.2.1 dX8_term_140 (by decide) ?_
    exact lX8_term_141 C hr hlocks N _ hk4 _ _ _ _ _ hf _ _ _ hW (lv_sub hl [1, 0, 2, 3] rfl)
  · replace hf := (if_neg q4).symm.trans hf
    refine lv_iconst (v := 1) C.1 C.2.1 dX8_term_136 (by decide) ?_
    refine lv_goto (tgt := 141) C.1 C.2.1 dX8_term_137 (by decide) ?_
    exact lX8_term_141 C hr hlocks N _ hk4 _ _ _ _ _ hf _ _ _ hW (lv_sub hl [1, 0, 2, 3] rfl)
def fX8_term_111 (N : Nat) (k4 : St × Int32 × Int32 → Option (Int32 × St)) (S : St) (x1 : Int32) (x2 : Int32) : Option (Int32 × St) :=
  bdo (fX8_bad N S (1 : Int32) (S.1 7)) fun S3 =>
  fX8_term_214 N k4 S3 x1 x2
set_option maxHeartbeats 4000000 in
set_option maxRecDepth 100000 in
theorem lX8_term_111 {p : Program} {l : Launch} {e : Env} {s : State} {m : MethodId} {args : Array Value} {below : List Frame} {meth : Method} {c : Code} {D : va_G} {cy : Nat → ClassId} {a r : Nat → Nat} {A : Nat → Prop} {Rr : Int32 × St} (C : Cx p s m args c cX8_term 5 wsX8_term RX8 D cy) (hr : meth.sig.returnType = some .int) (hlocks : meth.locks = false) (N : Nat) (k4 : St × Int32 × Int32 → Option (Int32 × St)) (hk4 : ∀ (S : St) (x1 : Int32) (x2 : Int32), k4 (S, x1, x2) = some Rr → ∀ (H : Heap) (locs : List Loc) (ls : Array Slot), WW D A s.heap (wM cy a r S) H locs → lv_has ls 5 [(0, .ref (a 99)), (1, .int x1), (2, .int x2)] → W p l e ({ frames := 3, cells := 0, slots := 0, locals := 69 } : Room) s m args below meth c H locs 0 0 (MQ below (QI D cy (wM cy a r) A Rr) args s 0 0 A) (F0 m 4 ls [])) (S : St) (x1 : Int32) (x2 : Int32) (hf : fX8_term_111 N k4 S x1 x2 = some Rr) : ∀ (H : Heap) (locs : List Loc) (ls : Array Slot), WW D A s.heap (wM cy a r S) H locs → lv_has ls 5 [(0, .ref (a 99)), (1, .int x1), (2, .int x2)] → W p l e ({ frames := 3, cells := 0, slots := 0, locals := 69 } : Room) s m args below meth c H locs 0 0 (MQ below (QI D cy (wM cy a r) A Rr) args s 0 0 A) (F0 m 111 ls []) := by
  intro H locs ls hW hl
  unfold fX8_term_111 at hf
  refine lv_aload_n C.1 C.2.1 dX8_term_111 rfl (lv_at hl 0 rfl) ?_
  refine lv_iconst (v := 1) C.1 C.2.1 dX8_term_112 (by decide) ?_
  refine lv_aload_n C.1 C.2.1 dX8_term_113 rfl (lv_at hl 0 rfl) ?_
  refine fg_8_7 C kX8_term_8 mX8_term_14 hW dX8_term_114 ?_
  obtain ⟨S3, h2, hf⟩ := bdo_el hf
  refine mcVv (w := wM cy a r) (S := S) (As := [.int (1 : Int32), .int (S.1 7)]) (rest := []) (q0 := 0) (ci := 8) C (cX8_bad_met l D cy a r _ N S (1 : Int32) (S.1 7) S3 h2) (cwV 2 C.2.2.2.2.1 gX8_term_X8_bad rfl rfl rfl (by decide +kernel) ⟨Nat.le_of_ble_eq_true rfl, Nat.le_of_ble_eq_true rfl⟩) rfl rfl rfl hl.1 (Nat.le_of_ble_eq_true rfl) hW dX8_term_117 ⟨Nat.zero_le _, Nat.zero_le _⟩ rfl (fun H locs hW => ?_)
  refine lv_goto (tgt := 214) C.1 C.2.1 dX8_term_120 (by decide) ?_
  exact lX8_term_214 C hr hlocks N _ hk4 _ _ _ hf _ _ _ hW (lv_sub hl [0, 1, 2] rfl)
def fX8_term_75 (N : Nat) (k4 : St × Int32 × Int32 → Option (Int32 × St)) (S : St) (x2 : Int32) (y0 : Int32) : Option (Int32 × St) :=
  fX8_term_214 N k4 S y0 x2
set_option maxHeartbeats 4000000 in
set_option maxRecDepth 100000 in
theorem lX8_term_75 {p : Program} {l : Launch} {e : Env} {s : State} {m : MethodId} {args : Array Value} {below : List Frame} {meth : Method} {c : Code} {D : va_G} {cy : Nat → ClassId} {a r : Nat → Nat} {A : Nat → Prop} {Rr : Int32 × St} (C : Cx p s m args c cX8_term 5 wsX8_term RX8 D cy) (hr : meth.sig.returnType = some .int) (hlocks : meth.locks = false) (N : Nat) (k4 : St × Int32 × Int32 → Option (Int32 × St)) (hk4 : ∀ (S : St) (x1 : Int32) (x2 : Int32), k4 (S, x1, x2) = some Rr → ∀ (H : Heap) (locs : List Loc) (ls : Array Slot), WW D A s.heap (wM cy a r S) H locs → lv_has ls 5 [(0, .ref (a 99)), (1, .int x1), (2, .int x2)] → W p l e ({ frames := 3, cells := 0, slots := 0, locals := 69 } : Room) s m args below meth c H locs 0 0 (MQ below (QI D cy (wM cy a r) A Rr) args s 0 0 A) (F0 m 4 ls [])) (S : St) (x2 : Int32) (y0 : Int32) (hf : fX8_term_75 N k4 S x2 y0 = some Rr) : ∀ (H : Heap) (locs : List Loc) (ls : Array Slot), WW D A s.heap (wM cy a r S) H locs → lv_has ls 5 [(0, .ref (a 99)), (2, .int x2)] → W p l e ({ frames := 3, cells := 0, slots := 0, locals := 69 } : Room) s m args below meth c H locs 0 0 (MQ below (QI D cy (wM cy a r) A Rr) args s 0 0 A) (F0 m 75 ls [.int y0]) := by
  intro H locs ls hW hl
  unfold fX8_term_75 at hf
  refine lv_istore_n (lv' := [(1, .int y0), (0, .ref (a 99)), (2, .int x2)]) C.1 C.2.1 dX8_term_75 rfl hl (by decide) rfl (fun ls hl => ?_)
  refine lv_goto (tgt := 214) C.1 C.2.1 dX8_term_76 (by decide) ?_
  exact lX8_term_214 C hr hlocks N _ hk4 _ _ _ hf _ _ _ hW (lv_sub hl [1, 0, 2] rfl)
def fX8_term_37 (N : Nat) (k4 : St × Int32 × Int32 → Option (Int32 × St)) (S : St) (x1 : Int32) (x2 : Int32) (x3 : Int32) : Option (Int32 × St) :=
  bdo (fX8_isLetter x3) fun v1 =>
  if v1 = 0 then
    if x3 = (40 : Int32) then
      bdo (fX8_opens N S (0 : Int32) x1) fun S10 =>
      bnd (-1 : Int32) fun z11 =>
      fX8_term_214 N k4 S10 z11 x2
    else
      if x1 < 0 then
        fX8_term_111 N k4 S x1 x2
      else
        if x3 = (41 : Int32) then
          fX8_term_123 N k4 S x1 x2 x3
        else
          if x3 = (-1 : Int32) then
            fX8_term_123 N k4 S x1 x2 x3
          else
            fX8_term_111 N k4 S x1 x2
  else
    bd2 (fX8_name N S (0 : Int32)) fun v12 S14 =>
    if S14.1 8 = 0 then
      bd2 (fX8_tree N S14 (0 : Int32) v12 (0 : Int32)) fun v16 S18 =>
      bd2 (fX8_joined N S18 x1 v16) fun v19 S21 =>
      fX8_term_75 N k4 S21 x2 v19
    else
      fX8_term_75 N k4 S14 x2 x1
set_option maxHeartbeats 4000000 in
set_option maxRecDepth 100000 in
theorem lX8_term_37 {p : Program} {l : Launch} {e : Env} {s : State} {m : MethodId} {args : Array Value} {below : List Frame} {meth : Method} {c : Code} {D : va_G} {cy : Nat → ClassId} {a r : Nat → Nat} {A : Nat → Prop} {Rr : Int32 × St} (C : Cx p s m args c cX8_term 5 wsX8_term RX8 D cy) (hr : meth.sig.returnType = some .int) (hlocks : meth.locks = false) (N : Nat) (k4 : St × Int32 × Int32 → Option (Int32 × St)) (hk4 : ∀ (S : St) (x1 : Int32) (x2 : Int32), k4 (S, x1, x2) = some Rr → ∀ (H : Heap) (locs : List Loc) (ls : Array Slot), WW D A s.heap (wM cy a r S) H locs → lv_has ls 5 [(0, .ref (a 99)), (1, .int x1), (2, .int x2)] → W p l e ({ frames := 3, cells := 0, slots := 0, locals := 69 } : Room) s m args below meth c H locs 0 0 (MQ below (QI D cy (wM cy a r) A Rr) args s 0 0 A) (F0 m 4 ls [])) (S : St) (x1 : Int32) (x2 : Int32) (x3 : Int32) (hf : fX8_term_37 N k4 S x1 x2 x3 = some Rr) : ∀ (H : Heap) (locs : List Loc) (ls : Array Slot), WW D A s.heap (wM cy a r S) H locs → lv_has ls 5 [(0, .ref (a 99)), (1, .int x1), (2, .int x2), (3, .int x3)] → W p l e ({ frames := 3, cells := 0, slots := 0, locals := 69 } : Room) s m args below meth c H locs 0 0 (MQ below (QI D cy (wM cy a r) A Rr) args s 0 0 A) (F0 m 37 ls []) := by
  intro H locs ls hW hl
  unfold fX8_term_37 at hf
  refine lv_iload_n C.1 C.2.1 dX8_term_37 rfl (lv_at hl 3 rfl) ?_
  obtain ⟨v1, h2, hf⟩ := bdo_el hf
  refine mcS (As := [.int x3]) (rest := []) C (cX8_isLetter_met l x3 v1 h2) (va_cwS 1 C.2.2.2.2.1 gX8_term_X8_isLetter rfl rfl rfl (by decide +kernel) ⟨Nat.le_of_ble_eq_true rfl, Nat.le_of_ble_eq_true rfl⟩) rfl hl.1 (Nat.le_of_ble_eq_true rfl) dX8_term_38 ⟨Nat.zero_le _, Nat.zero_le _⟩ rfl ?_
  refine lv_if_eq (tgt := 79) C.1 C.2.1 dX8_term_41 (by decide) (fun q3 => ?_) (fun q3 => ?_)
  · replace hf := (if_pos q3).symm.trans hf
    refine lv_iload_n C.1 C.2.1 dX8_term_79 rfl (lv_at hl 3 rfl) ?_
    refine lv_bipush (v := 40) C.1 C.2.1 dX8_term_80 (by decide) ?_
    refine lv_icmp_ne (tgt := 96) C.1 C.2.1 dX8_term_82 (by decide) (fun q4 => ?_) (fun q4 => ?_)
    · replace hf := (if_neg q4).symm.trans hf
      refine lv_iload_n C.1 C.2.1 dX8_term_96 rfl (lv_at hl 1 rfl) ?_
      refine lv_if_lt (tgt := 111) C.1 C.2.1 dX8_term_97 (by decide) (fun q5 => ?_) (fun q5 => ?_)
      · replace hf := (if_pos q5).symm.trans hf
        exact lX8_term_111 C hr hlocks N _ hk4 _ _ _ hf _ _ _ hW (lv_sub hl [0, 1, 2] rfl)
      · replace hf := (if_neg q5).symm.trans hf
        refine lv_iload_n C.1 C.2.1 dX8_term_100 rfl (lv_at hl 3 rfl) ?_
        refine lv_bipush (v := 41) C.1 C.2.1 dX8_term_101 (by decide) ?_
        refine lv_icmp_eq (tgt := 123) C.1 C.2.1 dX8_term_103 (by decide) (fun q6 => ?_) (fun q6 => ?_)
        · replace hf := (if_pos q6).symm.trans hf
          exact lX8_term_123 C hr hlocks N _ hk4 _ _ _ _ hf _ _ _ hW (lv_sub hl [0, 1, 2, 3] rfl)
        · replace hf := (if_neg q6).symm.trans hf
          refine lv_iload_n C.1 C.2.1 dX8_term_106 rfl (lv_at hl 3 rfl) ?_
          refine lv_iconst (v := -1) C.1 C.2.1 dX8_term_107 (by decide) ?_
          refine lv_icmp_eq (tgt := 123) C.1 C.2.1 dX8_term_108 (by decide) (fun q7 => ?_) (fun q7 => ?_)
          · replace hf := (if_pos q7).symm.trans hf
            exact lX8_term_123 C hr hlocks N _ hk4 _ _ _ _ hf _ _ _ hW (lv_sub hl [0, 1, 2, 3] rfl)
          · replace hf := (if_neg q7).symm.trans hf
            exact lX8_term_111 C hr hlocks N _ hk4 _ _ _ hf _ _ _ hW (lv_sub hl [0, 1, 2] rfl)
    · replace hf := (if_pos q4).symm.trans hf
      refine lv_aload_n C.1 C.2.1 dX8_term_85 rfl (lv_at hl 0 rfl) ?_
      refine lv_iconst (v := 0) C.1 C.2.1 dX8_term_86 (by decide) ?_
      refine lv_iload_n C.1 C.2.1 dX8_term_87 rfl (lv_at hl 1 rfl) ?_
      obtain ⟨S10, h9, hf⟩ := bdo_el hf
      refine mcVv (w := wM cy a r) (S := S) (As := [.int (0 : Int32), .int x1]) (rest := []) (q0 := 0) (ci := 8) C (cX8_opens_met l D cy a r _ N S (0 : Int32) x1 S10 h9) (cwV 2 C.2.2.2.2.1 gX8_term_X8_opens rfl rfl rfl (by decide +kernel) ⟨Nat.le_of_ble_eq_true rfl, Nat.le_of_ble_eq_true rfl⟩) rfl rfl rfl hl.1 (Nat.le_of_ble_eq_true rfl) hW dX8_term_88 ⟨Nat.zero_le _, Nat.zero_le _⟩ rfl (fun H locs hW => ?_)
      refine lv_iconst (v := -1) C.1 C.2.1 dX8_term_91 (by decide) ?_
      obtain ⟨z11, ez11, hf⟩ := bnd_el hf
      refine lv_as ez11 ?_
      refine lv_istore_n (lv' := [(1, .int z11), (0, .ref (a 99)), (2, .int x2), (3, .int x3)]) C.1 C.2.1 dX8_term_92 rfl hl (by decide) rfl (fun ls hl => ?_)
      refine lv_goto (tgt := 214) C.1 C.2.1 dX8_term_93 (by decide) ?_
      exact lX8_term_214 C hr hlocks N _ hk4 _ _ _ hf _ _ _ hW (lv_sub hl [1, 0, 2] rfl)
  · replace hf := (if_neg q3).symm.trans hf
    refine lv_aload_n C.1 C.2.1 dX8_term_44 rfl (lv_at hl 0 rfl) ?_
    refine lv_iconst (v := 0) C.1 C.2.1 dX8_term_45 (by decide) ?_
    obtain ⟨v12, S14, h13, hf⟩ := bd2_el hf
    refine mcVi (w := wM cy a r) (S := S) (As := [.int (0 : Int32)]) (rest := []) (q0 := 0) (ci := 8) C (cX8_name_met l D cy a r _ N S (0 : Int32) (v12, S14) h13) (cwV 1 C.2.2.2.2.1 gX8_term_X8_name rfl rfl rfl (by decide +kernel) ⟨Nat.le_of_ble_eq_true rfl, Nat.le_of_ble_eq_true rfl⟩) rfl rfl rfl hl.1 (Nat.le_of_ble_eq_true rfl) hW dX8_term_46 ⟨Nat.zero_le _, Nat.zero_le _⟩ rfl (fun H locs hW => ?_)
    refine lv_istore (lv' := [(4, .int v12), (0, .ref (a 99)), (1, .int x1), (2, .int x2), (3, .int x3)]) C.1 C.2.1 dX8_term_49 hl (by decide) rfl (fun ls hl => ?_)
    refine lv_aload_n C.1 C.2.1 dX8_term_51 rfl (lv_at hl 1 rfl) ?_
    refine fg_8_8 C kX8_term_8 mX8_term_17 hW dX8_term_52 ?_
    refine lv_if_ne (tgt := 74) C.1 C.2.1 dX8_term_55 (by decide) (fun q15 => ?_) (fun q15 => ?_)
    · replace hf := (if_neg q15).symm.trans hf
      refine lv_iload_n C.1 C.2.1 dX8_term_74 rfl (lv_at hl 2 rfl) ?_
      exact lX8_term_75 C hr hlocks N _ hk4 _ _ _ hf _ _ _ hW (lv_sub hl [1, 3] rfl)
    · replace hf := (if_pos q15).symm.trans hf
      refine lv_aload_n C.1 C.2.1 dX8_term_58 rfl (lv_at hl 1 rfl) ?_
      refine lv_iload_n C.1 C.2.1 dX8_term_59 rfl (lv_at hl 2 rfl) ?_
      refine lv_aload_n C.1 C.2.1 dX8_term_60 rfl (lv_at hl 1 rfl) ?_
      refine lv_iconst (v := 0) C.1 C.2.1 dX8_term_61 (by decide) ?_
      refine lv_iload C.1 C.2.1 dX8_term_62 (lv_at hl 0 rfl) ?_
      refine lv_iconst (v := 0) C.1 C.2.1 dX8_term_64 (by decide) ?_
      obtain ⟨v16, S18, h17, hf⟩ := bd2_el hf
      refine mcVi (w := wM cy a r) (S := S14) (As := [.int (0 : Int32), .int v12, .int (0 : Int32)]) (rest := [.int x1, .ref (a 99)]) (q0 := 0) (ci := 8) C (cX8_tree_met l D cy a r _ N S14 (0 : Int32) v12 (0 : Int32) (v16, S18) h17) (cwV 3 C.2.2.2.2.1 gX8_term_X8_tree rfl rfl rfl (by decide +kernel) ⟨Nat.le_of_ble_eq_true rfl, Nat.le_of_ble_eq_true rfl⟩) rfl rfl rfl hl.1 (Nat.le_of_ble_eq_true rfl) hW dX8_term_65 ⟨Nat.zero_le _, Nat.zero_le _⟩ rfl (fun H locs hW => ?_)
      obtain ⟨v19, S21, h20, hf⟩ := bd2_el hf
      refine mcVi (w := wM cy a r) (S := S18) (As := [.int x1, .int v16]) (rest := []) (q0 := 0) (ci := 8) C (cX8_joined_met l D cy a r _ N S18 x1 v16 (v19, S21) h20) (cwV 2 C.2.2.2.2.1 gX8_term_X8_joined rfl rfl rfl (by decide +kernel) ⟨Nat.le_of_ble_eq_true rfl, Nat.le_of_ble_eq_true rfl⟩) rfl rfl rfl hl.1 (Nat.le_of_ble_eq_true rfl) hW dX8_term_68 ⟨Nat.zero_le _, Nat.zero_le _⟩ rfl (fun H locs hW => ?_)
      refine lv_goto (tgt := 75) C.1 C.2.1 dX8_term_71 (by decide) ?_
      exact lX8_term_75 C hr hlocks N _ hk4 _ _ _ hf _ _ _ hW (lv_sub hl [1, 3] rfl)
def fX8_term_4s (N : Nat) (k4 : St × Int32 × Int32 → Option (Int32 × St)) (S : St) (x1 : Int32) (x2 : Int32) : Option (Int32 × St) :=
  if x2 = 0 then
    some (x1, S)
  else
    if S.1 8 = 0 then
      bd2 (fX8_look N S) fun v3 S5 =>
      if v3 = (92 : Int32) then
        if 0 ≤ x1 then
          fX8_term_37 N k4 S5 x1 x2 v3
        else
          bdo (fX8_bind N S5) fun S10 =>
          fX8_term_214 N k4 S10 x1 x2
      else
        fX8_term_37 N k4 S5 x1 x2 v3
    else
      some (x1, S)
def fX8_term_4 (N : Nat) : St × Int32 × Int32 → Option (Int32 × St) := loopN (fun k x => fX8_term_4s N k x.1 x.2.1 x.2.2) N
set_option maxHeartbeats 4000000 in
set_option maxRecDepth 100000 in
theorem lX8_term_4 {p : Program} {l : Launch} {e : Env} {s : State} {m : MethodId} {args : Array Value} {below : List Frame} {meth : Method} {c : Code} {D : va_G} {cy : Nat → ClassId} {a r : Nat → Nat} {A : Nat → Prop} {Rr : Int32 × St} (C : Cx p s m args c cX8_term 5 wsX8_term RX8 D cy) (hr : meth.sig.returnType = some .int) (hlocks : meth.locks = false) (N : Nat) : ∀ (n : Nat) (S : St) (x1 : Int32) (x2 : Int32), loopN (fun k x => fX8_term_4s N k x.1 x.2.1 x.2.2) n (S, x1, x2) = some Rr → ∀ (H : Heap) (locs : List Loc) (ls : Array Slot), WW D A s.heap (wM cy a r S) H locs → lv_has ls 5 [(0, .ref (a 99)), (1, .int x1), (2, .int x2)] → W p l e ({ frames := 3, cells := 0, slots := 0, locals := 69 } : Room) s m args below meth c H locs 0 0 (MQ below (QI D cy (wM cy a r) A Rr) args s 0 0 A) (F0 m 4 ls []) := by
  intro n
  induction n with
  | zero =>
    intro S x1 x2 hf
    cases hf
  | succ n ih =>
    intro S x1 x2 hf H locs ls hW hl
    have hf : fX8_term_4s N (loopN (fun k x => fX8_term_4s N k x.1 x.2.1 x.2.2) n) S x1 x2 = some Rr := hf
    unfold fX8_term_4s at hf
    refine lv_iload_n C.1 C.2.1 dX8_term_4 rfl (lv_at hl 2 rfl) ?_
    refine lv_if_eq (tgt := 217) C.1 C.2.1 dX8_term_5 (by decide) (fun q1 => ?_) (fun q1 => ?_)
    · replace hf := (if_pos q1).symm.trans hf
      refine lv_iload_n C.1 C.2.1 dX8_term_217 rfl (lv_at hl 1 rfl) ?_
      exact mrI C hr hlocks rfl hf hW dX8_term_218
    · replace hf := (if_neg q1).symm.trans hf
      refine lv_aload_n C.1 C.2.1 dX8_term_8 rfl (lv_at hl 0 rfl) ?_
      refine fg_8_8 C kX8_term_8 mX8_term_17 hW dX8_term_9 ?_
      refine lv_if_ne (tgt := 217) C.1 C.2.1 dX8_term_12 (by decide) (fun q2 => ?_) (fun q2 => ?_)
      · replace hf := (if_neg q2).symm.trans hf
        refine lv_iload_n C.1 C.2.1 dX8_term_217 rfl (lv_at hl 1 rfl) ?_
        exact mrI C hr hlocks rfl hf hW dX8_term_218
      · replace hf := (if_pos q2).symm.trans hf
        refine lv_aload_n C.1 C.2.1 dX8_term_15 rfl (lv_at hl 0 rfl) ?_
        obtain ⟨v3, S5, h4, hf⟩ := bd2_el hf
        refine mcVi (w := wM cy a r) (S := S) (As := []) (rest := []) (q0 := 0) (ci := 8) C (cX8_look_met l D cy a r _ N S  (v3, S5) h4) (cwV 0 C.2.2.2.2.1 gX8_term_X8_look rfl rfl rfl (by decide +kernel) ⟨Nat.le_of_ble_eq_true rfl, Nat.le_of_ble_eq_true rfl⟩) rfl rfl rfl hl.1 (Nat.le_of_ble_eq_true rfl) hW dX8_term_16 ⟨Nat.zero_le _, Nat.zero_le _⟩ rfl (fun H locs hW => ?_)
        refine lv_istore_n (lv' := [(3, .int v3), (0, .ref (a 99)), (1, .int x1), (2, .int x2)]) C.1 C.2.1 dX8_term_19 rfl hl (by decide) rfl (fun ls hl => ?_)
        refine lv_iload_n C.1 C.2.1 dX8_term_20 rfl (lv_at hl 0 rfl) ?_
        refine lv_bipush (v := 92) C.1 C.2.1 dX8_term_21 (by decide) ?_
        refine lv_icmp_ne (tgt := 37) C.1 C.2.1 dX8_term_23 (by decide) (fun q6 => ?_) (fun q6 => ?_)
        · replace hf := (if_neg q6).symm.trans hf
          exact lX8_term_37 C hr hlocks N _ ih _ _ _ _ hf _ _ _ hW (lv_sub hl [1, 2, 3, 0] rfl)
        · replace hf := (if_pos q6).symm.trans hf
          refine lv_iload_n C.1 C.2.1 dX8_term_26 rfl (lv_at hl 2 rfl) ?_
          refine lv_if_ge (tgt := 37) C.1 C.2.1 dX8_term_27 (by decide) (fun q7 => ?_) (fun q7 => ?_)
          · replace hf := (if_pos q7).symm.trans hf
            exact lX8_term_37 C hr hlocks N _ ih _ _ _ _ hf _ _ _ hW (lv_sub hl [1, 2, 3, 0] rfl)
          · replace hf := (if_neg q7).symm.trans hf
            refine lv_aload_n C.1 C.2.1 dX8_term_30 rfl (lv_at hl 1 rfl) ?_
            obtain ⟨S10, h9, hf⟩ := bdo_el hf
            refine mcVv (w := wM cy a r) (S := S5) (As := []) (rest := []) (q0 := 0) (ci := 8) C (cX8_bind_met l D cy a r _ N S5  S10 h9) (cwV 0 C.2.2.2.2.1 gX8_term_X8_bind rfl rfl rfl (by decide +kernel) ⟨Nat.le_of_ble_eq_true rfl, Nat.le_of_ble_eq_true rfl⟩) rfl rfl rfl hl.1 (Nat.le_of_ble_eq_true rfl) hW dX8_term_31 ⟨Nat.zero_le _, Nat.zero_le _⟩ rfl (fun H locs hW => ?_)
            refine lv_goto (tgt := 214) C.1 C.2.1 dX8_term_34 (by decide) ?_
            exact lX8_term_214 C hr hlocks N _ ih _ _ _ hf _ _ _ hW (lv_sub hl [1, 2, 3] rfl)
def fX8_term (N : Nat) (S : St) : Option (Int32 × St) :=
  bnd (-1 : Int32) fun z1 =>
  bnd (1 : Int32) fun z2 =>
  fX8_term_4 N (S, z1, z2)
set_option maxHeartbeats 4000000 in
set_option maxRecDepth 100000 in
theorem cX8_term_met (l : Launch) (D : va_G) (cy : Nat → ClassId) (a r : Nat → Nat) (sz N : Nat) (S : St) (Rr : Int32 × St) (hf : fX8_term N S  = some Rr) : Met l yX8_term wsX8_term ({ frames := 3, cells := 0, slots := 0, locals := 69 } : Room) (va_Pc [.ref (a 99)] (preW D cy (wM cy a r S) sz)) (QI D cy (wM cy a r) (va_A (wM cy a r S) sz) Rr) 0 0 (va_A (wM cy a r S) sz) := by
  refine Met.ofW (cc := cX8_term) (maxL := 5) (ret := (some .int)) (by decide) rfl ?_
  intro p e s m args below meth c s₁ B hml hv
  obtain ⟨rfl, rfl, hP, hK, hD0, hN⟩ := hv
  have hlocks := B.notSynchronized
  have hr := B.returns
  have C : Cx p s m _ c cX8_term 5 wsX8_term RX8 D cy := ⟨B.exec, B.bytes, hml, findClass_of_methodNamed B.named, atoms_spec (ws := wsX8_term) B.pre, hK, hN⟩
  have hW := ww_start (w := wM cy a r) hP hD0
  generalize va_A (wM cy a r S) s.heap.size = A at hW ⊢
  have hl := lv_entry ([.ref (a 99)]) (n := 5) (Nat.le_of_ble_eq_true rfl)
  rw [lg_entry_eq]
  generalize (lg_sl ([.ref (a 99)]) ++ List.replicate (5 - (lg_sl ([.ref (a 99)])).length) Slot.unset).toArray = ls at hl ⊢
  have hl : lv_has ls 5 [(0, .ref (a 99))] := hl
  unfold fX8_term at hf
  refine lv_iconst (v := -1) C.1 C.2.1 dX8_term_0 (by decide) ?_
  obtain ⟨z1, ez1, hf⟩ := bnd_el hf
  refine lv_as ez1 ?_
  refine lv_istore_n (lv' := [(1, .int z1), (0, .ref (a 99))]) C.1 C.2.1 dX8_term_1 rfl hl (by decide) rfl (fun ls hl => ?_)
  refine lv_iconst (v := 1) C.1 C.2.1 dX8_term_2 (by decide) ?_
  obtain ⟨z2, ez2, hf⟩ := bnd_el hf
  refine lv_as ez2 ?_
  refine lv_istore_n (lv' := [(2, .int z2), (1, .int z1), (0, .ref (a 99))]) C.1 C.2.1 dX8_term_3 rfl hl (by decide) rfl (fun ls hl => ?_)
  exact lX8_term_4 C hr hlocks N _ _ _ _ hf _ _ _ hW (lv_sub hl [2, 1, 0] rfl)
theorem mX8_node_92 : Cond.fieldLink RX8 92 "SharedLambdaModel" "spares" "I" ∈ wsX8_node := by decide +kernel
theorem mX8_node_95 : Cond.fieldLink RX8 95 "SharedLambdaModel" "spare" "[I" ∈ wsX8_node := by decide +kernel
theorem mX8_node_98 : Cond.fieldLink RX8 98 "SharedLambdaModel" "kinds" "[I" ∈ wsX8_node := by decide +kernel
theorem mX8_node_101 : Cond.fieldLink RX8 101 "SharedLambdaModel" "indexes" "[I" ∈ wsX8_node := by decide +kernel
theorem mX8_node_104 : Cond.fieldLink RX8 104 "SharedLambdaModel" "nodes" "I" ∈ wsX8_node := by decide +kernel
theorem kX8_node_8 : ∀ w ∈ u_ws RX8 TX8 58, w ∈ wsX8_node := fun _ h => List.mem_cons_of_mem _ (List.mem_append_right _ h)
def fX8_node (N : Nat) (S : St) (p1 : Int32) (p2 : Int32) : Option (Int32 × St) :=
  bnd (sI S 21 ((S.1 21 - (1 : Int32)))) fun S1 =>
  ckx (S1.1 21) 3010 <|
  bnd (S1.2.1 20 (S1.1 21 : Int32).toNatClampNeg) fun z3 =>
  ckx z3 3010 <|
  bnd (sA S1 17 (upd (S1.2.1 17) (z3 : Int32).toNatClampNeg p1)) fun S5 =>
  ckx z3 3010 <|
  bnd (sA S5 18 (upd (S5.2.1 18) (z3 : Int32).toNatClampNeg p2)) fun S7 =>
  bnd (sI S7 22 ((S7.1 22 + (1 : Int32)))) fun S8 =>
  some (z3, S8)
set_option maxHeartbeats 4000000 in
set_option maxRecDepth 100000 in
theorem cX8_node_met (l : Launch) (D : va_G) (cy : Nat → ClassId) (a r : Nat → Nat) (sz N : Nat) (S : St) (p1 : Int32) (p2 : Int32) (Rr : Int32 × St) (hf : fX8_node N S p1 p2 = some Rr) : Met l yX8_node wsX8_node ({ frames := 0, cells := 0, slots := 0, locals := 0 } : Room) (va_Pc [.ref (a 99), .int p1, .int p2] (preW D cy (wM cy a r S) sz)) (QI D cy (wM cy a r) (va_A (wM cy a r S) sz) Rr) 0 0 (va_A (wM cy a r S) sz) := by
  refine Met.ofW (cc := cX8_node) (maxL := 4) (ret := (some .int)) (by decide) rfl ?_
  intro p e s m args below meth c s₁ B hml hv
  obtain ⟨rfl, rfl, hP, hK, hD0, hN⟩ := hv
  have hlocks := B.notSynchronized
  have hr := B.returns
  have C : Cx p s m _ c cX8_node 4 wsX8_node RX8 D cy := ⟨B.exec, B.bytes, hml, findClass_of_methodNamed B.named, atoms_spec (ws := wsX8_node) B.pre, hK, hN⟩
  have hW := ww_start (w := wM cy a r) hP hD0
  generalize va_A (wM cy a r S) s.heap.size = A at hW ⊢
  have hl := lv_entry ([.ref (a 99), .int p1, .int p2]) (n := 4) (Nat.le_of_ble_eq_true rfl)
  rw [lg_entry_eq]
  generalize (lg_sl ([.ref (a 99), .int p1, .int p2]) ++ List.replicate (4 - (lg_sl ([.ref (a 99), .int p1, .int p2])).length) Slot.unset).toArray = ls at hl ⊢
  have hl : lv_has ls 4 [(0, .ref (a 99)), (1, .int p1), (2, .int p2)] := hl
  unfold fX8_node at hf
  refine lv_aload_n C.1 C.2.1 dX8_node_0 rfl (lv_at hl 0 rfl) ?_
  refine lv_dup C.1 C.2.1 dX8_node_1 rfl ?_
  refine fg_8_21 C kX8_node_8 mX8_node_92 hW dX8_node_2 ?_
  refine lv_iconst (v := 1) C.1 C.2.1 dX8_node_5 (by decide) ?_
  refine lv_isub C.1 C.2.1 dX8_node_6 ?_
  obtain ⟨S1, eS1, hf⟩ := bnd_el hf
  refine fp_8_21 C kX8_node_8 mX8_node_92 hW dX8_node_7 eS1 (fun H locs hW => ?_)
  refine lv_aload_n C.1 C.2.1 dX8_node_10 rfl (lv_at hl 0 rfl) ?_
  refine fg_8_20 C kX8_node_8 mX8_node_95 hW dX8_node_11 ?_
  refine lv_aload_n C.1 C.2.1 dX8_node_14 rfl (lv_at hl 0 rfl) ?_
  refine fg_8_21 C kX8_node_8 mX8_node_92 hW dX8_node_15 ?_
  obtain ⟨h2, hf⟩ := ckx_el hf
  refine al_8_20 C hW h2 dX8_node_18 ?_
  obtain ⟨z3, ez3, hf⟩ := bnd_el hf
  refine lv_as ez3 ?_
  refine lv_istore_n (lv' := [(3, .int z3), (0, .ref (a 99)), (1, .int p1), (2, .int p2)]) C.1 C.2.1 dX8_node_19 rfl hl (by decide) rfl (fun ls hl => ?_)
  refine lv_aload_n C.1 C.2.1 dX8_node_20 rfl (lv_at hl 1 rfl) ?_
  refine fg_8_17 C kX8_node_8 mX8_node_98 hW dX8_node_21 ?_
  refine lv_iload_n C.1 C.2.1 dX8_node_24 rfl (lv_at hl 0 rfl) ?_
  refine lv_iload_n C.1 C.2.1 dX8_node_25 rfl (lv_at hl 2 rfl) ?_
  obtain ⟨h4, hf⟩ := ckx_el hf
  obtain ⟨S5, eS5, hf⟩ := bnd_el hf
  refine as_8_17 C hW h4 dX8_node_26 eS5 (fun H locs hW => ?_)
  refine lv_aload_n C.1 C.2.1 dX8_node_27 rfl (lv_at hl 1 rfl) ?_
  refine fg_8_18 C kX8_node_8 mX8_node_101 hW dX8_node_28 ?_
  refine lv_iload_n C.1 C.2.1 dX8_node_31 rfl (lv_at hl 0 rfl) ?_
  refine lv_iload_n C.1 C.2.1 dX8_node_32 rfl (lv_at hl 3 rfl) ?_
  obtain ⟨h6, hf⟩ := ckx_el hf
  obtain ⟨S7, eS7, hf⟩ := bnd_el hf
  refine as_8_18 C hW h6 dX8_node_33 eS7 (fun H locs hW => ?_)
  refine lv_aload_n C.1 C.2.1 dX8_node_34 rfl (lv_at hl 1 rfl) ?_
  refine lv_dup C.1 C.2.1 dX8_node_35 rfl ?_
  refine fg_8_22 C kX8_node_8 mX8_node_104 hW dX8_node_36 ?_
  refine lv_iconst (v := 1) C.1 C.2.1 dX8_node_39 (by decide) ?_
  refine lv_iadd C.1 C.2.1 dX8_node_40 ?_
  obtain ⟨S8, eS8, hf⟩ := bnd_el hf
  refine fp_8_22 C kX8_node_8 mX8_node_104 hW dX8_node_41 eS8 (fun H locs hW => ?_)
  refine lv_iload_n C.1 C.2.1 dX8_node_44 rfl (lv_at hl 0 rfl) ?_
  exact mrI C hr hlocks rfl hf hW dX8_node_45
theorem mX8_free_98 : Cond.fieldLink RX8 98 "SharedLambdaModel" "kinds" "[I" ∈ wsX8_free := by decide +kernel
theorem mX8_free_95 : Cond.fieldLink RX8 95 "SharedLambdaModel" "spare" "[I" ∈ wsX8_free := by decide +kernel
theorem mX8_free_92 : Cond.fieldLink RX8 92 "SharedLambdaModel" "spares" "I" ∈ wsX8_free := by decide +kernel
theorem mX8_free_104 : Cond.fieldLink RX8 104 "SharedLambdaModel" "nodes" "I" ∈ wsX8_free := by decide +kernel
theorem kX8_free_8 : ∀ w ∈ u_ws RX8 TX8 58, w ∈ wsX8_free := fun _ h => List.mem_cons_of_mem _ (List.mem_append_right _ h)
def fX8_free (N : Nat) (S : St) (p1 : Int32) : Option (St) :=
  ckx p1 3010 <|
  bnd (sA S 17 (upd (S.2.1 17) (p1 : Int32).toNatClampNeg (7 : Int32))) fun S2 =>
  ckx (S2.1 21) 3010 <|
  bnd (sA S2 20 (upd (S2.2.1 20) (S2.1 21 : Int32).toNatClampNeg p1)) fun S4 =>
  bnd (sI S4 21 ((S4.1 21 + (1 : Int32)))) fun S5 =>
  bnd (sI S5 22 ((S5.1 22 - (1 : Int32)))) fun S6 =>
  some S6
set_option maxHeartbeats 4000000 in
set_option maxRecDepth 100000 in
theorem cX8_free_met (l : Launch) (D : va_G) (cy : Nat → ClassId) (a r : Nat → Nat) (sz N : Nat) (S : St) (p1 : Int32) (Rr : St) (hf : fX8_free N S p1 = some Rr) : Met l yX8_free wsX8_free ({ frames := 0, cells := 0, slots := 0, locals := 0 } : Room) (va_Pc [.ref (a 99), .int p1] (preW D cy (wM cy a r S) sz)) (QV D cy (wM cy a r) (va_A (wM cy a r S) sz) Rr) 0 0 (va_A (wM cy a r S) sz) := by
  refine Met.ofW (cc := cX8_free) (maxL := 2) (ret := none) (by decide) rfl ?_
  intro p e s m args below meth c s₁ B hml hv
  obtain ⟨rfl, rfl, hP, hK, hD0, hN⟩ := hv
  have hlocks := B.notSynchronized
  have hr := B.returns
  have C : Cx p s m _ c cX8_free 2 wsX8_free RX8 D cy := ⟨B.exec, B.bytes, hml, findClass_of_methodNamed B.named, atoms_spec (ws := wsX8_free) B.pre, hK, hN⟩
  have hW := ww_start (w := wM cy a r) hP hD0
  generalize va_A (wM cy a r S) s.heap.size = A at hW ⊢
  have hl := lv_entry ([.ref (a 99), .int p1]) (n := 2) (Nat.le_of_ble_eq_true rfl)
  rw [lg_entry_eq]
  generalize (lg_sl ([.ref (a 99), .int p1]) ++ List.replicate (2 - (lg_sl ([.ref (a 99), .int p1])).length) Slot.unset).toArray = ls at hl ⊢
  have hl : lv_has ls 2 [(0, .ref (a 99)), (1, .int p1)] := hl
  unfold fX8_free at hf
  refine lv_aload_n C.1 C.2.1 dX8_free_0 rfl (lv_at hl 0 rfl) ?_
  refine fg_8_17 C kX8_free_8 mX8_free_98 hW dX8_free_1 ?_
  refine lv_iload_n C.1 C.2.1 dX8_free_4 rfl (lv_at hl 1 rfl) ?_
  refine lv_bipush (v := 7) C.1 C.2.1 dX8_free_5 (by decide) ?_
  obtain ⟨h1, hf⟩ := ckx_el hf
  obtain ⟨S2, eS2, hf⟩ := bnd_el hf
  refine as_8_17 C hW h1 dX8_free_7 eS2 (fun H locs hW => ?_)
  refine lv_aload_n C.1 C.2.1 dX8_free_8 rfl (lv_at hl 0 rfl) ?_
  refine fg_8_20 C kX8_free_8 mX8_free_95 hW dX8_free_9 ?_
  refine lv_aload_n C.1 C.2.1 dX8_free_12 rfl (lv_at hl 0 rfl) ?_
  refine fg_8_21 C kX8_free_8 mX8_free_92 hW dX8_free_13 ?_
  refine lv_iload_n C.1 C.2.1 dX8_free_16 rfl (lv_at hl 1 rfl) ?_
  obtain ⟨h3, hf⟩ := ckx_el hf
  obtain ⟨S4, eS4, hf⟩ := bnd_el hf
  refine as_8_20 C hW h3 dX8_free_17 eS4 (fun H locs hW => ?_)
  refine lv_aload_n C.1 C.2.1 dX8_free_18 rfl (lv_at hl 0 rfl) ?_
  refine lv_dup C.1 C.2.1 dX8_free_19 rfl ?_
  refine fg_8_21 C kX8_free_8 mX8_free_92 hW dX8_free_20 ?_
  refine lv_iconst (v := 1) C.1 C.2.1 dX8_free_23 (by decide) ?_
  refine lv_iadd C.1 C.2.1 dX8_free_24 ?_
  obtain ⟨S5, eS5, hf⟩ := bnd_el hf
  refine fp_8_21 C kX8_free_8 mX8_free_92 hW dX8_free_25 eS5 (fun H locs hW => ?_)
  refine lv_aload_n C.1 C.2.1 dX8_free_28 rfl (lv_at hl 0 rfl) ?_
  refine lv_dup C.1 C.2.1 dX8_free_29 rfl ?_
  refine fg_8_22 C kX8_free_8 mX8_free_104 hW dX8_free_30 ?_
  refine lv_iconst (v := 1) C.1 C.2.1 dX8_free_33 (by decide) ?_
  refine lv_isub C.1 C.2.1 dX8_free_34 ?_
  obtain ⟨S6, eS6, hf⟩ := bnd_el hf
  refine fp_8_22 C kX8_free_8 mX8_free_104 hW dX8_free_35 eS6 (fun H locs hW => ?_)
  exact mrV C hr hlocks hf hW dX8_free_38
theorem mX8_rest_98 : Cond.fieldLink RX8 98 "SharedLambdaModel" "kinds" "[I" ∈ wsX8_rest := by decide +kernel
theorem mX8_rest_107 : Cond.fieldLink RX8 107 "SharedLambdaModel" "restless" "[I" ∈ wsX8_rest := by decide +kernel
theorem mX8_rest_110 : Cond.fieldLink RX8 110 "SharedLambdaModel" "restlessCount" "I" ∈ wsX8_rest := by decide +kernel
theorem kX8_rest_8 : ∀ w ∈ u_ws RX8 TX8 58, w ∈ wsX8_rest := fun _ h => List.mem_cons_of_mem _ (List.mem_append_right _ h)
def fX8_rest (N : Nat) (S : St) (p1 : Int32) : Option (St) :=
  ckx ((p1 / (3 : Int32))) 3010 <|
  if S.2.1 17 ((p1 / (3 : Int32)) : Int32).toNatClampNeg = (5 : Int32) then
    ckx (S.1 28) 12000 <|
    bnd (sA S 27 (upd (S.2.1 27) (S.1 28 : Int32).toNatClampNeg ((p1 / (3 : Int32))))) fun S4 =>
    bnd (sI S4 28 ((S4.1 28 + (1 : Int32)))) fun S5 =>
    some S5
  else
    some S
set_option maxHeartbeats 4000000 in
set_option maxRecDepth 100000 in
theorem cX8_rest_met (l : Launch) (D : va_G) (cy : Nat → ClassId) (a r : Nat → Nat) (sz N : Nat) (S : St) (p1 : Int32) (Rr : St) (hf : fX8_rest N S p1 = some Rr) : Met l yX8_rest wsX8_rest ({ frames := 0, cells := 0, slots := 0, locals := 0 } : Room) (va_Pc [.ref (a 99), .int p1] (preW D cy (wM cy a r S) sz)) (QV D cy (wM cy a r) (va_A (wM cy a r S) sz) Rr) 0 0 (va_A (wM cy a r S) sz) := by
  refine Met.ofW (cc := cX8_rest) (maxL := 2) (ret := none) (by decide) rfl ?_
  intro p e s m args below meth c s₁ B hml hv
  obtain ⟨rfl, rfl, hP, hK, hD0, hN⟩ := hv
  have hlocks := B.notSynchronized
  have hr := B.returns
  have C : Cx p s m _ c cX8_rest 2 wsX8_rest RX8 D cy := ⟨B.exec, B.bytes, hml, findClass_of_methodNamed B.named, atoms_spec (ws := wsX8_rest) B.pre, hK, hN⟩
  have hW := ww_start (w := wM cy a r) hP hD0
  generalize va_A (wM cy a r S) s.heap.size = A at hW ⊢
  have hl := lv_entry ([.ref (a 99), .int p1]) (n := 2) (Nat.le_of_ble_eq_true rfl)
  rw [lg_entry_eq]
  generalize (lg_sl ([.ref (a 99), .int p1]) ++ List.replicate (2 - (lg_sl ([.ref (a 99), .int p1])).length) Slot.unset).toArray = ls at hl ⊢
  have hl : lv_has ls 2 [(0, .ref (a 99)), (1, .int p1)] := hl
  unfold fX8_rest at hf
  refine lv_aload_n C.1 C.2.1 dX8_rest_0 rfl (lv_at hl 0 rfl) ?_
  refine fg_8_17 C kX8_rest_8 mX8_rest_98 hW dX8_rest_1 ?_
  refine lv_iload_n C.1 C.2.1 dX8_rest_4 rfl (lv_at hl 1 rfl) ?_
  refine lv_iconst (v := 3) C.1 C.2.1 dX8_rest_5 (by decide) ?_
  refine lv_idiv C.1 C.2.1 dX8_rest_6 (by decide) ?_
  obtain ⟨h1, hf⟩ := ckx_el hf
  refine al_8_17 C hW h1 dX8_rest_7 ?_
  refine lv_iconst (v := 5) C.1 C.2.1 dX8_rest_8 (by decide) ?_
  refine lv_icmp_ne (tgt := 34) C.1 C.2.1 dX8_rest_9 (by decide) (fun q2 => ?_) (fun q2 => ?_)
  · replace hf := (if_neg q2).symm.trans hf
    exact mrV C hr hlocks hf hW dX8_rest_34
  · replace hf := (if_pos q2).symm.trans hf
    refine lv_aload_n C.1 C.2.1 dX8_rest_12 rfl (lv_at hl 0 rfl) ?_
    refine fg_8_27 C kX8_rest_8 mX8_rest_107 hW dX8_rest_13 ?_
    refine lv_aload_n C.1 C.2.1 dX8_rest_16 rfl (lv_at hl 0 rfl) ?_
    refine fg_8_28 C kX8_rest_8 mX8_rest_110 hW dX8_rest_17 ?_
    refine lv_iload_n C.1 C.2.1 dX8_rest_20 rfl (lv_at hl 1 rfl) ?_
    refine lv_iconst (v := 3) C.1 C.2.1 dX8_rest_21 (by decide) ?_
    refine lv_idiv C.1 C.2.1 dX8_rest_22 (by decide) ?_
    obtain ⟨h3, hf⟩ := ckx_el hf
    obtain ⟨S4, eS4, hf⟩ := bnd_el hf
    refine as_8_27 C hW h3 dX8_rest_23 eS4 (fun H locs hW => ?_)
    refine lv_aload_n C.1 C.2.1 dX8_rest_24 rfl (lv_at hl 0 rfl) ?_
    refine lv_dup C.1 C.2.1 dX8_rest_25 rfl ?_
    refine fg_8_28 C kX8_rest_8 mX8_rest_110 hW dX8_rest_26 ?_
    refine lv_iconst (v := 1) C.1 C.2.1 dX8_rest_29 (by decide) ?_
    refine lv_iadd C.1 C.2.1 dX8_rest_30 ?_
    obtain ⟨S5, eS5, hf⟩ := bnd_el hf
    refine fp_8_28 C kX8_rest_8 mX8_rest_110 hW dX8_rest_31 eS5 (fun H locs hW => ?_)
    exact mrV C hr hlocks hf hW dX8_rest_34
theorem mX8_wire_113 : Cond.fieldLink RX8 113 "SharedLambdaModel" "wires" "[I" ∈ wsX8_wire := by decide +kernel
theorem kX8_wire_8 : ∀ w ∈ u_ws RX8 TX8 58, w ∈ wsX8_wire := fun _ h => List.mem_cons_of_mem _ (List.mem_append_right _ h)
def fX8_wire (N : Nat) (S : St) (p1 : Int32) (p2 : Int32) : Option (St) :=
  ckx p1 9030 <|
  bnd (sA S 19 (upd (S.2.1 19) (p1 : Int32).toNatClampNeg p2)) fun S2 =>
  ckx p2 9030 <|
  bnd (sA S2 19 (upd (S2.2.1 19) (p2 : Int32).toNatClampNeg p1)) fun S4 =>
  bdo (fX8_rest N S4 p1) fun S7 =>
  bdo (fX8_rest N S7 p2) fun S10 =>
  some S10
set_option maxHeartbeats 4000000 in
set_option maxRecDepth 100000 in
theorem cX8_wire_met (l : Launch) (D : va_G) (cy : Nat → ClassId) (a r : Nat → Nat) (sz N : Nat) (S : St) (p1 : Int32) (p2 : Int32) (Rr : St) (hf : fX8_wire N S p1 p2 = some Rr) : Met l yX8_wire wsX8_wire ({ frames := 1, cells := 0, slots := 0, locals := 21 } : Room) (va_Pc [.ref (a 99), .int p1, .int p2] (preW D cy (wM cy a r S) sz)) (QV D cy (wM cy a r) (va_A (wM cy a r S) sz) Rr) 0 0 (va_A (wM cy a r S) sz) := by
  refine Met.ofW (cc := cX8_wire) (maxL := 3) (ret := none) (by decide) rfl ?_
  intro p e s m args below meth c s₁ B hml hv
  obtain ⟨rfl, rfl, hP, hK, hD0, hN⟩ := hv
  have hlocks := B.notSynchronized
  have hr := B.returns
  have C : Cx p s m _ c cX8_wire 3 wsX8_wire RX8 D cy := ⟨B.exec, B.bytes, hml, findClass_of_methodNamed B.named, atoms_spec (ws := wsX8_wire) B.pre, hK, hN⟩
  have hW := ww_start (w := wM cy a r) hP hD0
  generalize va_A (wM cy a r S) s.heap.size = A at hW ⊢
  have hl := lv_entry ([.ref (a 99), .int p1, .int p2]) (n := 3) (Nat.le_of_ble_eq_true rfl)
  rw [lg_entry_eq]
  generalize (lg_sl ([.ref (a 99), .int p1, .int p2]) ++ List.replicate (3 - (lg_sl ([.ref (a 99), .int p1, .int p2])).length) Slot.unset).toArray = ls at hl ⊢
  have hl : lv_has ls 3 [(0, .ref (a 99)), (1, .int p1), (2, .int p2)] := hl
  unfold fX8_wire at hf
  refine lv_aload_n C.1 C.2.1 dX8_wire_0 rfl (lv_at hl 0 rfl) ?_
  refine fg_8_19 C kX8_wire_8 mX8_wire_113 hW dX8_wire_1 ?_
  refine lv_iload_n C.1 C.2.1 dX8_wire_4 rfl (lv_at hl 1 rfl) ?_
  refine lv_iload_n C.1 C.2.1 dX8_wire_5 rfl (lv_at hl 2 rfl) ?_
  obtain ⟨h1, hf⟩ := ckx_el hf
  obtain ⟨S2, eS2, hf⟩ := bnd_el hf
  refine as_8_19 C hW h1 dX8_wire_6 eS2 (fun H locs hW => ?_)
  refine lv_aload_n C.1 C.2.1 dX8_wire_7 rfl (lv_at hl 0 rfl) ?_
  refine fg_8_19 C kX8_wire_8 mX8_wire_113 hW dX8_wire_8 ?_
  refine lv_iload_n C.1 C.2.1 dX8_wire_11 rfl (lv_at hl 2 rfl) ?_
  refine lv_iload_n C.1 C.2.1 dX8_wire_12 rfl (lv_at hl 1 rfl) ?_
  obtain ⟨h3, hf⟩ := ckx_el hf
  obtain ⟨S4, eS4, hf⟩ := bnd_el hf
  refine as_8_19 C hW h3 dX8_wire_13 eS4 (fun H locs hW => ?_)
  refine lv_aload_n C.1 C.2.1 dX8_wire_14 rfl (lv_at hl 0 rfl) ?_
  refine lv_iload_n C.1 C.2.1 dX8_wire_15 rfl (lv_at hl 1 rfl) ?_
  obtain ⟨S7, h6, hf⟩ := bdo_el hf
  refine mcVv (w := wM cy a r) (S := S4) (As := [.int p1]) (rest := []) (q0 := 0) (ci := 8) C (cX8_rest_met l D cy a r _ N S4 p1 S7 h6) (cwV 1 C.2.2.2.2.1 gX8_wire_X8_rest rfl rfl rfl (by decide +kernel) ⟨Nat.le_of_ble_eq_true rfl, Nat.le_of_ble_eq_true rfl⟩) rfl rfl rfl hl.1 (Nat.le_of_ble_eq_true rfl) hW dX8_wire_16 ⟨Nat.zero_le _, Nat.zero_le _⟩ rfl (fun H locs hW => ?_)
  refine lv_aload_n C.1 C.2.1 dX8_wire_19 rfl (lv_at hl 0 rfl) ?_
  refine lv_iload_n C.1 C.2.1 dX8_wire_20 rfl (lv_at hl 2 rfl) ?_
  obtain ⟨S10, h9, hf⟩ := bdo_el hf
  refine mcVv (w := wM cy a r) (S := S7) (As := [.int p2]) (rest := []) (q0 := 0) (ci := 8) C (cX8_rest_met l D cy a r _ N S7 p2 S10 h9) (cwV 1 C.2.2.2.2.1 gX8_wire_X8_rest rfl rfl rfl (by decide +kernel) ⟨Nat.le_of_ble_eq_true rfl, Nat.le_of_ble_eq_true rfl⟩) rfl rfl rfl hl.1 (Nat.le_of_ble_eq_true rfl) hW dX8_wire_21 ⟨Nat.zero_le _, Nat.zero_le _⟩ rfl (fun H locs hW => ?_)
  exact mrV C hr hlocks hf hW dX8_wire_24
theorem mX8_ofVariable_62 : Cond.fieldLink RX8 62 "SharedLambdaModel" "binders" "I" ∈ wsX8_ofVariable := by decide +kernel
theorem mX8_ofVariable_138 : Cond.fieldLink RX8 138 "SharedLambdaModel" "frees" "[I" ∈ wsX8_ofVariable := by decide +kernel
theorem mX8_ofVariable_27 : Cond.fieldLink RX8 27 "SharedLambdaModel" "first" "[I" ∈ wsX8_ofVariable := by decide +kernel
theorem mX8_ofVariable_120 : Cond.fieldLink RX8 120 "SharedLambdaModel" "indexOf" "[I" ∈ wsX8_ofVariable := by decide +kernel
theorem kX8_ofVariable_8 : ∀ w ∈ u_ws RX8 TX8 58, w ∈ wsX8_ofVariable := fun _ h => List.mem_cons_of_mem _ (List.mem_append_right _ h)
def fX8_ofVariable_49 (N : Nat) (k14 : St × Int32 × Int32 × Int32 → Option (Int32 × St)) (S : St) (x1 : Int32) (x2 : Int32) (x3 : Int32) (y1 : Int32) (y2 : Int32) : Option (Int32 × St) :=
  ckx y1 24000 <|
  bnd (sA S 29 (upd (S.2.1 29) (y1 : Int32).toNatClampNeg y2)) fun S2 =>
  bnd (x3 + (1 : Int32)) fun z3 =>
  k14 (S2, x1, x2, z3)
set_option maxHeartbeats 4000000 in
set_option maxRecDepth 100000 in
theorem lX8_ofVariable_49 {p : Program} {l : Launch} {e : Env} {s : State} {m : MethodId} {args : Array Value} {below : List Frame} {meth : Method} {c : Code} {D : va_G} {cy : Nat → ClassId} {a r : Nat → Nat} {A : Nat → Prop} {Rr : Int32 × St} (C : Cx p s m args c cX8_ofVariable 4 wsX8_ofVariable RX8 D cy) (hr : meth.sig.returnType = some .int) (hlocks : meth.locks = false) (N : Nat) (k14 : St × Int32 × Int32 × Int32 → Option (Int32 × St)) (hk14 : ∀ (S : St) (x1 : Int32) (x2 : Int32) (x3 : Int32), k14 (S, x1, x2, x3) = some Rr → ∀ (H : Heap) (locs : List Loc) (ls : Array Slot), WW D A s.heap (wM cy a r S) H locs → lv_has ls 4 [(0, .ref (a 99)), (1, .int x1), (2, .int x2), (3, .int x3)] → W p l e ({ frames := 1, cells := 0, slots := 0, locals := 23 } : Room) s m args below meth c H locs 0 0 (MQ below (QI D cy (wM cy a r) A Rr) args s 0 0 A) (F0 m 14 ls [])) (S : St) (x1 : Int32) (x2 : Int32) (x3 : Int32) (y1 : Int32) (y2 : Int32) (hf : fX8_ofVariable_49 N k14 S x1 x2 x3 y1 y2 = some Rr) : ∀ (H : Heap) (locs : List Loc) (ls : Array Slot), WW D A s.heap (wM cy a r S) H locs → lv_has ls 4 [(0, .ref (a 99)), (1, .int x1), (2, .int x2), (3, .int x3)] → W p l e ({ frames := 1, cells := 0, slots := 0, locals := 23 } : Room) s m args below meth c H locs 0 0 (MQ below (QI D cy (wM cy a r) A Rr) args s 0 0 A) (F0 m 49 ls [.int y2, .int y1, .ref (a 29)]) := by
  intro H locs ls hW hl
  unfold fX8_ofVariable_49 at hf
  obtain ⟨h1, hf⟩ := ckx_el hf
  obtain ⟨S2, eS2, hf⟩ := bnd_el hf
  refine as_8_29 C hW h1 dX8_ofVariable_49 eS2 (fun H locs hW => ?_)
  obtain ⟨z3, ez3, hf⟩ := bnd_el hf
  refine lv_iinc (v := z3) (lv' := [(3, .int z3), (0, .ref (a 99)), (1, .int x1), (2, .int x2)]) C.1 C.2.1 dX8_ofVariable_50 hl (k := 3) rfl (by rw [ez3]; rfl) (by decide) rfl (fun ls hl => ?_)
  refine lv_goto (tgt := 14) C.1 C.2.1 dX8_ofVariable_53 (by decide) ?_
  exact hk14 _ _ _ _ hf _ _ _ hW (lv_sub hl [1, 2, 3, 0] rfl)
def fX8_ofVariable_14s (N : Nat) (k14 : St × Int32 × Int32 × Int32 → Option (Int32 × St)) (S : St) (x1 : Int32) (x2 : Int32) (x3 : Int32) : Option (Int32 × St) :=
  if S.1 14 ≤ x3 then
    some ((((3 : Int32) * x2) + (1 : Int32)), S)
  else
    ckx x1 300 <|
    if x3 = S.2.1 4 (x1 : Int32).toNatClampNeg then
      fX8_ofVariable_49 N k14 S x1 x2 x3 ((((80 : Int32) * x1) + x3)) (((3 : Int32) * x2))
    else
      fX8_ofVariable_49 N k14 S x1 x2 x3 ((((80 : Int32) * x1) + x3)) (-1 : Int32)
def fX8_ofVariable_14 (N : Nat) : St × Int32 × Int32 × Int32 → Option (Int32 × St) := loopN (fun k x => fX8_ofVariable_14s N k x.1 x.2.1 x.2.2.1 x.2.2.2) N
set_option maxHeartbeats 4000000 in
set_option maxRecDepth 100000 in
theorem lX8_ofVariable_14 {p : Program} {l : Launch} {e : Env} {s : State} {m : MethodId} {args : Array Value} {below : List Frame} {meth : Method} {c : Code} {D : va_G} {cy : Nat → ClassId} {a r : Nat → Nat} {A : Nat → Prop} {Rr : Int32 × St} (C : Cx p s m args c cX8_ofVariable 4 wsX8_ofVariable RX8 D cy) (hr : meth.sig.returnType = some .int) (hlocks : meth.locks = false) (N : Nat) : ∀ (n : Nat) (S : St) (x1 : Int32) (x2 : Int32) (x3 : Int32), loopN (fun k x => fX8_ofVariable_14s N k x.1 x.2.1 x.2.2.1 x.2.2.2) n (S, x1, x2, x3) = some Rr → ∀ (H : Heap) (locs : List Loc) (ls : Array Slot), WW D A s.heap (wM cy a r S) H locs → lv_has ls 4 [(0, .ref (a 99)), (1, .int x1), (2, .int x2), (3, .int x3)] → W p l e ({ frames := 1, cells := 0, slots := 0, locals := 23 } : Room) s m args below meth c H locs 0 0 (MQ below (QI D cy (wM cy a r) A Rr) args s 0 0 A) (F0 m 14 ls []) := by
  intro n
  induction n with
  | zero =>
    intro S x1 x2 x3 hf
    cases hf
  | succ n ih =>
    intro S x1 x2 x3 hf H locs ls hW hl
    have hf : fX8_ofVariable_14s N (loopN (fun k x => fX8_ofVariable_14s N k x.1 x.2.1 x.2.2.1 x.2.2.2) n) S x1 x2 x3 = some Rr := hf
    unfold fX8_ofVariable_14s at hf
    refine lv_iload_n C.1 C.2.1 dX8_ofVariable_14 rfl (lv_at hl 3 rfl) ?_
    refine lv_aload_n C.1 C.2.1 dX8_ofVariable_15 rfl (lv_at hl 0 rfl) ?_
    refine fg_8_14 C kX8_ofVariable_8 mX8_ofVariable_62 hW dX8_ofVariable_16 ?_
    refine lv_icmp_ge (tgt := 56) C.1 C.2.1 dX8_ofVariable_19 (by decide) (fun q1 => ?_) (fun q1 => ?_)
    · replace hf := (if_pos q1).symm.trans hf
      refine lv_iconst (v := 3) C.1 C.2.1 dX8_ofVariable_56 (by decide) ?_
      refine lv_iload_n C.1 C.2.1 dX8_ofVariable_57 rfl (lv_at hl 2 rfl) ?_
      refine lv_imul C.1 C.2.1 dX8_ofVariable_58 ?_
      refine lv_iconst (v := 1) C.1 C.2.1 dX8_ofVariable_59 (by decide) ?_
      refine lv_iadd C.1 C.2.1 dX8_ofVariable_60 ?_
      exact mrI C hr hlocks rfl hf hW dX8_ofVariable_61
    · replace hf := (if_neg q1).symm.trans hf
      refine lv_aload_n C.1 C.2.1 dX8_ofVariable_22 rfl (lv_at hl 0 rfl) ?_
      refine fg_8_29 C kX8_ofVariable_8 mX8_ofVariable_138 hW dX8_ofVariable_23 ?_
      refine lv_bipush (v := 80) C.1 C.2.1 dX8_ofVariable_26 (by decide) ?_
      refine lv_iload_n C.1 C.2.1 dX8_ofVariable_28 rfl (lv_at hl 1 rfl) ?_
      refine lv_imul C.1 C.2.1 dX8_ofVariable_29 ?_
      refine lv_iload_n C.1 C.2.1 dX8_ofVariable_30 rfl (lv_at hl 3 rfl) ?_
      refine lv_iadd C.1 C.2.1 dX8_ofVariable_31 ?_
      refine lv_iload_n C.1 C.2.1 dX8_ofVariable_32 rfl (lv_at hl 3 rfl) ?_
      refine lv_aload_n C.1 C.2.1 dX8_ofVariable_33 rfl (lv_at hl 0 rfl) ?_
      refine fg_8_4 C kX8_ofVariable_8 mX8_ofVariable_27 hW dX8_ofVariable_34 ?_
      refine lv_iload_n C.1 C.2.1 dX8_ofVariable_37 rfl (lv_at hl 1 rfl) ?_
      obtain ⟨h2, hf⟩ := ckx_el hf
      refine al_8_4 C hW h2 dX8_ofVariable_38 ?_
      refine lv_icmp_ne (tgt := 48) C.1 C.2.1 dX8_ofVariable_39 (by decide) (fun q3 => ?_) (fun q3 => ?_)
      · replace hf := (if_neg q3).symm.trans hf
        refine lv_iconst (v := -1) C.1 C.2.1 dX8_ofVariable_48 (by decide) ?_
        exact lX8_ofVariable_49 C hr hlocks N _ ih _ _ _ _ _ _ hf _ _ _ hW (lv_sub hl [0, 1, 2, 3] rfl)
      · replace hf := (if_pos q3).symm.trans hf
        refine lv_iconst (v := 3) C.1 C.2.1 dX8_ofVariable_42 (by decide) ?_
        refine lv_iload_n C.1 C.2.1 dX8_ofVariable_43 rfl (lv_at hl 2 rfl) ?_
        refine lv_imul C.1 C.2.1 dX8_ofVariable_44 ?_
        refine lv_goto (tgt := 49) C.1 C.2.1 dX8_ofVariable_45 (by decide) ?_
        exact lX8_ofVariable_49 C hr hlocks N _ ih _ _ _ _ _ _ hf _ _ _ hW (lv_sub hl [0, 1, 2, 3] rfl)
def fX8_ofVariable (N : Nat) (S : St) (p1 : Int32) : Option (Int32 × St) :=
  ckx p1 300 <|
  bd2 (fX8_node N S (3 : Int32) (S.2.1 30 (p1 : Int32).toNatClampNeg)) fun v2 S4 =>
  bnd (0 : Int32) fun z5 =>
  fX8_ofVariable_14 N (S4, p1, v2, z5)
set_option maxHeartbeats 4000000 in
set_option maxRecDepth 100000 in
theorem cX8_ofVariable_met (l : Launch) (D : va_G) (cy : Nat → ClassId) (a r : Nat → Nat) (sz N : Nat) (S : St) (p1 : Int32) (Rr : Int32 × St) (hf : fX8_ofVariable N S p1 = some Rr) : Met l yX8_ofVariable wsX8_ofVariable ({ frames := 1, cells := 0, slots := 0, locals := 23 } : Room) (va_Pc [.ref (a 99), .int p1] (preW D cy (wM cy a r S) sz)) (QI D cy (wM cy a r) (va_A (wM cy a r S) sz) Rr) 0 0 (va_A (wM cy a r S) sz) := by
  refine Met.ofW (cc := cX8_ofVariable) (maxL := 4) (ret := (some .int)) (by decide) rfl ?_
  intro p e s m args below meth c s₁ B hml hv
  obtain ⟨rfl, rfl, hP, hK, hD0, hN⟩ := hv
  have hlocks := B.notSynchronized
  have hr := B.returns
  have C : Cx p s m _ c cX8_ofVariable 4 wsX8_ofVariable RX8 D cy := ⟨B.exec, B.bytes, hml, findClass_of_methodNamed B.named, atoms_spec (ws := wsX8_ofVariable) B.pre, hK, hN⟩
  have hW := ww_start (w := wM cy a r) hP hD0
  generalize va_A (wM cy a r S) s.heap.size = A at hW ⊢
  have hl := lv_entry ([.ref (a 99), .int p1]) (n := 4) (Nat.le_of_ble_eq_true rfl)
  rw [lg_entry_eq]
  generalize (lg_sl ([.ref (a 99), .int p1]) ++ List.replicate (4 - (lg_sl ([.ref (a 99), .int p1])).length) Slot.unset).toArray = ls at hl ⊢
  have hl : lv_has ls 4 [(0, .ref (a 99)), (1, .int p1)] := hl
  unfold fX8_ofVariable at hf
  refine lv_aload_n C.1 C.2.1 dX8_ofVariable_0 rfl (lv_at hl 0 rfl) ?_
  refine lv_iconst (v := 3) C.1 C.2.1 dX8_ofVariable_1 (by decide) ?_
  refine lv_aload_n C.1 C.2.1 dX8_ofVariable_2 rfl (lv_at hl 0 rfl) ?_
  refine fg_8_30 C kX8_ofVariable_8 mX8_ofVariable_120 hW dX8_ofVariable_3 ?_
  refine lv_iload_n C.1 C.2.1 dX8_ofVariable_6 rfl (lv_at hl 1 rfl) ?_
  obtain ⟨h1, hf⟩ := ckx_el hf
  refine al_8_30 C hW h1 dX8_ofVariable_7 ?_
  obtain ⟨v2, S4, h3, hf⟩ := bd2_el hf
  refine mcVi (w := wM cy a r) (S := S) (As := [.int (3 : Int32), .int (S.2.1 30 (p1 : Int32).toNatClampNeg)]) (rest := []) (q0 := 0) (ci := 8) C (cX8_node_met l D cy a r _ N S (3 : Int32) (S.2.1 30 (p1 : Int32).toNatClampNeg) (v2, S4) h3) (cwV 2 C.2.2.2.2.1 gX8_ofVariable_X8_node rfl rfl rfl (by decide +kernel) ⟨Nat.le_of_ble_eq_true rfl, Nat.le_of_ble_eq_true rfl⟩) rfl rfl rfl hl.1 (Nat.le_of_ble_eq_true rfl) hW dX8_ofVariable_8 ⟨Nat.zero_le _, Nat.zero_le _⟩ rfl (fun H locs hW => ?_)
  refine lv_istore_n (lv' := [(2, .int v2), (0, .ref (a 99)), (1, .int p1)]) C.1 C.2.1 dX8_ofVariable_11 rfl hl (by decide) rfl (fun ls hl => ?_)
  refine lv_iconst (v := 0) C.1 C.2.1 dX8_ofVariable_12 (by decide) ?_
  obtain ⟨z5, ez5, hf⟩ := bnd_el hf
  refine lv_as ez5 ?_
  refine lv_istore_n (lv' := [(3, .int z5), (2, .int v2), (0, .ref (a 99)), (1, .int p1)]) C.1 C.2.1 dX8_ofVariable_13 rfl hl (by decide) rfl (fun ls hl => ?_)
  exact lX8_ofVariable_14 C hr hlocks N _ _ _ _ _ hf _ _ _ hW (lv_sub hl [2, 3, 1, 0] rfl)
theorem mX8_ofBinder_62 : Cond.fieldLink RX8 62 "SharedLambdaModel" "binders" "I" ∈ wsX8_ofBinder := by decide +kernel
theorem mX8_ofBinder_138 : Cond.fieldLink RX8 138 "SharedLambdaModel" "frees" "[I" ∈ wsX8_ofBinder := by decide +kernel
theorem mX8_ofBinder_27 : Cond.fieldLink RX8 27 "SharedLambdaModel" "first" "[I" ∈ wsX8_ofBinder := by decide +kernel
theorem mX8_ofBinder_120 : Cond.fieldLink RX8 120 "SharedLambdaModel" "indexOf" "[I" ∈ wsX8_ofBinder := by decide +kernel
theorem mX8_ofBinder_30 : Cond.fieldLink RX8 30 "SharedLambdaModel" "second" "[I" ∈ wsX8_ofBinder := by decide +kernel
theorem mX8_ofBinder_123 : Cond.fieldLink RX8 123 "SharedLambdaModel" "rootOf" "[I" ∈ wsX8_ofBinder := by decide +kernel
theorem kX8_ofBinder_8 : ∀ w ∈ u_ws RX8 TX8 58, w ∈ wsX8_ofBinder := fun _ h => List.mem_cons_of_mem _ (List.mem_append_right _ h)
def fX8_ofBinder_131 (N : Nat) (k87 : St × Int32 × Int32 × Int32 × Int32 → Option (Int32 × St)) (S : St) (x1 : Int32) (x2 : Int32) (x3 : Int32) (x5 : Int32) (y1 : Int32) (y2 : Int32) : Option (Int32 × St) :=
  ckx y1 24000 <|
  bnd (sA S 29 (upd (S.2.1 29) (y1 : Int32).toNatClampNeg y2)) fun S2 =>
  bnd (x5 + (1 : Int32)) fun z3 =>
  k87 (S2, x1, x2, x3, z3)
set_option maxHeartbeats 4000000 in
set_option maxRecDepth 100000 in
theorem lX8_ofBinder_131 {p : Program} {l : Launch} {e : Env} {s : State} {m : MethodId} {args : Array Value} {below : List Frame} {meth : Method} {c : Code} {D : va_G} {cy : Nat → ClassId} {a r : Nat → Nat} {A : Nat → Prop} {Rr : Int32 × St} (C : Cx p s m args c cX8_ofBinder 6 wsX8_ofBinder RX8 D cy) (hr : meth.sig.returnType = some .int) (hlocks : meth.locks = false) (N : Nat) (k87 : St × Int32 × Int32 × Int32 × Int32 → Option (Int32 × St)) (hk87 : ∀ (S : St) (x1 : Int32) (x2 : Int32) (x3 : Int32) (x5 : Int32), k87 (S, x1, x2, x3, x5) = some Rr → ∀ (H : Heap) (locs : List Loc) (ls : Array Slot), WW D A s.heap (wM cy a r S) H locs → lv_has ls 6 [(0, .ref (a 99)), (1, .int x1), (2, .int x2), (3, .int x3), (5, .int x5)] → W p l e ({ frames := 2, cells := 0, slots := 0, locals := 43 } : Room) s m args below meth c H locs 0 0 (MQ below (QI D cy (wM cy a r) A Rr) args s 0 0 A) (F0 m 87 ls [])) (S : St) (x1 : Int32) (x2 : Int32) (x3 : Int32) (x5 : Int32) (y1 : Int32) (y2 : Int32) (hf : fX8_ofBinder_131 N k87 S x1 x2 x3 x5 y1 y2 = some Rr) : ∀ (H : Heap) (locs : List Loc) (ls : Array Slot), WW D A s.heap (wM cy a r S) H locs → lv_has ls 6 [(0, .ref (a 99)), (1, .int x1), (2, .int x2), (3, .int x3), (5, .int x5)] → W p l e ({ frames := 2, cells := 0, slots := 0, locals := 43 } : Room) s m args below meth c H locs 0 0 (MQ below (QI D cy (wM cy a r) A Rr) args s 0 0 A) (F0 m 131 ls [.int y2, .int y1, .ref (a 29)]) := by
  intro H locs ls hW hl
  unfold fX8_ofBinder_131 at hf
  obtain ⟨h1, hf⟩ := ckx_el hf
  obtain ⟨S2, eS2, hf⟩ := bnd_el hf
  refine as_8_29 C hW h1 dX8_ofBinder_131 eS2 (fun H locs hW => ?_)
  obtain ⟨z3, ez3, hf⟩ := bnd_el hf
  refine lv_iinc (v := z3) (lv' := [(5, .int z3), (0, .ref (a 99)), (1, .int x1), (2, .int x2), (3, .int x3)]) C.1 C.2.1 dX8_ofBinder_132 hl (k := 4) rfl (by rw [ez3]; rfl) (by decide) rfl (fun ls hl => ?_)
  refine lv_goto (tgt := 87) C.1 C.2.1 dX8_ofBinder_135 (by decide) ?_
  exact hk87 _ _ _ _ _ hf _ _ _ hW (lv_sub hl [1, 2, 3, 4, 0] rfl)
def fX8_ofBinder_87s (N : Nat) (k87 : St × Int32 × Int32 × Int32 × Int32 → Option (Int32 × St)) (S : St) (x1 : Int32) (x2 : Int32) (x3 : Int32) (x5 : Int32) : Option (Int32 × St) :=
  if S.1 14 ≤ x5 then
    some (((3 : Int32) * x2), S)
  else
    ckx x1 300 <|
    if x5 = S.2.1 4 (x1 : Int32).toNatClampNeg then
      fX8_ofBinder_131 N k87 S x1 x2 x3 x5 ((((80 : Int32) * x1) + x5)) (-1 : Int32)
    else
      ckx (x3 + x5) 24000 <|
      fX8_ofBinder_131 N k87 S x1 x2 x3 x5 ((((80 : Int32) * x1) + x5)) (S.2.1 29 ((x3 + x5) : Int32).toNatClampNeg)
def fX8_ofBinder_87 (N : Nat) : St × Int32 × Int32 × Int32 × Int32 → Option (Int32 × St) := loopN (fun k x => fX8_ofBinder_87s N k x.1 x.2.1 x.2.2.1 x.2.2.2.1 x.2.2.2.2) N
set_option maxHeartbeats 4000000 in
set_option maxRecDepth 100000 in
theorem lX8_ofBinder_87 {p : Program} {l : Launch} {e : Env} {s : State} {m : MethodId} {args : Array Value} {below : List Frame} {meth : Method} {c : Code} {D : va_G} {cy : Nat → ClassId} {a r : Nat → Nat} {A : Nat → Prop} {Rr : Int32 × St} (C : Cx p s m args c cX8_ofBinder 6 wsX8_ofBinder RX8 D cy) (hr : meth.sig.returnType = some .int) (hlocks : meth.locks = false) (N : Nat) : ∀ (n : Nat) (S : St) (x1 : Int32) (x2 : Int32) (x3 : Int32) (x5 : Int32), loopN (fun k x => fX8_ofBinder_87s N k x.1 x.2.1 x.2.2.1 x.2.2.2.1 x.2.2.2.2) n (S, x1, x2, x3, x5) = some Rr → ∀ (H : Heap) (locs : List Loc) (ls : Array Slot), WW D A s.heap (wM cy a r S) H locs → lv_has ls 6 [(0, .ref (a 99)), (1, .int x1), (2, .int x2), (3, .int x3), (5, .int x5)] → W p l e ({ frames := 2, cells := 0, slots := 0, locals := 43 } : Room) s m args below meth c H locs 0 0 (MQ below (QI D cy (wM cy a r) A Rr) args s 0 0 A) (F0 m 87 ls []) := by
  intro n
  induction n with
  | zero =>
    intro S x1 x2 x3 x5 hf
    cases hf
  | succ n ih =>
    intro S x1 x2 x3 x5 hf H locs ls hW hl
    have hf : fX8_ofBinder_87s N (loopN (fun k x => fX8_ofBinder_87s N k x.1 x.2.1 x.2.2.1 x.2.2.2.1 x.2.2.2.2) n) S x1 x2 x3 x5 = some Rr := hf
    unfold fX8_ofBinder_87s at hf
    refine lv_iload C.1 C.2.1 dX8_ofBinder_87 (lv_at hl 4 rfl) ?_
    refine lv_aload_n C.1 C.2.1 dX8_ofBinder_89 rfl (lv_at hl 0 rfl) ?_
    refine fg_8_14 C kX8_ofBinder_8 mX8_ofBinder_62 hW dX8_ofBinder_90 ?_
    refine lv_icmp_ge (tgt := 138) C.1 C.2.1 dX8_ofBinder_93 (by decide) (fun q1 => ?_) (fun q1 => ?_)
    · replace hf := (if_pos q1).symm.trans hf
      refine lv_iconst (v := 3) C.1 C.2.1 dX8_ofBinder_138 (by decide) ?_
      refine lv_iload_n C.1 C.2.1 dX8_ofBinder_139 rfl (lv_at hl 2 rfl) ?_
      refine lv_imul C.1 C.2.1 dX8_ofBinder_140 ?_
      exact mrI C hr hlocks rfl hf hW dX8_ofBinder_141
    · replace hf := (if_neg q1).symm.trans hf
      refine lv_aload_n C.1 C.2.1 dX8_ofBinder_96 rfl (lv_at hl 0 rfl) ?_
      refine fg_8_29 C kX8_ofBinder_8 mX8_ofBinder_138 hW dX8_ofBinder_97 ?_
      refine lv_bipush (v := 80) C.1 C.2.1 dX8_ofBinder_100 (by decide) ?_
      refine lv_iload_n C.1 C.2.1 dX8_ofBinder_102 rfl (lv_at hl 1 rfl) ?_
      refine lv_imul C.1 C.2.1 dX8_ofBinder_103 ?_
      refine lv_iload C.1 C.2.1 dX8_ofBinder_104 (lv_at hl 4 rfl) ?_
      refine lv_iadd C.1 C.2.1 dX8_ofBinder_106 ?_
      refine lv_iload C.1 C.2.1 dX8_ofBinder_107 (lv_at hl 4 rfl) ?_
      refine lv_aload_n C.1 C.2.1 dX8_ofBinder_109 rfl (lv_at hl 0 rfl) ?_
      refine fg_8_4 C kX8_ofBinder_8 mX8_ofBinder_27 hW dX8_ofBinder_110 ?_
      refine lv_iload_n C.1 C.2.1 dX8_ofBinder_113 rfl (lv_at hl 1 rfl) ?_
      obtain ⟨h2, hf⟩ := ckx_el hf
      refine al_8_4 C hW h2 dX8_ofBinder_114 ?_
      refine lv_icmp_ne (tgt := 122) C.1 C.2.1 dX8_ofBinder_115 (by decide) (fun q3 => ?_) (fun q3 => ?_)
      · replace hf := (if_neg q3).symm.trans hf
        refine lv_aload_n C.1 C.2.1 dX8_ofBinder_122 rfl (lv_at hl 0 rfl) ?_
        refine fg_8_29 C kX8_ofBinder_8 mX8_ofBinder_138 hW dX8_ofBinder_123 ?_
        refine lv_iload_n C.1 C.2.1 dX8_ofBinder_126 rfl (lv_at hl 3 rfl) ?_
        refine lv_iload C.1 C.2.1 dX8_ofBinder_127 (lv_at hl 4 rfl) ?_
        refine lv_iadd C.1 C.2.1 dX8_ofBinder_129 ?_
        obtain ⟨h4, hf⟩ := ckx_el hf
        refine al_8_29 C hW h4 dX8_ofBinder_130 ?_
        exact lX8_ofBinder_131 C hr hlocks N _ ih _ _ _ _ _ _ _ hf _ _ _ hW (lv_sub hl [0, 1, 2, 3, 4] rfl)
      · replace hf := (if_pos q3).symm.trans hf
        refine lv_iconst (v := -1) C.1 C.2.1 dX8_ofBinder_118 (by decide) ?_
        refine lv_goto (tgt := 131) C.1 C.2.1 dX8_ofBinder_119 (by decide) ?_
        exact lX8_ofBinder_131 C hr hlocks N _ ih _ _ _ _ _ _ _ hf _ _ _ hW (lv_sub hl [0, 1, 2, 3, 4] rfl)
def fX8_ofBinder_81 (N : Nat) (S : St) (x1 : Int32) (x2 : Int32) (x3 : Int32) (y1 : Int32) (y2 : Int32) : Option (Int32 × St) :=
  bdo (fX8_wire N S y1 y2) fun S3 =>
  bnd (0 : Int32) fun z4 =>
  fX8_ofBinder_87 N (S3, x1, x2, x3, z4)
set_option maxHeartbeats 4000000 in
set_option maxRecDepth 100000 in
theorem lX8_ofBinder_81 {p : Program} {l : Launch} {e : Env} {s : State} {m : MethodId} {args : Array Value} {below : List Frame} {meth : Method} {c : Code} {D : va_G} {cy : Nat → ClassId} {a r : Nat → Nat} {A : Nat → Prop} {Rr : Int32 × St} (C : Cx p s m args c cX8_ofBinder 6 wsX8_ofBinder RX8 D cy) (hr : meth.sig.returnType = some .int) (hlocks : meth.locks = false) (N : Nat) (S : St) (x1 : Int32) (x2 : Int32) (x3 : Int32) (y1 : Int32) (y2 : Int32) (hf : fX8_ofBinder_81 N S x1 x2 x3 y1 y2 = some Rr) : ∀ (H : Heap) (locs : List Loc) (ls : Array Slot), WW D A s.heap (wM cy a r S) H locs → lv_has ls 6 [(0, .ref (a 99)), (1, .int x1), (2, .int x2), (3, .int x3)] → W p l e ({ frames := 2, cells := 0, slots := 0, locals := 43 } : Room) s m args below meth c H locs 0 0 (MQ below (QI D cy (wM cy a r) A Rr) args s 0 0 A) (F0 m 81 ls [.int y2, .int y1, .ref (a 99)]) := by
  intro H locs ls hW hl
  unfold fX8_ofBinder_81 at hf
  obtain ⟨S3, h2, hf⟩ := bdo_el hf
  refine mcVv (w := wM cy a r) (S := S) (As := [.int y1, .int y2]) (rest := []) (q0 := 0) (ci := 8) C (cX8_wire_met l D cy a r _ N S y1 y2 S3 h2) (cwV 2 C.2.2.2.2.1 gX8_ofBinder_X8_wire rfl rfl rfl (by decide +kernel) ⟨Nat.le_of_ble_eq_true rfl, Nat.le_of_ble_eq_true rfl⟩) rfl rfl rfl hl.1 (Nat.le_of_ble_eq_true rfl) hW dX8_ofBinder_81 ⟨Nat.zero_le _, Nat.zero_le _⟩ rfl (fun H locs hW => ?_)
  refine lv_iconst (v := 0) C.1 C.2.1 dX8_ofBinder_84 (by decide) ?_
  obtain ⟨z4, ez4, hf⟩ := bnd_el hf
  refine lv_as ez4 ?_
  refine lv_istore (lv' := [(5, .int z4), (0, .ref (a 99)), (1, .int x1), (2, .int x2), (3, .int x3)]) C.1 C.2.1 dX8_ofBinder_85 hl (by decide) rfl (fun ls hl => ?_)
  exact lX8_ofBinder_87 C hr hlocks N _ _ _ _ _ _ hf _ _ _ hW (lv_sub hl [1, 2, 3, 4, 0] rfl)
def fX8_ofBinder (N : Nat) (S : St) (p1 : Int32) : Option (Int32 × St) :=
  ckx p1 300 <|
  bd2 (fX8_node N S (0 : Int32) (S.2.1 30 (p1 : Int32).toNatClampNeg)) fun v2 S4 =>
  ckx p1 300 <|
  bnd (((80 : Int32) * S4.2.1 5 (p1 : Int32).toNatClampNeg)) fun z6 =>
  ckx p1 300 <|
  ckx ((z6 + S4.2.1 4 (p1 : Int32).toNatClampNeg)) 24000 <|
  bnd (S4.2.1 29 ((z6 + S4.2.1 4 (p1 : Int32).toNatClampNeg) : Int32).toNatClampNeg) fun z9 =>
  ckx p1 300 <|
  ckx (S4.2.1 5 (p1 : Int32).toNatClampNeg) 300 <|
  bdo (fX8_wire N S4 ((((3 : Int32) * v2) + (1 : Int32))) (S4.2.1 31 (S4.2.1 5 (p1 : Int32).toNatClampNeg : Int32).toNatClampNeg)) fun S14 =>
  if 0 ≤ z9 then
    fX8_ofBinder_81 N S14 p1 v2 z6 ((((3 : Int32) * v2) + (2 : Int32))) z9
  else
    bd2 (fX8_node N S14 (5 : Int32) (0 : Int32)) fun v16 S18 =>
    fX8_ofBinder_81 N S18 p1 v2 z6 ((((3 : Int32) * v2) + (2 : Int32))) (((3 : Int32) * v16))
set_option maxHeartbeats 4000000 in
set_option maxRecDepth 100000 in
theorem cX8_ofBinder_met (l : Launch) (D : va_G) (cy : Nat → ClassId) (a r : Nat → Nat) (sz N : Nat) (S : St) (p1 : Int32) (Rr : Int32 × St) (hf : fX8_ofBinder N S p1 = some Rr) : Met l yX8_ofBinder wsX8_ofBinder ({ frames := 2, cells := 0, slots := 0, locals := 43 } : Room) (va_Pc [.ref (a 99), .int p1] (preW D cy (wM cy a r S) sz)) (QI D cy (wM cy a r) (va_A (wM cy a r S) sz) Rr) 0 0 (va_A (wM cy a r S) sz) := by
  refine Met.ofW (cc := cX8_ofBinder) (maxL := 6) (ret := (some .int)) (by decide) rfl ?_
  intro p e s m args below meth c s₁ B hml hv
  obtain ⟨rfl, rfl, hP, hK, hD0, hN⟩ := hv
  have hlocks := B.notSynchronized
  have hr := B.returns
  have C : Cx p s m _ c cX8_ofBinder 6 wsX8_ofBinder RX8 D cy := ⟨B.exec, B.bytes, hml, findClass_of_methodNamed B.named, atoms_spec (ws := wsX8_ofBinder) B.pre, hK, hN⟩
  have hW := ww_start (w := wM cy a r) hP hD0
  generalize va_A (wM cy a r S) s.heap.size = A at hW ⊢
  have hl := lv_entry ([.ref (a 99), .int p1]) (n := 6) (Nat.le_of_ble_eq_true rfl)
  rw [lg_entry_eq]
  generalize (lg_sl ([.ref (a 99), .int p1]) ++ List.replicate (6 - (lg_sl ([.ref (a 99), .int p1])).length) Slot.unset).toArray = ls at hl ⊢
  have hl : lv_has ls 6 [(0, .ref (a 99)), (1, .int p1)] := hl
  unfold fX8_ofBinder at hf
  refine lv_aload_n C.1 C.2.1 dX8_ofBinder_0 rfl (lv_at hl 0 rfl) ?_
  refine lv_iconst (v := 0) C.1 C.2.1 dX8_ofBinder_1 (by decide) ?_
  refine lv_aload_n C.1 C.2.1 dX8_ofBinder_2 rfl (lv_at hl 0 rfl) ?_
  refine fg_8_30 C kX8_ofBinder_8 mX8_ofBinder_120 hW dX8_ofBinder_3 ?_
  refine lv_iload_n C.1 C.2.1 dX8_ofBinder_6 rfl (lv_at hl 1 rfl) ?_
  obtain ⟨h1, hf⟩ := ckx_el hf
  refine al_8_30 C hW h1 dX8_ofBinder_7 ?_
  obtain ⟨v2, S4, h3, hf⟩ := bd2_el hf
  refine mcVi (w := wM cy a r) (S := S) (As := [.int (0 : Int32), .int (S.2.1 30 (p1 : Int32).toNatClampNeg)]) (rest := []) (q0 := 0) (ci := 8) C (cX8_node_met l D cy a r _ N S (0 : Int32) (S.2.1 30 (p1 : Int32).toNatClampNeg) (v2, S4) h3) (cwV 2 C.2.2.2.2.1 gX8_ofBinder_X8_node rfl rfl rfl (by decide +kernel) ⟨Nat.le_of_ble_eq_true rfl, Nat.le_of_ble_eq_true rfl⟩) rfl rfl rfl hl.1 (Nat.le_of_ble_eq_true rfl) hW dX8_ofBinder_8 ⟨Nat.zero_le _, Nat.zero_le _⟩ rfl (fun H locs hW => ?_)
  refine lv_istore_n (lv' := [(2, .int v2), (0, .ref (a 99)), (1, .int p1)]) C.1 C.2.1 dX8_ofBinder_11 rfl hl (by decide) rfl (fun ls hl => ?_)
  refine lv_bipush (v := 80) C.1 C.2.1 dX8_ofBinder_12 (by decide) ?_
  refine lv_aload_n C.1 C.2.1 dX8_ofBinder_14 rfl (lv_at hl 1 rfl) ?_
  refine fg_8_5 C kX8_ofBinder_8 mX8_ofBinder_30 hW dX8_ofBinder_15 ?_
  refine lv_iload_n C.1 C.2.1 dX8_ofBinder_18 rfl (lv_at hl 2 rfl) ?_
  obtain ⟨h5, hf⟩ := ckx_el hf
  refine al_8_5 C hW h5 dX8_ofBinder_19 ?_
  refine lv_imul C.1 C.2.1 dX8_ofBinder_20 ?_
  obtain ⟨z6, ez6, hf⟩ := bnd_el hf
  refine lv_as ez6 ?_
  refine lv_istore_n (lv' := [(3, .int z6), (2, .int v2), (0, .ref (a 99)), (1, .int p1)]) C.1 C.2.1 dX8_ofBinder_21 rfl hl (by decide) rfl (fun ls hl => ?_)
  refine lv_aload_n C.1 C.2.1 dX8_ofBinder_22 rfl (lv_at hl 2 rfl) ?_
  refine fg_8_29 C kX8_ofBinder_8 mX8_ofBinder_138 hW dX8_ofBinder_23 ?_
  refine lv_iload_n C.1 C.2.1 dX8_ofBinder_26 rfl (lv_at hl 0 rfl) ?_
  refine lv_aload_n C.1 C.2.1 dX8_ofBinder_27 rfl (lv_at hl 2 rfl) ?_
  refine fg_8_4 C kX8_ofBinder_8 mX8_ofBinder_27 hW dX8_ofBinder_28 ?_
  refine lv_iload_n C.1 C.2.1 dX8_ofBinder_31 rfl (lv_at hl 3 rfl) ?_
  obtain ⟨h7, hf⟩ := ckx_el hf
  refine al_8_4 C hW h7 dX8_ofBinder_32 ?_
  refine lv_iadd C.1 C.2.1 dX8_ofBinder_33 ?_
  obtain ⟨h8, hf⟩ := ckx_el hf
  refine al_8_29 C hW h8 dX8_ofBinder_34 ?_
  obtain ⟨z9, ez9, hf⟩ := bnd_el hf
  refine lv_as ez9 ?_
  refine lv_istore (lv' := [(4, .int z9), (3, .int z6), (2, .int v2), (0, .ref (a 99)), (1, .int p1)]) C.1 C.2.1 dX8_ofBinder_35 hl (by decide) rfl (fun ls hl => ?_)
  refine lv_aload_n C.1 C.2.1 dX8_ofBinder_37 rfl (lv_at hl 3 rfl) ?_
  refine lv_iconst (v := 3) C.1 C.2.1 dX8_ofBinder_38 (by decide) ?_
  refine lv_iload_n C.1 C.2.1 dX8_ofBinder_39 rfl (lv_at hl 2 rfl) ?_
  refine lv_imul C.1 C.2.1 dX8_ofBinder_40 ?_
  refine lv_iconst (v := 1) C.1 C.2.1 dX8_ofBinder_41 (by decide) ?_
  refine lv_iadd C.1 C.2.1 dX8_ofBinder_42 ?_
  refine lv_aload_n C.1 C.2.1 dX8_ofBinder_43 rfl (lv_at hl 3 rfl) ?_
  refine fg_8_31 C kX8_ofBinder_8 mX8_ofBinder_123 hW dX8_ofBinder_44 ?_
  refine lv_aload_n C.1 C.2.1 dX8_ofBinder_47 rfl (lv_at hl 3 rfl) ?_
  refine fg_8_5 C kX8_ofBinder_8 mX8_ofBinder_30 hW dX8_ofBinder_48 ?_
  refine lv_iload_n C.1 C.2.1 dX8_ofBinder_51 rfl (lv_at hl 4 rfl) ?_
  obtain ⟨h10, hf⟩ := ckx_el hf
  refine al_8_5 C hW h10 dX8_ofBinder_52 ?_
  obtain ⟨h11, hf⟩ := ckx_el hf
  refine al_8_31 C hW h11 dX8_ofBinder_53 ?_
  obtain ⟨S14, h13, hf⟩ := bdo_el hf
  refine mcVv (w := wM cy a r) (S := S4) (As := [.int ((((3 : Int32) * v2) + (1 : Int32))), .int (S4.2.1 31 (S4.2.1 5 (p1 : Int32).toNatClampNeg : Int32).toNatClampNeg)]) (rest := []) (q0 := 0) (ci := 8) C (cX8_wire_met l D cy a r _ N S4 ((((3 : Int32) * v2) + (1 : Int32))) (S4.2.1 31 (S4.2.1 5 (p1 : Int32).toNatClampNeg : Int32).toNatClampNeg) S14 h13) (cwV 2 C.2.2.2.2.1 gX8_ofBinder_X8_wire rfl rfl rfl (by decide +kernel) ⟨Nat.le_of_ble_eq_true rfl, Nat.le_of_ble_eq_true rfl⟩) rfl rfl rfl hl.1 (Nat.le_of_ble_eq_true rfl) hW dX8_ofBinder_54 ⟨Nat.zero_le _, Nat.zero_le _⟩ rfl (fun H locs hW => ?_)
  refine lv_aload_n C.1 C.2.1 dX8_ofBinder_57 rfl (lv_at hl 3 rfl) ?_
  refine lv_iconst (v := 3) C.1 C.2.1 dX8_ofBinder_58 (by decide) ?_
  refine lv_iload_n C.1 C.2.1 dX8_ofBinder_59 rfl (lv_at hl 2 rfl) ?_
  refine lv_imul C.1 C.2.1 dX8_ofBinder_60 ?_
  refine lv_iconst (v := 2) C.1 C.2.1 dX8_ofBinder_61 (by decide) ?_
  refine lv_iadd C.1 C.2.1 dX8_ofBinder_62 ?_
  refine lv_iload C.1 C.2.1 dX8_ofBinder_63 (lv_at hl 0 rfl) ?_
  refine lv_if_ge (tgt := 79) C.1 C.2.1 dX8_ofBinder_65 (by decide) (fun q15 => ?_) (fun q15 => ?_)
  · replace hf := (if_pos q15).symm.trans hf
    refine lv_iload C.1 C.2.1 dX8_ofBinder_79 (lv_at hl 0 rfl) ?_
    exact lX8_ofBinder_81 C hr hlocks N _ _ _ _ _ _ hf _ _ _ hW (lv_sub hl [3, 4, 2, 1] rfl)
  · replace hf := (if_neg q15).symm.trans hf
    refine lv_iconst (v := 3) C.1 C.2.1 dX8_ofBinder_68 (by decide) ?_
    refine lv_aload_n C.1 C.2.1 dX8_ofBinder_69 rfl (lv_at hl 3 rfl) ?_
    refine lv_iconst (v := 5) C.1 C.2.1 dX8_ofBinder_70 (by decide) ?_
    refine lv_iconst (v := 0) C.1 C.2.1 dX8_ofBinder_71 (by decide) ?_
    obtain ⟨v16, S18, h17, hf⟩ := bd2_el hf
    refine mcVi (w := wM cy a r) (S := S14) (As := [.int (5 : Int32), .int (0 : Int32)]) (rest := [.int (3 : Int32), .int ((((3 : Int32) * v2) + (2 : Int32))), .ref (a 99)]) (q0 := 0) (ci := 8) C (cX8_node_met l D cy a r _ N S14 (5 : Int32) (0 : Int32) (v16, S18) h17) (cwV 2 C.2.2.2.2.1 gX8_ofBinder_X8_node rfl rfl rfl (by decide +kernel) ⟨Nat.le_of_ble_eq_true rfl, Nat.le_of_ble_eq_true rfl⟩) rfl rfl rfl hl.1 (Nat.le_of_ble_eq_true rfl) hW dX8_ofBinder_72 ⟨Nat.zero_le _, Nat.zero_le _⟩ rfl (fun H locs hW => ?_)
    refine lv_imul C.1 C.2.1 dX8_ofBinder_75 ?_
    refine lv_goto (tgt := 81) C.1 C.2.1 dX8_ofBinder_76 (by decide) ?_
    exact lX8_ofBinder_81 C hr hlocks N _ _ _ _ _ _ hf _ _ _ hW (lv_sub hl [3, 4, 2, 1] rfl)
theorem mX8_ofApplied_138 : Cond.fieldLink RX8 138 "SharedLambdaModel" "frees" "[I" ∈ wsX8_ofApplied := by decide +kernel
theorem mX8_ofApplied_62 : Cond.fieldLink RX8 62 "SharedLambdaModel" "binders" "I" ∈ wsX8_ofApplied := by decide +kernel
theorem mX8_ofApplied_27 : Cond.fieldLink RX8 27 "SharedLambdaModel" "first" "[I" ∈ wsX8_ofApplied := by decide +kernel
theorem mX8_ofApplied_30 : Cond.fieldLink RX8 30 "SharedLambdaModel" "second" "[I" ∈ wsX8_ofApplied := by decide +kernel
theorem mX8_ofApplied_120 : Cond.fieldLink RX8 120 "SharedLambdaModel" "indexOf" "[I" ∈ wsX8_ofApplied := by decide +kernel
theorem mX8_ofApplied_123 : Cond.fieldLink RX8 123 "SharedLambdaModel" "rootOf" "[I" ∈ wsX8_ofApplied := by decide +kernel
theorem kX8_ofApplied_8 : ∀ w ∈ u_ws RX8 TX8 58, w ∈ wsX8_ofApplied := fun _ h => List.mem_cons_of_mem _ (List.mem_append_right _ h)
def fX8_ofApplied_204 (N : Nat) (k55 : St × Int32 × Int32 × Int32 × Int32 → Option (Int32 × St)) (S : St) (x1 : Int32) (x2 : Int32) (x3 : Int32) (x4 : Int32) (y1 : Int32) (y2 : Int32) : Option (Int32 × St) :=
  ckx y1 24000 <|
  bnd (sA S 29 (upd (S.2.1 29) (y1 : Int32).toNatClampNeg y2)) fun S2 =>
  bnd (x4 + (1 : Int32)) fun z3 =>
  k55 (S2, x1, x2, x3, z3)
set_option maxHeartbeats 4000000 in
set_option maxRecDepth 100000 in
theorem lX8_ofApplied_204 {p : Program} {l : Launch} {e : Env} {s : State} {m : MethodId} {args : Array Value} {below : List Frame} {meth : Method} {c : Code} {D : va_G} {cy : Nat → ClassId} {a r : Nat → Nat} {A : Nat → Prop} {Rr : Int32 × St} (C : Cx p s m args c cX8_ofApplied 8 wsX8_ofApplied RX8 D cy) (hr : meth.sig.returnType = some .int) (hlocks : meth.locks = false) (N : Nat) (k55 : St × Int32 × Int32 × Int32 × Int32 → Option (Int32 × St)) (hk55 : ∀ (S : St) (x1 : Int32) (x2 : Int32) (x3 : Int32) (x4 : Int32), k55 (S, x1, x2, x3, x4) = some Rr → ∀ (H : Heap) (locs : List Loc) (ls : Array Slot), WW D A s.heap (wM cy a r S) H locs → lv_has ls 8 [(0, .ref (a 99)), (1, .int x1), (2, .int x2), (3, .int x3), (4, .int x4)] → W p l e ({ frames := 2, cells := 0, slots := 0, locals := 43 } : Room) s m args below meth c H locs 0 0 (MQ below (QI D cy (wM cy a r) A Rr) args s 0 0 A) (F0 m 55 ls [])) (S : St) (x1 : Int32) (x2 : Int32) (x3 : Int32) (x4 : Int32) (y1 : Int32) (y2 : Int32) (hf : fX8_ofApplied_204 N k55 S x1 x2 x3 x4 y1 y2 = some Rr) : ∀ (H : Heap) (locs : List Loc) (ls : Array Slot), WW D A s.heap (wM cy a r S) H locs → lv_has ls 8 [(0, .ref (a 99)), (1, .int x1), (2, .int x2), (3, .int x3), (4, .int x4)] → W p l e ({ frames := 2, cells := 0, slots := 0, locals := 43 } : Room) s m args below meth c H locs 0 0 (MQ below (QI D cy (wM cy a r) A Rr) args s 0 0 A) (F0 m 204 ls [.int y2, .int y1, .ref (a 29)]) := by
  intro H locs ls hW hl
  unfold fX8_ofApplied_204 at hf
  obtain ⟨h1, hf⟩ := ckx_el hf
  obtain ⟨S2, eS2, hf⟩ := bnd_el hf
  refine as_8_29 C hW h1 dX8_ofApplied_204 eS2 (fun H locs hW => ?_)
  obtain ⟨z3, ez3, hf⟩ := bnd_el hf
  refine lv_iinc (v := z3) (lv' := [(4, .int z3), (0, .ref (a 99)), (1, .int x1), (2, .int x2), (3, .int x3)]) C.1 C.2.1 dX8_ofApplied_205 hl (k := 4) rfl (by rw [ez3]; rfl) (by decide) rfl (fun ls hl => ?_)
  refine lv_goto (tgt := 55) C.1 C.2.1 dX8_ofApplied_208 (by decide) ?_
  exact hk55 _ _ _ _ _ hf _ _ _ hW (lv_sub hl [1, 2, 3, 4, 0] rfl)
def fX8_ofApplied_181 (N : Nat) (k55 : St × Int32 × Int32 × Int32 × Int32 → Option (Int32 × St)) (S : St) (x1 : Int32) (x2 : Int32) (x3 : Int32) (x4 : Int32) (x5 : Int32) (x6 : Int32) : Option (Int32 × St) :=
  if x5 < 0 then
    fX8_ofApplied_204 N k55 S x1 x2 x3 x4 ((((80 : Int32) * x1) + x4)) x6
  else
    fX8_ofApplied_204 N k55 S x1 x2 x3 x4 ((((80 : Int32) * x1) + x4)) x5
set_option maxHeartbeats 4000000 in
set_option maxRecDepth 100000 in
theorem lX8_ofApplied_181 {p : Program} {l : Launch} {e : Env} {s : State} {m : MethodId} {args : Array Value} {below : List Frame} {meth : Method} {c : Code} {D : va_G} {cy : Nat → ClassId} {a r : Nat → Nat} {A : Nat → Prop} {Rr : Int32 × St} (C : Cx p s m args c cX8_ofApplied 8 wsX8_ofApplied RX8 D cy) (hr : meth.sig.returnType = some .int) (hlocks : meth.locks = false) (N : Nat) (k55 : St × Int32 × Int32 × Int32 × Int32 → Option (Int32 × St)) (hk55 : ∀ (S : St) (x1 : Int32) (x2 : Int32) (x3 : Int32) (x4 : Int32), k55 (S, x1, x2, x3, x4) = some Rr → ∀ (H : Heap) (locs : List Loc) (ls : Array Slot), WW D A s.heap (wM cy a r S) H locs → lv_has ls 8 [(0, .ref (a 99)), (1, .int x1), (2, .int x2), (3, .int x3), (4, .int x4)] → W p l e ({ frames := 2, cells := 0, slots := 0, locals := 43 } : Room) s m args below meth c H locs 0 0 (MQ below (QI D cy (wM cy a r) A Rr) args s 0 0 A) (F0 m 55 ls [])) (S : St) (x1 : Int32) (x2 : Int32) (x3 : Int32) (x4 : Int32) (x5 : Int32) (x6 : Int32) (hf : fX8_ofApplied_181 N k55 S x1 x2 x3 x4 x5 x6 = some Rr) : ∀ (H : Heap) (locs : List Loc) (ls : Array Slot), WW D A s.heap (wM cy a r S) H locs → lv_has ls 8 [(0, .ref (a 99)), (1, .int x1), (2, .int x2), (3, .int x3), (4, .int x4), (5, .int x5), (6, .int x6)] → W p l e ({ frames := 2, cells := 0, slots := 0, locals := 43 } : Room) s m args below meth c H locs 0 0 (MQ below (QI D cy (wM cy a r) A Rr) args s 0 0 A) (F0 m 181 ls []) := by
  intro H locs ls hW hl
  unfold fX8_ofApplied_181 at hf
  refine lv_aload_n C.1 C.2.1 dX8_ofApplied_181 rfl (lv_at hl 0 rfl) ?_
  refine fg_8_29 C kX8_ofApplied_8 mX8_ofApplied_138 hW dX8_ofApplied_182 ?_
  refine lv_bipush (v := 80) C.1 C.2.1 dX8_ofApplied_185 (by decide) ?_
  refine lv_iload_n C.1 C.2.1 dX8_ofApplied_187 rfl (lv_at hl 1 rfl) ?_
  refine lv_imul C.1 C.2.1 dX8_ofApplied_188 ?_
  refine lv_iload C.1 C.2.1 dX8_ofApplied_189 (lv_at hl 4 rfl) ?_
  refine lv_iadd C.1 C.2.1 dX8_ofApplied_191 ?_
  refine lv_iload C.1 C.2.1 dX8_ofApplied_192 (lv_at hl 5 rfl) ?_
  refine lv_if_lt (tgt := 202) C.1 C.2.1 dX8_ofApplied_194 (by decide) (fun q1 => ?_) (fun q1 => ?_)
  · replace hf := (if_pos q1).symm.trans hf
    refine lv_iload C.1 C.2.1 dX8_ofApplied_202 (lv_at hl 6 rfl) ?_
    exact lX8_ofApplied_204 C hr hlocks N _ hk55 _ _ _ _ _ _ _ hf _ _ _ hW (lv_sub hl [0, 1, 2, 3, 4] rfl)
  · replace hf := (if_neg q1).symm.trans hf
    refine lv_iload C.1 C.2.1 dX8_ofApplied_197 (lv_at hl 5 rfl) ?_
    refine lv_goto (tgt := 204) C.1 C.2.1 dX8_ofApplied_199 (by decide) ?_
    exact lX8_ofApplied_204 C hr hlocks N _ hk55 _ _ _ _ _ _ _ hf _ _ _ hW (lv_sub hl [0, 1, 2, 3, 4] rfl)
def fX8_ofApplied_133 (N : Nat) (k55 : St × Int32 × Int32 × Int32 × Int32 → Option (Int32 × St)) (S : St) (x1 : Int32) (x2 : Int32) (x3 : Int32) (x4 : Int32) (x5 : Int32) (x6 : Int32) : Option (Int32 × St) :=
  if x5 < 0 then
    fX8_ofApplied_181 N k55 S x1 x2 x3 x4 x5 x6
  else
    if x6 < 0 then
      fX8_ofApplied_181 N k55 S x1 x2 x3 x4 x5 x6
    else
      bd2 (fX8_node N S (2 : Int32) x2) fun v3 S5 =>
      bdo (fX8_wire N S5 ((((3 : Int32) * v3) + (1 : Int32))) x5) fun S8 =>
      bdo (fX8_wire N S8 ((((3 : Int32) * v3) + (2 : Int32))) x6) fun S11 =>
      bnd (((3 : Int32) * v3)) fun z12 =>
      fX8_ofApplied_181 N k55 S11 x1 x2 x3 x4 z12 x6
set_option maxHeartbeats 4000000 in
set_option maxRecDepth 100000 in
theorem lX8_ofApplied_133 {p : Program} {l : Launch} {e : Env} {s : State} {m : MethodId} {args : Array Value} {below : List Frame} {meth : Method} {c : Code} {D : va_G} {cy : Nat → ClassId} {a r : Nat → Nat} {A : Nat → Prop} {Rr : Int32 × St} (C : Cx p s m args c cX8_ofApplied 8 wsX8_ofApplied RX8 D cy) (hr : meth.sig.returnType = some .int) (hlocks : meth.locks = false) (N : Nat) (k55 : St × Int32 × Int32 × Int32 × Int32 → Option (Int32 × St)) (hk55 : ∀ (S : St) (x1 : Int32) (x2 : Int32) (x3 : Int32) (x4 : Int32), k55 (S, x1, x2, x3, x4) = some Rr → ∀ (H : Heap) (locs : List Loc) (ls : Array Slot), WW D A s.heap (wM cy a r S) H locs → lv_has ls 8 [(0, .ref (a 99)), (1, .int x1), (2, .int x2), (3, .int x3), (4, .int x4)] → W p l e ({ frames := 2, cells := 0, slots := 0, locals := 43 } : Room) s m args below meth c H locs 0 0 (MQ below (QI D cy (wM cy a r) A Rr) args s 0 0 A) (F0 m 55 ls [])) (S : St) (x1 : Int32) (x2 : Int32) (x3 : Int32) (x4 : Int32) (x5 : Int32) (x6 : Int32) (hf : fX8_ofApplied_133 N k55 S x1 x2 x3 x4 x5 x6 = some Rr) : ∀ (H : Heap) (locs : List Loc) (ls : Array Slot), WW D A s.heap (wM cy a r S) H locs → lv_has ls 8 [(0, .ref (a 99)), (1, .int x1), (2, .int x2), (3, .int x3), (4, .int x4), (5, .int x5), (6, .int x6)] → W p l e ({ frames := 2, cells := 0, slots := 0, locals := 43 } : Room) s m args below meth c H locs 0 0 (MQ below (QI D cy (wM cy a r) A Rr) args s 0 0 A) (F0 m 133 ls []) := by
  intro H locs ls hW hl
  unfold fX8_ofApplied_133 at hf
  refine lv_iload C.1 C.2.1 dX8_ofApplied_133 (lv_at hl 5 rfl) ?_
  refine lv_if_lt (tgt := 181) C.1 C.2.1 dX8_ofApplied_135 (by decide) (fun q1 => ?_) (fun q1 => ?_)
  · replace hf := (if_pos q1).symm.trans hf
    exact lX8_ofApplied_181 C hr hlocks N _ hk55 _ _ _ _ _ _ _ hf _ _ _ hW (lv_sub hl [0, 1, 2, 3, 4, 5, 6] rfl)
  · replace hf := (if_neg q1).symm.trans hf
    refine lv_iload C.1 C.2.1 dX8_ofApplied_138 (lv_at hl 6 rfl) ?_
    refine lv_if_lt (tgt := 181) C.1 C.2.1 dX8_ofApplied_140 (by decide) (fun q2 => ?_) (fun q2 => ?_)
    · replace hf := (if_pos q2).symm.trans hf
      exact lX8_ofApplied_181 C hr hlocks N _ hk55 _ _ _ _ _ _ _ hf _ _ _ hW (lv_sub hl [0, 1, 2, 3, 4, 5, 6] rfl)
    · replace hf := (if_neg q2).symm.trans hf
      refine lv_aload_n C.1 C.2.1 dX8_ofApplied_143 rfl (lv_at hl 0 rfl) ?_
      refine lv_iconst (v := 2) C.1 C.2.1 dX8_ofApplied_144 (by decide) ?_
      refine lv_iload_n C.1 C.2.1 dX8_ofApplied_145 rfl (lv_at hl 2 rfl) ?_
      obtain ⟨v3, S5, h4, hf⟩ := bd2_el hf
      refine mcVi (w := wM cy a r) (S := S) (As := [.int (2 : Int32), .int x2]) (rest := []) (q0 := 0) (ci := 8) C (cX8_node_met l D cy a r _ N S (2 : Int32) x2 (v3, S5) h4) (cwV 2 C.2.2.2.2.1 gX8_ofApplied_X8_node rfl rfl rfl (by decide +kernel) ⟨Nat.le_of_ble_eq_true rfl, Nat.le_of_ble_eq_true rfl⟩) rfl rfl rfl hl.1 (Nat.le_of_ble_eq_true rfl) hW dX8_ofApplied_146 ⟨Nat.zero_le _, Nat.zero_le _⟩ rfl (fun H locs hW => ?_)
      refine lv_istore (lv' := [(7, .int v3), (0, .ref (a 99)), (1, .int x1), (2, .int x2), (3, .int x3), (4, .int x4), (5, .int x5), (6, .int x6)]) C.1 C.2.1 dX8_ofApplied_149 hl (by decide) rfl (fun ls hl => ?_)
      refine lv_aload_n C.1 C.2.1 dX8_ofApplied_151 rfl (lv_at hl 1 rfl) ?_
      refine lv_iconst (v := 3) C.1 C.2.1 dX8_ofApplied_152 (by decide) ?_
      refine lv_iload C.1 C.2.1 dX8_ofApplied_153 (lv_at hl 0 rfl) ?_
      refine lv_imul C.1 C.2.1 dX8_ofApplied_155 ?_
      refine lv_iconst (v := 1) C.1 C.2.1 dX8_ofApplied_156 (by decide) ?_
      refine lv_iadd C.1 C.2.1 dX8_ofApplied_157 ?_
      refine lv_iload C.1 C.2.1 dX8_ofApplied_158 (lv_at hl 6 rfl) ?_
      obtain ⟨S8, h7, hf⟩ := bdo_el hf
      refine mcVv (w := wM cy a r) (S := S5) (As := [.int ((((3 : Int32) * v3) + (1 : Int32))), .int x5]) (rest := []) (q0 := 0) (ci := 8) C (cX8_wire_met l D cy a r _ N S5 ((((3 : Int32) * v3) + (1 : Int32))) x5 S8 h7) (cwV 2 C.2.2.2.2.1 gX8_ofApplied_X8_wire rfl rfl rfl (by decide +kernel) ⟨Nat.le_of_ble_eq_true rfl, Nat.le_of_ble_eq_true rfl⟩) rfl rfl rfl hl.1 (Nat.le_of_ble_eq_true rfl) hW dX8_ofApplied_160 ⟨Nat.zero_le _, Nat.zero_le _⟩ rfl (fun H locs hW => ?_)
      refine lv_aload_n C.1 C.2.1 dX8_ofApplied_163 rfl (lv_at hl 1 rfl) ?_
      refine lv_iconst (v := 3) C.1 C.2.1 dX8_ofApplied_164 (by decide) ?_
      refine lv_iload C.1 C.2.1 dX8_ofApplied_165 (lv_at hl 0 rfl) ?_
      refine lv_imul C.1 C.2.1 dX8_ofApplied_167 ?_
      refine lv_iconst (v := 2) C.1 C.2.1 dX8_ofApplied_168 (by decide) ?_
      refine lv_iadd C.1 C.2.1 dX8_ofApplied_169 ?_
      refine lv_iload C.1 C.2.1 dX8_ofApplied_170 (lv_at hl 7 rfl) ?_
      obtain ⟨S11, h10, hf⟩ := bdo_el hf
      refine mcVv (w := wM cy a r) (S := S8) (As := [.int ((((3 : Int32) * v3) + (2 : Int32))), .int x6]) (rest := []) (q0 := 0) (ci := 8) C (cX8_wire_met l D cy a r _ N S8 ((((3 : Int32) * v3) + (2 : Int32))) x6 S11 h10) (cwV 2 C.2.2.2.2.1 gX8_ofApplied_X8_wire rfl rfl rfl (by decide +kernel) ⟨Nat.le_of_ble_eq_true rfl, Nat.le_of_ble_eq_true rfl⟩) rfl rfl rfl hl.1 (Nat.le_of_ble_eq_true rfl) hW dX8_ofApplied_172 ⟨Nat.zero_le _, Nat.zero_le _⟩ rfl (fun H locs hW => ?_)
      refine lv_iconst (v := 3) C.1 C.2.1 dX8_ofApplied_175 (by decide) ?_
      refine lv_iload C.1 C.2.1 dX8_ofApplied_176 (lv_at hl 0 rfl) ?_
      refine lv_imul C.1 C.2.1 dX8_ofApplied_178 ?_
      obtain ⟨z12, ez12, hf⟩ := bnd_el hf
      refine lv_as ez12 ?_
      refine lv_istore (lv' := [(5, .int z12), (7, .int v3), (0, .ref (a 99)), (1, .int x1), (2, .int x2), (3, .int x3), (4, .int x4), (6, .int x6)]) C.1 C.2.1 dX8_ofApplied_179 hl (by decide) rfl (fun ls hl => ?_)
      exact lX8_ofApplied_181 C hr hlocks N _ hk55 _ _ _ _ _ _ _ hf _ _ _ hW (lv_sub hl [2, 3, 4, 5, 6, 0, 7] rfl)
def fX8_ofApplied_55s (N : Nat) (k55 : St × Int32 × Int32 × Int32 × Int32 → Option (Int32 × St)) (S : St) (x1 : Int32) (x2 : Int32) (x3 : Int32) (x4 : Int32) : Option (Int32 × St) :=
  if S.1 14 ≤ x4 then
    some ((((3 : Int32) * x3) + (1 : Int32)), S)
  else
    ckx x1 300 <|
    ckx ((((80 : Int32) * S.2.1 4 (x1 : Int32).toNatClampNeg) + x4)) 24000 <|
    bnd (S.2.1 29 ((((80 : Int32) * S.2.1 4 (x1 : Int32).toNatClampNeg) + x4) : Int32).toNatClampNeg) fun z4 =>
    ckx x1 300 <|
    ckx ((((80 : Int32) * S.2.1 5 (x1 : Int32).toNatClampNeg) + x4)) 24000 <|
    bnd (S.2.1 29 ((((80 : Int32) * S.2.1 5 (x1 : Int32).toNatClampNeg) + x4) : Int32).toNatClampNeg) fun z7 =>
    if z7 < 0 then
      fX8_ofApplied_133 N k55 S x1 x2 x3 x4 z4 z7
    else
      bd2 (fX8_node N S (4 : Int32) x2) fun v9 S11 =>
      bdo (fX8_wire N S11 ((((3 : Int32) * v9) + (1 : Int32))) z7) fun S14 =>
      bnd (((3 : Int32) * v9)) fun z15 =>
      fX8_ofApplied_133 N k55 S14 x1 x2 x3 x4 z4 z15
def fX8_ofApplied_55 (N : Nat) : St × Int32 × Int32 × Int32 × Int32 → Option (Int32 × St) := loopN (fun k x => fX8_ofApplied_55s N k x.1 x.2.1 x.2.2.1 x.2.2.2.1 x.2.2.2.2) N
set_option maxHeartbeats 4000000 in
set_option maxRecDepth 100000 in
theorem lX8_ofApplied_55 {p : Program} {l : Launch} {e : Env} {s : State} {m : MethodId} {args : Array Value} {below : List Frame} {meth : Method} {c : Code} {D : va_G} {cy : Nat → ClassId} {a r : Nat → Nat} {A : Nat → Prop} {Rr : Int32 × St} (C : Cx p s m args c cX8_ofApplied 8 wsX8_ofApplied RX8 D cy) (hr : meth.sig.returnType = some .int) (hlocks : meth.locks = false) (N : Nat) : ∀ (n : Nat) (S : St) (x1 : Int32) (x2 : Int32) (x3 : Int32) (x4 : Int32), loopN (fun k x => fX8_ofApplied_55s N k x.1 x.2.1 x.2.2.1 x.2.2.2.1 x.2.2.2.2) n (S, x1, x2, x3, x4) = some Rr → ∀ (H : Heap) (locs : List Loc) (ls : Array Slot), WW D A s.heap (wM cy a r S) H locs → lv_has ls 8 [(0, .ref (a 99)), (1, .int x1), (2, .int x2), (3, .int x3), (4, .int x4)] → W p l e ({ frames := 2, cells := 0, slots := 0, locals := 43 } : Room) s m args below meth c H locs 0 0 (MQ below (QI D cy (wM cy a r) A Rr) args s 0 0 A) (F0 m 55 ls []) := by
  intro n
  induction n with
  | zero =>
    intro S x1 x2 x3 x4 hf
    cases hf
  | succ n ih =>
    intro S x1 x2 x3 x4 hf H locs ls hW hl
    have hf : fX8_ofApplied_55s N (loopN (fun k x => fX8_ofApplied_55s N k x.1 x.2.1 x.2.2.1 x.2.2.2.1 x.2.2.2.2) n) S x1 x2 x3 x4 = some Rr := hf
    unfold fX8_ofApplied_55s at hf
    refine lv_iload C.1 C.2.1 dX8_ofApplied_55 (lv_at hl 4 rfl) ?_
    refine lv_aload_n C.1 C.2.1 dX8_ofApplied_57 rfl (lv_at hl 0 rfl) ?_
    refine fg_8_14 C kX8_ofApplied_8 mX8_ofApplied_62 hW dX8_ofApplied_58 ?_
    refine lv_icmp_ge (tgt := 211) C.1 C.2.1 dX8_ofApplied_61 (by decide) (fun q1 => ?_) (fun q1 => ?_)
    · replace hf := (if_pos q1).symm.trans hf
      refine lv_iconst (v := 3) C.1 C.2.1 dX8_ofApplied_211 (by decide) ?_
      refine lv_iload_n C.1 C.2.1 dX8_ofApplied_212 rfl (lv_at hl 3 rfl) ?_
      refine lv_imul C.1 C.2.1 dX8_ofApplied_213 ?_
      refine lv_iconst (v := 1) C.1 C.2.1 dX8_ofApplied_214 (by decide) ?_
      refine lv_iadd C.1 C.2.1 dX8_ofApplied_215 ?_
      exact mrI C hr hlocks rfl hf hW dX8_ofApplied_216
    · replace hf := (if_neg q1).symm.trans hf
      refine lv_aload_n C.1 C.2.1 dX8_ofApplied_64 rfl (lv_at hl 0 rfl) ?_
      refine fg_8_29 C kX8_ofApplied_8 mX8_ofApplied_138 hW dX8_ofApplied_65 ?_
      refine lv_bipush (v := 80) C.1 C.2.1 dX8_ofApplied_68 (by decide) ?_
      refine lv_aload_n C.1 C.2.1 dX8_ofApplied_70 rfl (lv_at hl 0 rfl) ?_
      refine fg_8_4 C kX8_ofApplied_8 mX8_ofApplied_27 hW dX8_ofApplied_71 ?_
      refine lv_iload_n C.1 C.2.1 dX8_ofApplied_74 rfl (lv_at hl 1 rfl) ?_
      obtain ⟨h2, hf⟩ := ckx_el hf
      refine al_8_4 C hW h2 dX8_ofApplied_75 ?_
      refine lv_imul C.1 C.2.1 dX8_ofApplied_76 ?_
      refine lv_iload C.1 C.2.1 dX8_ofApplied_77 (lv_at hl 4 rfl) ?_
      refine lv_iadd C.1 C.2.1 dX8_ofApplied_79 ?_
      obtain ⟨h3, hf⟩ := ckx_el hf
      refine al_8_29 C hW h3 dX8_ofApplied_80 ?_
      obtain ⟨z4, ez4, hf⟩ := bnd_el hf
      refine lv_as ez4 ?_
      refine lv_istore (lv' := [(5, .int z4), (0, .ref (a 99)), (1, .int x1), (2, .int x2), (3, .int x3), (4, .int x4)]) C.1 C.2.1 dX8_ofApplied_81 hl (by decide) rfl (fun ls hl => ?_)
      refine lv_aload_n C.1 C.2.1 dX8_ofApplied_83 rfl (lv_at hl 1 rfl) ?_
      refine fg_8_29 C kX8_ofApplied_8 mX8_ofApplied_138 hW dX8_ofApplied_84 ?_
      refine lv_bipush (v := 80) C.1 C.2.1 dX8_ofApplied_87 (by decide) ?_
      refine lv_aload_n C.1 C.2.1 dX8_ofApplied_89 rfl (lv_at hl 1 rfl) ?_
      refine fg_8_5 C kX8_ofApplied_8 mX8_ofApplied_30 hW dX8_ofApplied_90 ?_
      refine lv_iload_n C.1 C.2.1 dX8_ofApplied_93 rfl (lv_at hl 2 rfl) ?_
      obtain ⟨h5, hf⟩ := ckx_el hf
      refine al_8_5 C hW h5 dX8_ofApplied_94 ?_
      refine lv_imul C.1 C.2.1 dX8_ofApplied_95 ?_
      refine lv_iload C.1 C.2.1 dX8_ofApplied_96 (lv_at hl 5 rfl) ?_
      refine lv_iadd C.1 C.2.1 dX8_ofApplied_98 ?_
      obtain ⟨h6, hf⟩ := ckx_el hf
      refine al_8_29 C hW h6 dX8_ofApplied_99 ?_
      obtain ⟨z7, ez7, hf⟩ := bnd_el hf
      refine lv_as ez7 ?_
      refine lv_istore (lv' := [(6, .int z7), (5, .int z4), (0, .ref (a 99)), (1, .int x1), (2, .int x2), (3, .int x3), (4, .int x4)]) C.1 C.2.1 dX8_ofApplied_100 hl (by decide) rfl (fun ls hl => ?_)
      refine lv_iload C.1 C.2.1 dX8_ofApplied_102 (lv_at hl 0 rfl) ?_
      refine lv_if_lt (tgt := 133) C.1 C.2.1 dX8_ofApplied_104 (by decide) (fun q8 => ?_) (fun q8 => ?_)
      · replace hf := (if_pos q8).symm.trans hf
        exact lX8_ofApplied_133 C hr hlocks N _ ih _ _ _ _ _ _ _ hf _ _ _ hW (lv_sub hl [2, 3, 4, 5, 6, 1, 0] rfl)
      · replace hf := (if_neg q8).symm.trans hf
        refine lv_aload_n C.1 C.2.1 dX8_ofApplied_107 rfl (lv_at hl 2 rfl) ?_
        refine lv_iconst (v := 4) C.1 C.2.1 dX8_ofApplied_108 (by decide) ?_
        refine lv_iload_n C.1 C.2.1 dX8_ofApplied_109 rfl (lv_at hl 4 rfl) ?_
        obtain ⟨v9, S11, h10, hf⟩ := bd2_el hf
        refine mcVi (w := wM cy a r) (S := S) (As := [.int (4 : Int32), .int x2]) (rest := []) (q0 := 0) (ci := 8) C (cX8_node_met l D cy a r _ N S (4 : Int32) x2 (v9, S11) h10) (cwV 2 C.2.2.2.2.1 gX8_ofApplied_X8_node rfl rfl rfl (by decide +kernel) ⟨Nat.le_of_ble_eq_true rfl, Nat.le_of_ble_eq_true rfl⟩) rfl rfl rfl hl.1 (Nat.le_of_ble_eq_true rfl) hW dX8_ofApplied_110 ⟨Nat.zero_le _, Nat.zero_le _⟩ rfl (fun H locs hW => ?_)
        refine lv_istore (lv' := [(7, .int v9), (6, .int z7), (5, .int z4), (0, .ref (a 99)), (1, .int x1), (2, .int x2), (3, .int x3), (4, .int x4)]) C.1 C.2.1 dX8_ofApplied_113 hl (by decide) rfl (fun ls hl => ?_)
        refine lv_aload_n C.1 C.2.1 dX8_ofApplied_115 rfl (lv_at hl 3 rfl) ?_
        refine lv_iconst (v := 3) C.1 C.2.1 dX8_ofApplied_116 (by decide) ?_
        refine lv_iload C.1 C.2.1 dX8_ofApplied_117 (lv_at hl 0 rfl) ?_
        refine lv_imul C.1 C.2.1 dX8_ofApplied_119 ?_
        refine lv_iconst (v := 1) C.1 C.2.1 dX8_ofApplied_120 (by decide) ?_
        refine lv_iadd C.1 C.2.1 dX8_ofApplied_121 ?_
        refine lv_iload C.1 C.2.1 dX8_ofApplied_122 (lv_at hl 1 rfl) ?_
        obtain ⟨S14, h13, hf⟩ := bdo_el hf
        refine mcVv (w := wM cy a r) (S := S11) (As := [.int ((((3 : Int32) * v9) + (1 : Int32))), .int z7]) (rest := []) (q0 := 0) (ci := 8) C (cX8_wire_met l D cy a r _ N S11 ((((3 : Int32) * v9) + (1 : Int32))) z7 S14 h13) (cwV 2 C.2.2.2.2.1 gX8_ofApplied_X8_wire rfl rfl rfl (by decide +kernel) ⟨Nat.le_of_ble_eq_true rfl, Nat.le_of_ble_eq_true rfl⟩) rfl rfl rfl hl.1 (Nat.le_of_ble_eq_true rfl) hW dX8_ofApplied_124 ⟨Nat.zero_le _, Nat.zero_le _⟩ rfl (fun H locs hW => ?_)
        refine lv_iconst (v := 3) C.1 C.2.1 dX8_ofApplied_127 (by decide) ?_
        refine lv_iload C.1 C.2.1 dX8_ofApplied_128 (lv_at hl 0 rfl) ?_
        refine lv_imul C.1 C.2.1 dX8_ofApplied_130 ?_
        obtain ⟨z15, ez15, hf⟩ := bnd_el hf
        refine lv_as ez15 ?_
        refine lv_istore (lv' := [(6, .int z15), (7, .int v9), (5, .int z4), (0, .ref (a 99)), (1, .int x1), (2, .int x2), (3, .int x3), (4, .int x4)]) C.1 C.2.1 dX8_ofApplied_131 hl (by decide) rfl (fun ls hl => ?_)
        exact lX8_ofApplied_133 C hr hlocks N _ ih _ _ _ _ _ _ _ hf _ _ _ hW (lv_sub hl [3, 4, 5, 6, 7, 2, 0] rfl)
def fX8_ofApplied (N : Nat) (S : St) (p1 : Int32) : Option (Int32 × St) :=
  ckx p1 300 <|
  bnd (S.2.1 30 (p1 : Int32).toNatClampNeg) fun z2 =>
  bd2 (fX8_node N S (1 : Int32) z2) fun v3 S5 =>
  ckx p1 300 <|
  ckx (S5.2.1 4 (p1 : Int32).toNatClampNeg) 300 <|
  bdo (fX8_wire N S5 (((3 : Int32) * v3)) (S5.2.1 31 (S5.2.1 4 (p1 : Int32).toNatClampNeg : Int32).toNatClampNeg)) fun S10 =>
  ckx p1 300 <|
  ckx (S10.2.1 5 (p1 : Int32).toNatClampNeg) 300 <|
  bdo (fX8_wire N S10 ((((3 : Int32) * v3) + (2 : Int32))) (S10.2.1 31 (S10.2.1 5 (p1 : Int32).toNatClampNeg : Int32).toNatClampNeg)) fun S15 =>
  bnd (0 : Int32) fun z16 =>
  fX8_ofApplied_55 N (S15, p1, z2, v3, z16)
set_option maxHeartbeats 4000000 in
set_option maxRecDepth 100000 in
theorem cX8_ofApplied_met (l : Launch) (D : va_G) (cy : Nat → ClassId) (a r : Nat → Nat) (sz N : Nat) (S : St) (p1 : Int32) (Rr : Int32 × St) (hf : fX8_ofApplied N S p1 = some Rr) : Met l yX8_ofApplied wsX8_ofApplied ({ frames := 2, cells := 0, slots := 0, locals := 43 } : Room) (va_Pc [.ref (a 99), .int p1] (preW D cy (wM cy a r S) sz)) (QI D cy (wM cy a r) (va_A (wM cy a r S) sz) Rr) 0 0 (va_A (wM cy a r S) sz) := by
  refine Met.ofW (cc := cX8_ofApplied) (maxL := 8) (ret := (some .int)) (by decide) rfl ?_
  intro p e s m args below meth c s₁ B hml hv
  obtain ⟨rfl, rfl, hP, hK, hD0, hN⟩ := hv
  have hlocks := B.notSynchronized
  have hr := B.returns
  have C : Cx p s m _ c cX8_ofApplied 8 wsX8_ofApplied RX8 D cy := ⟨B.exec, B.bytes, hml, findClass_of_methodNamed B.named, atoms_spec (ws := wsX8_ofApplied) B.pre, hK, hN⟩
  have hW := ww_start (w := wM cy a r) hP hD0
  generalize va_A (wM cy a r S) s.heap.size = A at hW ⊢
  have hl := lv_entry ([.ref (a 99), .int p1]) (n := 8) (Nat.le_of_ble_eq_true rfl)
  rw [lg_entry_eq]
  generalize (lg_sl ([.ref (a 99), .int p1]) ++ List.replicate (8 - (lg_sl ([.ref (a 99), .int p1])).length) Slot.unset).toArray = ls at hl ⊢
  have hl : lv_has ls 8 [(0, .ref (a 99)), (1, .int p1)] := hl
  unfold fX8_ofApplied at hf
  refine lv_aload_n C.1 C.2.1 dX8_ofApplied_0 rfl (lv_at hl 0 rfl) ?_
  refine fg_8_30 C kX8_ofApplied_8 mX8_ofApplied_120 hW dX8_ofApplied_1 ?_
  refine lv_iload_n C.1 C.2.1 dX8_ofApplied_4 rfl (lv_at hl 1 rfl) ?_
  obtain ⟨h1, hf⟩ := ckx_el hf
  refine al_8_30 C hW h1 dX8_ofApplied_5 ?_
  obtain ⟨z2, ez2, hf⟩ := bnd_el hf
  refine lv_as ez2 ?_
  refine lv_istore_n (lv' := [(2, .int z2), (0, .ref (a 99)), (1, .int p1)]) C.1 C.2.1 dX8_ofApplied_6 rfl hl (by decide) rfl (fun ls hl => ?_)
  refine lv_aload_n C.1 C.2.1 dX8_ofApplied_7 rfl (lv_at hl 1 rfl) ?_
  refine lv_iconst (v := 1) C.1 C.2.1 dX8_ofApplied_8 (by decide) ?_
  refine lv_iload_n C.1 C.2.1 dX8_ofApplied_9 rfl (lv_at hl 0 rfl) ?_
  obtain ⟨v3, S5, h4, hf⟩ := bd2_el hf
  refine mcVi (w := wM cy a r) (S := S) (As := [.int (1 : Int32), .int z2]) (rest := []) (q0 := 0) (ci := 8) C (cX8_node_met l D cy a r _ N S (1 : Int32) z2 (v3, S5) h4) (cwV 2 C.2.2.2.2.1 gX8_ofApplied_X8_node rfl rfl rfl (by decide +kernel) ⟨Nat.le_of_ble_eq_true rfl, Nat.le_of_ble_eq_true rfl⟩) rfl rfl rfl hl.1 (Nat.le_of_ble_eq_true rfl) hW dX8_ofApplied_10 ⟨Nat.zero_le _, Nat.zero_le _⟩ rfl (fun H locs hW => ?_)
  refine lv_istore_n (lv' := [(3, .int v3), (2, .int z2), (0, .ref (a 99)), (1, .int p1)]) C.1 C.2.1 dX8_ofApplied_13 rfl hl (by decide) rfl (fun ls hl => ?_)
  refine lv_aload_n C.1 C.2.1 dX8_ofApplied_14 rfl (lv_at hl 2 rfl) ?_
  refine lv_iconst (v := 3) C.1 C.2.1 dX8_ofApplied_15 (by decide) ?_
  refine lv_iload_n C.1 C.2.1 dX8_ofApplied_16 rfl (lv_at hl 0 rfl) ?_
  refine lv_imul C.1 C.2.1 dX8_ofApplied_17 ?_
  refine lv_aload_n C.1 C.2.1 dX8_ofApplied_18 rfl (lv_at hl 2 rfl) ?_
  refine fg_8_31 C kX8_ofApplied_8 mX8_ofApplied_123 hW dX8_ofApplied_19 ?_
  refine lv_aload_n C.1 C.2.1 dX8_ofApplied_22 rfl (lv_at hl 2 rfl) ?_
  refine fg_8_4 C kX8_ofApplied_8 mX8_ofApplied_27 hW dX8_ofApplied_23 ?_
  refine lv_iload_n C.1 C.2.1 dX8_ofApplied_26 rfl (lv_at hl 3 rfl) ?_
  obtain ⟨h6, hf⟩ := ckx_el hf
  refine al_8_4 C hW h6 dX8_ofApplied_27 ?_
  obtain ⟨h7, hf⟩ := ckx_el hf
  refine al_8_31 C hW h7 dX8_ofApplied_28 ?_
  obtain ⟨S10, h9, hf⟩ := bdo_el hf
  refine mcVv (w := wM cy a r) (S := S5) (As := [.int (((3 : Int32) * v3)), .int (S5.2.1 31 (S5.2.1 4 (p1 : Int32).toNatClampNeg : Int32).toNatClampNeg)]) (rest := []) (q0 := 0) (ci := 8) C (cX8_wire_met l D cy a r _ N S5 (((3 : Int32) * v3)) (S5.2.1 31 (S5.2.1 4 (p1 : Int32).toNatClampNeg : Int32).toNatClampNeg) S10 h9) (cwV 2 C.2.2.2.2.1 gX8_ofApplied_X8_wire rfl rfl rfl (by decide +kernel) ⟨Nat.le_of_ble_eq_true rfl, Nat.le_of_ble_eq_true rfl⟩) rfl rfl rfl hl.1 (Nat.le_of_ble_eq_true rfl) hW dX8_ofApplied_29 ⟨Nat.zero_le _, Nat.zero_le _⟩ rfl (fun H locs hW => ?_)
  refine lv_aload_n C.1 C.2.1 dX8_ofApplied_32 rfl (lv_at hl 2 rfl) ?_
  refine lv_iconst (v := 3) C.1 C.2.1 dX8_ofApplied_33 (by decide) ?_
  refine lv_iload_n C.1 C.2.1 dX8_ofApplied_34 rfl (lv_at hl 0 rfl) ?_
  refine lv_imul C.1 C.2.1 dX8_ofApplied_35 ?_
  refine lv_iconst (v := 2) C.1 C.2.1 dX8_ofApplied_36 (by decide) ?_
  refine lv_iadd C.1 C.2.1 dX8_ofApplied_37 ?_
  refine lv_aload_n C.1 C.2.1 dX8_ofApplied_38 rfl (lv_at hl 2 rfl) ?_
  refine fg_8_31 C kX8_ofApplied_8 mX8_ofApplied_123 hW dX8_ofApplied_39 ?_
  refine lv_aload_n C.1 C.2.1 dX8_ofApplied_42 rfl (lv_at hl 2 rfl) ?_
  refine fg_8_5 C kX8_ofApplied_8 mX8_ofApplied_30 hW dX8_ofApplied_43 ?_
  refine lv_iload_n C.1 C.2.1 dX8_ofApplied_46 rfl (lv_at hl 3 rfl) ?_
  obtain ⟨h11, hf⟩ := ckx_el hf
  refine al_8_5 C hW h11 dX8_ofApplied_47 ?_
  obtain ⟨h12, hf⟩ := ckx_el hf
  refine al_8_31 C hW h12 dX8_ofApplied_48 ?_
  obtain ⟨S15, h14, hf⟩ := bdo_el hf
  refine mcVv (w := wM cy a r) (S := S10) (As := [.int ((((3 : Int32) * v3) + (2 : Int32))), .int (S10.2.1 31 (S10.2.1 5 (p1 : Int32).toNatClampNeg : Int32).toNatClampNeg)]) (rest := []) (q0 := 0) (ci := 8) C (cX8_wire_met l D cy a r _ N S10 ((((3 : Int32) * v3) + (2 : Int32))) (S10.2.1 31 (S10.2.1 5 (p1 : Int32).toNatClampNeg : Int32).toNatClampNeg) S15 h14) (cwV 2 C.2.2.2.2.1 gX8_ofApplied_X8_wire rfl rfl rfl (by decide +kernel) ⟨Nat.le_of_ble_eq_true rfl, Nat.le_of_ble_eq_true rfl⟩) rfl rfl rfl hl.1 (Nat.le_of_ble_eq_true rfl) hW dX8_ofApplied_49 ⟨Nat.zero_le _, Nat.zero_le _⟩ rfl (fun H locs hW => ?_)
  refine lv_iconst (v := 0) C.1 C.2.1 dX8_ofApplied_52 (by decide) ?_
  obtain ⟨z16, ez16, hf⟩ := bnd_el hf
  refine lv_as ez16 ?_
  refine lv_istore (lv' := [(4, .int z16), (3, .int v3), (2, .int z2), (0, .ref (a 99)), (1, .int p1)]) C.1 C.2.1 dX8_ofApplied_53 hl (by decide) rfl (fun ls hl => ?_)
  exact lX8_ofApplied_55 C hr hlocks N _ _ _ _ _ _ hf _ _ _ hW (lv_sub hl [3, 4, 2, 1, 0] rfl)
theorem mX8_build_123 : Cond.fieldLink RX8 123 "SharedLambdaModel" "rootOf" "[I" ∈ wsX8_build := by decide +kernel
theorem mX8_build_20 : Cond.fieldLink RX8 20 "SharedLambdaModel" "sort" "[I" ∈ wsX8_build := by decide +kernel
theorem mX8_build_120 : Cond.fieldLink RX8 120 "SharedLambdaModel" "indexOf" "[I" ∈ wsX8_build := by decide +kernel
theorem mX8_build_30 : Cond.fieldLink RX8 30 "SharedLambdaModel" "second" "[I" ∈ wsX8_build := by decide +kernel
theorem mX8_build_27 : Cond.fieldLink RX8 27 "SharedLambdaModel" "first" "[I" ∈ wsX8_build := by decide +kernel
theorem kX8_build_8 : ∀ w ∈ u_ws RX8 TX8 58, w ∈ wsX8_build := fun _ h => List.mem_cons_of_mem _ (List.mem_append_right _ h)
def fX8_build_147 (N : Nat) (k97 : St × Int32 × Int32 → Option (Int32 × St)) (S : St) (x1 : Int32) (x2 : Int32) (y1 : Int32) (y2 : Int32) : Option (Int32 × St) :=
  ckx y1 300 <|
  bnd (sA S 31 (upd (S.2.1 31) (y1 : Int32).toNatClampNeg y2)) fun S2 =>
  bnd (x2 + (1 : Int32)) fun z3 =>
  k97 (S2, x1, z3)
set_option maxHeartbeats 4000000 in
set_option maxRecDepth 100000 in
theorem lX8_build_147 {p : Program} {l : Launch} {e : Env} {s : State} {m : MethodId} {args : Array Value} {below : List Frame} {meth : Method} {c : Code} {D : va_G} {cy : Nat → ClassId} {a r : Nat → Nat} {A : Nat → Prop} {Rr : Int32 × St} (C : Cx p s m args c cX8_build 3 wsX8_build RX8 D cy) (hr : meth.sig.returnType = some .int) (hlocks : meth.locks = false) (N : Nat) (k97 : St × Int32 × Int32 → Option (Int32 × St)) (hk97 : ∀ (S : St) (x1 : Int32) (x2 : Int32), k97 (S, x1, x2) = some Rr → ∀ (H : Heap) (locs : List Loc) (ls : Array Slot), WW D A s.heap (wM cy a r S) H locs → lv_has ls 3 [(0, .ref (a 99)), (1, .int x1), (2, .int x2)] → W p l e ({ frames := 3, cells := 0, slots := 0, locals := 70 } : Room) s m args below meth c H locs 0 0 (MQ below (QI D cy (wM cy a r) A Rr) args s 0 0 A) (F0 m 97 ls [])) (S : St) (x1 : Int32) (x2 : Int32) (y1 : Int32) (y2 : Int32) (hf : fX8_build_147 N k97 S x1 x2 y1 y2 = some Rr) : ∀ (H : Heap) (locs : List Loc) (ls : Array Slot), WW D A s.heap (wM cy a r S) H locs → lv_has ls 3 [(0, .ref (a 99)), (1, .int x1), (2, .int x2)] → W p l e ({ frames := 3, cells := 0, slots := 0, locals := 70 } : Room) s m args below meth c H locs 0 0 (MQ below (QI D cy (wM cy a r) A Rr) args s 0 0 A) (F0 m 147 ls [.int y2, .int y1, .ref (a 31)]) := by
  intro H locs ls hW hl
  unfold fX8_build_147 at hf
  obtain ⟨h1, hf⟩ := ckx_el hf
  obtain ⟨S2, eS2, hf⟩ := bnd_el hf
  refine as_8_31 C hW h1 dX8_build_147 eS2 (fun H locs hW => ?_)
  obtain ⟨z3, ez3, hf⟩ := bnd_el hf
  refine lv_iinc (v := z3) (lv' := [(2, .int z3), (0, .ref (a 99)), (1, .int x1)]) C.1 C.2.1 dX8_build_148 hl (k := 2) rfl (by rw [ez3]; rfl) (by decide) rfl (fun ls hl => ?_)
  refine lv_goto (tgt := 97) C.1 C.2.1 dX8_build_151 (by decide) ?_
  exact hk97 _ _ _ hf _ _ _ hW (lv_sub hl [1, 2, 0] rfl)
def fX8_build_97s (N : Nat) (k97 : St × Int32 × Int32 → Option (Int32 × St)) (S : St) (x1 : Int32) (x2 : Int32) : Option (Int32 × St) :=
  if x1 < x2 then
    ckx x1 300 <|
    some (S.2.1 31 (x1 : Int32).toNatClampNeg, S)
  else
    ckx x2 300 <|
    if S.2.1 3 (x2 : Int32).toNatClampNeg = 0 then
      bd2 (fX8_ofVariable N S x2) fun v13 S15 =>
      fX8_build_147 N k97 S15 x1 x2 x2 v13
    else
      ckx x2 300 <|
      if S.2.1 3 (x2 : Int32).toNatClampNeg = (1 : Int32) then
        bd2 (fX8_ofBinder N S x2) fun v10 S12 =>
        fX8_build_147 N k97 S12 x1 x2 x2 v10
      else
        bd2 (fX8_ofApplied N S x2) fun v7 S9 =>
        fX8_build_147 N k97 S9 x1 x2 x2 v7
def fX8_build_97 (N : Nat) : St × Int32 × Int32 → Option (Int32 × St) := loopN (fun k x => fX8_build_97s N k x.1 x.2.1 x.2.2) N
set_option maxHeartbeats 4000000 in
set_option maxRecDepth 100000 in
theorem lX8_build_97 {p : Program} {l : Launch} {e : Env} {s : State} {m : MethodId} {args : Array Value} {below : List Frame} {meth : Method} {c : Code} {D : va_G} {cy : Nat → ClassId} {a r : Nat → Nat} {A : Nat → Prop} {Rr : Int32 × St} (C : Cx p s m args c cX8_build 3 wsX8_build RX8 D cy) (hr : meth.sig.returnType = some .int) (hlocks : meth.locks = false) (N : Nat) : ∀ (n : Nat) (S : St) (x1 : Int32) (x2 : Int32), loopN (fun k x => fX8_build_97s N k x.1 x.2.1 x.2.2) n (S, x1, x2) = some Rr → ∀ (H : Heap) (locs : List Loc) (ls : Array Slot), WW D A s.heap (wM cy a r S) H locs → lv_has ls 3 [(0, .ref (a 99)), (1, .int x1), (2, .int x2)] → W p l e ({ frames := 3, cells := 0, slots := 0, locals := 70 } : Room) s m args below meth c H locs 0 0 (MQ below (QI D cy (wM cy a r) A Rr) args s 0 0 A) (F0 m 97 ls []) := by
  intro n
  induction n with
  | zero =>
    intro S x1 x2 hf
    cases hf
  | succ n ih =>
    intro S x1 x2 hf H locs ls hW hl
    have hf : fX8_build_97s N (loopN (fun k x => fX8_build_97s N k x.1 x.2.1 x.2.2) n) S x1 x2 = some Rr := hf
    unfold fX8_build_97s at hf
    refine lv_iload_n C.1 C.2.1 dX8_build_97 rfl (lv_at hl 2 rfl) ?_
    refine lv_iload_n C.1 C.2.1 dX8_build_98 rfl (lv_at hl 1 rfl) ?_
    refine lv_icmp_gt (tgt := 154) C.1 C.2.1 dX8_build_99 (by decide) (fun q1 => ?_) (fun q1 => ?_)
    · replace hf := (if_pos q1).symm.trans hf
      refine lv_aload_n C.1 C.2.1 dX8_build_154 rfl (lv_at hl 0 rfl) ?_
      refine fg_8_31 C kX8_build_8 mX8_build_123 hW dX8_build_155 ?_
      refine lv_iload_n C.1 C.2.1 dX8_build_158 rfl (lv_at hl 1 rfl) ?_
      obtain ⟨h2, hf⟩ := ckx_el hf
      refine al_8_31 C hW h2 dX8_build_159 ?_
      exact mrI C hr hlocks rfl hf hW dX8_build_160
    · replace hf := (if_neg q1).symm.trans hf
      refine lv_aload_n C.1 C.2.1 dX8_build_102 rfl (lv_at hl 0 rfl) ?_
      refine fg_8_31 C kX8_build_8 mX8_build_123 hW dX8_build_103 ?_
      refine lv_iload_n C.1 C.2.1 dX8_build_106 rfl (lv_at hl 2 rfl) ?_
      refine lv_aload_n C.1 C.2.1 dX8_build_107 rfl (lv_at hl 0 rfl) ?_
      refine fg_8_3 C kX8_build_8 mX8_build_20 hW dX8_build_108 ?_
      refine lv_iload_n C.1 C.2.1 dX8_build_111 rfl (lv_at hl 2 rfl) ?_
      obtain ⟨h3, hf⟩ := ckx_el hf
      refine al_8_3 C hW h3 dX8_build_112 ?_
      refine lv_if_ne (tgt := 124) C.1 C.2.1 dX8_build_113 (by decide) (fun q4 => ?_) (fun q4 => ?_)
      · replace hf := (if_neg q4).symm.trans hf
        refine lv_aload_n C.1 C.2.1 dX8_build_124 rfl (lv_at hl 0 rfl) ?_
        refine fg_8_3 C kX8_build_8 mX8_build_20 hW dX8_build_125 ?_
        refine lv_iload_n C.1 C.2.1 dX8_build_128 rfl (lv_at hl 2 rfl) ?_
        obtain ⟨h5, hf⟩ := ckx_el hf
        refine al_8_3 C hW h5 dX8_build_129 ?_
        refine lv_iconst (v := 1) C.1 C.2.1 dX8_build_130 (by decide) ?_
        refine lv_icmp_ne (tgt := 142) C.1 C.2.1 dX8_build_131 (by decide) (fun q6 => ?_) (fun q6 => ?_)
        · replace hf := (if_neg q6).symm.trans hf
          refine lv_aload_n C.1 C.2.1 dX8_build_142 rfl (lv_at hl 0 rfl) ?_
          refine lv_iload_n C.1 C.2.1 dX8_build_143 rfl (lv_at hl 2 rfl) ?_
          obtain ⟨v7, S9, h8, hf⟩ := bd2_el hf
          refine mcVi (w := wM cy a r) (S := S) (As := [.int x2]) (rest := [.int x2, .ref (a 31)]) (q0 := 0) (ci := 8) C (cX8_ofApplied_met l D cy a r _ N S x2 (v7, S9) h8) (cwV 1 C.2.2.2.2.1 gX8_build_X8_ofApplied rfl rfl rfl (by decide +kernel) ⟨Nat.le_of_ble_eq_true rfl, Nat.le_of_ble_eq_true rfl⟩) rfl rfl rfl hl.1 (Nat.le_of_ble_eq_true rfl) hW dX8_build_144 ⟨Nat.zero_le _, Nat.zero_le _⟩ rfl (fun H locs hW => ?_)
          exact lX8_build_147 C hr hlocks N _ ih _ _ _ _ _ hf _ _ _ hW (lv_sub hl [0, 1, 2] rfl)
        · replace hf := (if_pos q6).symm.trans hf
          refine lv_aload_n C.1 C.2.1 dX8_build_134 rfl (lv_at hl 0 rfl) ?_
          refine lv_iload_n C.1 C.2.1 dX8_build_135 rfl (lv_at hl 2 rfl) ?_
          obtain ⟨v10, S12, h11, hf⟩ := bd2_el hf
          refine mcVi (w := wM cy a r) (S := S) (As := [.int x2]) (rest := [.int x2, .ref (a 31)]) (q0 := 0) (ci := 8) C (cX8_ofBinder_met l D cy a r _ N S x2 (v10, S12) h11) (cwV 1 C.2.2.2.2.1 gX8_build_X8_ofBinder rfl rfl rfl (by decide +kernel) ⟨Nat.le_of_ble_eq_true rfl, Nat.le_of_ble_eq_true rfl⟩) rfl rfl rfl hl.1 (Nat.le_of_ble_eq_true rfl) hW dX8_build_136 ⟨Nat.zero_le _, Nat.zero_le _⟩ rfl (fun H locs hW => ?_)
          refine lv_goto (tgt := 147) C.1 C.2.1 dX8_build_139 (by decide) ?_
          exact lX8_build_147 C hr hlocks N _ ih _ _ _ _ _ hf _ _ _ hW (lv_sub hl [0, 1, 2] rfl)
      · replace hf := (if_pos q4).symm.trans hf
        refine lv_aload_n C.1 C.2.1 dX8_build_116 rfl (lv_at hl 0 rfl) ?_
        refine lv_iload_n C.1 C.2.1 dX8_build_117 rfl (lv_at hl 2 rfl) ?_
        obtain ⟨v13, S15, h14, hf⟩ := bd2_el hf
        refine mcVi (w := wM cy a r) (S := S) (As := [.int x2]) (rest := [.int x2, .ref (a 31)]) (q0 := 0) (ci := 8) C (cX8_ofVariable_met l D cy a r _ N S x2 (v13, S15) h14) (cwV 1 C.2.2.2.2.1 gX8_build_X8_ofVariable rfl rfl rfl (by decide +kernel) ⟨Nat.le_of_ble_eq_true rfl, Nat.le_of_ble_eq_true rfl⟩) rfl rfl rfl hl.1 (Nat.le_of_ble_eq_true rfl) hW dX8_build_118 ⟨Nat.zero_le _, Nat.zero_le _⟩ rfl (fun H locs hW => ?_)
        refine lv_goto (tgt := 147) C.1 C.2.1 dX8_build_121 (by decide) ?_
        exact lX8_build_147 C hr hlocks N _ ih _ _ _ _ _ hf _ _ _ hW (lv_sub hl [0, 1, 2] rfl)
def fX8_build_89 (N : Nat) (k9 : St × Int32 × Int32 → Option (Int32 × St)) (S : St) (x1 : Int32) (x2 : Int32) : Option (Int32 × St) :=
  bnd (x2 + (-1 : Int32)) fun z1 =>
  k9 (S, x1, z1)
set_option maxHeartbeats 4000000 in
set_option maxRecDepth 100000 in
theorem lX8_build_89 {p : Program} {l : Launch} {e : Env} {s : State} {m : MethodId} {args : Array Value} {below : List Frame} {meth : Method} {c : Code} {D : va_G} {cy : Nat → ClassId} {a r : Nat → Nat} {A : Nat → Prop} {Rr : Int32 × St} (C : Cx p s m args c cX8_build 3 wsX8_build RX8 D cy) (hr : meth.sig.returnType = some .int) (hlocks : meth.locks = false) (N : Nat) (k9 : St × Int32 × Int32 → Option (Int32 × St)) (hk9 : ∀ (S : St) (x1 : Int32) (x2 : Int32), k9 (S, x1, x2) = some Rr → ∀ (H : Heap) (locs : List Loc) (ls : Array Slot), WW D A s.heap (wM cy a r S) H locs → lv_has ls 3 [(0, .ref (a 99)), (1, .int x1), (2, .int x2)] → W p l e ({ frames := 3, cells := 0, slots := 0, locals := 70 } : Room) s m args below meth c H locs 0 0 (MQ below (QI D cy (wM cy a r) A Rr) args s 0 0 A) (F0 m 9 ls [])) (S : St) (x1 : Int32) (x2 : Int32) (hf : fX8_build_89 N k9 S x1 x2 = some Rr) : ∀ (H : Heap) (locs : List Loc) (ls : Array Slot), WW D A s.heap (wM cy a r S) H locs → lv_has ls 3 [(0, .ref (a 99)), (1, .int x1), (2, .int x2)] → W p l e ({ frames := 3, cells := 0, slots := 0, locals := 70 } : Room) s m args below meth c H locs 0 0 (MQ below (QI D cy (wM cy a r) A Rr) args s 0 0 A) (F0 m 89 ls []) := by
  intro H locs ls hW hl
  unfold fX8_build_89 at hf
  obtain ⟨z1, ez1, hf⟩ := bnd_el hf
  refine lv_iinc (v := z1) (lv' := [(2, .int z1), (0, .ref (a 99)), (1, .int x1)]) C.1 C.2.1 dX8_build_89 hl (k := 2) rfl (by rw [ez1]; rfl) (by decide) rfl (fun ls hl => ?_)
  refine lv_goto (tgt := 9) C.1 C.2.1 dX8_build_92 (by decide) ?_
  exact hk9 _ _ _ hf _ _ _ hW (lv_sub hl [1, 2, 0] rfl)
def fX8_build_9s (N : Nat) (k9 : St × Int32 × Int32 → Option (Int32 × St)) (S : St) (x1 : Int32) (x2 : Int32) : Option (Int32 × St) :=
  if x2 < 0 then
    bnd (0 : Int32) fun z2 =>
    fX8_build_97 N (S, x1, z2)
  else
    ckx x2 300 <|
    if S.2.1 3 (x2 : Int32).toNatClampNeg = (2 : Int32) then
      ckx x2 300 <|
      ckx x2 300 <|
      ckx (S.2.1 4 (x2 : Int32).toNatClampNeg) 300 <|
      bnd (sA S 30 (upd (S.2.1 30) (S.2.1 4 (x2 : Int32).toNatClampNeg : Int32).toNatClampNeg (S.2.1 30 (x2 : Int32).toNatClampNeg))) fun S14 =>
      ckx x2 300 <|
      ckx x2 300 <|
      ckx (S14.2.1 5 (x2 : Int32).toNatClampNeg) 300 <|
      bnd (sA S14 30 (upd (S14.2.1 30) (S14.2.1 5 (x2 : Int32).toNatClampNeg : Int32).toNatClampNeg ((S14.2.1 30 (x2 : Int32).toNatClampNeg + (1 : Int32))))) fun S18 =>
      fX8_build_89 N k9 S18 x1 x2
    else
      ckx x2 300 <|
      if S.2.1 3 (x2 : Int32).toNatClampNeg = (1 : Int32) then
        ckx x2 300 <|
        ckx x2 300 <|
        ckx (S.2.1 5 (x2 : Int32).toNatClampNeg) 300 <|
        bnd (sA S 30 (upd (S.2.1 30) (S.2.1 5 (x2 : Int32).toNatClampNeg : Int32).toNatClampNeg (S.2.1 30 (x2 : Int32).toNatClampNeg))) fun S10 =>
        fX8_build_89 N k9 S10 x1 x2
      else
        fX8_build_89 N k9 S x1 x2
def fX8_build_9 (N : Nat) : St × Int32 × Int32 → Option (Int32 × St) := loopN (fun k x => fX8_build_9s N k x.1 x.2.1 x.2.2) N
set_option maxHeartbeats 4000000 in
set_option maxRecDepth 100000 in
theorem lX8_build_9 {p : Program} {l : Launch} {e : Env} {s : State} {m : MethodId} {args : Array Value} {below : List Frame} {meth : Method} {c : Code} {D : va_G} {cy : Nat → ClassId} {a r : Nat → Nat} {A : Nat → Prop} {Rr : Int32 × St} (C : Cx p s m args c cX8_build 3 wsX8_build RX8 D cy) (hr : meth.sig.returnType = some .int) (hlocks : meth.locks = false) (N : Nat) : ∀ (n : Nat) (S : St) (x1 : Int32) (x2 : Int32), loopN (fun k x => fX8_build_9s N k x.1 x.2.1 x.2.2) n (S, x1, x2) = some Rr → ∀ (H : Heap) (locs : List Loc) (ls : Array Slot), WW D A s.heap (wM cy a r S) H locs → lv_has ls 3 [(0, .ref (a 99)), (1, .int x1), (2, .int x2)] → W p l e ({ frames := 3, cells := 0, slots := 0, locals := 70 } : Room) s m args below meth c H locs 0 0 (MQ below (QI D cy (wM cy a r) A Rr) args s 0 0 A) (F0 m 9 ls []) := by
  intro n
  induction n with
  | zero =>
    intro S x1 x2 hf
    cases hf
  | succ n ih =>
    intro S x1 x2 hf H locs ls hW hl
    have hf : fX8_build_9s N (loopN (fun k x => fX8_build_9s N k x.1 x.2.1 x.2.2) n) S x1 x2 = some Rr := hf
    unfold fX8_build_9s at hf
    refine lv_iload_n C.1 C.2.1 dX8_build_9 rfl (lv_at hl 2 rfl) ?_
    refine lv_if_lt (tgt := 95) C.1 C.2.1 dX8_build_10 (by decide) (fun q1 => ?_) (fun q1 => ?_)
    · replace hf := (if_pos q1).symm.trans hf
      refine lv_iconst (v := 0) C.1 C.2.1 dX8_build_95 (by decide) ?_
      obtain ⟨z2, ez2, hf⟩ := bnd_el hf
      refine lv_as ez2 ?_
      refine lv_istore_n (lv' := [(2, .int z2), (0, .ref (a 99)), (1, .int x1)]) C.1 C.2.1 dX8_build_96 rfl hl (by decide) rfl (fun ls hl => ?_)
      exact lX8_build_97 C hr hlocks N _ _ _ _ hf _ _ _ hW (lv_sub hl [1, 2, 0] rfl)
    · replace hf := (if_neg q1).symm.trans hf
      refine lv_aload_n C.1 C.2.1 dX8_build_13 rfl (lv_at hl 0 rfl) ?_
      refine fg_8_3 C kX8_build_8 mX8_build_20 hW dX8_build_14 ?_
      refine lv_iload_n C.1 C.2.1 dX8_build_17 rfl (lv_at hl 2 rfl) ?_
      obtain ⟨h3, hf⟩ := ckx_el hf
      refine al_8_3 C hW h3 dX8_build_18 ?_
      refine lv_iconst (v := 2) C.1 C.2.1 dX8_build_19 (by decide) ?_
      refine lv_icmp_ne (tgt := 62) C.1 C.2.1 dX8_build_20 (by decide) (fun q4 => ?_) (fun q4 => ?_)
      · replace hf := (if_neg q4).symm.trans hf
        refine lv_aload_n C.1 C.2.1 dX8_build_62 rfl (lv_at hl 0 rfl) ?_
        refine fg_8_3 C kX8_build_8 mX8_build_20 hW dX8_build_63 ?_
        refine lv_iload_n C.1 C.2.1 dX8_build_66 rfl (lv_at hl 2 rfl) ?_
        obtain ⟨h5, hf⟩ := ckx_el hf
        refine al_8_3 C hW h5 dX8_build_67 ?_
        refine lv_iconst (v := 1) C.1 C.2.1 dX8_build_68 (by decide) ?_
        refine lv_icmp_ne (tgt := 89) C.1 C.2.1 dX8_build_69 (by decide) (fun q6 => ?_) (fun q6 => ?_)
        · replace hf := (if_neg q6).symm.trans hf
          exact lX8_build_89 C hr hlocks N _ ih _ _ _ hf _ _ _ hW (lv_sub hl [0, 1, 2] rfl)
        · replace hf := (if_pos q6).symm.trans hf
          refine lv_aload_n C.1 C.2.1 dX8_build_72 rfl (lv_at hl 0 rfl) ?_
          refine fg_8_30 C kX8_build_8 mX8_build_120 hW dX8_build_73 ?_
          refine lv_aload_n C.1 C.2.1 dX8_build_76 rfl (lv_at hl 0 rfl) ?_
          refine fg_8_5 C kX8_build_8 mX8_build_30 hW dX8_build_77 ?_
          refine lv_iload_n C.1 C.2.1 dX8_build_80 rfl (lv_at hl 2 rfl) ?_
          obtain ⟨h7, hf⟩ := ckx_el hf
          refine al_8_5 C hW h7 dX8_build_81 ?_
          refine lv_aload_n C.1 C.2.1 dX8_build_82 rfl (lv_at hl 0 rfl) ?_
          refine fg_8_30 C kX8_build_8 mX8_build_120 hW dX8_build_83 ?_
          refine lv_iload_n C.1 C.2.1 dX8_build_86 rfl (lv_at hl 2 rfl) ?_
          obtain ⟨h8, hf⟩ := ckx_el hf
          refine al_8_30 C hW h8 dX8_build_87 ?_
          obtain ⟨h9, hf⟩ := ckx_el hf
          obtain ⟨S10, eS10, hf⟩ := bnd_el hf
          refine as_8_30 C hW h9 dX8_build_88 eS10 (fun H locs hW => ?_)
          exact lX8_build_89 C hr hlocks N _ ih _ _ _ hf _ _ _ hW (lv_sub hl [0, 1, 2] rfl)
      · replace hf := (if_pos q4).symm.trans hf
        refine lv_aload_n C.1 C.2.1 dX8_build_23 rfl (lv_at hl 0 rfl) ?_
        refine fg_8_30 C kX8_build_8 mX8_build_120 hW dX8_build_24 ?_
        refine lv_aload_n C.1 C.2.1 dX8_build_27 rfl (lv_at hl 0 rfl) ?_
        refine fg_8_4 C kX8_build_8 mX8_build_27 hW dX8_build_28 ?_
        refine lv_iload_n C.1 C.2.1 dX8_build_31 rfl (lv_at hl 2 rfl) ?_
        obtain ⟨h11, hf⟩ := ckx_el hf
        refine al_8_4 C hW h11 dX8_build_32 ?_
        refine lv_aload_n C.1 C.2.1 dX8_build_33 rfl (lv_at hl 0 rfl) ?_
        refine fg_8_30 C kX8_build_8 mX8_build_120 hW dX8_build_34 ?_
        refine lv_iload_n C.1 C.2.1 dX8_build_37 rfl (lv_at hl 2 rfl) ?_
        obtain ⟨h12, hf⟩ := ckx_el hf
        refine al_8_30 C hW h12 dX8_build_38 ?_
        obtain ⟨h13, hf⟩ := ckx_el hf
        obtain ⟨S14, eS14, hf⟩ := bnd_el hf
        refine as_8_30 C hW h13 dX8_build_39 eS14 (fun H locs hW => ?_)
        refine lv_aload_n C.1 C.2.1 dX8_build_40 rfl (lv_at hl 0 rfl) ?_
        refine fg_8_30 C kX8_build_8 mX8_build_120 hW dX8_build_41 ?_
        refine lv_aload_n C.1 C.2.1 dX8_build_44 rfl (lv_at hl 0 rfl) ?_
        refine fg_8_5 C kX8_build_8 mX8_build_30 hW dX8_build_45 ?_
        refine lv_iload_n C.1 C.2.1 dX8_build_48 rfl (lv_at hl 2 rfl) ?_
        obtain ⟨h15, hf⟩ := ckx_el hf
        refine al_8_5 C hW h15 dX8_build_49 ?_
        refine lv_aload_n C.1 C.2.1 dX8_build_50 rfl (lv_at hl 0 rfl) ?_
        refine fg_8_30 C kX8_build_8 mX8_build_120 hW dX8_build_51 ?_
        refine lv_iload_n C.1 C.2.1 dX8_build_54 rfl (lv_at hl 2 rfl) ?_
        obtain ⟨h16, hf⟩ := ckx_el hf
        refine al_8_30 C hW h16 dX8_build_55 ?_
        refine lv_iconst (v := 1) C.1 C.2.1 dX8_build_56 (by decide) ?_
        refine lv_iadd C.1 C.2.1 dX8_build_57 ?_
        obtain ⟨h17, hf⟩ := ckx_el hf
        obtain ⟨S18, eS18, hf⟩ := bnd_el hf
        refine as_8_30 C hW h17 dX8_build_58 eS18 (fun H locs hW => ?_)
        refine lv_goto (tgt := 89) C.1 C.2.1 dX8_build_59 (by decide) ?_
        exact lX8_build_89 C hr hlocks N _ ih _ _ _ hf _ _ _ hW (lv_sub hl [0, 1, 2] rfl)
def fX8_build (N : Nat) (S : St) (p1 : Int32) : Option (Int32 × St) :=
  ckx p1 300 <|
  bnd (sA S 30 (upd (S.2.1 30) (p1 : Int32).toNatClampNeg (0 : Int32))) fun S2 =>
  fX8_build_9 N (S2, p1, p1)
set_option maxHeartbeats 4000000 in
set_option maxRecDepth 100000 in
theorem cX8_build_met (l : Launch) (D : va_G) (cy : Nat → ClassId) (a r : Nat → Nat) (sz N : Nat) (S : St) (p1 : Int32) (Rr : Int32 × St) (hf : fX8_build N S p1 = some Rr) : Met l yX8_build wsX8_build ({ frames := 3, cells := 0, slots := 0, locals := 70 } : Room) (va_Pc [.ref (a 99), .int p1] (preW D cy (wM cy a r S) sz)) (QI D cy (wM cy a r) (va_A (wM cy a r S) sz) Rr) 0 0 (va_A (wM cy a r S) sz) := by
  refine Met.ofW (cc := cX8_build) (maxL := 3) (ret := (some .int)) (by decide) rfl ?_
  intro p e s m args below meth c s₁ B hml hv
  obtain ⟨rfl, rfl, hP, hK, hD0, hN⟩ := hv
  have hlocks := B.notSynchronized
  have hr := B.returns
  have C : Cx p s m _ c cX8_build 3 wsX8_build RX8 D cy := ⟨B.exec, B.bytes, hml, findClass_of_methodNamed B.named, atoms_spec (ws := wsX8_build) B.pre, hK, hN⟩
  have hW := ww_start (w := wM cy a r) hP hD0
  generalize va_A (wM cy a r S) s.heap.size = A at hW ⊢
  have hl := lv_entry ([.ref (a 99), .int p1]) (n := 3) (Nat.le_of_ble_eq_true rfl)
  rw [lg_entry_eq]
  generalize (lg_sl ([.ref (a 99), .int p1]) ++ List.replicate (3 - (lg_sl ([.ref (a 99), .int p1])).length) Slot.unset).toArray = ls at hl ⊢
  have hl : lv_has ls 3 [(0, .ref (a 99)), (1, .int p1)] := hl
  unfold fX8_build at hf
  refine lv_aload_n C.1 C.2.1 dX8_build_0 rfl (lv_at hl 0 rfl) ?_
  refine fg_8_30 C kX8_build_8 mX8_build_120 hW dX8_build_1 ?_
  refine lv_iload_n C.1 C.2.1 dX8_build_4 rfl (lv_at hl 1 rfl) ?_
  refine lv_iconst (v := 0) C.1 C.2.1 dX8_build_5 (by decide) ?_
  obtain ⟨h1, hf⟩ := ckx_el hf
  obtain ⟨S2, eS2, hf⟩ := bnd_el hf
  refine as_8_30 C hW h1 dX8_build_6 eS2 (fun H locs hW => ?_)
  refine lv_iload_n C.1 C.2.1 dX8_build_7 rfl (lv_at hl 1 rfl) ?_
  refine lv_istore_n (lv' := [(2, .int p1), (0, .ref (a 99)), (1, .int p1)]) C.1 C.2.1 dX8_build_8 rfl hl (by decide) rfl (fun ls hl => ?_)
  exact lX8_build_9 C hr hlocks N _ _ _ _ hf _ _ _ hW (lv_sub hl [1, 2, 0] rfl)
def fX8_ports (p0 : Int32) : Option Int32 :=
  if (3 : Int32) ≤ p0 then
    if (5 : Int32) ≤ p0 then
      some (1 : Int32)
    else
      some (2 : Int32)
  else
    some (3 : Int32)
set_option maxHeartbeats 4000000 in
set_option maxRecDepth 100000 in
theorem cX8_ports_met (l : Launch) (p0 : Int32) (v1 : Int32) (hf : fX8_ports p0 = some v1) : MetS l yX8_ports wsX8_ports ({ frames := 0, cells := 0, slots := 0, locals := 0 } : Room) [.int p0] v1 := by
  refine Met.ofW (cc := cX8_ports) (maxL := 1) (ret := (some .int)) (by decide) rfl ?_
  intro p e s m args below meth c s₁ B hml hv
  obtain ⟨rfl, -⟩ := hv
  have hlocks := B.notSynchronized
  have hr := B.returns
  have C : p.tables.exec = Jvm.exec ∧ c.code = cX8_ports ∧ True := ⟨B.exec, B.bytes, trivial⟩
  have hl := lv_entry ([.int p0]) (n := 1) (Nat.le_of_ble_eq_true rfl)
  rw [lg_entry_eq]
  generalize (lg_sl ([.int p0]) ++ List.replicate (1 - (lg_sl ([.int p0])).length) Slot.unset).toArray = ls at hl ⊢
  have hl : lv_has ls 1 [(0, .int p0)] := hl
  unfold fX8_ports at hf
  refine lv_iload_n C.1 C.2.1 dX8_ports_0 rfl (lv_at hl 0 rfl) ?_
  refine lv_iconst (v := 3) C.1 C.2.1 dX8_ports_1 (by decide) ?_
  refine lv_icmp_ge (tgt := 9) C.1 C.2.1 dX8_ports_2 (by decide) (fun q1 => ?_) (fun q1 => ?_)
  · replace hf := (if_pos q1).symm.trans hf
    refine lv_iload_n C.1 C.2.1 dX8_ports_9 rfl (lv_at hl 0 rfl) ?_
    refine lv_iconst (v := 5) C.1 C.2.1 dX8_ports_10 (by decide) ?_
    refine lv_icmp_ge (tgt := 18) C.1 C.2.1 dX8_ports_11 (by decide) (fun q2 => ?_) (fun q2 => ?_)
    · replace hf := (if_pos q2).symm.trans hf
      refine lv_iconst (v := 1) C.1 C.2.1 dX8_ports_18 (by decide) ?_
      exact mrS C.1 C.2.1 hr hlocks rfl hf rfl dX8_ports_19
    · replace hf := (if_neg q2).symm.trans hf
      refine lv_iconst (v := 2) C.1 C.2.1 dX8_ports_14 (by decide) ?_
      refine lv_goto (tgt := 19) C.1 C.2.1 dX8_ports_15 (by decide) ?_
      exact mrS C.1 C.2.1 hr hlocks rfl hf rfl dX8_ports_19
  · replace hf := (if_neg q1).symm.trans hf
    refine lv_iconst (v := 3) C.1 C.2.1 dX8_ports_5 (by decide) ?_
    refine lv_goto (tgt := 19) C.1 C.2.1 dX8_ports_6 (by decide) ?_
    exact mrS C.1 C.2.1 hr hlocks rfl hf rfl dX8_ports_19
theorem mX8_goes_153 : Cond.fieldLink RX8 153 "SharedLambdaModel" "erased" "I" ∈ wsX8_goes := by decide +kernel
theorem mX8_goes_113 : Cond.fieldLink RX8 113 "SharedLambdaModel" "wires" "[I" ∈ wsX8_goes := by decide +kernel
theorem mX8_goes_98 : Cond.fieldLink RX8 98 "SharedLambdaModel" "kinds" "[I" ∈ wsX8_goes := by decide +kernel
theorem kX8_goes_8 : ∀ w ∈ u_ws RX8 TX8 58, w ∈ wsX8_goes := fun _ h => List.mem_cons_of_mem _ (List.mem_append_right _ h)
def fX8_goes_137 (N : Nat) (S : St) (x5 : Int32) : Option (St) :=
  if x5 < 0 then
    some S
  else
    bd2 (fX8_node N S (5 : Int32) (0 : Int32)) fun v2 S4 =>
    bdo (fX8_wire N S4 (((3 : Int32) * v2)) x5) fun S7 =>
    some S7
set_option maxHeartbeats 4000000 in
set_option maxRecDepth 100000 in
theorem lX8_goes_137 {p : Program} {l : Launch} {e : Env} {s : State} {m : MethodId} {args : Array Value} {below : List Frame} {meth : Method} {c : Code} {D : va_G} {cy : Nat → ClassId} {a r : Nat → Nat} {A : Nat → Prop} {Rr : St} (C : Cx p s m args c cX8_goes 8 wsX8_goes RX8 D cy) (hr : meth.sig.returnType = none) (hlocks : meth.locks = false) (N : Nat) (S : St) (x5 : Int32) (hf : fX8_goes_137 N S x5 = some Rr) : ∀ (H : Heap) (locs : List Loc) (ls : Array Slot), WW D A s.heap (wM cy a r S) H locs → lv_has ls 8 [(0, .ref (a 99)), (5, .int x5)] → W p l e ({ frames := 2, cells := 0, slots := 0, locals := 43 } : Room) s m args below meth c H locs 0 0 (MQ below (QV D cy (wM cy a r) A Rr) args s 0 0 A) (F0 m 137 ls []) := by
  intro H locs ls hW hl
  unfold fX8_goes_137 at hf
  refine lv_iload C.1 C.2.1 dX8_goes_137 (lv_at hl 1 rfl) ?_
  refine lv_if_lt (tgt := 156) C.1 C.2.1 dX8_goes_139 (by decide) (fun q1 => ?_) (fun q1 => ?_)
  · replace hf := (if_pos q1).symm.trans hf
    exact mrV C hr hlocks hf hW dX8_goes_156
  · replace hf := (if_neg q1).symm.trans hf
    refine lv_aload_n C.1 C.2.1 dX8_goes_142 rfl (lv_at hl 0 rfl) ?_
    refine lv_iconst (v := 3) C.1 C.2.1 dX8_goes_143 (by decide) ?_
    refine lv_aload_n C.1 C.2.1 dX8_goes_144 rfl (lv_at hl 0 rfl) ?_
    refine lv_iconst (v := 5) C.1 C.2.1 dX8_goes_145 (by decide) ?_
    refine lv_iconst (v := 0) C.1 C.2.1 dX8_goes_146 (by decide) ?_
    obtain ⟨v2, S4, h3, hf⟩ := bd2_el hf
    refine mcVi (w := wM cy a r) (S := S) (As := [.int (5 : Int32), .int (0 : Int32)]) (rest := [.int (3 : Int32), .ref (a 99)]) (q0 := 0) (ci := 8) C (cX8_node_met l D cy a r _ N S (5 : Int32) (0 : Int32) (v2, S4) h3) (cwV 2 C.2.2.2.2.1 gX8_goes_X8_node rfl rfl rfl (by decide +kernel) ⟨Nat.le_of_ble_eq_true rfl, Nat.le_of_ble_eq_true rfl⟩) rfl rfl rfl hl.1 (Nat.le_of_ble_eq_true rfl) hW dX8_goes_147 ⟨Nat.zero_le _, Nat.zero_le _⟩ rfl (fun H locs hW => ?_)
    refine lv_imul C.1 C.2.1 dX8_goes_150 ?_
    refine lv_iload C.1 C.2.1 dX8_goes_151 (lv_at hl 1 rfl) ?_
    obtain ⟨S7, h6, hf⟩ := bdo_el hf
    refine mcVv (w := wM cy a r) (S := S4) (As := [.int (((3 : Int32) * v2)), .int x5]) (rest := []) (q0 := 0) (ci := 8) C (cX8_wire_met l D cy a r _ N S4 (((3 : Int32) * v2)) x5 S7 h6) (cwV 2 C.2.2.2.2.1 gX8_goes_X8_wire rfl rfl rfl (by decide +kernel) ⟨Nat.le_of_ble_eq_true rfl, Nat.le_of_ble_eq_true rfl⟩) rfl rfl rfl hl.1 (Nat.le_of_ble_eq_true rfl) hW dX8_goes_153 ⟨Nat.zero_le _, Nat.zero_le _⟩ rfl (fun H locs hW => ?_)
    exact mrV C hr hlocks hf hW dX8_goes_156
def fX8_goes_95 (N : Nat) (k19 : St × Int32 × Int32 × Int32 × Int32 × Int32 × Int32 → Option (St)) (S : St) (x1 : Int32) (x2 : Int32) (x3 : Int32) (x5 : Int32) (x6 : Int32) (y0 : Int32) : Option (St) :=
  bnd (x6 + (1 : Int32)) fun z1 =>
  k19 (S, x1, x2, x3, y0, x5, z1)
set_option maxHeartbeats 4000000 in
set_option maxRecDepth 100000 in
theorem lX8_goes_95 {p : Program} {l : Launch} {e : Env} {s : State} {m : MethodId} {args : Array Value} {below : List Frame} {meth : Method} {c : Code} {D : va_G} {cy : Nat → ClassId} {a r : Nat → Nat} {A : Nat → Prop} {Rr : St} (C : Cx p s m args c cX8_goes 8 wsX8_goes RX8 D cy) (hr : meth.sig.returnType = none) (hlocks : meth.locks = false) (N : Nat) (k19 : St × Int32 × Int32 × Int32 × Int32 × Int32 × Int32 → Option (St)) (hk19 : ∀ (S : St) (x1 : Int32) (x2 : Int32) (x3 : Int32) (x4 : Int32) (x5 : Int32) (x6 : Int32), k19 (S, x1, x2, x3, x4, x5, x6) = some Rr → ∀ (H : Heap) (locs : List Loc) (ls : Array Slot), WW D A s.heap (wM cy a r S) H locs → lv_has ls 8 [(0, .ref (a 99)), (1, .int x1), (2, .int x2), (3, .int x3), (4, .int x4), (5, .int x5), (6, .int x6)] → W p l e ({ frames := 2, cells := 0, slots := 0, locals := 43 } : Room) s m args below meth c H locs 0 0 (MQ below (QV D cy (wM cy a r) A Rr) args s 0 0 A) (F0 m 19 ls [])) (S : St) (x1 : Int32) (x2 : Int32) (x3 : Int32) (x5 : Int32) (x6 : Int32) (y0 : Int32) (hf : fX8_goes_95 N k19 S x1 x2 x3 x5 x6 y0 = some Rr) : ∀ (H : Heap) (locs : List Loc) (ls : Array Slot), WW D A s.heap (wM cy a r S) H locs → lv_has ls 8 [(0, .ref (a 99)), (1, .int x1), (2, .int x2), (3, .int x3), (5, .int x5), (6, .int x6)] → W p l e ({ frames := 2, cells := 0, slots := 0, locals := 43 } : Room) s m args below meth c H locs 0 0 (MQ below (QV D cy (wM cy a r) A Rr) args s 0 0 A) (F0 m 95 ls [.int y0]) := by
  intro H locs ls hW hl
  unfold fX8_goes_95 at hf
  refine lv_istore (lv' := [(4, .int y0), (0, .ref (a 99)), (1, .int x1), (2, .int x2), (3, .int x3), (5, .int x5), (6, .int x6)]) C.1 C.2.1 dX8_goes_95 hl (by decide) rfl (fun ls hl => ?_)
  obtain ⟨z1, ez1, hf⟩ := bnd_el hf
  refine lv_iinc (v := z1) (lv' := [(6, .int z1), (4, .int y0), (0, .ref (a 99)), (1, .int x1), (2, .int x2), (3, .int x3), (5, .int x5)]) C.1 C.2.1 dX8_goes_97 hl (k := 6) rfl (by rw [ez1]; rfl) (by decide) rfl (fun ls hl => ?_)
  refine lv_goto (tgt := 19) C.1 C.2.1 dX8_goes_100 (by decide) ?_
  exact hk19 _ _ _ _ _ _ _ hf _ _ _ hW (lv_sub hl [2, 3, 4, 5, 1, 6, 0] rfl)
def fX8_goes_81 (N : Nat) (k19 : St × Int32 × Int32 × Int32 × Int32 × Int32 × Int32 → Option (St)) (S : St) (x1 : Int32) (x2 : Int32) (x3 : Int32) (x4 : Int32) (x6 : Int32) (x7 : Int32) (y0 : Int32) : Option (St) :=
  if x7 < 0 then
    fX8_goes_95 N k19 S x1 x2 x3 y0 x6 x4
  else
    fX8_goes_95 N k19 S x1 x2 x3 y0 x6 x7
set_option maxHeartbeats 4000000 in
set_option maxRecDepth 100000 in
theorem lX8_goes_81 {p : Program} {l : Launch} {e : Env} {s : State} {m : MethodId} {args : Array Value} {below : List Frame} {meth : Method} {c : Code} {D : va_G} {cy : Nat → ClassId} {a r : Nat → Nat} {A : Nat → Prop} {Rr : St} (C : Cx p s m args c cX8_goes 8 wsX8_goes RX8 D cy) (hr : meth.sig.returnType = none) (hlocks : meth.locks = false) (N : Nat) (k19 : St × Int32 × Int32 × Int32 × Int32 × Int32 × Int32 → Option (St)) (hk19 : ∀ (S : St) (x1 : Int32) (x2 : Int32) (x3 : Int32) (x4 : Int32) (x5 : Int32) (x6 : Int32), k19 (S, x1, x2, x3, x4, x5, x6) = some Rr → ∀ (H : Heap) (locs : List Loc) (ls : Array Slot), WW D A s.heap (wM cy a r S) H locs → lv_has ls 8 [(0, .ref (a 99)), (1, .int x1), (2, .int x2), (3, .int x3), (4, .int x4), (5, .int x5), (6, .int x6)] → W p l e ({ frames := 2, cells := 0, slots := 0, locals := 43 } : Room) s m args below meth c H locs 0 0 (MQ below (QV D cy (wM cy a r) A Rr) args s 0 0 A) (F0 m 19 ls [])) (S : St) (x1 : Int32) (x2 : Int32) (x3 : Int32) (x4 : Int32) (x6 : Int32) (x7 : Int32) (y0 : Int32) (hf : fX8_goes_81 N k19 S x1 x2 x3 x4 x6 x7 y0 = some Rr) : ∀ (H : Heap) (locs : List Loc) (ls : Array Slot), WW D A s.heap (wM cy a r S) H locs → lv_has ls 8 [(0, .ref (a 99)), (1, .int x1), (2, .int x2), (3, .int x3), (4, .int x4), (6, .int x6), (7, .int x7)] → W p l e ({ frames := 2, cells := 0, slots := 0, locals := 43 } : Room) s m args below meth c H locs 0 0 (MQ below (QV D cy (wM cy a r) A Rr) args s 0 0 A) (F0 m 81 ls [.int y0]) := by
  intro H locs ls hW hl
  unfold fX8_goes_81 at hf
  refine lv_istore (lv' := [(5, .int y0), (0, .ref (a 99)), (1, .int x1), (2, .int x2), (3, .int x3), (4, .int x4), (6, .int x6), (7, .int x7)]) C.1 C.2.1 dX8_goes_81 hl (by decide) rfl (fun ls hl => ?_)
  refine lv_iload C.1 C.2.1 dX8_goes_83 (lv_at hl 7 rfl) ?_
  refine lv_if_lt (tgt := 93) C.1 C.2.1 dX8_goes_85 (by decide) (fun q1 => ?_) (fun q1 => ?_)
  · replace hf := (if_pos q1).symm.trans hf
    refine lv_iload C.1 C.2.1 dX8_goes_93 (lv_at hl 5 rfl) ?_
    exact lX8_goes_95 C hr hlocks N _ hk19 _ _ _ _ _ _ _ hf _ _ _ hW (lv_sub hl [1, 2, 3, 4, 0, 6] rfl)
  · replace hf := (if_neg q1).symm.trans hf
    refine lv_iload C.1 C.2.1 dX8_goes_88 (lv_at hl 7 rfl) ?_
    refine lv_goto (tgt := 95) C.1 C.2.1 dX8_goes_90 (by decide) ?_
    exact lX8_goes_95 C hr hlocks N _ hk19 _ _ _ _ _ _ _ hf _ _ _ hW (lv_sub hl [1, 2, 3, 4, 0, 6] rfl)
def fX8_goes_67 (N : Nat) (k19 : St × Int32 × Int32 × Int32 × Int32 × Int32 × Int32 → Option (St)) (S : St) (x1 : Int32) (x2 : Int32) (x3 : Int32) (x4 : Int32) (x5 : Int32) (x6 : Int32) (y0 : Int32) : Option (St) :=
  if y0 < 0 then
    fX8_goes_81 N k19 S x1 x2 x3 x4 x6 y0 x5
  else
    fX8_goes_81 N k19 S x1 x2 x3 x4 x6 y0 x4
set_option maxHeartbeats 4000000 in
set_option maxRecDepth 100000 in
theorem lX8_goes_67 {p : Program} {l : Launch} {e : Env} {s : State} {m : MethodId} {args : Array Value} {below : List Frame} {meth : Method} {c : Code} {D : va_G} {cy : Nat → ClassId} {a r : Nat → Nat} {A : Nat → Prop} {Rr : St} (C : Cx p s m args c cX8_goes 8 wsX8_goes RX8 D cy) (hr : meth.sig.returnType = none) (hlocks : meth.locks = false) (N : Nat) (k19 : St × Int32 × Int32 × Int32 × Int32 × Int32 × Int32 → Option (St)) (hk19 : ∀ (S : St) (x1 : Int32) (x2 : Int32) (x3 : Int32) (x4 : Int32) (x5 : Int32) (x6 : Int32), k19 (S, x1, x2, x3, x4, x5, x6) = some Rr → ∀ (H : Heap) (locs : List Loc) (ls : Array Slot), WW D A s.heap (wM cy a r S) H locs → lv_has ls 8 [(0, .ref (a 99)), (1, .int x1), (2, .int x2), (3, .int x3), (4, .int x4), (5, .int x5), (6, .int x6)] → W p l e ({ frames := 2, cells := 0, slots := 0, locals := 43 } : Room) s m args below meth c H locs 0 0 (MQ below (QV D cy (wM cy a r) A Rr) args s 0 0 A) (F0 m 19 ls [])) (S : St) (x1 : Int32) (x2 : Int32) (x3 : Int32) (x4 : Int32) (x5 : Int32) (x6 : Int32) (y0 : Int32) (hf : fX8_goes_67 N k19 S x1 x2 x3 x4 x5 x6 y0 = some Rr) : ∀ (H : Heap) (locs : List Loc) (ls : Array Slot), WW D A s.heap (wM cy a r S) H locs → lv_has ls 8 [(0, .ref (a 99)), (1, .int x1), (2, .int x2), (3, .int x3), (4, .int x4), (5, .int x5), (6, .int x6)] → W p l e ({ frames := 2, cells := 0, slots := 0, locals := 43 } : Room) s m args below meth c H locs 0 0 (MQ below (QV D cy (wM cy a r) A Rr) args s 0 0 A) (F0 m 67 ls [.int y0]) := by
  intro H locs ls hW hl
  unfold fX8_goes_67 at hf
  refine lv_istore (lv' := [(7, .int y0), (0, .ref (a 99)), (1, .int x1), (2, .int x2), (3, .int x3), (4, .int x4), (5, .int x5), (6, .int x6)]) C.1 C.2.1 dX8_goes_67 hl (by decide) rfl (fun ls hl => ?_)
  refine lv_iload C.1 C.2.1 dX8_goes_69 (lv_at hl 0 rfl) ?_
  refine lv_if_lt (tgt := 79) C.1 C.2.1 dX8_goes_71 (by decide) (fun q1 => ?_) (fun q1 => ?_)
  · replace hf := (if_pos q1).symm.trans hf
    refine lv_iload C.1 C.2.1 dX8_goes_79 (lv_at hl 6 rfl) ?_
    exact lX8_goes_81 C hr hlocks N _ hk19 _ _ _ _ _ _ _ _ hf _ _ _ hW (lv_sub hl [1, 2, 3, 4, 5, 7, 0] rfl)
  · replace hf := (if_neg q1).symm.trans hf
    refine lv_iload C.1 C.2.1 dX8_goes_74 (lv_at hl 5 rfl) ?_
    refine lv_goto (tgt := 81) C.1 C.2.1 dX8_goes_76 (by decide) ?_
    exact lX8_goes_81 C hr hlocks N _ hk19 _ _ _ _ _ _ _ _ hf _ _ _ hW (lv_sub hl [1, 2, 3, 4, 5, 7, 0] rfl)
def fX8_goes_52 (N : Nat) (k19 : St × Int32 × Int32 × Int32 × Int32 × Int32 × Int32 → Option (St)) (S : St) (x1 : Int32) (x2 : Int32) (x3 : Int32) (x4 : Int32) (x5 : Int32) (x6 : Int32) : Option (St) :=
  fX8_goes_67 N k19 S x1 x2 x3 x4 x5 x6 (-1 : Int32)
set_option maxHeartbeats 4000000 in
set_option maxRecDepth 100000 in
theorem lX8_goes_52 {p : Program} {l : Launch} {e : Env} {s : State} {m : MethodId} {args : Array Value} {below : List Frame} {meth : Method} {c : Code} {D : va_G} {cy : Nat → ClassId} {a r : Nat → Nat} {A : Nat → Prop} {Rr : St} (C : Cx p s m args c cX8_goes 8 wsX8_goes RX8 D cy) (hr : meth.sig.returnType = none) (hlocks : meth.locks = false) (N : Nat) (k19 : St × Int32 × Int32 × Int32 × Int32 × Int32 × Int32 → Option (St)) (hk19 : ∀ (S : St) (x1 : Int32) (x2 : Int32) (x3 : Int32) (x4 : Int32) (x5 : Int32) (x6 : Int32), k19 (S, x1, x2, x3, x4, x5, x6) = some Rr → ∀ (H : Heap) (locs : List Loc) (ls : Array Slot), WW D A s.heap (wM cy a r S) H locs → lv_has ls 8 [(0, .ref (a 99)), (1, .int x1), (2, .int x2), (3, .int x3), (4, .int x4), (5, .int x5), (6, .int x6)] → W p l e ({ frames := 2, cells := 0, slots := 0, locals := 43 } : Room) s m args below meth c H locs 0 0 (MQ below (QV D cy (wM cy a r) A Rr) args s 0 0 A) (F0 m 19 ls [])) (S : St) (x1 : Int32) (x2 : Int32) (x3 : Int32) (x4 : Int32) (x5 : Int32) (x6 : Int32) (hf : fX8_goes_52 N k19 S x1 x2 x3 x4 x5 x6 = some Rr) : ∀ (H : Heap) (locs : List Loc) (ls : Array Slot), WW D A s.heap (wM cy a r S) H locs → lv_has ls 8 [(0, .ref (a 99)), (1, .int x1), (2, .int x2), (3, .int x3), (4, .int x4), (5, .int x5), (6, .int x6)] → W p l e ({ frames := 2, cells := 0, slots := 0, locals := 43 } : Room) s m args below meth c H locs 0 0 (MQ below (QV D cy (wM cy a r) A Rr) args s 0 0 A) (F0 m 52 ls []) := by
  intro H locs ls hW hl
  unfold fX8_goes_52 at hf
  refine lv_iconst (v := -1) C.1 C.2.1 dX8_goes_52 (by decide) ?_
  refine lv_goto (tgt := 67) C.1 C.2.1 dX8_goes_53 (by decide) ?_
  exact lX8_goes_67 C hr hlocks N _ hk19 _ _ _ _ _ _ _ _ hf _ _ _ hW (lv_sub hl [0, 1, 2, 3, 4, 5, 6] rfl)
def fX8_goes_19s (N : Nat) (k19 : St × Int32 × Int32 × Int32 × Int32 × Int32 × Int32 → Option (St)) (S : St) (x1 : Int32) (x2 : Int32) (x3 : Int32) (x4 : Int32) (x5 : Int32) (x6 : Int32) : Option (St) :=
  if x3 ≤ x6 then
    bdo (fX8_free N S x1) fun S4 =>
    bnd (sI S4 26 ((S4.1 26 + (1 : Int32)))) fun S5 =>
    if x4 < 0 then
      fX8_goes_137 N S5 x5
    else
      bd2 (fX8_node N S5 (5 : Int32) (0 : Int32)) fun v7 S9 =>
      bdo (fX8_wire N S9 (((3 : Int32) * v7)) x4) fun S12 =>
      fX8_goes_137 N S12 x5
  else
    if ((x2 >>> (x6 &&& 31)) &&& (1 : Int32)) = (1 : Int32) then
      fX8_goes_52 N k19 S x1 x2 x3 x4 x5 x6
    else
      ckx ((((3 : Int32) * x1) + x6)) 9030 <|
      if (S.2.1 19 ((((3 : Int32) * x1) + x6) : Int32).toNatClampNeg / (3 : Int32)) = x1 then
        fX8_goes_52 N k19 S x1 x2 x3 x4 x5 x6
      else
        ckx ((((3 : Int32) * x1) + x6)) 9030 <|
        fX8_goes_67 N k19 S x1 x2 x3 x4 x5 x6 (S.2.1 19 ((((3 : Int32) * x1) + x6) : Int32).toNatClampNeg)
def fX8_goes_19 (N : Nat) : St × Int32 × Int32 × Int32 × Int32 × Int32 × Int32 → Option (St) := loopN (fun k x => fX8_goes_19s N k x.1 x.2.1 x.2.2.1 x.2.2.2.1 x.2.2.2.2.1 x.2.2.2.2.2.1 x.2.2.2.2.2.2) N
set_option maxHeartbeats 4000000 in
set_option maxRecDepth 100000 in
theorem lX8_goes_19 {p : Program} {l : Launch} {e : Env} {s : State} {m : MethodId} {args : Array Value} {below : List Frame} {meth : Method} {c : Code} {D : va_G} {cy : Nat → ClassId} {a r : Nat → Nat} {A : Nat → Prop} {Rr : St} (C : Cx p s m args c cX8_goes 8 wsX8_goes RX8 D cy) (hr : meth.sig.returnType = none) (hlocks : meth.locks = false) (N : Nat) : ∀ (n : Nat) (S : St) (x1 : Int32) (x2 : Int32) (x3 : Int32) (x4 : Int32) (x5 : Int32) (x6 : Int32), loopN (fun k x => fX8_goes_19s N k x.1 x.2.1 x.2.2.1 x.2.2.2.1 x.2.2.2.2.1 x.2.2.2.2.2.1 x.2.2.2.2.2.2) n (S, x1, x2, x3, x4, x5, x6) = some Rr → ∀ (H : Heap) (locs : List Loc) (ls : Array Slot), WW D A s.heap (wM cy a r S) H locs → lv_has ls 8 [(0, .ref (a 99)), (1, .int x1), (2, .int x2), (3, .int x3), (4, .int x4), (5, .int x5), (6, .int x6)] → W p l e ({ frames := 2, cells := 0, slots := 0, locals := 43 } : Room) s m args below meth c H locs 0 0 (MQ below (QV D cy (wM cy a r) A Rr) args s 0 0 A) (F0 m 19 ls []) := by
  intro n
  induction n with
  | zero =>
    intro S x1 x2 x3 x4 x5 x6 hf
    cases hf
  | succ n ih =>
    intro S x1 x2 x3 x4 x5 x6 hf H locs ls hW hl
    have hf : fX8_goes_19s N (loopN (fun k x => fX8_goes_19s N k x.1 x.2.1 x.2.2.1 x.2.2.2.1 x.2.2.2.2.1 x.2.2.2.2.2.1 x.2.2.2.2.2.2) n) S x1 x2 x3 x4 x5 x6 = some Rr := hf
    unfold fX8_goes_19s at hf
    refine lv_iload C.1 C.2.1 dX8_goes_19 (lv_at hl 6 rfl) ?_
    refine lv_iload_n C.1 C.2.1 dX8_goes_21 rfl (lv_at hl 3 rfl) ?_
    refine lv_icmp_ge (tgt := 103) C.1 C.2.1 dX8_goes_22 (by decide) (fun q1 => ?_) (fun q1 => ?_)
    · replace hf := (if_pos q1).symm.trans hf
      refine lv_aload_n C.1 C.2.1 dX8_goes_103 rfl (lv_at hl 0 rfl) ?_
      refine lv_iload_n C.1 C.2.1 dX8_goes_104 rfl (lv_at hl 1 rfl) ?_
      obtain ⟨S4, h3, hf⟩ := bdo_el hf
      refine mcVv (w := wM cy a r) (S := S) (As := [.int x1]) (rest := []) (q0 := 0) (ci := 8) C (cX8_free_met l D cy a r _ N S x1 S4 h3) (cwV 1 C.2.2.2.2.1 gX8_goes_X8_free rfl rfl rfl (by decide +kernel) ⟨Nat.le_of_ble_eq_true rfl, Nat.le_of_ble_eq_true rfl⟩) rfl rfl rfl hl.1 (Nat.le_of_ble_eq_true rfl) hW dX8_goes_105 ⟨Nat.zero_le _, Nat.zero_le _⟩ rfl (fun H locs hW => ?_)
      refine lv_aload_n C.1 C.2.1 dX8_goes_108 rfl (lv_at hl 0 rfl) ?_
      refine lv_dup C.1 C.2.1 dX8_goes_109 rfl ?_
      refine fg_8_26 C kX8_goes_8 mX8_goes_153 hW dX8_goes_110 ?_
      refine lv_iconst (v := 1) C.1 C.2.1 dX8_goes_113 (by decide) ?_
      refine lv_iadd C.1 C.2.1 dX8_goes_114 ?_
      obtain ⟨S5, eS5, hf⟩ := bnd_el hf
      refine fp_8_26 C kX8_goes_8 mX8_goes_153 hW dX8_goes_115 eS5 (fun H locs hW => ?_)
      refine lv_iload C.1 C.2.1 dX8_goes_118 (lv_at hl 4 rfl) ?_
      refine lv_if_lt (tgt := 137) C.1 C.2.1 dX8_goes_120 (by decide) (fun q6 => ?_) (fun q6 => ?_)
      · replace hf := (if_pos q6).symm.trans hf
        exact lX8_goes_137 C hr hlocks N _ _ hf _ _ _ hW (lv_sub hl [0, 5] rfl)
      · replace hf := (if_neg q6).symm.trans hf
        refine lv_aload_n C.1 C.2.1 dX8_goes_123 rfl (lv_at hl 0 rfl) ?_
        refine lv_iconst (v := 3) C.1 C.2.1 dX8_goes_124 (by decide) ?_
        refine lv_aload_n C.1 C.2.1 dX8_goes_125 rfl (lv_at hl 0 rfl) ?_
        refine lv_iconst (v := 5) C.1 C.2.1 dX8_goes_126 (by decide) ?_
        refine lv_iconst (v := 0) C.1 C.2.1 dX8_goes_127 (by decide) ?_
        obtain ⟨v7, S9, h8, hf⟩ := bd2_el hf
        refine mcVi (w := wM cy a r) (S := S5) (As := [.int (5 : Int32), .int (0 : Int32)]) (rest := [.int (3 : Int32), .ref (a 99)]) (q0 := 0) (ci := 8) C (cX8_node_met l D cy a r _ N S5 (5 : Int32) (0 : Int32) (v7, S9) h8) (cwV 2 C.2.2.2.2.1 gX8_goes_X8_node rfl rfl rfl (by decide +kernel) ⟨Nat.le_of_ble_eq_true rfl, Nat.le_of_ble_eq_true rfl⟩) rfl rfl rfl hl.1 (Nat.le_of_ble_eq_true rfl) hW dX8_goes_128 ⟨Nat.zero_le _, Nat.zero_le _⟩ rfl (fun H locs hW => ?_)
        refine lv_imul C.1 C.2.1 dX8_goes_131 ?_
        refine lv_iload C.1 C.2.1 dX8_goes_132 (lv_at hl 4 rfl) ?_
        obtain ⟨S12, h11, hf⟩ := bdo_el hf
        refine mcVv (w := wM cy a r) (S := S9) (As := [.int (((3 : Int32) * v7)), .int x4]) (rest := []) (q0 := 0) (ci := 8) C (cX8_wire_met l D cy a r _ N S9 (((3 : Int32) * v7)) x4 S12 h11) (cwV 2 C.2.2.2.2.1 gX8_goes_X8_wire rfl rfl rfl (by decide +kernel) ⟨Nat.le_of_ble_eq_true rfl, Nat.le_of_ble_eq_true rfl⟩) rfl rfl rfl hl.1 (Nat.le_of_ble_eq_true rfl) hW dX8_goes_134 ⟨Nat.zero_le _, Nat.zero_le _⟩ rfl (fun H locs hW => ?_)
        exact lX8_goes_137 C hr hlocks N _ _ hf _ _ _ hW (lv_sub hl [0, 5] rfl)
    · replace hf := (if_neg q1).symm.trans hf
      refine lv_iload_n C.1 C.2.1 dX8_goes_25 rfl (lv_at hl 2 rfl) ?_
      refine lv_iload C.1 C.2.1 dX8_goes_26 (lv_at hl 6 rfl) ?_
      refine lv_ishr C.1 C.2.1 dX8_goes_28 ?_
      refine lv_iconst (v := 1) C.1 C.2.1 dX8_goes_29 (by decide) ?_
      refine lv_iand C.1 C.2.1 dX8_goes_30 ?_
      refine lv_iconst (v := 1) C.1 C.2.1 dX8_goes_31 (by decide) ?_
      refine lv_icmp_eq (tgt := 52) C.1 C.2.1 dX8_goes_32 (by decide) (fun q13 => ?_) (fun q13 => ?_)
      · replace hf := (if_pos q13).symm.trans hf
        exact lX8_goes_52 C hr hlocks N _ ih _ _ _ _ _ _ _ hf _ _ _ hW (lv_sub hl [0, 1, 2, 3, 4, 5, 6] rfl)
      · replace hf := (if_neg q13).symm.trans hf
        refine lv_aload_n C.1 C.2.1 dX8_goes_35 rfl (lv_at hl 0 rfl) ?_
        refine fg_8_19 C kX8_goes_8 mX8_goes_113 hW dX8_goes_36 ?_
        refine lv_iconst (v := 3) C.1 C.2.1 dX8_goes_39 (by decide) ?_
        refine lv_iload_n C.1 C.2.1 dX8_goes_40 rfl (lv_at hl 1 rfl) ?_
        refine lv_imul C.1 C.2.1 dX8_goes_41 ?_
        refine lv_iload C.1 C.2.1 dX8_goes_42 (lv_at hl 6 rfl) ?_
        refine lv_iadd C.1 C.2.1 dX8_goes_44 ?_
        obtain ⟨h14, hf⟩ := ckx_el hf
        refine al_8_19 C hW h14 dX8_goes_45 ?_
        refine lv_iconst (v := 3) C.1 C.2.1 dX8_goes_46 (by decide) ?_
        refine lv_idiv C.1 C.2.1 dX8_goes_47 (by decide) ?_
        refine lv_iload_n C.1 C.2.1 dX8_goes_48 rfl (lv_at hl 1 rfl) ?_
        refine lv_icmp_ne (tgt := 56) C.1 C.2.1 dX8_goes_49 (by decide) (fun q15 => ?_) (fun q15 => ?_)
        · replace hf := (if_neg q15).symm.trans hf
          refine lv_aload_n C.1 C.2.1 dX8_goes_56 rfl (lv_at hl 0 rfl) ?_
          refine fg_8_19 C kX8_goes_8 mX8_goes_113 hW dX8_goes_57 ?_
          refine lv_iconst (v := 3) C.1 C.2.1 dX8_goes_60 (by decide) ?_
          refine lv_iload_n C.1 C.2.1 dX8_goes_61 rfl (lv_at hl 1 rfl) ?_
          refine lv_imul C.1 C.2.1 dX8_goes_62 ?_
          refine lv_iload C.1 C.2.1 dX8_goes_63 (lv_at hl 6 rfl) ?_
          refine lv_iadd C.1 C.2.1 dX8_goes_65 ?_
          obtain ⟨h16, hf⟩ := ckx_el hf
          refine al_8_19 C hW h16 dX8_goes_66 ?_
          exact lX8_goes_67 C hr hlocks N _ ih _ _ _ _ _ _ _ _ hf _ _ _ hW (lv_sub hl [0, 1, 2, 3, 4, 5, 6] rfl)
        · replace hf := (if_pos q15).symm.trans hf
          exact lX8_goes_52 C hr hlocks N _ ih _ _ _ _ _ _ _ hf _ _ _ hW (lv_sub hl [0, 1, 2, 3, 4, 5, 6] rfl)
def fX8_goes (N : Nat) (S : St) (p1 : Int32) (p2 : Int32) : Option (St) :=
  ckx p1 3010 <|
  bdo (fX8_ports (S.2.1 17 (p1 : Int32).toNatClampNeg)) fun v2 =>
  bnd (-1 : Int32) fun z4 =>
  bnd (-1 : Int32) fun z5 =>
  bnd (0 : Int32) fun z6 =>
  fX8_goes_19 N (S, p1, p2, v2, z4, z5, z6)
set_option maxHeartbeats 4000000 in
set_option maxRecDepth 100000 in
theorem cX8_goes_met (l : Launch) (D : va_G) (cy : Nat → ClassId) (a r : Nat → Nat) (sz N : Nat) (S : St) (p1 : Int32) (p2 : Int32) (Rr : St) (hf : fX8_goes N S p1 p2 = some Rr) : Met l yX8_goes wsX8_goes ({ frames := 2, cells := 0, slots := 0, locals := 43 } : Room) (va_Pc [.ref (a 99), .int p1, .int p2] (preW D cy (wM cy a r S) sz)) (QV D cy (wM cy a r) (va_A (wM cy a r S) sz) Rr) 0 0 (va_A (wM cy a r S) sz) := by
  refine Met.ofW (cc := cX8_goes) (maxL := 8) (ret := none) (by decide) rfl ?_
  intro p e s m args below meth c s₁ B hml hv
  obtain ⟨rfl, rfl, hP, hK, hD0, hN⟩ := hv
  have hlocks := B.notSynchronized
  have hr := B.returns
  have C : Cx p s m _ c cX8_goes 8 wsX8_goes RX8 D cy := ⟨B.exec, B.bytes, hml, findClass_of_methodNamed B.named, atoms_spec (ws := wsX8_goes) B.pre, hK, hN⟩
  have hW := ww_start (w := wM cy a r) hP hD0
  generalize va_A (wM cy a r S) s.heap.size = A at hW ⊢
  have hl := lv_entry ([.ref (a 99), .int p1, .int p2]) (n := 8) (Nat.le_of_ble_eq_true rfl)
  rw [lg_entry_eq]
  generalize (lg_sl ([.ref (a 99), .int p1, .int p2]) ++ List.replicate (8 - (lg_sl ([.ref (a 99), .int p1, .int p2])).length) Slot.unset).toArray = ls at hl ⊢
  have hl : lv_has ls 8 [(0, .ref (a 99)), (1, .int p1), (2, .int p2)] := hl
  unfold fX8_goes at hf
  refine lv_aload_n C.1 C.2.1 dX8_goes_0 rfl (lv_at hl 0 rfl) ?_
  refine fg_8_17 C kX8_goes_8 mX8_goes_98 hW dX8_goes_1 ?_
  refine lv_iload_n C.1 C.2.1 dX8_goes_4 rfl (lv_at hl 1 rfl) ?_
  obtain ⟨h1, hf⟩ := ckx_el hf
  refine al_8_17 C hW h1 dX8_goes_5 ?_
  obtain ⟨v2, h3, hf⟩ := bdo_el hf
  refine mcS (As := [.int (S.2.1 17 (p1 : Int32).toNatClampNeg)]) (rest := []) C (cX8_ports_met l (S.2.1 17 (p1 : Int32).toNatClampNeg) v2 h3) (va_cwS 1 C.2.2.2.2.1 gX8_goes_X8_ports rfl rfl rfl (by decide +kernel) ⟨Nat.le_of_ble_eq_true rfl, Nat.le_of_ble_eq_true rfl⟩) rfl hl.1 (Nat.le_of_ble_eq_true rfl) dX8_goes_6 ⟨Nat.zero_le _, Nat.zero_le _⟩ rfl ?_
  refine lv_istore_n (lv' := [(3, .int v2), (0, .ref (a 99)), (1, .int p1), (2, .int p2)]) C.1 C.2.1 dX8_goes_9 rfl hl (by decide) rfl (fun ls hl => ?_)
  refine lv_iconst (v := -1) C.1 C.2.1 dX8_goes_10 (by decide) ?_
  obtain ⟨z4, ez4, hf⟩ := bnd_el hf
  refine lv_as ez4 ?_
  refine lv_istore (lv' := [(4, .int z4), (3, .int v2), (0, .ref (a 99)), (1, .int p1), (2, .int p2)]) C.1 C.2.1 dX8_goes_11 hl (by decide) rfl (fun ls hl => ?_)
  refine lv_iconst (v := -1) C.1 C.2.1 dX8_goes_13 (by decide) ?_
  obtain ⟨z5, ez5, hf⟩ := bnd_el hf
  refine lv_as ez5 ?_
  refine lv_istore (lv' := [(5, .int z5), (4, .int z4), (3, .int v2), (0, .ref (a 99)), (1, .int p1), (2, .int p2)]) C.1 C.2.1 dX8_goes_14 hl (by decide) rfl (fun ls hl => ?_)
  refine lv_iconst (v := 0) C.1 C.2.1 dX8_goes_16 (by decide) ?_
  obtain ⟨z6, ez6, hf⟩ := bnd_el hf
  refine lv_as ez6 ?_
  refine lv_istore (lv' := [(6, .int z6), (5, .int z5), (4, .int z4), (3, .int v2), (0, .ref (a 99)), (1, .int p1), (2, .int p2)]) C.1 C.2.1 dX8_goes_17 hl (by decide) rfl (fun ls hl => ?_)
  exact lX8_goes_19 C hr hlocks N _ _ _ _ _ _ _ _ hf _ _ _ hW (lv_sub hl [4, 5, 6, 3, 2, 1, 0] rfl)
theorem mX8_eraseBy_98 : Cond.fieldLink RX8 98 "SharedLambdaModel" "kinds" "[I" ∈ wsX8_eraseBy := by decide +kernel
theorem mX8_eraseBy_113 : Cond.fieldLink RX8 113 "SharedLambdaModel" "wires" "[I" ∈ wsX8_eraseBy := by decide +kernel
theorem kX8_eraseBy_8 : ∀ w ∈ u_ws RX8 TX8 58, w ∈ wsX8_eraseBy := fun _ h => List.mem_cons_of_mem _ (List.mem_append_right _ h)
def fX8_eraseBy_98 (N : Nat) (S : St) (x1 : Int32) (x3 : Int32) (x4 : Int32) (x5 : Int32) : Option (St) :=
  if x5 = (2 : Int32) then
    ckx (((((3 : Int32) * x3) + (3 : Int32)) - x4)) 9030 <|
    ckx ((S.2.1 19 (((((3 : Int32) * x3) + (3 : Int32)) - x4) : Int32).toNatClampNeg / (3 : Int32))) 3010 <|
    if S.2.1 17 ((S.2.1 19 (((((3 : Int32) * x3) + (3 : Int32)) - x4) : Int32).toNatClampNeg / (3 : Int32)) : Int32).toNatClampNeg = (5 : Int32) then
      bdo (fX8_free N S x1) fun S7 =>
      ckx (((((3 : Int32) * x3) + (3 : Int32)) - x4)) 9030 <|
      bdo (fX8_free N S7 ((S7.2.1 19 (((((3 : Int32) * x3) + (3 : Int32)) - x4) : Int32).toNatClampNeg / (3 : Int32)))) fun S11 =>
      bdo (fX8_goes N S11 x3 (6 : Int32)) fun S14 =>
      some S14
    else
      some S
  else
    some S
set_option maxHeartbeats 4000000 in
set_option maxRecDepth 100000 in
theorem lX8_eraseBy_98 {p : Program} {l : Launch} {e : Env} {s : State} {m : MethodId} {args : Array Value} {below : List Frame} {meth : Method} {c : Code} {D : va_G} {cy : Nat → ClassId} {a r : Nat → Nat} {A : Nat → Prop} {Rr : St} (C : Cx p s m args c cX8_eraseBy 6 wsX8_eraseBy RX8 D cy) (hr : meth.sig.returnType = none) (hlocks : meth.locks = false) (N : Nat) (S : St) (x1 : Int32) (x3 : Int32) (x4 : Int32) (x5 : Int32) (hf : fX8_eraseBy_98 N S x1 x3 x4 x5 = some Rr) : ∀ (H : Heap) (locs : List Loc) (ls : Array Slot), WW D A s.heap (wM cy a r S) H locs → lv_has ls 6 [(0, .ref (a 99)), (1, .int x1), (3, .int x3), (4, .int x4), (5, .int x5)] → W p l e ({ frames := 3, cells := 0, slots := 0, locals := 70 } : Room) s m args below meth c H locs 0 0 (MQ below (QV D cy (wM cy a r) A Rr) args s 0 0 A) (F0 m 98 ls []) := by
  intro H locs ls hW hl
  unfold fX8_eraseBy_98 at hf
  refine lv_iload C.1 C.2.1 dX8_eraseBy_98 (lv_at hl 4 rfl) ?_
  refine lv_iconst (v := 2) C.1 C.2.1 dX8_eraseBy_100 (by decide) ?_
  refine lv_icmp_ne (tgt := 159) C.1 C.2.1 dX8_eraseBy_101 (by decide) (fun q1 => ?_) (fun q1 => ?_)
  · replace hf := (if_neg q1).symm.trans hf
    exact mrV C hr hlocks hf hW dX8_eraseBy_159
  · replace hf := (if_pos q1).symm.trans hf
    refine lv_aload_n C.1 C.2.1 dX8_eraseBy_104 rfl (lv_at hl 0 rfl) ?_
    refine fg_8_17 C kX8_eraseBy_8 mX8_eraseBy_98 hW dX8_eraseBy_105 ?_
    refine lv_aload_n C.1 C.2.1 dX8_eraseBy_108 rfl (lv_at hl 0 rfl) ?_
    refine fg_8_19 C kX8_eraseBy_8 mX8_eraseBy_113 hW dX8_eraseBy_109 ?_
    refine lv_iconst (v := 3) C.1 C.2.1 dX8_eraseBy_112 (by decide) ?_
    refine lv_iload_n C.1 C.2.1 dX8_eraseBy_113 rfl (lv_at hl 2 rfl) ?_
    refine lv_imul C.1 C.2.1 dX8_eraseBy_114 ?_
    refine lv_iconst (v := 3) C.1 C.2.1 dX8_eraseBy_115 (by decide) ?_
    refine lv_iadd C.1 C.2.1 dX8_eraseBy_116 ?_
    refine lv_iload C.1 C.2.1 dX8_eraseBy_117 (lv_at hl 3 rfl) ?_
    refine lv_isub C.1 C.2.1 dX8_eraseBy_119 ?_
    obtain ⟨h2, hf⟩ := ckx_el hf
    refine al_8_19 C hW h2 dX8_eraseBy_120 ?_
    refine lv_iconst (v := 3) C.1 C.2.1 dX8_eraseBy_121 (by decide) ?_
    refine lv_idiv C.1 C.2.1 dX8_eraseBy_122 (by decide) ?_
    obtain ⟨h3, hf⟩ := ckx_el hf
    refine al_8_17 C hW h3 dX8_eraseBy_123 ?_
    refine lv_iconst (v := 5) C.1 C.2.1 dX8_eraseBy_124 (by decide) ?_
    refine lv_icmp_ne (tgt := 159) C.1 C.2.1 dX8_eraseBy_125 (by decide) (fun q4 => ?_) (fun q4 => ?_)
    · replace hf := (if_neg q4).symm.trans hf
      exact mrV C hr hlocks hf hW dX8_eraseBy_159
    · replace hf := (if_pos q4).symm.trans hf
      refine lv_aload_n C.1 C.2.1 dX8_eraseBy_128 rfl (lv_at hl 0 rfl) ?_
      refine lv_iload_n C.1 C.2.1 dX8_eraseBy_129 rfl (lv_at hl 1 rfl) ?_
      obtain ⟨S7, h6, hf⟩ := bdo_el hf
      refine mcVv (w := wM cy a r) (S := S) (As := [.int x1]) (rest := []) (q0 := 0) (ci := 8) C (cX8_free_met l D cy a r _ N S x1 S7 h6) (cwV 1 C.2.2.2.2.1 gX8_eraseBy_X8_free rfl rfl rfl (by decide +kernel) ⟨Nat.le_of_ble_eq_true rfl, Nat.le_of_ble_eq_true rfl⟩) rfl rfl rfl hl.1 (Nat.le_of_ble_eq_true rfl) hW dX8_eraseBy_130 ⟨Nat.zero_le _, Nat.zero_le _⟩ rfl (fun H locs hW => ?_)
      refine lv_aload_n C.1 C.2.1 dX8_eraseBy_133 rfl (lv_at hl 0 rfl) ?_
      refine lv_aload_n C.1 C.2.1 dX8_eraseBy_134 rfl (lv_at hl 0 rfl) ?_
      refine fg_8_19 C kX8_eraseBy_8 mX8_eraseBy_113 hW dX8_eraseBy_135 ?_
      refine lv_iconst (v := 3) C.1 C.2.1 dX8_eraseBy_138 (by decide) ?_
      refine lv_iload_n C.1 C.2.1 dX8_eraseBy_139 rfl (lv_at hl 2 rfl) ?_
      refine lv_imul C.1 C.2.1 dX8_eraseBy_140 ?_
      refine lv_iconst (v := 3) C.1 C.2.1 dX8_eraseBy_141 (by decide) ?_
      refine lv_iadd C.1 C.2.1 dX8_eraseBy_142 ?_
      refine lv_iload C.1 C.2.1 dX8_eraseBy_143 (lv_at hl 3 rfl) ?_
      refine lv_isub C.1 C.2.1 dX8_eraseBy_145 ?_
      obtain ⟨h8, hf⟩ := ckx_el hf
      refine al_8_19 C hW h8 dX8_eraseBy_146 ?_
      refine lv_iconst (v := 3) C.1 C.2.1 dX8_eraseBy_147 (by decide) ?_
      refine lv_idiv C.1 C.2.1 dX8_eraseBy_148 (by decide) ?_
      obtain ⟨S11, h10, hf⟩ := bdo_el hf
      refine mcVv (w := wM cy a r) (S := S7) (As := [.int ((S7.2.1 19 (((((3 : Int32) * x3) + (3 : Int32)) - x4) : Int32).toNatClampNeg / (3 : Int32)))]) (rest := []) (q0 := 0) (ci := 8) C (cX8_free_met l D cy a r _ N S7 ((S7.2.1 19 (((((3 : Int32) * x3) + (3 : Int32)) - x4) : Int32).toNatClampNeg / (3 : Int32))) S11 h10) (cwV 1 C.2.2.2.2.1 gX8_eraseBy_X8_free rfl rfl rfl (by decide +kernel) ⟨Nat.le_of_ble_eq_true rfl, Nat.le_of_ble_eq_true rfl⟩) rfl rfl rfl hl.1 (Nat.le_of_ble_eq_true rfl) hW dX8_eraseBy_149 ⟨Nat.zero_le _, Nat.zero_le _⟩ rfl (fun H locs hW => ?_)
      refine lv_aload_n C.1 C.2.1 dX8_eraseBy_152 rfl (lv_at hl 0 rfl) ?_
      refine lv_iload_n C.1 C.2.1 dX8_eraseBy_153 rfl (lv_at hl 2 rfl) ?_
      refine lv_bipush (v := 6) C.1 C.2.1 dX8_eraseBy_154 (by decide) ?_
      obtain ⟨S14, h13, hf⟩ := bdo_el hf
      refine mcVv (w := wM cy a r) (S := S11) (As := [.int x3, .int (6 : Int32)]) (rest := []) (q0 := 0) (ci := 8) C (cX8_goes_met l D cy a r _ N S11 x3 (6 : Int32) S14 h13) (cwV 2 C.2.2.2.2.1 gX8_eraseBy_X8_goes rfl rfl rfl (by decide +kernel) ⟨Nat.le_of_ble_eq_true rfl, Nat.le_of_ble_eq_true rfl⟩) rfl rfl rfl hl.1 (Nat.le_of_ble_eq_true rfl) hW dX8_eraseBy_156 ⟨Nat.zero_le _, Nat.zero_le _⟩ rfl (fun H locs hW => ?_)
      exact mrV C hr hlocks hf hW dX8_eraseBy_159
def fX8_eraseBy_81 (N : Nat) (S : St) (x1 : Int32) (x3 : Int32) (x4 : Int32) : Option (St) :=
  bdo (fX8_free N S x1) fun S3 =>
  bdo (fX8_goes N S3 x3 (((1 : Int32) <<< (x4 &&& 31)))) fun S6 =>
  some S6
set_option maxHeartbeats 4000000 in
set_option maxRecDepth 100000 in
theorem lX8_eraseBy_81 {p : Program} {l : Launch} {e : Env} {s : State} {m : MethodId} {args : Array Value} {below : List Frame} {meth : Method} {c : Code} {D : va_G} {cy : Nat → ClassId} {a r : Nat → Nat} {A : Nat → Prop} {Rr : St} (C : Cx p s m args c cX8_eraseBy 6 wsX8_eraseBy RX8 D cy) (hr : meth.sig.returnType = none) (hlocks : meth.locks = false) (N : Nat) (S : St) (x1 : Int32) (x3 : Int32) (x4 : Int32) (hf : fX8_eraseBy_81 N S x1 x3 x4 = some Rr) : ∀ (H : Heap) (locs : List Loc) (ls : Array Slot), WW D A s.heap (wM cy a r S) H locs → lv_has ls 6 [(0, .ref (a 99)), (1, .int x1), (3, .int x3), (4, .int x4)] → W p l e ({ frames := 3, cells := 0, slots := 0, locals := 70 } : Room) s m args below meth c H locs 0 0 (MQ below (QV D cy (wM cy a r) A Rr) args s 0 0 A) (F0 m 81 ls []) := by
  intro H locs ls hW hl
  unfold fX8_eraseBy_81 at hf
  refine lv_aload_n C.1 C.2.1 dX8_eraseBy_81 rfl (lv_at hl 0 rfl) ?_
  refine lv_iload_n C.1 C.2.1 dX8_eraseBy_82 rfl (lv_at hl 1 rfl) ?_
  obtain ⟨S3, h2, hf⟩ := bdo_el hf
  refine mcVv (w := wM cy a r) (S := S) (As := [.int x1]) (rest := []) (q0 := 0) (ci := 8) C (cX8_free_met l D cy a r _ N S x1 S3 h2) (cwV 1 C.2.2.2.2.1 gX8_eraseBy_X8_free rfl rfl rfl (by decide +kernel) ⟨Nat.le_of_ble_eq_true rfl, Nat.le_of_ble_eq_true rfl⟩) rfl rfl rfl hl.1 (Nat.le_of_ble_eq_true rfl) hW dX8_eraseBy_83 ⟨Nat.zero_le _, Nat.zero_le _⟩ rfl (fun H locs hW => ?_)
  refine lv_aload_n C.1 C.2.1 dX8_eraseBy_86 rfl (lv_at hl 0 rfl) ?_
  refine lv_iload_n C.1 C.2.1 dX8_eraseBy_87 rfl (lv_at hl 2 rfl) ?_
  refine lv_iconst (v := 1) C.1 C.2.1 dX8_eraseBy_88 (by decide) ?_
  refine lv_iload C.1 C.2.1 dX8_eraseBy_89 (lv_at hl 3 rfl) ?_
  refine lv_ishl C.1 C.2.1 dX8_eraseBy_91 ?_
  obtain ⟨S6, h5, hf⟩ := bdo_el hf
  refine mcVv (w := wM cy a r) (S := S3) (As := [.int x3, .int (((1 : Int32) <<< (x4 &&& 31)))]) (rest := []) (q0 := 0) (ci := 8) C (cX8_goes_met l D cy a r _ N S3 x3 (((1 : Int32) <<< (x4 &&& 31))) S6 h5) (cwV 2 C.2.2.2.2.1 gX8_eraseBy_X8_goes rfl rfl rfl (by decide +kernel) ⟨Nat.le_of_ble_eq_true rfl, Nat.le_of_ble_eq_true rfl⟩) rfl rfl rfl hl.1 (Nat.le_of_ble_eq_true rfl) hW dX8_eraseBy_92 ⟨Nat.zero_le _, Nat.zero_le _⟩ rfl (fun H locs hW => ?_)
  refine lv_goto (tgt := 159) C.1 C.2.1 dX8_eraseBy_95 (by decide) ?_
  exact mrV C hr hlocks hf hW dX8_eraseBy_159
def fX8_eraseBy_57 (N : Nat) (S : St) (x1 : Int32) (x3 : Int32) (x4 : Int32) (x5 : Int32) : Option (St) :=
  if x4 = (1 : Int32) then
    if x5 = (3 : Int32) then
      fX8_eraseBy_81 N S x1 x3 x4
    else
      if x5 = (4 : Int32) then
        fX8_eraseBy_81 N S x1 x3 x4
      else
        if x5 = (1 : Int32) then
          fX8_eraseBy_81 N S x1 x3 x4
        else
          fX8_eraseBy_98 N S x1 x3 x4 x5
  else
    fX8_eraseBy_98 N S x1 x3 x4 x5
set_option maxHeartbeats 4000000 in
set_option maxRecDepth 100000 in
theorem lX8_eraseBy_57 {p : Program} {l : Launch} {e : Env} {s : State} {m : MethodId} {args : Array Value} {below : List Frame} {meth : Method} {c : Code} {D : va_G} {cy : Nat → ClassId} {a r : Nat → Nat} {A : Nat → Prop} {Rr : St} (C : Cx p s m args c cX8_eraseBy 6 wsX8_eraseBy RX8 D cy) (hr : meth.sig.returnType = none) (hlocks : meth.locks = false) (N : Nat) (S : St) (x1 : Int32) (x3 : Int32) (x4 : Int32) (x5 : Int32) (hf : fX8_eraseBy_57 N S x1 x3 x4 x5 = some Rr) : ∀ (H : Heap) (locs : List Loc) (ls : Array Slot), WW D A s.heap (wM cy a r S) H locs → lv_has ls 6 [(0, .ref (a 99)), (1, .int x1), (3, .int x3), (4, .int x4), (5, .int x5)] → W p l e ({ frames := 3, cells := 0, slots := 0, locals := 70 } : Room) s m args below meth c H locs 0 0 (MQ below (QV D cy (wM cy a r) A Rr) args s 0 0 A) (F0 m 57 ls []) := by
  intro H locs ls hW hl
  unfold fX8_eraseBy_57 at hf
  refine lv_iload C.1 C.2.1 dX8_eraseBy_57 (lv_at hl 3 rfl) ?_
  refine lv_iconst (v := 1) C.1 C.2.1 dX8_eraseBy_59 (by decide) ?_
  refine lv_icmp_ne (tgt := 98) C.1 C.2.1 dX8_eraseBy_60 (by decide) (fun q1 => ?_) (fun q1 => ?_)
  · replace hf := (if_neg q1).symm.trans hf
    exact lX8_eraseBy_98 C hr hlocks N _ _ _ _ _ hf _ _ _ hW (lv_sub hl [0, 1, 2, 3, 4] rfl)
  · replace hf := (if_pos q1).symm.trans hf
    refine lv_iload C.1 C.2.1 dX8_eraseBy_63 (lv_at hl 4 rfl) ?_
    refine lv_iconst (v := 3) C.1 C.2.1 dX8_eraseBy_65 (by decide) ?_
    refine lv_icmp_eq (tgt := 81) C.1 C.2.1 dX8_eraseBy_66 (by decide) (fun q2 => ?_) (fun q2 => ?_)
    · replace hf := (if_pos q2).symm.trans hf
      exact lX8_eraseBy_81 C hr hlocks N _ _ _ _ hf _ _ _ hW (lv_sub hl [0, 1, 2, 3] rfl)
    · replace hf := (if_neg q2).symm.trans hf
      refine lv_iload C.1 C.2.1 dX8_eraseBy_69 (lv_at hl 4 rfl) ?_
      refine lv_iconst (v := 4) C.1 C.2.1 dX8_eraseBy_71 (by decide) ?_
      refine lv_icmp_eq (tgt := 81) C.1 C.2.1 dX8_eraseBy_72 (by decide) (fun q3 => ?_) (fun q3 => ?_)
      · replace hf := (if_pos q3).symm.trans hf
        exact lX8_eraseBy_81 C hr hlocks N _ _ _ _ hf _ _ _ hW (lv_sub hl [0, 1, 2, 3] rfl)
      · replace hf := (if_neg q3).symm.trans hf
        refine lv_iload C.1 C.2.1 dX8_eraseBy_75 (lv_at hl 4 rfl) ?_
        refine lv_iconst (v := 1) C.1 C.2.1 dX8_eraseBy_77 (by decide) ?_
        refine lv_icmp_ne (tgt := 98) C.1 C.2.1 dX8_eraseBy_78 (by decide) (fun q4 => ?_) (fun q4 => ?_)
        · replace hf := (if_neg q4).symm.trans hf
          exact lX8_eraseBy_98 C hr hlocks N _ _ _ _ _ hf _ _ _ hW (lv_sub hl [0, 1, 2, 3, 4] rfl)
        · replace hf := (if_pos q4).symm.trans hf
          exact lX8_eraseBy_81 C hr hlocks N _ _ _ _ hf _ _ _ hW (lv_sub hl [0, 1, 2, 3] rfl)
def fX8_eraseBy (N : Nat) (S : St) (p1 : Int32) : Option (St) :=
  ckx (((3 : Int32) * p1)) 9030 <|
  bnd (S.2.1 19 (((3 : Int32) * p1) : Int32).toNatClampNeg) fun z2 =>
  bnd ((z2 / (3 : Int32))) fun z3 =>
  bnd ((z2 - z2 / (3 : Int32) * (3 : Int32))) fun z4 =>
  ckx z3 3010 <|
  bnd (S.2.1 17 (z3 : Int32).toNatClampNeg) fun z6 =>
  if z6 = (5 : Int32) then
    bdo (fX8_free N S p1) fun S12 =>
    bdo (fX8_free N S12 z3) fun S15 =>
    some S15
  else
    if z4 = 0 then
      if z6 = (6 : Int32) then
        fX8_eraseBy_57 N S p1 z3 z4 z6
      else
        fX8_eraseBy_81 N S p1 z3 z4
    else
      fX8_eraseBy_57 N S p1 z3 z4 z6
set_option maxHeartbeats 4000000 in
set_option maxRecDepth 100000 in
theorem cX8_eraseBy_met (l : Launch) (D : va_G) (cy : Nat → ClassId) (a r : Nat → Nat) (sz N : Nat) (S : St) (p1 : Int32) (Rr : St) (hf : fX8_eraseBy N S p1 = some Rr) : Met l yX8_eraseBy wsX8_eraseBy ({ frames := 3, cells := 0, slots := 0, locals := 70 } : Room) (va_Pc [.ref (a 99), .int p1] (preW D cy (wM cy a r S) sz)) (QV D cy (wM cy a r) (va_A (wM cy a r S) sz) Rr) 0 0 (va_A (wM cy a r S) sz) := by
  refine Met.ofW (cc := cX8_eraseBy) (maxL := 6) (ret := none) (by decide) rfl ?_
  intro p e s m args below meth c s₁ B hml hv
  obtain ⟨rfl, rfl, hP, hK, hD0, hN⟩ := hv
  have hlocks := B.notSynchronized
  have hr := B.returns
  have C : Cx p s m _ c cX8_eraseBy 6 wsX8_eraseBy RX8 D cy := ⟨B.exec, B.bytes, hml, findClass_of_methodNamed B.named, atoms_spec (ws := wsX8_eraseBy) B.pre, hK, hN⟩
  have hW := ww_start (w := wM cy a r) hP hD0
  generalize va_A (wM cy a r S) s.heap.size = A at hW ⊢
  have hl := lv_entry ([.ref (a 99), .int p1]) (n := 6) (Nat.le_of_ble_eq_true rfl)
  rw [lg_entry_eq]
  generalize (lg_sl ([.ref (a 99), .int p1]) ++ List.replicate (6 - (lg_sl ([.ref (a 99), .int p1])).length) Slot.unset).toArray = ls at hl ⊢
  have hl : lv_has ls 6 [(0, .ref (a 99)), (1, .int p1)] := hl
  unfold fX8_eraseBy at hf
  refine lv_aload_n C.1 C.2.1 dX8_eraseBy_0 rfl (lv_at hl 0 rfl) ?_
  refine fg_8_19 C kX8_eraseBy_8 mX8_eraseBy_113 hW dX8_eraseBy_1 ?_
  refine lv_iconst (v := 3) C.1 C.2.1 dX8_eraseBy_4 (by decide) ?_
  refine lv_iload_n C.1 C.2.1 dX8_eraseBy_5 rfl (lv_at hl 1 rfl) ?_
  refine lv_imul C.1 C.2.1 dX8_eraseBy_6 ?_
  obtain ⟨h1, hf⟩ := ckx_el hf
  refine al_8_19 C hW h1 dX8_eraseBy_7 ?_
  obtain ⟨z2, ez2, hf⟩ := bnd_el hf
  refine lv_as ez2 ?_
  refine lv_istore_n (lv' := [(2, .int z2), (0, .ref (a 99)), (1, .int p1)]) C.1 C.2.1 dX8_eraseBy_8 rfl hl (by decide) rfl (fun ls hl => ?_)
  refine lv_iload_n C.1 C.2.1 dX8_eraseBy_9 rfl (lv_at hl 0 rfl) ?_
  refine lv_iconst (v := 3) C.1 C.2.1 dX8_eraseBy_10 (by decide) ?_
  refine lv_idiv C.1 C.2.1 dX8_eraseBy_11 (by decide) ?_
  obtain ⟨z3, ez3, hf⟩ := bnd_el hf
  refine lv_as ez3 ?_
  refine lv_istore_n (lv' := [(3, .int z3), (2, .int z2), (0, .ref (a 99)), (1, .int p1)]) C.1 C.2.1 dX8_eraseBy_12 rfl hl (by decide) rfl (fun ls hl => ?_)
  refine lv_iload_n C.1 C.2.1 dX8_eraseBy_13 rfl (lv_at hl 1 rfl) ?_
  refine lv_iconst (v := 3) C.1 C.2.1 dX8_eraseBy_14 (by decide) ?_
  refine lv_irem C.1 C.2.1 dX8_eraseBy_15 (by decide) ?_
  obtain ⟨z4, ez4, hf⟩ := bnd_el hf
  refine lv_as ez4 ?_
  refine lv_istore (lv' := [(4, .int z4), (3, .int z3), (2, .int z2), (0, .ref (a 99)), (1, .int p1)]) C.1 C.2.1 dX8_eraseBy_16 hl (by decide) rfl (fun ls hl => ?_)
  refine lv_aload_n C.1 C.2.1 dX8_eraseBy_18 rfl (lv_at hl 3 rfl) ?_
  refine fg_8_17 C kX8_eraseBy_8 mX8_eraseBy_98 hW dX8_eraseBy_19 ?_
  refine lv_iload_n C.1 C.2.1 dX8_eraseBy_22 rfl (lv_at hl 1 rfl) ?_
  obtain ⟨h5, hf⟩ := ckx_el hf
  refine al_8_17 C hW h5 dX8_eraseBy_23 ?_
  obtain ⟨z6, ez6, hf⟩ := bnd_el hf
  refine lv_as ez6 ?_
  refine lv_istore (lv' := [(5, .int z6), (4, .int z4), (3, .int z3), (2, .int z2), (0, .ref (a 99)), (1, .int p1)]) C.1 C.2.1 dX8_eraseBy_24 hl (by decide) rfl (fun ls hl => ?_)
  refine lv_iload C.1 C.2.1 dX8_eraseBy_26 (lv_at hl 0 rfl) ?_
  refine lv_iconst (v := 5) C.1 C.2.1 dX8_eraseBy_28 (by decide) ?_
  refine lv_icmp_ne (tgt := 45) C.1 C.2.1 dX8_eraseBy_29 (by decide) (fun q7 => ?_) (fun q7 => ?_)
  · replace hf := (if_neg q7).symm.trans hf
    refine lv_iload C.1 C.2.1 dX8_eraseBy_45 (lv_at hl 1 rfl) ?_
    refine lv_if_ne (tgt := 57) C.1 C.2.1 dX8_eraseBy_47 (by decide) (fun q8 => ?_) (fun q8 => ?_)
    · replace hf := (if_neg q8).symm.trans hf
      exact lX8_eraseBy_57 C hr hlocks N _ _ _ _ _ hf _ _ _ hW (lv_sub hl [4, 5, 2, 1, 0] rfl)
    · replace hf := (if_pos q8).symm.trans hf
      refine lv_iload C.1 C.2.1 dX8_eraseBy_50 (lv_at hl 0 rfl) ?_
      refine lv_bipush (v := 6) C.1 C.2.1 dX8_eraseBy_52 (by decide) ?_
      refine lv_icmp_ne (tgt := 81) C.1 C.2.1 dX8_eraseBy_54 (by decide) (fun q9 => ?_) (fun q9 => ?_)
      · replace hf := (if_neg q9).symm.trans hf
        exact lX8_eraseBy_81 C hr hlocks N _ _ _ _ hf _ _ _ hW (lv_sub hl [4, 5, 2, 1] rfl)
      · replace hf := (if_pos q9).symm.trans hf
        exact lX8_eraseBy_57 C hr hlocks N _ _ _ _ _ hf _ _ _ hW (lv_sub hl [4, 5, 2, 1, 0] rfl)
  · replace hf := (if_pos q7).symm.trans hf
    refine lv_aload_n C.1 C.2.1 dX8_eraseBy_32 rfl (lv_at hl 4 rfl) ?_
    refine lv_iload_n C.1 C.2.1 dX8_eraseBy_33 rfl (lv_at hl 5 rfl) ?_
    obtain ⟨S12, h11, hf⟩ := bdo_el hf
    refine mcVv (w := wM cy a r) (S := S) (As := [.int p1]) (rest := []) (q0 := 0) (ci := 8) C (cX8_free_met l D cy a r _ N S p1 S12 h11) (cwV 1 C.2.2.2.2.1 gX8_eraseBy_X8_free rfl rfl rfl (by decide +kernel) ⟨Nat.le_of_ble_eq_true rfl, Nat.le_of_ble_eq_true rfl⟩) rfl rfl rfl hl.1 (Nat.le_of_ble_eq_true rfl) hW dX8_eraseBy_34 ⟨Nat.zero_le _, Nat.zero_le _⟩ rfl (fun H locs hW => ?_)
    refine lv_aload_n C.1 C.2.1 dX8_eraseBy_37 rfl (lv_at hl 4 rfl) ?_
    refine lv_iload_n C.1 C.2.1 dX8_eraseBy_38 rfl (lv_at hl 2 rfl) ?_
    obtain ⟨S15, h14, hf⟩ := bdo_el hf
    refine mcVv (w := wM cy a r) (S := S12) (As := [.int z3]) (rest := []) (q0 := 0) (ci := 8) C (cX8_free_met l D cy a r _ N S12 z3 S15 h14) (cwV 1 C.2.2.2.2.1 gX8_eraseBy_X8_free rfl rfl rfl (by decide +kernel) ⟨Nat.le_of_ble_eq_true rfl, Nat.le_of_ble_eq_true rfl⟩) rfl rfl rfl hl.1 (Nat.le_of_ble_eq_true rfl) hW dX8_eraseBy_39 ⟨Nat.zero_le _, Nat.zero_le _⟩ rfl (fun H locs hW => ?_)
    refine lv_goto (tgt := 159) C.1 C.2.1 dX8_eraseBy_42 (by decide) ?_
    exact mrV C hr hlocks hf hW dX8_eraseBy_159
theorem mX8_erase_110 : Cond.fieldLink RX8 110 "SharedLambdaModel" "restlessCount" "I" ∈ wsX8_erase := by decide +kernel
theorem mX8_erase_107 : Cond.fieldLink RX8 107 "SharedLambdaModel" "restless" "[I" ∈ wsX8_erase := by decide +kernel
theorem mX8_erase_98 : Cond.fieldLink RX8 98 "SharedLambdaModel" "kinds" "[I" ∈ wsX8_erase := by decide +kernel
theorem kX8_erase_8 : ∀ w ∈ u_ws RX8 TX8 58, w ∈ wsX8_erase := fun _ h => List.mem_cons_of_mem _ (List.mem_append_right _ h)
def fX8_erase_42 (N : Nat) (k0 : St → Option (St)) (S : St) : Option (St) :=
  k0 (S)
set_option maxHeartbeats 4000000 in
set_option maxRecDepth 100000 in
theorem lX8_erase_42 {p : Program} {l : Launch} {e : Env} {s : State} {m : MethodId} {args : Array Value} {below : List Frame} {meth : Method} {c : Code} {D : va_G} {cy : Nat → ClassId} {a r : Nat → Nat} {A : Nat → Prop} {Rr : St} (C : Cx p s m args c cX8_erase 2 wsX8_erase RX8 D cy) (hr : meth.sig.returnType = none) (hlocks : meth.locks = false) (N : Nat) (k0 : St → Option (St)) (hk0 : ∀ (S : St), k0 (S) = some Rr → ∀ (H : Heap) (locs : List Loc) (ls : Array Slot), WW D A s.heap (wM cy a r S) H locs → lv_has ls 2 [(0, .ref (a 99))] → W p l e ({ frames := 4, cells := 0, slots := 0, locals := 95 } : Room) s m args below meth c H locs 0 0 (MQ below (QV D cy (wM cy a r) A Rr) args s 0 0 A) (F0 m 0 ls [])) (S : St) (hf : fX8_erase_42 N k0 S = some Rr) : ∀ (H : Heap) (locs : List Loc) (ls : Array Slot), WW D A s.heap (wM cy a r S) H locs → lv_has ls 2 [(0, .ref (a 99))] → W p l e ({ frames := 4, cells := 0, slots := 0, locals := 95 } : Room) s m args below meth c H locs 0 0 (MQ below (QV D cy (wM cy a r) A Rr) args s 0 0 A) (F0 m 42 ls []) := by
  intro H locs ls hW hl
  unfold fX8_erase_42 at hf
  refine lv_goto (tgt := 0) C.1 C.2.1 dX8_erase_42 (by decide) ?_
  exact hk0 _ hf _ _ _ hW (lv_sub hl [0] rfl)
def fX8_erase_0s (N : Nat) (k0 : St → Option (St)) (S : St) : Option (St) :=
  if S.1 28 ≤ 0 then
    some S
  else
    bnd (sI S 28 ((S.1 28 - (1 : Int32)))) fun S2 =>
    ckx (S2.1 28) 12000 <|
    bnd (S2.2.1 27 (S2.1 28 : Int32).toNatClampNeg) fun z4 =>
    ckx z4 3010 <|
    if S2.2.1 17 (z4 : Int32).toNatClampNeg = (5 : Int32) then
      bdo (fX8_eraseBy N S2 z4) fun S9 =>
      fX8_erase_42 N k0 S9
    else
      fX8_erase_42 N k0 S2
def fX8_erase_0 (N : Nat) : St → Option (St) := loopN (fun k x => fX8_erase_0s N k x) N
set_option maxHeartbeats 4000000 in
set_option maxRecDepth 100000 in
theorem lX8_erase_0 {p : Program} {l : Launch} {e : Env} {s : State} {m : MethodId} {args : Array Value} {below : List Frame} {meth : Method} {c : Code} {D : va_G} {cy : Nat → ClassId} {a r : Nat → Nat} {A : Nat → Prop} {Rr : St} (C : Cx p s m args c cX8_erase 2 wsX8_erase RX8 D cy) (hr : meth.sig.returnType = none) (hlocks : meth.locks = false) (N : Nat) : ∀ (n : Nat) (S : St), loopN (fun k x => fX8_erase_0s N k x) n (S) = some Rr → ∀ (H : Heap) (locs : List Loc) (ls : Array Slot), WW D A s.heap (wM cy a r S) H locs → lv_has ls 2 [(0, .ref (a 99))] → W p l e ({ frames := 4, cells := 0, slots := 0, locals := 95 } : Room) s m args below meth c H locs 0 0 (MQ below (QV D cy (wM cy a r) A Rr) args s 0 0 A) (F0 m 0 ls []) := by
  intro n
  induction n with
  | zero =>
    intro S hf
    cases hf
  | succ n ih =>
    intro S hf H locs ls hW hl
    have hf : fX8_erase_0s N (loopN (fun k x => fX8_erase_0s N k x) n) S = some Rr := hf
    unfold fX8_erase_0s at hf
    refine lv_aload_n C.1 C.2.1 dX8_erase_0 rfl (lv_at hl 0 rfl) ?_
    refine fg_8_28 C kX8_erase_8 mX8_erase_110 hW dX8_erase_1 ?_
    refine lv_if_le (tgt := 45) C.1 C.2.1 dX8_erase_4 (by decide) (fun q1 => ?_) (fun q1 => ?_)
    · replace hf := (if_pos q1).symm.trans hf
      exact mrV C hr hlocks hf hW dX8_erase_45
    · replace hf := (if_neg q1).symm.trans hf
      refine lv_aload_n C.1 C.2.1 dX8_erase_7 rfl (lv_at hl 0 rfl) ?_
      refine lv_dup C.1 C.2.1 dX8_erase_8 rfl ?_
      refine fg_8_28 C kX8_erase_8 mX8_erase_110 hW dX8_erase_9 ?_
      refine lv_iconst (v := 1) C.1 C.2.1 dX8_erase_12 (by decide) ?_
      refine lv_isub C.1 C.2.1 dX8_erase_13 ?_
      obtain ⟨S2, eS2, hf⟩ := bnd_el hf
      refine fp_8_28 C kX8_erase_8 mX8_erase_110 hW dX8_erase_14 eS2 (fun H locs hW => ?_)
      refine lv_aload_n C.1 C.2.1 dX8_erase_17 rfl (lv_at hl 0 rfl) ?_
      refine fg_8_27 C kX8_erase_8 mX8_erase_107 hW dX8_erase_18 ?_
      refine lv_aload_n C.1 C.2.1 dX8_erase_21 rfl (lv_at hl 0 rfl) ?_
      refine fg_8_28 C kX8_erase_8 mX8_erase_110 hW dX8_erase_22 ?_
      obtain ⟨h3, hf⟩ := ckx_el hf
      refine al_8_27 C hW h3 dX8_erase_25 ?_
      obtain ⟨z4, ez4, hf⟩ := bnd_el hf
      refine lv_as ez4 ?_
      refine lv_istore_n (lv' := [(1, .int z4), (0, .ref (a 99))]) C.1 C.2.1 dX8_erase_26 rfl hl (by decide) rfl (fun ls hl => ?_)
      refine lv_aload_n C.1 C.2.1 dX8_erase_27 rfl (lv_at hl 1 rfl) ?_
      refine fg_8_17 C kX8_erase_8 mX8_erase_98 hW dX8_erase_28 ?_
      refine lv_iload_n C.1 C.2.1 dX8_erase_31 rfl (lv_at hl 0 rfl) ?_
      obtain ⟨h5, hf⟩ := ckx_el hf
      refine al_8_17 C hW h5 dX8_erase_32 ?_
      refine lv_iconst (v := 5) C.1 C.2.1 dX8_erase_33 (by decide) ?_
      refine lv_icmp_ne (tgt := 42) C.1 C.2.1 dX8_erase_34 (by decide) (fun q6 => ?_) (fun q6 => ?_)
      · replace hf := (if_neg q6).symm.trans hf
        exact lX8_erase_42 C hr hlocks N _ ih _ hf _ _ _ hW (lv_sub hl [1] rfl)
      · replace hf := (if_pos q6).symm.trans hf
        refine lv_aload_n C.1 C.2.1 dX8_erase_37 rfl (lv_at hl 1 rfl) ?_
        refine lv_iload_n C.1 C.2.1 dX8_erase_38 rfl (lv_at hl 0 rfl) ?_
        obtain ⟨S9, h8, hf⟩ := bdo_el hf
        refine mcVv (w := wM cy a r) (S := S2) (As := [.int z4]) (rest := []) (q0 := 0) (ci := 8) C (cX8_eraseBy_met l D cy a r _ N S2 z4 S9 h8) (cwV 1 C.2.2.2.2.1 gX8_erase_X8_eraseBy rfl rfl rfl (by decide +kernel) ⟨Nat.le_of_ble_eq_true rfl, Nat.le_of_ble_eq_true rfl⟩) rfl rfl rfl hl.1 (Nat.le_of_ble_eq_true rfl) hW dX8_erase_39 ⟨Nat.zero_le _, Nat.zero_le _⟩ rfl (fun H locs hW => ?_)
        exact lX8_erase_42 C hr hlocks N _ ih _ hf _ _ _ hW (lv_sub hl [1] rfl)
def fX8_erase (N : Nat) (S : St) : Option (St) :=
  fX8_erase_0 N (S)
set_option maxHeartbeats 4000000 in
set_option maxRecDepth 100000 in
theorem cX8_erase_met (l : Launch) (D : va_G) (cy : Nat → ClassId) (a r : Nat → Nat) (sz N : Nat) (S : St) (Rr : St) (hf : fX8_erase N S  = some Rr) : Met l yX8_erase wsX8_erase ({ frames := 4, cells := 0, slots := 0, locals := 95 } : Room) (va_Pc [.ref (a 99)] (preW D cy (wM cy a r S) sz)) (QV D cy (wM cy a r) (va_A (wM cy a r S) sz) Rr) 0 0 (va_A (wM cy a r S) sz) := by
  refine Met.ofW (cc := cX8_erase) (maxL := 2) (ret := none) (by decide) rfl ?_
  intro p e s m args below meth c s₁ B hml hv
  obtain ⟨rfl, rfl, hP, hK, hD0, hN⟩ := hv
  have hlocks := B.notSynchronized
  have hr := B.returns
  have C : Cx p s m _ c cX8_erase 2 wsX8_erase RX8 D cy := ⟨B.exec, B.bytes, hml, findClass_of_methodNamed B.named, atoms_spec (ws := wsX8_erase) B.pre, hK, hN⟩
  have hW := ww_start (w := wM cy a r) hP hD0
  generalize va_A (wM cy a r S) s.heap.size = A at hW ⊢
  have hl := lv_entry ([.ref (a 99)]) (n := 2) (Nat.le_of_ble_eq_true rfl)
  rw [lg_entry_eq]
  generalize (lg_sl ([.ref (a 99)]) ++ List.replicate (2 - (lg_sl ([.ref (a 99)])).length) Slot.unset).toArray = ls at hl ⊢
  have hl : lv_has ls 2 [(0, .ref (a 99))] := hl
  unfold fX8_erase at hf
  exact lX8_erase_0 C hr hlocks N _ _ hf _ _ _ hW (lv_sub hl [0] rfl)
