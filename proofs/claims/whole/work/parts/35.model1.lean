theorem mX8_begin_104 : Cond.fieldLink RX8 104 "SharedLambdaModel" "nodes" "I" ∈ wsX8_begin := by decide +kernel
theorem mX8_begin_144 : Cond.fieldLink RX8 144 "SharedLambdaModel" "betas" "I" ∈ wsX8_begin := by decide +kernel
theorem mX8_begin_147 : Cond.fieldLink RX8 147 "SharedLambdaModel" "annihilations" "I" ∈ wsX8_begin := by decide +kernel
theorem mX8_begin_150 : Cond.fieldLink RX8 150 "SharedLambdaModel" "passings" "I" ∈ wsX8_begin := by decide +kernel
theorem mX8_begin_153 : Cond.fieldLink RX8 153 "SharedLambdaModel" "erased" "I" ∈ wsX8_begin := by decide +kernel
theorem mX8_begin_110 : Cond.fieldLink RX8 110 "SharedLambdaModel" "restlessCount" "I" ∈ wsX8_begin := by decide +kernel
theorem mX8_begin_156 : Cond.fieldLink RX8 156 "SharedLambdaModel" "letters" "I" ∈ wsX8_begin := by decide +kernel
theorem mX8_begin_98 : Cond.fieldLink RX8 98 "SharedLambdaModel" "kinds" "[I" ∈ wsX8_begin := by decide +kernel
theorem mX8_begin_95 : Cond.fieldLink RX8 95 "SharedLambdaModel" "spare" "[I" ∈ wsX8_begin := by decide +kernel
theorem mX8_begin_92 : Cond.fieldLink RX8 92 "SharedLambdaModel" "spares" "I" ∈ wsX8_begin := by decide +kernel
theorem kX8_begin_8 : ∀ w ∈ u_ws RX8 TX8 58, w ∈ wsX8_begin := fun _ h => List.mem_cons_of_mem _ (List.mem_append_right _ h)
def fX8_begin_9s (N : Nat) (k9 : St × Int32 × Int32 → Option (St)) (S : St) (x1 : Int32) (x2 : Int32) : Option (St) :=
  if x2 < 0 then
    bnd (sI S 22 (0 : Int32)) fun S2 =>
    bnd (sI S2 23 (0 : Int32)) fun S3 =>
    bnd (sI S3 24 (0 : Int32)) fun S4 =>
    bnd (sI S4 25 (0 : Int32)) fun S5 =>
    bnd (sI S5 26 (0 : Int32)) fun S6 =>
    bnd (sI S6 28 (0 : Int32)) fun S7 =>
    bnd (sI S7 47 (0 : Int32)) fun S8 =>
    bd2 (fX8_node N S8 (6 : Int32) (0 : Int32)) fun v9 S11 =>
    bd2 (fX8_build N S11 x1) fun v12 S14 =>
    bdo (fX8_wire N S14 (((3 : Int32) * v9)) v12) fun S17 =>
    bdo (fX8_erase N S17) fun S20 =>
    some S20
  else
    ckx x2 3010 <|
    bnd (sA S 17 (upd (S.2.1 17) (x2 : Int32).toNatClampNeg (7 : Int32))) fun S22 =>
    ckx (S22.1 21) 3010 <|
    bnd (sA S22 20 (upd (S22.2.1 20) (S22.1 21 : Int32).toNatClampNeg x2)) fun S24 =>
    bnd (sI S24 21 ((S24.1 21 + (1 : Int32)))) fun S25 =>
    bnd (x2 + (-1 : Int32)) fun z26 =>
    k9 (S25, x1, z26)
def fX8_begin_9 (N : Nat) : St × Int32 × Int32 → Option (St) := loopN (fun k x => fX8_begin_9s N k x.1 x.2.1 x.2.2) N
set_option maxHeartbeats 4000000 in
set_option maxRecDepth 100000 in
theorem lX8_begin_9 {p : Program} {l : Launch} {e : Env} {s : State} {m : MethodId} {args : Array Value} {below : List Frame} {meth : Method} {c : Code} {D : va_G} {cy : Nat → ClassId} {a r : Nat → Nat} {A : Nat → Prop} {Rr : St} (C : Cx p s m args c cX8_begin 3 wsX8_begin RX8 D cy) (hr : meth.sig.returnType = none) (hlocks : meth.locks = false) (N : Nat) : ∀ (n : Nat) (S : St) (x1 : Int32) (x2 : Int32), loopN (fun k x => fX8_begin_9s N k x.1 x.2.1 x.2.2) n (S, x1, x2) = some Rr → ∀ (H : Heap) (locs : List Loc) (ls : Array Slot), WW D A s.heap (wM cy a r S) H locs → lv_has ls 3 [(0, .ref (a 99)), (1, .int x1), (2, .int x2)] → W p l e ({ frames := 5, cells := 0, slots := 0, locals := 116 } : Room) s m args below meth c H locs 0 0 (MQ below (QV D cy (wM cy a r) A Rr) args s 0 0 A) (F0 m 9 ls []) := by
  intro n
  induction n with
  | zero =>
    intro S x1 x2 hf
    cases hf
  | succ n ih =>
    intro S x1 x2 hf H locs ls hW hl
    have hf : fX8_begin_9s N (loopN (fun k x => fX8_begin_9s N k x.1 x.2.1 x.2.2) n) S x1 x2 = some Rr := hf
    unfold fX8_begin_9s at hf
    refine lv_iload_n C.1 C.2.1 dX8_begin_9 rfl (lv_at hl 2 rfl) ?_
    refine lv_if_lt (tgt := 47) C.1 C.2.1 dX8_begin_10 (by decide) (fun q1 => ?_) (fun q1 => ?_)
    · replace hf := (if_pos q1).symm.trans hf
      refine lv_aload_n C.1 C.2.1 dX8_begin_47 rfl (lv_at hl 0 rfl) ?_
      refine lv_iconst (v := 0) C.1 C.2.1 dX8_begin_48 (by decide) ?_
      obtain ⟨S2, eS2, hf⟩ := bnd_el hf
      refine fp_8_22 C kX8_begin_8 mX8_begin_104 hW dX8_begin_49 eS2 (fun H locs hW => ?_)
      refine lv_aload_n C.1 C.2.1 dX8_begin_52 rfl (lv_at hl 0 rfl) ?_
      refine lv_iconst (v := 0) C.1 C.2.1 dX8_begin_53 (by decide) ?_
      obtain ⟨S3, eS3, hf⟩ := bnd_el hf
      refine fp_8_23 C kX8_begin_8 mX8_begin_144 hW dX8_begin_54 eS3 (fun H locs hW => ?_)
      refine lv_aload_n C.1 C.2.1 dX8_begin_57 rfl (lv_at hl 0 rfl) ?_
      refine lv_iconst (v := 0) C.1 C.2.1 dX8_begin_58 (by decide) ?_
      obtain ⟨S4, eS4, hf⟩ := bnd_el hf
      refine fp_8_24 C kX8_begin_8 mX8_begin_147 hW dX8_begin_59 eS4 (fun H locs hW => ?_)
      refine lv_aload_n C.1 C.2.1 dX8_begin_62 rfl (lv_at hl 0 rfl) ?_
      refine lv_iconst (v := 0) C.1 C.2.1 dX8_begin_63 (by decide) ?_
      obtain ⟨S5, eS5, hf⟩ := bnd_el hf
      refine fp_8_25 C kX8_begin_8 mX8_begin_150 hW dX8_begin_64 eS5 (fun H locs hW => ?_)
      refine lv_aload_n C.1 C.2.1 dX8_begin_67 rfl (lv_at hl 0 rfl) ?_
      refine lv_iconst (v := 0) C.1 C.2.1 dX8_begin_68 (by decide) ?_
      obtain ⟨S6, eS6, hf⟩ := bnd_el hf
      refine fp_8_26 C kX8_begin_8 mX8_begin_153 hW dX8_begin_69 eS6 (fun H locs hW => ?_)
      refine lv_aload_n C.1 C.2.1 dX8_begin_72 rfl (lv_at hl 0 rfl) ?_
      refine lv_iconst (v := 0) C.1 C.2.1 dX8_begin_73 (by decide) ?_
      obtain ⟨S7, eS7, hf⟩ := bnd_el hf
      refine fp_8_28 C kX8_begin_8 mX8_begin_110 hW dX8_begin_74 eS7 (fun H locs hW => ?_)
      refine lv_aload_n C.1 C.2.1 dX8_begin_77 rfl (lv_at hl 0 rfl) ?_
      refine lv_iconst (v := 0) C.1 C.2.1 dX8_begin_78 (by decide) ?_
      obtain ⟨S8, eS8, hf⟩ := bnd_el hf
      refine fp_8_47 C kX8_begin_8 mX8_begin_156 hW dX8_begin_79 eS8 (fun H locs hW => ?_)
      refine lv_aload_n C.1 C.2.1 dX8_begin_82 rfl (lv_at hl 0 rfl) ?_
      refine lv_iconst (v := 3) C.1 C.2.1 dX8_begin_83 (by decide) ?_
      refine lv_aload_n C.1 C.2.1 dX8_begin_84 rfl (lv_at hl 0 rfl) ?_
      refine lv_bipush (v := 6) C.1 C.2.1 dX8_begin_85 (by decide) ?_
      refine lv_iconst (v := 0) C.1 C.2.1 dX8_begin_87 (by decide) ?_
      obtain ⟨v9, S11, h10, hf⟩ := bd2_el hf
      refine mcVi (w := wM cy a r) (S := S8) (As := [.int (6 : Int32), .int (0 : Int32)]) (rest := [.int (3 : Int32), .ref (a 99)]) (q0 := 0) (ci := 8) C (cX8_node_met l D cy a r _ N S8 (6 : Int32) (0 : Int32) (v9, S11) h10) (cwV 2 C.2.2.2.2.1 gX8_begin_X8_node rfl rfl rfl (by decide +kernel) ⟨Nat.le_of_ble_eq_true rfl, Nat.le_of_ble_eq_true rfl⟩) rfl rfl rfl hl.1 (Nat.le_of_ble_eq_true rfl) hW dX8_begin_88 ⟨Nat.zero_le _, Nat.zero_le _⟩ rfl (fun H locs hW => ?_)
      refine lv_imul C.1 C.2.1 dX8_begin_91 ?_
      refine lv_aload_n C.1 C.2.1 dX8_begin_92 rfl (lv_at hl 0 rfl) ?_
      refine lv_iload_n C.1 C.2.1 dX8_begin_93 rfl (lv_at hl 1 rfl) ?_
      obtain ⟨v12, S14, h13, hf⟩ := bd2_el hf
      refine mcVi (w := wM cy a r) (S := S11) (As := [.int x1]) (rest := [.int (((3 : Int32) * v9)), .ref (a 99)]) (q0 := 0) (ci := 8) C (cX8_build_met l D cy a r _ N S11 x1 (v12, S14) h13) (cwV 1 C.2.2.2.2.1 gX8_begin_X8_build rfl rfl rfl (by decide +kernel) ⟨Nat.le_of_ble_eq_true rfl, Nat.le_of_ble_eq_true rfl⟩) rfl rfl rfl hl.1 (Nat.le_of_ble_eq_true rfl) hW dX8_begin_94 ⟨Nat.zero_le _, Nat.zero_le _⟩ rfl (fun H locs hW => ?_)
      obtain ⟨S17, h16, hf⟩ := bdo_el hf
      refine mcVv (w := wM cy a r) (S := S14) (As := [.int (((3 : Int32) * v9)), .int v12]) (rest := []) (q0 := 0) (ci := 8) C (cX8_wire_met l D cy a r _ N S14 (((3 : Int32) * v9)) v12 S17 h16) (cwV 2 C.2.2.2.2.1 gX8_begin_X8_wire rfl rfl rfl (by decide +kernel) ⟨Nat.le_of_ble_eq_true rfl, Nat.le_of_ble_eq_true rfl⟩) rfl rfl rfl hl.1 (Nat.le_of_ble_eq_true rfl) hW dX8_begin_97 ⟨Nat.zero_le _, Nat.zero_le _⟩ rfl (fun H locs hW => ?_)
      refine lv_aload_n C.1 C.2.1 dX8_begin_100 rfl (lv_at hl 0 rfl) ?_
      obtain ⟨S20, h19, hf⟩ := bdo_el hf
      refine mcVv (w := wM cy a r) (S := S17) (As := []) (rest := []) (q0 := 0) (ci := 8) C (cX8_erase_met l D cy a r _ N S17  S20 h19) (cwV 0 C.2.2.2.2.1 gX8_begin_X8_erase rfl rfl rfl (by decide +kernel) ⟨Nat.le_of_ble_eq_true rfl, Nat.le_of_ble_eq_true rfl⟩) rfl rfl rfl hl.1 (Nat.le_of_ble_eq_true rfl) hW dX8_begin_101 ⟨Nat.zero_le _, Nat.zero_le _⟩ rfl (fun H locs hW => ?_)
      exact mrV C hr hlocks hf hW dX8_begin_104
    · replace hf := (if_neg q1).symm.trans hf
      refine lv_aload_n C.1 C.2.1 dX8_begin_13 rfl (lv_at hl 0 rfl) ?_
      refine fg_8_17 C kX8_begin_8 mX8_begin_98 hW dX8_begin_14 ?_
      refine lv_iload_n C.1 C.2.1 dX8_begin_17 rfl (lv_at hl 2 rfl) ?_
      refine lv_bipush (v := 7) C.1 C.2.1 dX8_begin_18 (by decide) ?_
      obtain ⟨h21, hf⟩ := ckx_el hf
      obtain ⟨S22, eS22, hf⟩ := bnd_el hf
      refine as_8_17 C hW h21 dX8_begin_20 eS22 (fun H locs hW => ?_)
      refine lv_aload_n C.1 C.2.1 dX8_begin_21 rfl (lv_at hl 0 rfl) ?_
      refine fg_8_20 C kX8_begin_8 mX8_begin_95 hW dX8_begin_22 ?_
      refine lv_aload_n C.1 C.2.1 dX8_begin_25 rfl (lv_at hl 0 rfl) ?_
      refine fg_8_21 C kX8_begin_8 mX8_begin_92 hW dX8_begin_26 ?_
      refine lv_iload_n C.1 C.2.1 dX8_begin_29 rfl (lv_at hl 2 rfl) ?_
      obtain ⟨h23, hf⟩ := ckx_el hf
      obtain ⟨S24, eS24, hf⟩ := bnd_el hf
      refine as_8_20 C hW h23 dX8_begin_30 eS24 (fun H locs hW => ?_)
      refine lv_aload_n C.1 C.2.1 dX8_begin_31 rfl (lv_at hl 0 rfl) ?_
      refine lv_dup C.1 C.2.1 dX8_begin_32 rfl ?_
      refine fg_8_21 C kX8_begin_8 mX8_begin_92 hW dX8_begin_33 ?_
      refine lv_iconst (v := 1) C.1 C.2.1 dX8_begin_36 (by decide) ?_
      refine lv_iadd C.1 C.2.1 dX8_begin_37 ?_
      obtain ⟨S25, eS25, hf⟩ := bnd_el hf
      refine fp_8_21 C kX8_begin_8 mX8_begin_92 hW dX8_begin_38 eS25 (fun H locs hW => ?_)
      obtain ⟨z26, ez26, hf⟩ := bnd_el hf
      refine lv_iinc (v := z26) (lv' := [(2, .int z26), (0, .ref (a 99)), (1, .int x1)]) C.1 C.2.1 dX8_begin_41 hl (k := 2) rfl (by rw [ez26]; rfl) (by decide) rfl (fun ls hl => ?_)
      refine lv_goto (tgt := 9) C.1 C.2.1 dX8_begin_44 (by decide) ?_
      exact ih _ _ _ hf _ _ _ hW (lv_sub hl [1, 2, 0] rfl)
def fX8_begin (N : Nat) (S : St) (p1 : Int32) : Option (St) :=
  bnd (sI S 21 (0 : Int32)) fun S1 =>
  bnd (3009 : Int32) fun z2 =>
  fX8_begin_9 N (S1, p1, z2)
set_option maxHeartbeats 4000000 in
set_option maxRecDepth 100000 in
theorem cX8_begin_met (l : Launch) (D : va_G) (cy : Nat → ClassId) (a r : Nat → Nat) (sz N : Nat) (S : St) (p1 : Int32) (Rr : St) (hf : fX8_begin N S p1 = some Rr) : Met l yX8_begin wsX8_begin ({ frames := 5, cells := 0, slots := 0, locals := 116 } : Room) (va_Pc [.ref (a 99), .int p1] (preW D cy (wM cy a r S) sz)) (QV D cy (wM cy a r) (va_A (wM cy a r S) sz) Rr) 0 0 (va_A (wM cy a r S) sz) := by
  refine Met.ofW (cc := cX8_begin) (maxL := 3) (ret := none) (by decide) rfl ?_
  intro p e s m args below meth c s₁ B hml hv
  obtain ⟨rfl, rfl, hP, hK, hD0, hN⟩ := hv
  have hlocks := B.notSynchronized
  have hr := B.returns
  have C : Cx p s m _ c cX8_begin 3 wsX8_begin RX8 D cy := ⟨B.exec, B.bytes, hml, findClass_of_methodNamed B.named, atoms_spec (ws := wsX8_begin) B.pre, hK, hN⟩
  have hW := ww_start (w := wM cy a r) hP hD0
  generalize va_A (wM cy a r S) s.heap.size = A at hW ⊢
  have hl := lv_entry ([.ref (a 99), .int p1]) (n := 3) (Nat.le_of_ble_eq_true rfl)
  rw [lg_entry_eq]
  generalize (lg_sl ([.ref (a 99), .int p1]) ++ List.replicate (3 - (lg_sl ([.ref (a 99), .int p1])).length) Slot.unset).toArray = ls at hl ⊢
  have hl : lv_has ls 3 [(0, .ref (a 99)), (1, .int p1)] := hl
  unfold fX8_begin at hf
  refine lv_aload_n C.1 C.2.1 dX8_begin_0 rfl (lv_at hl 0 rfl) ?_
  refine lv_iconst (v := 0) C.1 C.2.1 dX8_begin_1 (by decide) ?_
  obtain ⟨S1, eS1, hf⟩ := bnd_el hf
  refine fp_8_21 C kX8_begin_8 mX8_begin_92 hW dX8_begin_2 eS1 (fun H locs hW => ?_)
  refine lv_sipush (v := 3009) C.1 C.2.1 dX8_begin_5 (by decide) ?_
  obtain ⟨z2, ez2, hf⟩ := bnd_el hf
  refine lv_as ez2 ?_
  refine lv_istore_n (lv' := [(2, .int z2), (0, .ref (a 99)), (1, .int p1)]) C.1 C.2.1 dX8_begin_8 rfl hl (by decide) rfl (fun ls hl => ?_)
  exact lX8_begin_9 C hr hlocks N _ _ _ _ hf _ _ _ hW (lv_sub hl [1, 2, 0] rfl)
theorem mX8_read_1 : Cond.fieldLink RX8 1 "SharedLambdaModel" "thrown" "I" ∈ wsX8_read := by decide +kernel
theorem mX8_read_14 : Cond.fieldLink RX8 14 "SharedLambdaModel" "at" "I" ∈ wsX8_read := by decide +kernel
theorem mX8_read_17 : Cond.fieldLink RX8 17 "SharedLambdaModel" "fault" "I" ∈ wsX8_read := by decide +kernel
theorem mX8_read_53 : Cond.fieldLink RX8 53 "SharedLambdaModel" "opened" "I" ∈ wsX8_read := by decide +kernel
theorem mX8_read_50 : Cond.fieldLink RX8 50 "SharedLambdaModel" "names" "I" ∈ wsX8_read := by decide +kernel
theorem mX8_read_37 : Cond.fieldLink RX8 37 "SharedLambdaModel" "deep" "I" ∈ wsX8_read := by decide +kernel
theorem mX8_read_62 : Cond.fieldLink RX8 62 "SharedLambdaModel" "binders" "I" ∈ wsX8_read := by decide +kernel
theorem mX8_read_24 : Cond.fieldLink RX8 24 "SharedLambdaModel" "trees" "I" ∈ wsX8_read := by decide +kernel
theorem mX8_read_7 : Cond.fieldLink RX8 7 "SharedLambdaModel" "size" "I" ∈ wsX8_read := by decide +kernel
theorem mX8_read_104 : Cond.fieldLink RX8 104 "SharedLambdaModel" "nodes" "I" ∈ wsX8_read := by decide +kernel
theorem kX8_read_8 : ∀ w ∈ u_ws RX8 TX8 58, w ∈ wsX8_read := fun _ h => List.mem_cons_of_mem _ (List.mem_append_right _ h)
def fX8_read (N : Nat) (S : St) : Option (Int32 × St) :=
  bnd (sI S 0 (0 : Int32)) fun S1 =>
  bnd (sI S1 7 (0 : Int32)) fun S2 =>
  bnd (sI S2 8 (0 : Int32)) fun S3 =>
  bnd (sI S3 9 (0 : Int32)) fun S4 =>
  bnd (sI S4 10 (0 : Int32)) fun S5 =>
  bnd (sI S5 13 (0 : Int32)) fun S6 =>
  bnd (sI S6 14 (0 : Int32)) fun S7 =>
  bnd (sI S7 6 (0 : Int32)) fun S8 =>
  bd2 (fX8_term N S8) fun v9 S11 =>
  bnd (sI S11 2 (0 : Int32)) fun S12 =>
  if S12.1 8 ≤ 0 then
    bdo (fX8_begin N S12 v9) fun S16 =>
    some (S16.1 22, S16)
  else
    some (((-1 : Int32) - S12.1 7), S12)
set_option maxHeartbeats 4000000 in
set_option maxRecDepth 100000 in
theorem cX8_read_met (l : Launch) (D : va_G) (cy : Nat → ClassId) (a r : Nat → Nat) (sz N : Nat) (S : St) (Rr : Int32 × St) (hf : fX8_read N S  = some Rr) : Met l yX8_read wsX8_read ({ frames := 6, cells := 0, slots := 0, locals := 138 } : Room) (va_Pc [.ref (a 99)] (preW D cy (wM cy a r S) sz)) (QI D cy (wM cy a r) (va_A (wM cy a r S) sz) Rr) 0 0 (va_A (wM cy a r S) sz) := by
  refine Met.ofW (cc := cX8_read) (maxL := 2) (ret := (some .int)) (by decide) rfl ?_
  intro p e s m args below meth c s₁ B hml hv
  obtain ⟨rfl, rfl, hP, hK, hD0, hN⟩ := hv
  have hlocks := B.notSynchronized
  have hr := B.returns
  have C : Cx p s m _ c cX8_read 2 wsX8_read RX8 D cy := ⟨B.exec, B.bytes, hml, findClass_of_methodNamed B.named, atoms_spec (ws := wsX8_read) B.pre, hK, hN⟩
  have hW := ww_start (w := wM cy a r) hP hD0
  generalize va_A (wM cy a r S) s.heap.size = A at hW ⊢
  have hl := lv_entry ([.ref (a 99)]) (n := 2) (Nat.le_of_ble_eq_true rfl)
  rw [lg_entry_eq]
  generalize (lg_sl ([.ref (a 99)]) ++ List.replicate (2 - (lg_sl ([.ref (a 99)])).length) Slot.unset).toArray = ls at hl ⊢
  have hl : lv_has ls 2 [(0, .ref (a 99))] := hl
  unfold fX8_read at hf
  refine lv_aload_n C.1 C.2.1 dX8_read_0 rfl (lv_at hl 0 rfl) ?_
  refine lv_iconst (v := 0) C.1 C.2.1 dX8_read_1 (by decide) ?_
  obtain ⟨S1, eS1, hf⟩ := bnd_el hf
  refine fp_8_0 C kX8_read_8 mX8_read_1 hW dX8_read_2 eS1 (fun H locs hW => ?_)
  refine lv_aload_n C.1 C.2.1 dX8_read_5 rfl (lv_at hl 0 rfl) ?_
  refine lv_iconst (v := 0) C.1 C.2.1 dX8_read_6 (by decide) ?_
  obtain ⟨S2, eS2, hf⟩ := bnd_el hf
  refine fp_8_7 C kX8_read_8 mX8_read_14 hW dX8_read_7 eS2 (fun H locs hW => ?_)
  refine lv_aload_n C.1 C.2.1 dX8_read_10 rfl (lv_at hl 0 rfl) ?_
  refine lv_iconst (v := 0) C.1 C.2.1 dX8_read_11 (by decide) ?_
  obtain ⟨S3, eS3, hf⟩ := bnd_el hf
  refine fp_8_8 C kX8_read_8 mX8_read_17 hW dX8_read_12 eS3 (fun H locs hW => ?_)
  refine lv_aload_n C.1 C.2.1 dX8_read_15 rfl (lv_at hl 0 rfl) ?_
  refine lv_iconst (v := 0) C.1 C.2.1 dX8_read_16 (by decide) ?_
  obtain ⟨S4, eS4, hf⟩ := bnd_el hf
  refine fp_8_9 C kX8_read_8 mX8_read_53 hW dX8_read_17 eS4 (fun H locs hW => ?_)
  refine lv_aload_n C.1 C.2.1 dX8_read_20 rfl (lv_at hl 0 rfl) ?_
  refine lv_iconst (v := 0) C.1 C.2.1 dX8_read_21 (by decide) ?_
  obtain ⟨S5, eS5, hf⟩ := bnd_el hf
  refine fp_8_10 C kX8_read_8 mX8_read_50 hW dX8_read_22 eS5 (fun H locs hW => ?_)
  refine lv_aload_n C.1 C.2.1 dX8_read_25 rfl (lv_at hl 0 rfl) ?_
  refine lv_iconst (v := 0) C.1 C.2.1 dX8_read_26 (by decide) ?_
  obtain ⟨S6, eS6, hf⟩ := bnd_el hf
  refine fp_8_13 C kX8_read_8 mX8_read_37 hW dX8_read_27 eS6 (fun H locs hW => ?_)
  refine lv_aload_n C.1 C.2.1 dX8_read_30 rfl (lv_at hl 0 rfl) ?_
  refine lv_iconst (v := 0) C.1 C.2.1 dX8_read_31 (by decide) ?_
  obtain ⟨S7, eS7, hf⟩ := bnd_el hf
  refine fp_8_14 C kX8_read_8 mX8_read_62 hW dX8_read_32 eS7 (fun H locs hW => ?_)
  refine lv_aload_n C.1 C.2.1 dX8_read_35 rfl (lv_at hl 0 rfl) ?_
  refine lv_iconst (v := 0) C.1 C.2.1 dX8_read_36 (by decide) ?_
  obtain ⟨S8, eS8, hf⟩ := bnd_el hf
  refine fp_8_6 C kX8_read_8 mX8_read_24 hW dX8_read_37 eS8 (fun H locs hW => ?_)
  refine lv_aload_n C.1 C.2.1 dX8_read_40 rfl (lv_at hl 0 rfl) ?_
  obtain ⟨v9, S11, h10, hf⟩ := bd2_el hf
  refine mcVi (w := wM cy a r) (S := S8) (As := []) (rest := []) (q0 := 0) (ci := 8) C (cX8_term_met l D cy a r _ N S8  (v9, S11) h10) (cwV 0 C.2.2.2.2.1 gX8_read_X8_term rfl rfl rfl (by decide +kernel) ⟨Nat.le_of_ble_eq_true rfl, Nat.le_of_ble_eq_true rfl⟩) rfl rfl rfl hl.1 (Nat.le_of_ble_eq_true rfl) hW dX8_read_41 ⟨Nat.zero_le _, Nat.zero_le _⟩ rfl (fun H locs hW => ?_)
  refine lv_istore_n (lv' := [(1, .int v9), (0, .ref (a 99))]) C.1 C.2.1 dX8_read_44 rfl hl (by decide) rfl (fun ls hl => ?_)
  refine lv_aload_n C.1 C.2.1 dX8_read_45 rfl (lv_at hl 1 rfl) ?_
  refine lv_iconst (v := 0) C.1 C.2.1 dX8_read_46 (by decide) ?_
  obtain ⟨S12, eS12, hf⟩ := bnd_el hf
  refine fp_8_2 C kX8_read_8 mX8_read_7 hW dX8_read_47 eS12 (fun H locs hW => ?_)
  refine lv_aload_n C.1 C.2.1 dX8_read_50 rfl (lv_at hl 1 rfl) ?_
  refine fg_8_8 C kX8_read_8 mX8_read_17 hW dX8_read_51 ?_
  refine lv_if_le (tgt := 64) C.1 C.2.1 dX8_read_54 (by decide) (fun q13 => ?_) (fun q13 => ?_)
  · replace hf := (if_pos q13).symm.trans hf
    refine lv_aload_n C.1 C.2.1 dX8_read_64 rfl (lv_at hl 1 rfl) ?_
    refine lv_iload_n C.1 C.2.1 dX8_read_65 rfl (lv_at hl 0 rfl) ?_
    obtain ⟨S16, h15, hf⟩ := bdo_el hf
    refine mcVv (w := wM cy a r) (S := S12) (As := [.int v9]) (rest := []) (q0 := 0) (ci := 8) C (cX8_begin_met l D cy a r _ N S12 v9 S16 h15) (cwV 1 C.2.2.2.2.1 gX8_read_X8_begin rfl rfl rfl (by decide +kernel) ⟨Nat.le_of_ble_eq_true rfl, Nat.le_of_ble_eq_true rfl⟩) rfl rfl rfl hl.1 (Nat.le_of_ble_eq_true rfl) hW dX8_read_66 ⟨Nat.zero_le _, Nat.zero_le _⟩ rfl (fun H locs hW => ?_)
    refine lv_aload_n C.1 C.2.1 dX8_read_69 rfl (lv_at hl 1 rfl) ?_
    refine fg_8_22 C kX8_read_8 mX8_read_104 hW dX8_read_70 ?_
    exact mrI C hr hlocks rfl hf hW dX8_read_73
  · replace hf := (if_neg q13).symm.trans hf
    refine lv_iconst (v := -1) C.1 C.2.1 dX8_read_57 (by decide) ?_
    refine lv_aload_n C.1 C.2.1 dX8_read_58 rfl (lv_at hl 1 rfl) ?_
    refine fg_8_7 C kX8_read_8 mX8_read_14 hW dX8_read_59 ?_
    refine lv_isub C.1 C.2.1 dX8_read_62 ?_
    exact mrI C hr hlocks rfl hf hW dX8_read_63
theorem mX8_beyond_113 : Cond.fieldLink RX8 113 "SharedLambdaModel" "wires" "[I" ∈ wsX8_beyond := by decide +kernel
theorem kX8_beyond_8 : ∀ w ∈ u_ws RX8 TX8 58, w ∈ wsX8_beyond := fun _ h => List.mem_cons_of_mem _ (List.mem_append_right _ h)
def fX8_beyond_42 (N : Nat) (k8 : St × Int32 × Int32 × Int32 → Option (Int32 × St)) (S : St) (x2 : Int32) (x3 : Int32) (x4 : Int32) (y1 : Int32) (y2 : Int32) : Option (Int32 × St) :=
  ckx (((y1 * y2) + (x4 - x4 / (3 : Int32) * (3 : Int32)))) 9030 <|
  bnd (S.2.1 19 (((y1 * y2) + (x4 - x4 / (3 : Int32) * (3 : Int32))) : Int32).toNatClampNeg) fun z2 =>
  k8 (S, x2, x3, z2)
set_option maxHeartbeats 4000000 in
set_option maxRecDepth 100000 in
theorem lX8_beyond_42 {p : Program} {l : Launch} {e : Env} {s : State} {m : MethodId} {args : Array Value} {below : List Frame} {meth : Method} {c : Code} {D : va_G} {cy : Nat → ClassId} {a r : Nat → Nat} {A : Nat → Prop} {Rr : Int32 × St} (C : Cx p s m args c cX8_beyond 5 wsX8_beyond RX8 D cy) (hr : meth.sig.returnType = some .int) (hlocks : meth.locks = false) (N : Nat) (k8 : St × Int32 × Int32 × Int32 → Option (Int32 × St)) (hk8 : ∀ (S : St) (x2 : Int32) (x3 : Int32) (x4 : Int32), k8 (S, x2, x3, x4) = some Rr → ∀ (H : Heap) (locs : List Loc) (ls : Array Slot), WW D A s.heap (wM cy a r S) H locs → lv_has ls 5 [(0, .ref (a 99)), (2, .int x2), (3, .int x3), (4, .int x4)] → W p l e ({ frames := 0, cells := 0, slots := 0, locals := 0 } : Room) s m args below meth c H locs 0 0 (MQ below (QI D cy (wM cy a r) A Rr) args s 0 0 A) (F0 m 8 ls [])) (S : St) (x2 : Int32) (x3 : Int32) (x4 : Int32) (y1 : Int32) (y2 : Int32) (hf : fX8_beyond_42 N k8 S x2 x3 x4 y1 y2 = some Rr) : ∀ (H : Heap) (locs : List Loc) (ls : Array Slot), WW D A s.heap (wM cy a r S) H locs → lv_has ls 5 [(0, .ref (a 99)), (2, .int x2), (3, .int x3), (4, .int x4)] → W p l e ({ frames := 0, cells := 0, slots := 0, locals := 0 } : Room) s m args below meth c H locs 0 0 (MQ below (QI D cy (wM cy a r) A Rr) args s 0 0 A) (F0 m 42 ls [.int y2, .int y1, .ref (a 19)]) := by
  intro H locs ls hW hl
  unfold fX8_beyond_42 at hf
  refine lv_imul C.1 C.2.1 dX8_beyond_42 ?_
  refine lv_iload C.1 C.2.1 dX8_beyond_43 (lv_at hl 3 rfl) ?_
  refine lv_iconst (v := 3) C.1 C.2.1 dX8_beyond_45 (by decide) ?_
  refine lv_irem C.1 C.2.1 dX8_beyond_46 (by decide) ?_
  refine lv_iadd C.1 C.2.1 dX8_beyond_47 ?_
  obtain ⟨h1, hf⟩ := ckx_el hf
  refine al_8_19 C hW h1 dX8_beyond_48 ?_
  obtain ⟨z2, ez2, hf⟩ := bnd_el hf
  refine lv_as ez2 ?_
  refine lv_istore (lv' := [(4, .int z2), (0, .ref (a 99)), (2, .int x2), (3, .int x3)]) C.1 C.2.1 dX8_beyond_49 hl (by decide) rfl (fun ls hl => ?_)
  refine lv_goto (tgt := 8) C.1 C.2.1 dX8_beyond_51 (by decide) ?_
  exact hk8 _ _ _ _ hf _ _ _ hW (lv_sub hl [1, 2, 3, 0] rfl)
def fX8_beyond_24 (N : Nat) (k8 : St × Int32 × Int32 × Int32 → Option (Int32 × St)) (S : St) (x2 : Int32) (x3 : Int32) (x4 : Int32) : Option (Int32 × St) :=
  if (x4 / (3 : Int32)) = x2 then
    fX8_beyond_42 N k8 S x2 x3 x4 (3 : Int32) x3
  else
    fX8_beyond_42 N k8 S x2 x3 x4 (3 : Int32) x2
set_option maxHeartbeats 4000000 in
set_option maxRecDepth 100000 in
theorem lX8_beyond_24 {p : Program} {l : Launch} {e : Env} {s : State} {m : MethodId} {args : Array Value} {below : List Frame} {meth : Method} {c : Code} {D : va_G} {cy : Nat → ClassId} {a r : Nat → Nat} {A : Nat → Prop} {Rr : Int32 × St} (C : Cx p s m args c cX8_beyond 5 wsX8_beyond RX8 D cy) (hr : meth.sig.returnType = some .int) (hlocks : meth.locks = false) (N : Nat) (k8 : St × Int32 × Int32 × Int32 → Option (Int32 × St)) (hk8 : ∀ (S : St) (x2 : Int32) (x3 : Int32) (x4 : Int32), k8 (S, x2, x3, x4) = some Rr → ∀ (H : Heap) (locs : List Loc) (ls : Array Slot), WW D A s.heap (wM cy a r S) H locs → lv_has ls 5 [(0, .ref (a 99)), (2, .int x2), (3, .int x3), (4, .int x4)] → W p l e ({ frames := 0, cells := 0, slots := 0, locals := 0 } : Room) s m args below meth c H locs 0 0 (MQ below (QI D cy (wM cy a r) A Rr) args s 0 0 A) (F0 m 8 ls [])) (S : St) (x2 : Int32) (x3 : Int32) (x4 : Int32) (hf : fX8_beyond_24 N k8 S x2 x3 x4 = some Rr) : ∀ (H : Heap) (locs : List Loc) (ls : Array Slot), WW D A s.heap (wM cy a r S) H locs → lv_has ls 5 [(0, .ref (a 99)), (2, .int x2), (3, .int x3), (4, .int x4)] → W p l e ({ frames := 0, cells := 0, slots := 0, locals := 0 } : Room) s m args below meth c H locs 0 0 (MQ below (QI D cy (wM cy a r) A Rr) args s 0 0 A) (F0 m 24 ls []) := by
  intro H locs ls hW hl
  unfold fX8_beyond_24 at hf
  refine lv_aload_n C.1 C.2.1 dX8_beyond_24 rfl (lv_at hl 0 rfl) ?_
  refine fg_8_19 C kX8_beyond_8 mX8_beyond_113 hW dX8_beyond_25 ?_
  refine lv_iconst (v := 3) C.1 C.2.1 dX8_beyond_28 (by decide) ?_
  refine lv_iload C.1 C.2.1 dX8_beyond_29 (lv_at hl 3 rfl) ?_
  refine lv_iconst (v := 3) C.1 C.2.1 dX8_beyond_31 (by decide) ?_
  refine lv_idiv C.1 C.2.1 dX8_beyond_32 (by decide) ?_
  refine lv_iload_n C.1 C.2.1 dX8_beyond_33 rfl (lv_at hl 1 rfl) ?_
  refine lv_icmp_ne (tgt := 41) C.1 C.2.1 dX8_beyond_34 (by decide) (fun q1 => ?_) (fun q1 => ?_)
  · replace hf := (if_neg q1).symm.trans hf
    refine lv_iload_n C.1 C.2.1 dX8_beyond_41 rfl (lv_at hl 1 rfl) ?_
    exact lX8_beyond_42 C hr hlocks N _ hk8 _ _ _ _ _ _ hf _ _ _ hW (lv_sub hl [0, 1, 2, 3] rfl)
  · replace hf := (if_pos q1).symm.trans hf
    refine lv_iload_n C.1 C.2.1 dX8_beyond_37 rfl (lv_at hl 2 rfl) ?_
    refine lv_goto (tgt := 42) C.1 C.2.1 dX8_beyond_38 (by decide) ?_
    exact lX8_beyond_42 C hr hlocks N _ hk8 _ _ _ _ _ _ hf _ _ _ hW (lv_sub hl [0, 1, 2, 3] rfl)
def fX8_beyond_8s (N : Nat) (k8 : St × Int32 × Int32 × Int32 → Option (Int32 × St)) (S : St) (x2 : Int32) (x3 : Int32) (x4 : Int32) : Option (Int32 × St) :=
  if (x4 / (3 : Int32)) = x2 then
    fX8_beyond_24 N k8 S x2 x3 x4
  else
    if (x4 / (3 : Int32)) = x3 then
      fX8_beyond_24 N k8 S x2 x3 x4
    else
      some (x4, S)
def fX8_beyond_8 (N : Nat) : St × Int32 × Int32 × Int32 → Option (Int32 × St) := loopN (fun k x => fX8_beyond_8s N k x.1 x.2.1 x.2.2.1 x.2.2.2) N
set_option maxHeartbeats 4000000 in
set_option maxRecDepth 100000 in
theorem lX8_beyond_8 {p : Program} {l : Launch} {e : Env} {s : State} {m : MethodId} {args : Array Value} {below : List Frame} {meth : Method} {c : Code} {D : va_G} {cy : Nat → ClassId} {a r : Nat → Nat} {A : Nat → Prop} {Rr : Int32 × St} (C : Cx p s m args c cX8_beyond 5 wsX8_beyond RX8 D cy) (hr : meth.sig.returnType = some .int) (hlocks : meth.locks = false) (N : Nat) : ∀ (n : Nat) (S : St) (x2 : Int32) (x3 : Int32) (x4 : Int32), loopN (fun k x => fX8_beyond_8s N k x.1 x.2.1 x.2.2.1 x.2.2.2) n (S, x2, x3, x4) = some Rr → ∀ (H : Heap) (locs : List Loc) (ls : Array Slot), WW D A s.heap (wM cy a r S) H locs → lv_has ls 5 [(0, .ref (a 99)), (2, .int x2), (3, .int x3), (4, .int x4)] → W p l e ({ frames := 0, cells := 0, slots := 0, locals := 0 } : Room) s m args below meth c H locs 0 0 (MQ below (QI D cy (wM cy a r) A Rr) args s 0 0 A) (F0 m 8 ls []) := by
  intro n
  induction n with
  | zero =>
    intro S x2 x3 x4 hf
    cases hf
  | succ n ih =>
    intro S x2 x3 x4 hf H locs ls hW hl
    have hf : fX8_beyond_8s N (loopN (fun k x => fX8_beyond_8s N k x.1 x.2.1 x.2.2.1 x.2.2.2) n) S x2 x3 x4 = some Rr := hf
    unfold fX8_beyond_8s at hf
    refine lv_iload C.1 C.2.1 dX8_beyond_8 (lv_at hl 3 rfl) ?_
    refine lv_iconst (v := 3) C.1 C.2.1 dX8_beyond_10 (by decide) ?_
    refine lv_idiv C.1 C.2.1 dX8_beyond_11 (by decide) ?_
    refine lv_iload_n C.1 C.2.1 dX8_beyond_12 rfl (lv_at hl 1 rfl) ?_
    refine lv_icmp_eq (tgt := 24) C.1 C.2.1 dX8_beyond_13 (by decide) (fun q1 => ?_) (fun q1 => ?_)
    · replace hf := (if_pos q1).symm.trans hf
      exact lX8_beyond_24 C hr hlocks N _ ih _ _ _ _ hf _ _ _ hW (lv_sub hl [0, 1, 2, 3] rfl)
    · replace hf := (if_neg q1).symm.trans hf
      refine lv_iload C.1 C.2.1 dX8_beyond_16 (lv_at hl 3 rfl) ?_
      refine lv_iconst (v := 3) C.1 C.2.1 dX8_beyond_18 (by decide) ?_
      refine lv_idiv C.1 C.2.1 dX8_beyond_19 (by decide) ?_
      refine lv_iload_n C.1 C.2.1 dX8_beyond_20 rfl (lv_at hl 2 rfl) ?_
      refine lv_icmp_ne (tgt := 54) C.1 C.2.1 dX8_beyond_21 (by decide) (fun q2 => ?_) (fun q2 => ?_)
      · replace hf := (if_neg q2).symm.trans hf
        refine lv_iload C.1 C.2.1 dX8_beyond_54 (lv_at hl 3 rfl) ?_
        exact mrI C hr hlocks rfl hf hW dX8_beyond_56
      · replace hf := (if_pos q2).symm.trans hf
        exact lX8_beyond_24 C hr hlocks N _ ih _ _ _ _ hf _ _ _ hW (lv_sub hl [0, 1, 2, 3] rfl)
def fX8_beyond (N : Nat) (S : St) (p1 : Int32) (p2 : Int32) (p3 : Int32) : Option (Int32 × St) :=
  ckx p1 9030 <|
  bnd (S.2.1 19 (p1 : Int32).toNatClampNeg) fun z2 =>
  fX8_beyond_8 N (S, p2, p3, z2)
set_option maxHeartbeats 4000000 in
set_option maxRecDepth 100000 in
theorem cX8_beyond_met (l : Launch) (D : va_G) (cy : Nat → ClassId) (a r : Nat → Nat) (sz N : Nat) (S : St) (p1 : Int32) (p2 : Int32) (p3 : Int32) (Rr : Int32 × St) (hf : fX8_beyond N S p1 p2 p3 = some Rr) : Met l yX8_beyond wsX8_beyond ({ frames := 0, cells := 0, slots := 0, locals := 0 } : Room) (va_Pc [.ref (a 99), .int p1, .int p2, .int p3] (preW D cy (wM cy a r S) sz)) (QI D cy (wM cy a r) (va_A (wM cy a r S) sz) Rr) 0 0 (va_A (wM cy a r S) sz) := by
  refine Met.ofW (cc := cX8_beyond) (maxL := 5) (ret := (some .int)) (by decide) rfl ?_
  intro p e s m args below meth c s₁ B hml hv
  obtain ⟨rfl, rfl, hP, hK, hD0, hN⟩ := hv
  have hlocks := B.notSynchronized
  have hr := B.returns
  have C : Cx p s m _ c cX8_beyond 5 wsX8_beyond RX8 D cy := ⟨B.exec, B.bytes, hml, findClass_of_methodNamed B.named, atoms_spec (ws := wsX8_beyond) B.pre, hK, hN⟩
  have hW := ww_start (w := wM cy a r) hP hD0
  generalize va_A (wM cy a r S) s.heap.size = A at hW ⊢
  have hl := lv_entry ([.ref (a 99), .int p1, .int p2, .int p3]) (n := 5) (Nat.le_of_ble_eq_true rfl)
  rw [lg_entry_eq]
  generalize (lg_sl ([.ref (a 99), .int p1, .int p2, .int p3]) ++ List.replicate (5 - (lg_sl ([.ref (a 99), .int p1, .int p2, .int p3])).length) Slot.unset).toArray = ls at hl ⊢
  have hl : lv_has ls 5 [(0, .ref (a 99)), (1, .int p1), (2, .int p2), (3, .int p3)] := hl
  unfold fX8_beyond at hf
  refine lv_aload_n C.1 C.2.1 dX8_beyond_0 rfl (lv_at hl 0 rfl) ?_
  refine fg_8_19 C kX8_beyond_8 mX8_beyond_113 hW dX8_beyond_1 ?_
  refine lv_iload_n C.1 C.2.1 dX8_beyond_4 rfl (lv_at hl 1 rfl) ?_
  obtain ⟨h1, hf⟩ := ckx_el hf
  refine al_8_19 C hW h1 dX8_beyond_5 ?_
  obtain ⟨z2, ez2, hf⟩ := bnd_el hf
  refine lv_as ez2 ?_
  refine lv_istore (lv' := [(4, .int z2), (0, .ref (a 99)), (1, .int p1), (2, .int p2), (3, .int p3)]) C.1 C.2.1 dX8_beyond_6 hl (by decide) rfl (fun ls hl => ?_)
  exact lX8_beyond_8 C hr hlocks N _ _ _ _ _ hf _ _ _ hW (lv_sub hl [1, 3, 4, 0] rfl)
theorem mX8_joinAt_113 : Cond.fieldLink RX8 113 "SharedLambdaModel" "wires" "[I" ∈ wsX8_joinAt := by decide +kernel
theorem kX8_joinAt_8 : ∀ w ∈ u_ws RX8 TX8 58, w ∈ wsX8_joinAt := fun _ h => List.mem_cons_of_mem _ (List.mem_append_right _ h)
def fX8_joinAt (N : Nat) (S : St) (p1 : Int32) (p2 : Int32) (p3 : Int32) : Option (St) :=
  ckx ((((3 : Int32) * p1) + p3)) 9030 <|
  bnd (S.2.1 19 ((((3 : Int32) * p1) + p3) : Int32).toNatClampNeg) fun z2 =>
  if (z2 / (3 : Int32)) = p1 then
    some S
  else
    if (z2 / (3 : Int32)) = p2 then
      some S
    else
      bd2 (fX8_beyond N S ((((3 : Int32) * p2) + p3)) p1 p2) fun v5 S7 =>
      bdo (fX8_wire N S7 z2 v5) fun S10 =>
      some S10
set_option maxHeartbeats 4000000 in
set_option maxRecDepth 100000 in
theorem cX8_joinAt_met (l : Launch) (D : va_G) (cy : Nat → ClassId) (a r : Nat → Nat) (sz N : Nat) (S : St) (p1 : Int32) (p2 : Int32) (p3 : Int32) (Rr : St) (hf : fX8_joinAt N S p1 p2 p3 = some Rr) : Met l yX8_joinAt wsX8_joinAt ({ frames := 2, cells := 0, slots := 0, locals := 43 } : Room) (va_Pc [.ref (a 99), .int p1, .int p2, .int p3] (preW D cy (wM cy a r S) sz)) (QV D cy (wM cy a r) (va_A (wM cy a r S) sz) Rr) 0 0 (va_A (wM cy a r S) sz) := by
  refine Met.ofW (cc := cX8_joinAt) (maxL := 5) (ret := none) (by decide) rfl ?_
  intro p e s m args below meth c s₁ B hml hv
  obtain ⟨rfl, rfl, hP, hK, hD0, hN⟩ := hv
  have hlocks := B.notSynchronized
  have hr := B.returns
  have C : Cx p s m _ c cX8_joinAt 5 wsX8_joinAt RX8 D cy := ⟨B.exec, B.bytes, hml, findClass_of_methodNamed B.named, atoms_spec (ws := wsX8_joinAt) B.pre, hK, hN⟩
  have hW := ww_start (w := wM cy a r) hP hD0
  generalize va_A (wM cy a r S) s.heap.size = A at hW ⊢
  have hl := lv_entry ([.ref (a 99), .int p1, .int p2, .int p3]) (n := 5) (Nat.le_of_ble_eq_true rfl)
  rw [lg_entry_eq]
  generalize (lg_sl ([.ref (a 99), .int p1, .int p2, .int p3]) ++ List.replicate (5 - (lg_sl ([.ref (a 99), .int p1, .int p2, .int p3])).length) Slot.unset).toArray = ls at hl ⊢
  have hl : lv_has ls 5 [(0, .ref (a 99)), (1, .int p1), (2, .int p2), (3, .int p3)] := hl
  unfold fX8_joinAt at hf
  refine lv_aload_n C.1 C.2.1 dX8_joinAt_0 rfl (lv_at hl 0 rfl) ?_
  refine fg_8_19 C kX8_joinAt_8 mX8_joinAt_113 hW dX8_joinAt_1 ?_
  refine lv_iconst (v := 3) C.1 C.2.1 dX8_joinAt_4 (by decide) ?_
  refine lv_iload_n C.1 C.2.1 dX8_joinAt_5 rfl (lv_at hl 1 rfl) ?_
  refine lv_imul C.1 C.2.1 dX8_joinAt_6 ?_
  refine lv_iload_n C.1 C.2.1 dX8_joinAt_7 rfl (lv_at hl 3 rfl) ?_
  refine lv_iadd C.1 C.2.1 dX8_joinAt_8 ?_
  obtain ⟨h1, hf⟩ := ckx_el hf
  refine al_8_19 C hW h1 dX8_joinAt_9 ?_
  obtain ⟨z2, ez2, hf⟩ := bnd_el hf
  refine lv_as ez2 ?_
  refine lv_istore (lv' := [(4, .int z2), (0, .ref (a 99)), (1, .int p1), (2, .int p2), (3, .int p3)]) C.1 C.2.1 dX8_joinAt_10 hl (by decide) rfl (fun ls hl => ?_)
  refine lv_iload C.1 C.2.1 dX8_joinAt_12 (lv_at hl 0 rfl) ?_
  refine lv_iconst (v := 3) C.1 C.2.1 dX8_joinAt_14 (by decide) ?_
  refine lv_idiv C.1 C.2.1 dX8_joinAt_15 (by decide) ?_
  refine lv_iload_n C.1 C.2.1 dX8_joinAt_16 rfl (lv_at hl 2 rfl) ?_
  refine lv_icmp_eq (tgt := 45) C.1 C.2.1 dX8_joinAt_17 (by decide) (fun q3 => ?_) (fun q3 => ?_)
  · replace hf := (if_pos q3).symm.trans hf
    exact mrV C hr hlocks hf hW dX8_joinAt_45
  · replace hf := (if_neg q3).symm.trans hf
    refine lv_iload C.1 C.2.1 dX8_joinAt_20 (lv_at hl 0 rfl) ?_
    refine lv_iconst (v := 3) C.1 C.2.1 dX8_joinAt_22 (by decide) ?_
    refine lv_idiv C.1 C.2.1 dX8_joinAt_23 (by decide) ?_
    refine lv_iload_n C.1 C.2.1 dX8_joinAt_24 rfl (lv_at hl 3 rfl) ?_
    refine lv_icmp_eq (tgt := 45) C.1 C.2.1 dX8_joinAt_25 (by decide) (fun q4 => ?_) (fun q4 => ?_)
    · replace hf := (if_pos q4).symm.trans hf
      exact mrV C hr hlocks hf hW dX8_joinAt_45
    · replace hf := (if_neg q4).symm.trans hf
      refine lv_aload_n C.1 C.2.1 dX8_joinAt_28 rfl (lv_at hl 1 rfl) ?_
      refine lv_iload C.1 C.2.1 dX8_joinAt_29 (lv_at hl 0 rfl) ?_
      refine lv_aload_n C.1 C.2.1 dX8_joinAt_31 rfl (lv_at hl 1 rfl) ?_
      refine lv_iconst (v := 3) C.1 C.2.1 dX8_joinAt_32 (by decide) ?_
      refine lv_iload_n C.1 C.2.1 dX8_joinAt_33 rfl (lv_at hl 3 rfl) ?_
      refine lv_imul C.1 C.2.1 dX8_joinAt_34 ?_
      refine lv_iload_n C.1 C.2.1 dX8_joinAt_35 rfl (lv_at hl 4 rfl) ?_
      refine lv_iadd C.1 C.2.1 dX8_joinAt_36 ?_
      refine lv_iload_n C.1 C.2.1 dX8_joinAt_37 rfl (lv_at hl 2 rfl) ?_
      refine lv_iload_n C.1 C.2.1 dX8_joinAt_38 rfl (lv_at hl 3 rfl) ?_
      obtain ⟨v5, S7, h6, hf⟩ := bd2_el hf
      refine mcVi (w := wM cy a r) (S := S) (As := [.int ((((3 : Int32) * p2) + p3)), .int p1, .int p2]) (rest := [.int z2, .ref (a 99)]) (q0 := 0) (ci := 8) C (cX8_beyond_met l D cy a r _ N S ((((3 : Int32) * p2) + p3)) p1 p2 (v5, S7) h6) (cwV 3 C.2.2.2.2.1 gX8_joinAt_X8_beyond rfl rfl rfl (by decide +kernel) ⟨Nat.le_of_ble_eq_true rfl, Nat.le_of_ble_eq_true rfl⟩) rfl rfl rfl hl.1 (Nat.le_of_ble_eq_true rfl) hW dX8_joinAt_39 ⟨Nat.zero_le _, Nat.zero_le _⟩ rfl (fun H locs hW => ?_)
      obtain ⟨S10, h9, hf⟩ := bdo_el hf
      refine mcVv (w := wM cy a r) (S := S7) (As := [.int z2, .int v5]) (rest := []) (q0 := 0) (ci := 8) C (cX8_wire_met l D cy a r _ N S7 z2 v5 S10 h9) (cwV 2 C.2.2.2.2.1 gX8_joinAt_X8_wire rfl rfl rfl (by decide +kernel) ⟨Nat.le_of_ble_eq_true rfl, Nat.le_of_ble_eq_true rfl⟩) rfl rfl rfl hl.1 (Nat.le_of_ble_eq_true rfl) hW dX8_joinAt_42 ⟨Nat.zero_le _, Nat.zero_le _⟩ rfl (fun H locs hW => ?_)
      exact mrV C hr hlocks hf hW dX8_joinAt_45
theorem mX8_join_98 : Cond.fieldLink RX8 98 "SharedLambdaModel" "kinds" "[I" ∈ wsX8_join := by decide +kernel
theorem kX8_join_8 : ∀ w ∈ u_ws RX8 TX8 58, w ∈ wsX8_join := fun _ h => List.mem_cons_of_mem _ (List.mem_append_right _ h)
def fX8_join_13s (N : Nat) (k13 : St × Int32 × Int32 × Int32 × Int32 → Option (St)) (S : St) (x1 : Int32) (x2 : Int32) (x3 : Int32) (x4 : Int32) : Option (St) :=
  if x3 ≤ x4 then
    bdo (fX8_free N S x1) fun S4 =>
    bdo (fX8_free N S4 x2) fun S7 =>
    some S7
  else
    bdo (fX8_joinAt N S x1 x2 x4) fun S10 =>
    bdo (fX8_joinAt N S10 x2 x1 x4) fun S13 =>
    bnd (x4 + (1 : Int32)) fun z14 =>
    k13 (S13, x1, x2, x3, z14)
def fX8_join_13 (N : Nat) : St × Int32 × Int32 × Int32 × Int32 → Option (St) := loopN (fun k x => fX8_join_13s N k x.1 x.2.1 x.2.2.1 x.2.2.2.1 x.2.2.2.2) N
set_option maxHeartbeats 4000000 in
set_option maxRecDepth 100000 in
theorem lX8_join_13 {p : Program} {l : Launch} {e : Env} {s : State} {m : MethodId} {args : Array Value} {below : List Frame} {meth : Method} {c : Code} {D : va_G} {cy : Nat → ClassId} {a r : Nat → Nat} {A : Nat → Prop} {Rr : St} (C : Cx p s m args c cX8_join 5 wsX8_join RX8 D cy) (hr : meth.sig.returnType = none) (hlocks : meth.locks = false) (N : Nat) : ∀ (n : Nat) (S : St) (x1 : Int32) (x2 : Int32) (x3 : Int32) (x4 : Int32), loopN (fun k x => fX8_join_13s N k x.1 x.2.1 x.2.2.1 x.2.2.2.1 x.2.2.2.2) n (S, x1, x2, x3, x4) = some Rr → ∀ (H : Heap) (locs : List Loc) (ls : Array Slot), WW D A s.heap (wM cy a r S) H locs → lv_has ls 5 [(0, .ref (a 99)), (1, .int x1), (2, .int x2), (3, .int x3), (4, .int x4)] → W p l e ({ frames := 3, cells := 0, slots := 0, locals := 67 } : Room) s m args below meth c H locs 0 0 (MQ below (QV D cy (wM cy a r) A Rr) args s 0 0 A) (F0 m 13 ls []) := by
  intro n
  induction n with
  | zero =>
    intro S x1 x2 x3 x4 hf
    cases hf
  | succ n ih =>
    intro S x1 x2 x3 x4 hf H locs ls hW hl
    have hf : fX8_join_13s N (loopN (fun k x => fX8_join_13s N k x.1 x.2.1 x.2.2.1 x.2.2.2.1 x.2.2.2.2) n) S x1 x2 x3 x4 = some Rr := hf
    unfold fX8_join_13s at hf
    refine lv_iload C.1 C.2.1 dX8_join_13 (lv_at hl 4 rfl) ?_
    refine lv_iload_n C.1 C.2.1 dX8_join_15 rfl (lv_at hl 3 rfl) ?_
    refine lv_icmp_ge (tgt := 41) C.1 C.2.1 dX8_join_16 (by decide) (fun q1 => ?_) (fun q1 => ?_)
    · replace hf := (if_pos q1).symm.trans hf
      refine lv_aload_n C.1 C.2.1 dX8_join_41 rfl (lv_at hl 0 rfl) ?_
      refine lv_iload_n C.1 C.2.1 dX8_join_42 rfl (lv_at hl 1 rfl) ?_
      obtain ⟨S4, h3, hf⟩ := bdo_el hf
      refine mcVv (w := wM cy a r) (S := S) (As := [.int x1]) (rest := []) (q0 := 0) (ci := 8) C (cX8_free_met l D cy a r _ N S x1 S4 h3) (cwV 1 C.2.2.2.2.1 gX8_join_X8_free rfl rfl rfl (by decide +kernel) ⟨Nat.le_of_ble_eq_true rfl, Nat.le_of_ble_eq_true rfl⟩) rfl rfl rfl hl.1 (Nat.le_of_ble_eq_true rfl) hW dX8_join_43 ⟨Nat.zero_le _, Nat.zero_le _⟩ rfl (fun H locs hW => ?_)
      refine lv_aload_n C.1 C.2.1 dX8_join_46 rfl (lv_at hl 0 rfl) ?_
      refine lv_iload_n C.1 C.2.1 dX8_join_47 rfl (lv_at hl 2 rfl) ?_
      obtain ⟨S7, h6, hf⟩ := bdo_el hf
      refine mcVv (w := wM cy a r) (S := S4) (As := [.int x2]) (rest := []) (q0 := 0) (ci := 8) C (cX8_free_met l D cy a r _ N S4 x2 S7 h6) (cwV 1 C.2.2.2.2.1 gX8_join_X8_free rfl rfl rfl (by decide +kernel) ⟨Nat.le_of_ble_eq_true rfl, Nat.le_of_ble_eq_true rfl⟩) rfl rfl rfl hl.1 (Nat.le_of_ble_eq_true rfl) hW dX8_join_48 ⟨Nat.zero_le _, Nat.zero_le _⟩ rfl (fun H locs hW => ?_)
      exact mrV C hr hlocks hf hW dX8_join_51
    · replace hf := (if_neg q1).symm.trans hf
      refine lv_aload_n C.1 C.2.1 dX8_join_19 rfl (lv_at hl 0 rfl) ?_
      refine lv_iload_n C.1 C.2.1 dX8_join_20 rfl (lv_at hl 1 rfl) ?_
      refine lv_iload_n C.1 C.2.1 dX8_join_21 rfl (lv_at hl 2 rfl) ?_
      refine lv_iload C.1 C.2.1 dX8_join_22 (lv_at hl 4 rfl) ?_
      obtain ⟨S10, h9, hf⟩ := bdo_el hf
      refine mcVv (w := wM cy a r) (S := S) (As := [.int x1, .int x2, .int x4]) (rest := []) (q0 := 0) (ci := 8) C (cX8_joinAt_met l D cy a r _ N S x1 x2 x4 S10 h9) (cwV 3 C.2.2.2.2.1 gX8_join_X8_joinAt rfl rfl rfl (by decide +kernel) ⟨Nat.le_of_ble_eq_true rfl, Nat.le_of_ble_eq_true rfl⟩) rfl rfl rfl hl.1 (Nat.le_of_ble_eq_true rfl) hW dX8_join_24 ⟨Nat.zero_le _, Nat.zero_le _⟩ rfl (fun H locs hW => ?_)
      refine lv_aload_n C.1 C.2.1 dX8_join_27 rfl (lv_at hl 0 rfl) ?_
      refine lv_iload_n C.1 C.2.1 dX8_join_28 rfl (lv_at hl 2 rfl) ?_
      refine lv_iload_n C.1 C.2.1 dX8_join_29 rfl (lv_at hl 1 rfl) ?_
      refine lv_iload C.1 C.2.1 dX8_join_30 (lv_at hl 4 rfl) ?_
      obtain ⟨S13, h12, hf⟩ := bdo_el hf
      refine mcVv (w := wM cy a r) (S := S10) (As := [.int x2, .int x1, .int x4]) (rest := []) (q0 := 0) (ci := 8) C (cX8_joinAt_met l D cy a r _ N S10 x2 x1 x4 S13 h12) (cwV 3 C.2.2.2.2.1 gX8_join_X8_joinAt rfl rfl rfl (by decide +kernel) ⟨Nat.le_of_ble_eq_true rfl, Nat.le_of_ble_eq_true rfl⟩) rfl rfl rfl hl.1 (Nat.le_of_ble_eq_true rfl) hW dX8_join_32 ⟨Nat.zero_le _, Nat.zero_le _⟩ rfl (fun H locs hW => ?_)
      obtain ⟨z14, ez14, hf⟩ := bnd_el hf
      refine lv_iinc (v := z14) (lv' := [(4, .int z14), (0, .ref (a 99)), (1, .int x1), (2, .int x2), (3, .int x3)]) C.1 C.2.1 dX8_join_35 hl (k := 4) rfl (by rw [ez14]; rfl) (by decide) rfl (fun ls hl => ?_)
      refine lv_goto (tgt := 13) C.1 C.2.1 dX8_join_38 (by decide) ?_
      exact ih _ _ _ _ _ hf _ _ _ hW (lv_sub hl [1, 2, 3, 4, 0] rfl)
def fX8_join (N : Nat) (S : St) (p1 : Int32) (p2 : Int32) : Option (St) :=
  ckx p1 3010 <|
  bdo (fX8_ports (S.2.1 17 (p1 : Int32).toNatClampNeg)) fun v2 =>
  bnd (1 : Int32) fun z4 =>
  fX8_join_13 N (S, p1, p2, v2, z4)
set_option maxHeartbeats 4000000 in
set_option maxRecDepth 100000 in
theorem cX8_join_met (l : Launch) (D : va_G) (cy : Nat → ClassId) (a r : Nat → Nat) (sz N : Nat) (S : St) (p1 : Int32) (p2 : Int32) (Rr : St) (hf : fX8_join N S p1 p2 = some Rr) : Met l yX8_join wsX8_join ({ frames := 3, cells := 0, slots := 0, locals := 67 } : Room) (va_Pc [.ref (a 99), .int p1, .int p2] (preW D cy (wM cy a r S) sz)) (QV D cy (wM cy a r) (va_A (wM cy a r S) sz) Rr) 0 0 (va_A (wM cy a r S) sz) := by
  refine Met.ofW (cc := cX8_join) (maxL := 5) (ret := none) (by decide) rfl ?_
  intro p e s m args below meth c s₁ B hml hv
  obtain ⟨rfl, rfl, hP, hK, hD0, hN⟩ := hv
  have hlocks := B.notSynchronized
  have hr := B.returns
  have C : Cx p s m _ c cX8_join 5 wsX8_join RX8 D cy := ⟨B.exec, B.bytes, hml, findClass_of_methodNamed B.named, atoms_spec (ws := wsX8_join) B.pre, hK, hN⟩
  have hW := ww_start (w := wM cy a r) hP hD0
  generalize va_A (wM cy a r S) s.heap.size = A at hW ⊢
  have hl := lv_entry ([.ref (a 99), .int p1, .int p2]) (n := 5) (Nat.le_of_ble_eq_true rfl)
  rw [lg_entry_eq]
  generalize (lg_sl ([.ref (a 99), .int p1, .int p2]) ++ List.replicate (5 - (lg_sl ([.ref (a 99), .int p1, .int p2])).length) Slot.unset).toArray = ls at hl ⊢
  have hl : lv_has ls 5 [(0, .ref (a 99)), (1, .int p1), (2, .int p2)] := hl
  unfold fX8_join at hf
  refine lv_aload_n C.1 C.2.1 dX8_join_0 rfl (lv_at hl 0 rfl) ?_
  refine fg_8_17 C kX8_join_8 mX8_join_98 hW dX8_join_1 ?_
  refine lv_iload_n C.1 C.2.1 dX8_join_4 rfl (lv_at hl 1 rfl) ?_
  obtain ⟨h1, hf⟩ := ckx_el hf
  refine al_8_17 C hW h1 dX8_join_5 ?_
  obtain ⟨v2, h3, hf⟩ := bdo_el hf
  refine mcS (As := [.int (S.2.1 17 (p1 : Int32).toNatClampNeg)]) (rest := []) C (cX8_ports_met l (S.2.1 17 (p1 : Int32).toNatClampNeg) v2 h3) (va_cwS 1 C.2.2.2.2.1 gX8_join_X8_ports rfl rfl rfl (by decide +kernel) ⟨Nat.le_of_ble_eq_true rfl, Nat.le_of_ble_eq_true rfl⟩) rfl hl.1 (Nat.le_of_ble_eq_true rfl) dX8_join_6 ⟨Nat.zero_le _, Nat.zero_le _⟩ rfl ?_
  refine lv_istore_n (lv' := [(3, .int v2), (0, .ref (a 99)), (1, .int p1), (2, .int p2)]) C.1 C.2.1 dX8_join_9 rfl hl (by decide) rfl (fun ls hl => ?_)
  refine lv_iconst (v := 1) C.1 C.2.1 dX8_join_10 (by decide) ?_
  obtain ⟨z4, ez4, hf⟩ := bnd_el hf
  refine lv_as ez4 ?_
  refine lv_istore (lv' := [(4, .int z4), (3, .int v2), (0, .ref (a 99)), (1, .int p1), (2, .int p2)]) C.1 C.2.1 dX8_join_11 hl (by decide) rfl (fun ls hl => ?_)
  exact lX8_join_13 C hr hlocks N _ _ _ _ _ _ hf _ _ _ hW (lv_sub hl [2, 3, 4, 1, 0] rfl)
def fX8_isWay (p0 : Int32) : Option Int32 :=
  if p0 = (2 : Int32) then
    some (1 : Int32)
  else
    if p0 = (3 : Int32) then
      some (1 : Int32)
    else
      if p0 = (4 : Int32) then
        some (1 : Int32)
      else
        some (0 : Int32)
set_option maxHeartbeats 4000000 in
set_option maxRecDepth 100000 in
theorem cX8_isWay_met (l : Launch) (p0 : Int32) (v1 : Int32) (hf : fX8_isWay p0 = some v1) : MetS l yX8_isWay wsX8_isWay ({ frames := 0, cells := 0, slots := 0, locals := 0 } : Room) [.int p0] v1 := by
  refine Met.ofW (cc := cX8_isWay) (maxL := 1) (ret := (some .boolean)) (by decide) rfl ?_
  intro p e s m args below meth c s₁ B hml hv
  obtain ⟨rfl, -⟩ := hv
  have hlocks := B.notSynchronized
  have hr := B.returns
  have C : p.tables.exec = Jvm.exec ∧ c.code = cX8_isWay ∧ True := ⟨B.exec, B.bytes, trivial⟩
  have hl := lv_entry ([.int p0]) (n := 1) (Nat.le_of_ble_eq_true rfl)
  rw [lg_entry_eq]
  generalize (lg_sl ([.int p0]) ++ List.replicate (1 - (lg_sl ([.int p0])).length) Slot.unset).toArray = ls at hl ⊢
  have hl : lv_has ls 1 [(0, .int p0)] := hl
  unfold fX8_isWay at hf
  refine lv_iload_n C.1 C.2.1 dX8_isWay_0 rfl (lv_at hl 0 rfl) ?_
  refine lv_iconst (v := 2) C.1 C.2.1 dX8_isWay_1 (by decide) ?_
  refine lv_icmp_eq (tgt := 15) C.1 C.2.1 dX8_isWay_2 (by decide) (fun q1 => ?_) (fun q1 => ?_)
  · replace hf := (if_pos q1).symm.trans hf
    refine lv_iconst (v := 1) C.1 C.2.1 dX8_isWay_15 (by decide) ?_
    refine lv_goto (tgt := 20) C.1 C.2.1 dX8_isWay_16 (by decide) ?_
    exact mrS C.1 C.2.1 hr hlocks rfl hf rfl dX8_isWay_20
  · replace hf := (if_neg q1).symm.trans hf
    refine lv_iload_n C.1 C.2.1 dX8_isWay_5 rfl (lv_at hl 0 rfl) ?_
    refine lv_iconst (v := 3) C.1 C.2.1 dX8_isWay_6 (by decide) ?_
    refine lv_icmp_eq (tgt := 15) C.1 C.2.1 dX8_isWay_7 (by decide) (fun q2 => ?_) (fun q2 => ?_)
    · replace hf := (if_pos q2).symm.trans hf
      refine lv_iconst (v := 1) C.1 C.2.1 dX8_isWay_15 (by decide) ?_
      refine lv_goto (tgt := 20) C.1 C.2.1 dX8_isWay_16 (by decide) ?_
      exact mrS C.1 C.2.1 hr hlocks rfl hf rfl dX8_isWay_20
    · replace hf := (if_neg q2).symm.trans hf
      refine lv_iload_n C.1 C.2.1 dX8_isWay_10 rfl (lv_at hl 0 rfl) ?_
      refine lv_iconst (v := 4) C.1 C.2.1 dX8_isWay_11 (by decide) ?_
      refine lv_icmp_ne (tgt := 19) C.1 C.2.1 dX8_isWay_12 (by decide) (fun q3 => ?_) (fun q3 => ?_)
      · replace hf := (if_neg q3).symm.trans hf
        refine lv_iconst (v := 0) C.1 C.2.1 dX8_isWay_19 (by decide) ?_
        exact mrS C.1 C.2.1 hr hlocks rfl hf rfl dX8_isWay_20
      · replace hf := (if_pos q3).symm.trans hf
        refine lv_iconst (v := 1) C.1 C.2.1 dX8_isWay_15 (by decide) ?_
        refine lv_goto (tgt := 20) C.1 C.2.1 dX8_isWay_16 (by decide) ?_
        exact mrS C.1 C.2.1 hr hlocks rfl hf rfl dX8_isWay_20
theorem mX8_meetingOf_244 : Cond.fieldLink RX8 244 "SharedLambdaModel" "passed" "I" ∈ wsX8_meetingOf := by decide +kernel
theorem mX8_meetingOf_98 : Cond.fieldLink RX8 98 "SharedLambdaModel" "kinds" "[I" ∈ wsX8_meetingOf := by decide +kernel
theorem mX8_meetingOf_241 : Cond.fieldLink RX8 241 "SharedLambdaModel" "passer" "I" ∈ wsX8_meetingOf := by decide +kernel
theorem mX8_meetingOf_101 : Cond.fieldLink RX8 101 "SharedLambdaModel" "indexes" "[I" ∈ wsX8_meetingOf := by decide +kernel
theorem kX8_meetingOf_8 : ∀ w ∈ u_ws RX8 TX8 58, w ∈ wsX8_meetingOf := fun _ h => List.mem_cons_of_mem _ (List.mem_append_right _ h)
def fX8_meetingOf_135 (N : Nat) (S : St) (y1 : Int32) : Option (Int32 × St) :=
  bnd (sI S 33 y1) fun S1 =>
  ckx (S1.1 32) 3010 <|
  bdo (fX8_isWay (S1.2.1 17 (S1.1 32 : Int32).toNatClampNeg)) fun v3 =>
  if v3 = 0 then
    some ((3 : Int32), S1)
  else
    some ((2 : Int32), S1)
set_option maxHeartbeats 4000000 in
set_option maxRecDepth 100000 in
theorem lX8_meetingOf_135 {p : Program} {l : Launch} {e : Env} {s : State} {m : MethodId} {args : Array Value} {below : List Frame} {meth : Method} {c : Code} {D : va_G} {cy : Nat → ClassId} {a r : Nat → Nat} {A : Nat → Prop} {Rr : Int32 × St} (C : Cx p s m args c cX8_meetingOf 6 wsX8_meetingOf RX8 D cy) (hr : meth.sig.returnType = some .int) (hlocks : meth.locks = false) (N : Nat) (S : St) (y1 : Int32) (hf : fX8_meetingOf_135 N S y1 = some Rr) : ∀ (H : Heap) (locs : List Loc) (ls : Array Slot), WW D A s.heap (wM cy a r S) H locs → lv_has ls 6 [(0, .ref (a 99))] → W p l e ({ frames := 1, cells := 0, slots := 0, locals := 20 } : Room) s m args below meth c H locs 0 0 (MQ below (QI D cy (wM cy a r) A Rr) args s 0 0 A) (F0 m 135 ls [.int y1, .ref (a 99)]) := by
  intro H locs ls hW hl
  unfold fX8_meetingOf_135 at hf
  obtain ⟨S1, eS1, hf⟩ := bnd_el hf
  refine fp_8_33 C kX8_meetingOf_8 mX8_meetingOf_244 hW dX8_meetingOf_135 eS1 (fun H locs hW => ?_)
  refine lv_aload_n C.1 C.2.1 dX8_meetingOf_138 rfl (lv_at hl 0 rfl) ?_
  refine fg_8_17 C kX8_meetingOf_8 mX8_meetingOf_98 hW dX8_meetingOf_139 ?_
  refine lv_aload_n C.1 C.2.1 dX8_meetingOf_142 rfl (lv_at hl 0 rfl) ?_
  refine fg_8_32 C kX8_meetingOf_8 mX8_meetingOf_241 hW dX8_meetingOf_143 ?_
  obtain ⟨h2, hf⟩ := ckx_el hf
  refine al_8_17 C hW h2 dX8_meetingOf_146 ?_
  obtain ⟨v3, h4, hf⟩ := bdo_el hf
  refine mcS (As := [.int (S1.2.1 17 (S1.1 32 : Int32).toNatClampNeg)]) (rest := []) C (cX8_isWay_met l (S1.2.1 17 (S1.1 32 : Int32).toNatClampNeg) v3 h4) (va_cwS 1 C.2.2.2.2.1 gX8_meetingOf_X8_isWay rfl rfl rfl (by decide +kernel) ⟨Nat.le_of_ble_eq_true rfl, Nat.le_of_ble_eq_true rfl⟩) rfl hl.1 (Nat.le_of_ble_eq_true rfl) dX8_meetingOf_147 ⟨Nat.zero_le _, Nat.zero_le _⟩ rfl ?_
  refine lv_if_eq (tgt := 157) C.1 C.2.1 dX8_meetingOf_150 (by decide) (fun q5 => ?_) (fun q5 => ?_)
  · replace hf := (if_pos q5).symm.trans hf
    refine lv_iconst (v := 3) C.1 C.2.1 dX8_meetingOf_157 (by decide) ?_
    exact mrI C hr hlocks rfl hf hW dX8_meetingOf_158
  · replace hf := (if_neg q5).symm.trans hf
    refine lv_iconst (v := 2) C.1 C.2.1 dX8_meetingOf_153 (by decide) ?_
    refine lv_goto (tgt := 158) C.1 C.2.1 dX8_meetingOf_154 (by decide) ?_
    exact mrI C hr hlocks rfl hf hW dX8_meetingOf_158
def fX8_meetingOf_120 (N : Nat) (S : St) (x1 : Int32) (x2 : Int32) (x3 : Int32) (x4 : Int32) (y1 : Int32) : Option (Int32 × St) :=
  bnd (sI S 32 y1) fun S1 =>
  if x4 ≤ x3 then
    fX8_meetingOf_135 N S1 x1
  else
    fX8_meetingOf_135 N S1 x2
set_option maxHeartbeats 4000000 in
set_option maxRecDepth 100000 in
theorem lX8_meetingOf_120 {p : Program} {l : Launch} {e : Env} {s : State} {m : MethodId} {args : Array Value} {below : List Frame} {meth : Method} {c : Code} {D : va_G} {cy : Nat → ClassId} {a r : Nat → Nat} {A : Nat → Prop} {Rr : Int32 × St} (C : Cx p s m args c cX8_meetingOf 6 wsX8_meetingOf RX8 D cy) (hr : meth.sig.returnType = some .int) (hlocks : meth.locks = false) (N : Nat) (S : St) (x1 : Int32) (x2 : Int32) (x3 : Int32) (x4 : Int32) (y1 : Int32) (hf : fX8_meetingOf_120 N S x1 x2 x3 x4 y1 = some Rr) : ∀ (H : Heap) (locs : List Loc) (ls : Array Slot), WW D A s.heap (wM cy a r S) H locs → lv_has ls 6 [(0, .ref (a 99)), (1, .int x1), (2, .int x2), (3, .int x3), (4, .int x4)] → W p l e ({ frames := 1, cells := 0, slots := 0, locals := 20 } : Room) s m args below meth c H locs 0 0 (MQ below (QI D cy (wM cy a r) A Rr) args s 0 0 A) (F0 m 120 ls [.int y1, .ref (a 99)]) := by
  intro H locs ls hW hl
  unfold fX8_meetingOf_120 at hf
  obtain ⟨S1, eS1, hf⟩ := bnd_el hf
  refine fp_8_32 C kX8_meetingOf_8 mX8_meetingOf_241 hW dX8_meetingOf_120 eS1 (fun H locs hW => ?_)
  refine lv_aload_n C.1 C.2.1 dX8_meetingOf_123 rfl (lv_at hl 0 rfl) ?_
  refine lv_iload_n C.1 C.2.1 dX8_meetingOf_124 rfl (lv_at hl 3 rfl) ?_
  refine lv_iload C.1 C.2.1 dX8_meetingOf_125 (lv_at hl 4 rfl) ?_
  refine lv_icmp_ge (tgt := 134) C.1 C.2.1 dX8_meetingOf_127 (by decide) (fun q2 => ?_) (fun q2 => ?_)
  · replace hf := (if_pos q2).symm.trans hf
    refine lv_iload_n C.1 C.2.1 dX8_meetingOf_134 rfl (lv_at hl 1 rfl) ?_
    exact lX8_meetingOf_135 C hr hlocks N _ _ hf _ _ _ hW (lv_sub hl [0] rfl)
  · replace hf := (if_neg q2).symm.trans hf
    refine lv_iload_n C.1 C.2.1 dX8_meetingOf_130 rfl (lv_at hl 2 rfl) ?_
    refine lv_goto (tgt := 135) C.1 C.2.1 dX8_meetingOf_131 (by decide) ?_
    exact lX8_meetingOf_135 C hr hlocks N _ _ hf _ _ _ hW (lv_sub hl [0] rfl)
def fX8_meetingOf_64 (N : Nat) (S : St) (x1 : Int32) (x2 : Int32) (y0 : Int32) : Option (Int32 × St) :=
  if y0 = 0 then
    ckx x1 3010 <|
    bdo (fX8_isWay (S.2.1 17 (x1 : Int32).toNatClampNeg)) fun v3 =>
    if v3 = 0 then
      some ((3 : Int32), S)
    else
      ckx x1 3010 <|
      ckx x2 3010 <|
      if S.2.1 17 (x1 : Int32).toNatClampNeg = S.2.1 17 (x2 : Int32).toNatClampNeg then
        some ((1 : Int32), S)
      else
        some ((3 : Int32), S)
  else
    some ((0 : Int32), S)
set_option maxHeartbeats 4000000 in
set_option maxRecDepth 100000 in
theorem lX8_meetingOf_64 {p : Program} {l : Launch} {e : Env} {s : State} {m : MethodId} {args : Array Value} {below : List Frame} {meth : Method} {c : Code} {D : va_G} {cy : Nat → ClassId} {a r : Nat → Nat} {A : Nat → Prop} {Rr : Int32 × St} (C : Cx p s m args c cX8_meetingOf 6 wsX8_meetingOf RX8 D cy) (hr : meth.sig.returnType = some .int) (hlocks : meth.locks = false) (N : Nat) (S : St) (x1 : Int32) (x2 : Int32) (y0 : Int32) (hf : fX8_meetingOf_64 N S x1 x2 y0 = some Rr) : ∀ (H : Heap) (locs : List Loc) (ls : Array Slot), WW D A s.heap (wM cy a r S) H locs → lv_has ls 6 [(0, .ref (a 99)), (1, .int x1), (2, .int x2)] → W p l e ({ frames := 1, cells := 0, slots := 0, locals := 20 } : Room) s m args below meth c H locs 0 0 (MQ below (QI D cy (wM cy a r) A Rr) args s 0 0 A) (F0 m 64 ls [.int y0]) := by
  intro H locs ls hW hl
  unfold fX8_meetingOf_64 at hf
  refine lv_istore (lv' := [(5, .int y0), (0, .ref (a 99)), (1, .int x1), (2, .int x2)]) C.1 C.2.1 dX8_meetingOf_64 hl (by decide) rfl (fun ls hl => ?_)
  refine lv_iload C.1 C.2.1 dX8_meetingOf_66 (lv_at hl 0 rfl) ?_
  refine lv_if_eq (tgt := 75) C.1 C.2.1 dX8_meetingOf_68 (by decide) (fun q1 => ?_) (fun q1 => ?_)
  · replace hf := (if_pos q1).symm.trans hf
    refine lv_aload_n C.1 C.2.1 dX8_meetingOf_75 rfl (lv_at hl 1 rfl) ?_
    refine fg_8_17 C kX8_meetingOf_8 mX8_meetingOf_98 hW dX8_meetingOf_76 ?_
    refine lv_iload_n C.1 C.2.1 dX8_meetingOf_79 rfl (lv_at hl 2 rfl) ?_
    obtain ⟨h2, hf⟩ := ckx_el hf
    refine al_8_17 C hW h2 dX8_meetingOf_80 ?_
    obtain ⟨v3, h4, hf⟩ := bdo_el hf
    refine mcS (As := [.int (S.2.1 17 (x1 : Int32).toNatClampNeg)]) (rest := []) C (cX8_isWay_met l (S.2.1 17 (x1 : Int32).toNatClampNeg) v3 h4) (va_cwS 1 C.2.2.2.2.1 gX8_meetingOf_X8_isWay rfl rfl rfl (by decide +kernel) ⟨Nat.le_of_ble_eq_true rfl, Nat.le_of_ble_eq_true rfl⟩) rfl hl.1 (Nat.le_of_ble_eq_true rfl) dX8_meetingOf_81 ⟨Nat.zero_le _, Nat.zero_le _⟩ rfl ?_
    refine lv_if_eq (tgt := 106) C.1 C.2.1 dX8_meetingOf_84 (by decide) (fun q5 => ?_) (fun q5 => ?_)
    · replace hf := (if_pos q5).symm.trans hf
      refine lv_iconst (v := 3) C.1 C.2.1 dX8_meetingOf_106 (by decide) ?_
      exact mrI C hr hlocks rfl hf hW dX8_meetingOf_107
    · replace hf := (if_neg q5).symm.trans hf
      refine lv_aload_n C.1 C.2.1 dX8_meetingOf_87 rfl (lv_at hl 1 rfl) ?_
      refine fg_8_17 C kX8_meetingOf_8 mX8_meetingOf_98 hW dX8_meetingOf_88 ?_
      refine lv_iload_n C.1 C.2.1 dX8_meetingOf_91 rfl (lv_at hl 2 rfl) ?_
      obtain ⟨h6, hf⟩ := ckx_el hf
      refine al_8_17 C hW h6 dX8_meetingOf_92 ?_
      refine lv_aload_n C.1 C.2.1 dX8_meetingOf_93 rfl (lv_at hl 1 rfl) ?_
      refine fg_8_17 C kX8_meetingOf_8 mX8_meetingOf_98 hW dX8_meetingOf_94 ?_
      refine lv_iload_n C.1 C.2.1 dX8_meetingOf_97 rfl (lv_at hl 3 rfl) ?_
      obtain ⟨h7, hf⟩ := ckx_el hf
      refine al_8_17 C hW h7 dX8_meetingOf_98 ?_
      refine lv_icmp_ne (tgt := 106) C.1 C.2.1 dX8_meetingOf_99 (by decide) (fun q8 => ?_) (fun q8 => ?_)
      · replace hf := (if_neg q8).symm.trans hf
        refine lv_iconst (v := 3) C.1 C.2.1 dX8_meetingOf_106 (by decide) ?_
        exact mrI C hr hlocks rfl hf hW dX8_meetingOf_107
      · replace hf := (if_pos q8).symm.trans hf
        refine lv_iconst (v := 1) C.1 C.2.1 dX8_meetingOf_102 (by decide) ?_
        refine lv_goto (tgt := 107) C.1 C.2.1 dX8_meetingOf_103 (by decide) ?_
        exact mrI C hr hlocks rfl hf hW dX8_meetingOf_107
  · replace hf := (if_neg q1).symm.trans hf
    refine lv_iconst (v := 0) C.1 C.2.1 dX8_meetingOf_71 (by decide) ?_
    refine lv_goto (tgt := 107) C.1 C.2.1 dX8_meetingOf_72 (by decide) ?_
    exact mrI C hr hlocks rfl hf hW dX8_meetingOf_107
def fX8_meetingOf_63 (N : Nat) (S : St) (x1 : Int32) (x2 : Int32) : Option (Int32 × St) :=
  fX8_meetingOf_64 N S x1 x2 (0 : Int32)
set_option maxHeartbeats 4000000 in
set_option maxRecDepth 100000 in
theorem lX8_meetingOf_63 {p : Program} {l : Launch} {e : Env} {s : State} {m : MethodId} {args : Array Value} {below : List Frame} {meth : Method} {c : Code} {D : va_G} {cy : Nat → ClassId} {a r : Nat → Nat} {A : Nat → Prop} {Rr : Int32 × St} (C : Cx p s m args c cX8_meetingOf 6 wsX8_meetingOf RX8 D cy) (hr : meth.sig.returnType = some .int) (hlocks : meth.locks = false) (N : Nat) (S : St) (x1 : Int32) (x2 : Int32) (hf : fX8_meetingOf_63 N S x1 x2 = some Rr) : ∀ (H : Heap) (locs : List Loc) (ls : Array Slot), WW D A s.heap (wM cy a r S) H locs → lv_has ls 6 [(0, .ref (a 99)), (1, .int x1), (2, .int x2)] → W p l e ({ frames := 1, cells := 0, slots := 0, locals := 20 } : Room) s m args below meth c H locs 0 0 (MQ below (QI D cy (wM cy a r) A Rr) args s 0 0 A) (F0 m 63 ls []) := by
  intro H locs ls hW hl
  unfold fX8_meetingOf_63 at hf
  refine lv_iconst (v := 0) C.1 C.2.1 dX8_meetingOf_63 (by decide) ?_
  exact lX8_meetingOf_64 C hr hlocks N _ _ _ _ hf _ _ _ hW (lv_sub hl [0, 1, 2] rfl)
def fX8_meetingOf_59 (N : Nat) (S : St) (x1 : Int32) (x2 : Int32) : Option (Int32 × St) :=
  fX8_meetingOf_64 N S x1 x2 (1 : Int32)
set_option maxHeartbeats 4000000 in
set_option maxRecDepth 100000 in
theorem lX8_meetingOf_59 {p : Program} {l : Launch} {e : Env} {s : State} {m : MethodId} {args : Array Value} {below : List Frame} {meth : Method} {c : Code} {D : va_G} {cy : Nat → ClassId} {a r : Nat → Nat} {A : Nat → Prop} {Rr : Int32 × St} (C : Cx p s m args c cX8_meetingOf 6 wsX8_meetingOf RX8 D cy) (hr : meth.sig.returnType = some .int) (hlocks : meth.locks = false) (N : Nat) (S : St) (x1 : Int32) (x2 : Int32) (hf : fX8_meetingOf_59 N S x1 x2 = some Rr) : ∀ (H : Heap) (locs : List Loc) (ls : Array Slot), WW D A s.heap (wM cy a r S) H locs → lv_has ls 6 [(0, .ref (a 99)), (1, .int x1), (2, .int x2)] → W p l e ({ frames := 1, cells := 0, slots := 0, locals := 20 } : Room) s m args below meth c H locs 0 0 (MQ below (QI D cy (wM cy a r) A Rr) args s 0 0 A) (F0 m 59 ls []) := by
  intro H locs ls hW hl
  unfold fX8_meetingOf_59 at hf
  refine lv_iconst (v := 1) C.1 C.2.1 dX8_meetingOf_59 (by decide) ?_
  refine lv_goto (tgt := 64) C.1 C.2.1 dX8_meetingOf_60 (by decide) ?_
  exact lX8_meetingOf_64 C hr hlocks N _ _ _ _ hf _ _ _ hW (lv_sub hl [0, 1, 2] rfl)
def fX8_meetingOf_40 (N : Nat) (S : St) (x1 : Int32) (x2 : Int32) : Option (Int32 × St) :=
  ckx x1 3010 <|
  if S.2.1 17 (x1 : Int32).toNatClampNeg = (1 : Int32) then
    ckx x2 3010 <|
    if S.2.1 17 (x2 : Int32).toNatClampNeg = 0 then
      fX8_meetingOf_59 N S x1 x2
    else
      fX8_meetingOf_63 N S x1 x2
  else
    fX8_meetingOf_63 N S x1 x2
set_option maxHeartbeats 4000000 in
set_option maxRecDepth 100000 in
theorem lX8_meetingOf_40 {p : Program} {l : Launch} {e : Env} {s : State} {m : MethodId} {args : Array Value} {below : List Frame} {meth : Method} {c : Code} {D : va_G} {cy : Nat → ClassId} {a r : Nat → Nat} {A : Nat → Prop} {Rr : Int32 × St} (C : Cx p s m args c cX8_meetingOf 6 wsX8_meetingOf RX8 D cy) (hr : meth.sig.returnType = some .int) (hlocks : meth.locks = false) (N : Nat) (S : St) (x1 : Int32) (x2 : Int32) (hf : fX8_meetingOf_40 N S x1 x2 = some Rr) : ∀ (H : Heap) (locs : List Loc) (ls : Array Slot), WW D A s.heap (wM cy a r S) H locs → lv_has ls 6 [(0, .ref (a 99)), (1, .int x1), (2, .int x2)] → W p l e ({ frames := 1, cells := 0, slots := 0, locals := 20 } : Room) s m args below meth c H locs 0 0 (MQ below (QI D cy (wM cy a r) A Rr) args s 0 0 A) (F0 m 40 ls []) := by
  intro H locs ls hW hl
  unfold fX8_meetingOf_40 at hf
  refine lv_aload_n C.1 C.2.1 dX8_meetingOf_40 rfl (lv_at hl 0 rfl) ?_
  refine fg_8_17 C kX8_meetingOf_8 mX8_meetingOf_98 hW dX8_meetingOf_41 ?_
  refine lv_iload_n C.1 C.2.1 dX8_meetingOf_44 rfl (lv_at hl 1 rfl) ?_
  obtain ⟨h1, hf⟩ := ckx_el hf
  refine al_8_17 C hW h1 dX8_meetingOf_45 ?_
  refine lv_iconst (v := 1) C.1 C.2.1 dX8_meetingOf_46 (by decide) ?_
  refine lv_icmp_ne (tgt := 63) C.1 C.2.1 dX8_meetingOf_47 (by decide) (fun q2 => ?_) (fun q2 => ?_)
  · replace hf := (if_neg q2).symm.trans hf
    exact lX8_meetingOf_63 C hr hlocks N _ _ _ hf _ _ _ hW (lv_sub hl [0, 1, 2] rfl)
  · replace hf := (if_pos q2).symm.trans hf
    refine lv_aload_n C.1 C.2.1 dX8_meetingOf_50 rfl (lv_at hl 0 rfl) ?_
    refine fg_8_17 C kX8_meetingOf_8 mX8_meetingOf_98 hW dX8_meetingOf_51 ?_
    refine lv_iload_n C.1 C.2.1 dX8_meetingOf_54 rfl (lv_at hl 2 rfl) ?_
    obtain ⟨h3, hf⟩ := ckx_el hf
    refine al_8_17 C hW h3 dX8_meetingOf_55 ?_
    refine lv_if_ne (tgt := 63) C.1 C.2.1 dX8_meetingOf_56 (by decide) (fun q4 => ?_) (fun q4 => ?_)
    · replace hf := (if_neg q4).symm.trans hf
      exact lX8_meetingOf_63 C hr hlocks N _ _ _ hf _ _ _ hW (lv_sub hl [0, 1, 2] rfl)
    · replace hf := (if_pos q4).symm.trans hf
      exact lX8_meetingOf_59 C hr hlocks N _ _ _ hf _ _ _ hW (lv_sub hl [0, 1, 2] rfl)
def fX8_meetingOf (N : Nat) (S : St) (p1 : Int32) (p2 : Int32) : Option (Int32 × St) :=
  ckx p1 3010 <|
  bnd (S.2.1 18 (p1 : Int32).toNatClampNeg) fun z2 =>
  ckx p2 3010 <|
  bnd (S.2.1 18 (p2 : Int32).toNatClampNeg) fun z4 =>
  if z2 = z4 then
    ckx p1 3010 <|
    if S.2.1 17 (p1 : Int32).toNatClampNeg = 0 then
      ckx p2 3010 <|
      if S.2.1 17 (p2 : Int32).toNatClampNeg = (1 : Int32) then
        fX8_meetingOf_59 N S p1 p2
      else
        fX8_meetingOf_40 N S p1 p2
    else
      fX8_meetingOf_40 N S p1 p2
  else
    if z4 ≤ z2 then
      fX8_meetingOf_120 N S p1 p2 z2 z4 p2
    else
      fX8_meetingOf_120 N S p1 p2 z2 z4 p1
set_option maxHeartbeats 4000000 in
set_option maxRecDepth 100000 in
theorem cX8_meetingOf_met (l : Launch) (D : va_G) (cy : Nat → ClassId) (a r : Nat → Nat) (sz N : Nat) (S : St) (p1 : Int32) (p2 : Int32) (Rr : Int32 × St) (hf : fX8_meetingOf N S p1 p2 = some Rr) : Met l yX8_meetingOf wsX8_meetingOf ({ frames := 1, cells := 0, slots := 0, locals := 20 } : Room) (va_Pc [.ref (a 99), .int p1, .int p2] (preW D cy (wM cy a r S) sz)) (QI D cy (wM cy a r) (va_A (wM cy a r S) sz) Rr) 0 0 (va_A (wM cy a r S) sz) := by
  refine Met.ofW (cc := cX8_meetingOf) (maxL := 6) (ret := (some .int)) (by decide) rfl ?_
  intro p e s m args below meth c s₁ B hml hv
  obtain ⟨rfl, rfl, hP, hK, hD0, hN⟩ := hv
  have hlocks := B.notSynchronized
  have hr := B.returns
  have C : Cx p s m _ c cX8_meetingOf 6 wsX8_meetingOf RX8 D cy := ⟨B.exec, B.bytes, hml, findClass_of_methodNamed B.named, atoms_spec (ws := wsX8_meetingOf) B.pre, hK, hN⟩
  have hW := ww_start (w := wM cy a r) hP hD0
  generalize va_A (wM cy a r S) s.heap.size = A at hW ⊢
  have hl := lv_entry ([.ref (a 99), .int p1, .int p2]) (n := 6) (Nat.le_of_ble_eq_true rfl)
  rw [lg_entry_eq]
  generalize (lg_sl ([.ref (a 99), .int p1, .int p2]) ++ List.replicate (6 - (lg_sl ([.ref (a 99), .int p1, .int p2])).length) Slot.unset).toArray = ls at hl ⊢
  have hl : lv_has ls 6 [(0, .ref (a 99)), (1, .int p1), (2, .int p2)] := hl
  unfold fX8_meetingOf at hf
  refine lv_aload_n C.1 C.2.1 dX8_meetingOf_0 rfl (lv_at hl 0 rfl) ?_
  refine fg_8_18 C kX8_meetingOf_8 mX8_meetingOf_101 hW dX8_meetingOf_1 ?_
  refine lv_iload_n C.1 C.2.1 dX8_meetingOf_4 rfl (lv_at hl 1 rfl) ?_
  obtain ⟨h1, hf⟩ := ckx_el hf
  refine al_8_18 C hW h1 dX8_meetingOf_5 ?_
  obtain ⟨z2, ez2, hf⟩ := bnd_el hf
  refine lv_as ez2 ?_
  refine lv_istore_n (lv' := [(3, .int z2), (0, .ref (a 99)), (1, .int p1), (2, .int p2)]) C.1 C.2.1 dX8_meetingOf_6 rfl hl (by decide) rfl (fun ls hl => ?_)
  refine lv_aload_n C.1 C.2.1 dX8_meetingOf_7 rfl (lv_at hl 1 rfl) ?_
  refine fg_8_18 C kX8_meetingOf_8 mX8_meetingOf_101 hW dX8_meetingOf_8 ?_
  refine lv_iload_n C.1 C.2.1 dX8_meetingOf_11 rfl (lv_at hl 3 rfl) ?_
  obtain ⟨h3, hf⟩ := ckx_el hf
  refine al_8_18 C hW h3 dX8_meetingOf_12 ?_
  obtain ⟨z4, ez4, hf⟩ := bnd_el hf
  refine lv_as ez4 ?_
  refine lv_istore (lv' := [(4, .int z4), (3, .int z2), (0, .ref (a 99)), (1, .int p1), (2, .int p2)]) C.1 C.2.1 dX8_meetingOf_13 hl (by decide) rfl (fun ls hl => ?_)
  refine lv_iload_n C.1 C.2.1 dX8_meetingOf_15 rfl (lv_at hl 1 rfl) ?_
  refine lv_iload C.1 C.2.1 dX8_meetingOf_16 (lv_at hl 0 rfl) ?_
  refine lv_icmp_ne (tgt := 108) C.1 C.2.1 dX8_meetingOf_18 (by decide) (fun q5 => ?_) (fun q5 => ?_)
  · replace hf := (if_neg q5).symm.trans hf
    refine lv_aload_n C.1 C.2.1 dX8_meetingOf_108 rfl (lv_at hl 2 rfl) ?_
    refine lv_iload_n C.1 C.2.1 dX8_meetingOf_109 rfl (lv_at hl 1 rfl) ?_
    refine lv_iload C.1 C.2.1 dX8_meetingOf_110 (lv_at hl 0 rfl) ?_
    refine lv_icmp_ge (tgt := 119) C.1 C.2.1 dX8_meetingOf_112 (by decide) (fun q6 => ?_) (fun q6 => ?_)
    · replace hf := (if_pos q6).symm.trans hf
      refine lv_iload_n C.1 C.2.1 dX8_meetingOf_119 rfl (lv_at hl 4 rfl) ?_
      exact lX8_meetingOf_120 C hr hlocks N _ _ _ _ _ _ hf _ _ _ hW (lv_sub hl [2, 3, 4, 1, 0] rfl)
    · replace hf := (if_neg q6).symm.trans hf
      refine lv_iload_n C.1 C.2.1 dX8_meetingOf_115 rfl (lv_at hl 3 rfl) ?_
      refine lv_goto (tgt := 120) C.1 C.2.1 dX8_meetingOf_116 (by decide) ?_
      exact lX8_meetingOf_120 C hr hlocks N _ _ _ _ _ _ hf _ _ _ hW (lv_sub hl [2, 3, 4, 1, 0] rfl)
  · replace hf := (if_pos q5).symm.trans hf
    refine lv_aload_n C.1 C.2.1 dX8_meetingOf_21 rfl (lv_at hl 2 rfl) ?_
    refine fg_8_17 C kX8_meetingOf_8 mX8_meetingOf_98 hW dX8_meetingOf_22 ?_
    refine lv_iload_n C.1 C.2.1 dX8_meetingOf_25 rfl (lv_at hl 3 rfl) ?_
    obtain ⟨h7, hf⟩ := ckx_el hf
    refine al_8_17 C hW h7 dX8_meetingOf_26 ?_
    refine lv_if_ne (tgt := 40) C.1 C.2.1 dX8_meetingOf_27 (by decide) (fun q8 => ?_) (fun q8 => ?_)
    · replace hf := (if_neg q8).symm.trans hf
      exact lX8_meetingOf_40 C hr hlocks N _ _ _ hf _ _ _ hW (lv_sub hl [2, 3, 4] rfl)
    · replace hf := (if_pos q8).symm.trans hf
      refine lv_aload_n C.1 C.2.1 dX8_meetingOf_30 rfl (lv_at hl 2 rfl) ?_
      refine fg_8_17 C kX8_meetingOf_8 mX8_meetingOf_98 hW dX8_meetingOf_31 ?_
      refine lv_iload_n C.1 C.2.1 dX8_meetingOf_34 rfl (lv_at hl 4 rfl) ?_
      obtain ⟨h9, hf⟩ := ckx_el hf
      refine al_8_17 C hW h9 dX8_meetingOf_35 ?_
      refine lv_iconst (v := 1) C.1 C.2.1 dX8_meetingOf_36 (by decide) ?_
      refine lv_icmp_eq (tgt := 59) C.1 C.2.1 dX8_meetingOf_37 (by decide) (fun q10 => ?_) (fun q10 => ?_)
      · replace hf := (if_pos q10).symm.trans hf
        exact lX8_meetingOf_59 C hr hlocks N _ _ _ hf _ _ _ hW (lv_sub hl [2, 3, 4] rfl)
      · replace hf := (if_neg q10).symm.trans hf
        exact lX8_meetingOf_40 C hr hlocks N _ _ _ hf _ _ _ hW (lv_sub hl [2, 3, 4] rfl)
theorem mX8_isTight_104 : Cond.fieldLink RX8 104 "SharedLambdaModel" "nodes" "I" ∈ wsX8_isTight := by decide +kernel
theorem mX8_isTight_98 : Cond.fieldLink RX8 98 "SharedLambdaModel" "kinds" "[I" ∈ wsX8_isTight := by decide +kernel
theorem mX8_isTight_241 : Cond.fieldLink RX8 241 "SharedLambdaModel" "passer" "I" ∈ wsX8_isTight := by decide +kernel
theorem mX8_isTight_101 : Cond.fieldLink RX8 101 "SharedLambdaModel" "indexes" "[I" ∈ wsX8_isTight := by decide +kernel
theorem mX8_isTight_244 : Cond.fieldLink RX8 244 "SharedLambdaModel" "passed" "I" ∈ wsX8_isTight := by decide +kernel
theorem kX8_isTight_8 : ∀ w ∈ u_ws RX8 TX8 58, w ∈ wsX8_isTight := fun _ h => List.mem_cons_of_mem _ (List.mem_append_right _ h)
def fX8_isTight_32 (N : Nat) (S : St) (y0 : Int32) (y1 : Int32) : Option (Int32 × St) :=
  bnd (y0 + y1) fun z1 =>
  if (3000 : Int32) < ((S.1 22 - (2 : Int32)) + z1) then
    some ((1 : Int32), S)
  else
    ckx (S.1 32) 3010 <|
    if S.2.1 17 (S.1 32 : Int32).toNatClampNeg = (4 : Int32) then
      ckx (S.1 33) 3010 <|
      if S.2.1 18 (S.1 33 : Int32).toNatClampNeg = (63 : Int32) then
        some ((1 : Int32), S)
      else
        some ((0 : Int32), S)
    else
      some ((0 : Int32), S)
set_option maxHeartbeats 4000000 in
set_option maxRecDepth 100000 in
theorem lX8_isTight_32 {p : Program} {l : Launch} {e : Env} {s : State} {m : MethodId} {args : Array Value} {below : List Frame} {meth : Method} {c : Code} {D : va_G} {cy : Nat → ClassId} {a r : Nat → Nat} {A : Nat → Prop} {Rr : Int32 × St} (C : Cx p s m args c cX8_isTight 2 wsX8_isTight RX8 D cy) (hr : meth.sig.returnType = some .boolean) (hlocks : meth.locks = false) (N : Nat) (S : St) (y0 : Int32) (y1 : Int32) (hf : fX8_isTight_32 N S y0 y1 = some Rr) : ∀ (H : Heap) (locs : List Loc) (ls : Array Slot), WW D A s.heap (wM cy a r S) H locs → lv_has ls 2 [(0, .ref (a 99))] → W p l e ({ frames := 1, cells := 0, slots := 0, locals := 20 } : Room) s m args below meth c H locs 0 0 (MQ below (QI D cy (wM cy a r) A Rr) args s 0 0 A) (F0 m 32 ls [.int y1, .int y0]) := by
  intro H locs ls hW hl
  unfold fX8_isTight_32 at hf
  refine lv_iadd C.1 C.2.1 dX8_isTight_32 ?_
  obtain ⟨z1, ez1, hf⟩ := bnd_el hf
  refine lv_as ez1 ?_
  refine lv_istore_n (lv' := [(1, .int z1), (0, .ref (a 99))]) C.1 C.2.1 dX8_isTight_33 rfl hl (by decide) rfl (fun ls hl => ?_)
  refine lv_aload_n C.1 C.2.1 dX8_isTight_34 rfl (lv_at hl 1 rfl) ?_
  refine fg_8_22 C kX8_isTight_8 mX8_isTight_104 hW dX8_isTight_35 ?_
  refine lv_iconst (v := 2) C.1 C.2.1 dX8_isTight_38 (by decide) ?_
  refine lv_isub C.1 C.2.1 dX8_isTight_39 ?_
  refine lv_iload_n C.1 C.2.1 dX8_isTight_40 rfl (lv_at hl 0 rfl) ?_
  refine lv_iadd C.1 C.2.1 dX8_isTight_41 ?_
  refine lv_sipush (v := 3000) C.1 C.2.1 dX8_isTight_42 (by decide) ?_
  refine lv_icmp_gt (tgt := 75) C.1 C.2.1 dX8_isTight_45 (by decide) (fun q2 => ?_) (fun q2 => ?_)
  · replace hf := (if_pos q2).symm.trans hf
    refine lv_iconst (v := 1) C.1 C.2.1 dX8_isTight_75 (by decide) ?_
    refine lv_goto (tgt := 80) C.1 C.2.1 dX8_isTight_76 (by decide) ?_
    exact mrI C hr hlocks rfl hf hW dX8_isTight_80
  · replace hf := (if_neg q2).symm.trans hf
    refine lv_aload_n C.1 C.2.1 dX8_isTight_48 rfl (lv_at hl 1 rfl) ?_
    refine fg_8_17 C kX8_isTight_8 mX8_isTight_98 hW dX8_isTight_49 ?_
    refine lv_aload_n C.1 C.2.1 dX8_isTight_52 rfl (lv_at hl 1 rfl) ?_
    refine fg_8_32 C kX8_isTight_8 mX8_isTight_241 hW dX8_isTight_53 ?_
    obtain ⟨h3, hf⟩ := ckx_el hf
    refine al_8_17 C hW h3 dX8_isTight_56 ?_
    refine lv_iconst (v := 4) C.1 C.2.1 dX8_isTight_57 (by decide) ?_
    refine lv_icmp_ne (tgt := 79) C.1 C.2.1 dX8_isTight_58 (by decide) (fun q4 => ?_) (fun q4 => ?_)
    · replace hf := (if_neg q4).symm.trans hf
      refine lv_iconst (v := 0) C.1 C.2.1 dX8_isTight_79 (by decide) ?_
      exact mrI C hr hlocks rfl hf hW dX8_isTight_80
    · replace hf := (if_pos q4).symm.trans hf
      refine lv_aload_n C.1 C.2.1 dX8_isTight_61 rfl (lv_at hl 1 rfl) ?_
      refine fg_8_18 C kX8_isTight_8 mX8_isTight_101 hW dX8_isTight_62 ?_
      refine lv_aload_n C.1 C.2.1 dX8_isTight_65 rfl (lv_at hl 1 rfl) ?_
      refine fg_8_33 C kX8_isTight_8 mX8_isTight_244 hW dX8_isTight_66 ?_
      obtain ⟨h5, hf⟩ := ckx_el hf
      refine al_8_18 C hW h5 dX8_isTight_69 ?_
      refine lv_bipush (v := 63) C.1 C.2.1 dX8_isTight_70 (by decide) ?_
      refine lv_icmp_ne (tgt := 79) C.1 C.2.1 dX8_isTight_72 (by decide) (fun q6 => ?_) (fun q6 => ?_)
      · replace hf := (if_neg q6).symm.trans hf
        refine lv_iconst (v := 0) C.1 C.2.1 dX8_isTight_79 (by decide) ?_
        exact mrI C hr hlocks rfl hf hW dX8_isTight_80
      · replace hf := (if_pos q6).symm.trans hf
        refine lv_iconst (v := 1) C.1 C.2.1 dX8_isTight_75 (by decide) ?_
        refine lv_goto (tgt := 80) C.1 C.2.1 dX8_isTight_76 (by decide) ?_
        exact mrI C hr hlocks rfl hf hW dX8_isTight_80
def fX8_isTight (N : Nat) (S : St) : Option (Int32 × St) :=
  ckx (S.1 33) 3010 <|
  bdo (fX8_ports (S.2.1 17 (S.1 33 : Int32).toNatClampNeg)) fun v2 =>
  ckx (S.1 32) 3010 <|
  if S.2.1 17 (S.1 32 : Int32).toNatClampNeg = (2 : Int32) then
    fX8_isTight_32 N S ((v2 - (1 : Int32))) (2 : Int32)
  else
    fX8_isTight_32 N S ((v2 - (1 : Int32))) (1 : Int32)
set_option maxHeartbeats 4000000 in
set_option maxRecDepth 100000 in
theorem cX8_isTight_met (l : Launch) (D : va_G) (cy : Nat → ClassId) (a r : Nat → Nat) (sz N : Nat) (S : St) (Rr : Int32 × St) (hf : fX8_isTight N S  = some Rr) : Met l yX8_isTight wsX8_isTight ({ frames := 1, cells := 0, slots := 0, locals := 20 } : Room) (va_Pc [.ref (a 99)] (preW D cy (wM cy a r S) sz)) (QI D cy (wM cy a r) (va_A (wM cy a r S) sz) Rr) 0 0 (va_A (wM cy a r S) sz) := by
  refine Met.ofW (cc := cX8_isTight) (maxL := 2) (ret := (some .boolean)) (by decide) rfl ?_
  intro p e s m args below meth c s₁ B hml hv
  obtain ⟨rfl, rfl, hP, hK, hD0, hN⟩ := hv
  have hlocks := B.notSynchronized
  have hr := B.returns
  have C : Cx p s m _ c cX8_isTight 2 wsX8_isTight RX8 D cy := ⟨B.exec, B.bytes, hml, findClass_of_methodNamed B.named, atoms_spec (ws := wsX8_isTight) B.pre, hK, hN⟩
  have hW := ww_start (w := wM cy a r) hP hD0
  generalize va_A (wM cy a r S) s.heap.size = A at hW ⊢
  have hl := lv_entry ([.ref (a 99)]) (n := 2) (Nat.le_of_ble_eq_true rfl)
  rw [lg_entry_eq]
  generalize (lg_sl ([.ref (a 99)]) ++ List.replicate (2 - (lg_sl ([.ref (a 99)])).length) Slot.unset).toArray = ls at hl ⊢
  have hl : lv_has ls 2 [(0, .ref (a 99))] := hl
  unfold fX8_isTight at hf
  refine lv_aload_n C.1 C.2.1 dX8_isTight_0 rfl (lv_at hl 0 rfl) ?_
  refine fg_8_17 C kX8_isTight_8 mX8_isTight_98 hW dX8_isTight_1 ?_
  refine lv_aload_n C.1 C.2.1 dX8_isTight_4 rfl (lv_at hl 0 rfl) ?_
  refine fg_8_33 C kX8_isTight_8 mX8_isTight_244 hW dX8_isTight_5 ?_
  obtain ⟨h1, hf⟩ := ckx_el hf
  refine al_8_17 C hW h1 dX8_isTight_8 ?_
  obtain ⟨v2, h3, hf⟩ := bdo_el hf
  refine mcS (As := [.int (S.2.1 17 (S.1 33 : Int32).toNatClampNeg)]) (rest := []) C (cX8_ports_met l (S.2.1 17 (S.1 33 : Int32).toNatClampNeg) v2 h3) (va_cwS 1 C.2.2.2.2.1 gX8_isTight_X8_ports rfl rfl rfl (by decide +kernel) ⟨Nat.le_of_ble_eq_true rfl, Nat.le_of_ble_eq_true rfl⟩) rfl hl.1 (Nat.le_of_ble_eq_true rfl) dX8_isTight_9 ⟨Nat.zero_le _, Nat.zero_le _⟩ rfl ?_
  refine lv_iconst (v := 1) C.1 C.2.1 dX8_isTight_12 (by decide) ?_
  refine lv_isub C.1 C.2.1 dX8_isTight_13 ?_
  refine lv_aload_n C.1 C.2.1 dX8_isTight_14 rfl (lv_at hl 0 rfl) ?_
  refine fg_8_17 C kX8_isTight_8 mX8_isTight_98 hW dX8_isTight_15 ?_
  refine lv_aload_n C.1 C.2.1 dX8_isTight_18 rfl (lv_at hl 0 rfl) ?_
  refine fg_8_32 C kX8_isTight_8 mX8_isTight_241 hW dX8_isTight_19 ?_
  obtain ⟨h4, hf⟩ := ckx_el hf
  refine al_8_17 C hW h4 dX8_isTight_22 ?_
  refine lv_iconst (v := 2) C.1 C.2.1 dX8_isTight_23 (by decide) ?_
  refine lv_icmp_ne (tgt := 31) C.1 C.2.1 dX8_isTight_24 (by decide) (fun q5 => ?_) (fun q5 => ?_)
  · replace hf := (if_neg q5).symm.trans hf
    refine lv_iconst (v := 1) C.1 C.2.1 dX8_isTight_31 (by decide) ?_
    exact lX8_isTight_32 C hr hlocks N _ _ _ hf _ _ _ hW (lv_sub hl [0] rfl)
  · replace hf := (if_pos q5).symm.trans hf
    refine lv_iconst (v := 2) C.1 C.2.1 dX8_isTight_27 (by decide) ?_
    refine lv_goto (tgt := 32) C.1 C.2.1 dX8_isTight_28 (by decide) ?_
    exact lX8_isTight_32 C hr hlocks N _ _ _ hf _ _ _ hW (lv_sub hl [0] rfl)
theorem mX8_stands_241 : Cond.fieldLink RX8 241 "SharedLambdaModel" "passer" "I" ∈ wsX8_stands := by decide +kernel
theorem mX8_stands_244 : Cond.fieldLink RX8 244 "SharedLambdaModel" "passed" "I" ∈ wsX8_stands := by decide +kernel
theorem mX8_stands_170 : Cond.fieldLink RX8 170 "SharedLambdaModel" "instead" "[I" ∈ wsX8_stands := by decide +kernel
theorem kX8_stands_8 : ∀ w ∈ u_ws RX8 TX8 58, w ∈ wsX8_stands := fun _ h => List.mem_cons_of_mem _ (List.mem_append_right _ h)
def fX8_stands (N : Nat) (S : St) (p1 : Int32) : Option (Int32 × St) :=
  if (p1 / (3 : Int32)) = S.1 32 then
    ckx ((p1 - p1 / (3 : Int32) * (3 : Int32))) 6 <|
    some (S.2.1 34 ((p1 - p1 / (3 : Int32) * (3 : Int32)) : Int32).toNatClampNeg, S)
  else
    if (p1 / (3 : Int32)) = S.1 33 then
      ckx (((3 : Int32) + (p1 - p1 / (3 : Int32) * (3 : Int32)))) 6 <|
      some (S.2.1 34 (((3 : Int32) + (p1 - p1 / (3 : Int32) * (3 : Int32))) : Int32).toNatClampNeg, S)
    else
      some (p1, S)
set_option maxHeartbeats 4000000 in
set_option maxRecDepth 100000 in
theorem cX8_stands_met (l : Launch) (D : va_G) (cy : Nat → ClassId) (a r : Nat → Nat) (sz N : Nat) (S : St) (p1 : Int32) (Rr : Int32 × St) (hf : fX8_stands N S p1 = some Rr) : Met l yX8_stands wsX8_stands ({ frames := 0, cells := 0, slots := 0, locals := 0 } : Room) (va_Pc [.ref (a 99), .int p1] (preW D cy (wM cy a r S) sz)) (QI D cy (wM cy a r) (va_A (wM cy a r S) sz) Rr) 0 0 (va_A (wM cy a r S) sz) := by
  refine Met.ofW (cc := cX8_stands) (maxL := 2) (ret := (some .int)) (by decide) rfl ?_
  intro p e s m args below meth c s₁ B hml hv
  obtain ⟨rfl, rfl, hP, hK, hD0, hN⟩ := hv
  have hlocks := B.notSynchronized
  have hr := B.returns
  have C : Cx p s m _ c cX8_stands 2 wsX8_stands RX8 D cy := ⟨B.exec, B.bytes, hml, findClass_of_methodNamed B.named, atoms_spec (ws := wsX8_stands) B.pre, hK, hN⟩
  have hW := ww_start (w := wM cy a r) hP hD0
  generalize va_A (wM cy a r S) s.heap.size = A at hW ⊢
  have hl := lv_entry ([.ref (a 99), .int p1]) (n := 2) (Nat.le_of_ble_eq_true rfl)
  rw [lg_entry_eq]
  generalize (lg_sl ([.ref (a 99), .int p1]) ++ List.replicate (2 - (lg_sl ([.ref (a 99), .int p1])).length) Slot.unset).toArray = ls at hl ⊢
  have hl : lv_has ls 2 [(0, .ref (a 99)), (1, .int p1)] := hl
  unfold fX8_stands at hf
  refine lv_iload_n C.1 C.2.1 dX8_stands_0 rfl (lv_at hl 1 rfl) ?_
  refine lv_iconst (v := 3) C.1 C.2.1 dX8_stands_1 (by decide) ?_
  refine lv_idiv C.1 C.2.1 dX8_stands_2 (by decide) ?_
  refine lv_aload_n C.1 C.2.1 dX8_stands_3 rfl (lv_at hl 0 rfl) ?_
  refine fg_8_32 C kX8_stands_8 mX8_stands_241 hW dX8_stands_4 ?_
  refine lv_icmp_ne (tgt := 21) C.1 C.2.1 dX8_stands_7 (by decide) (fun q1 => ?_) (fun q1 => ?_)
  · replace hf := (if_neg q1).symm.trans hf
    refine lv_iload_n C.1 C.2.1 dX8_stands_21 rfl (lv_at hl 1 rfl) ?_
    refine lv_iconst (v := 3) C.1 C.2.1 dX8_stands_22 (by decide) ?_
    refine lv_idiv C.1 C.2.1 dX8_stands_23 (by decide) ?_
    refine lv_aload_n C.1 C.2.1 dX8_stands_24 rfl (lv_at hl 0 rfl) ?_
    refine fg_8_33 C kX8_stands_8 mX8_stands_244 hW dX8_stands_25 ?_
    refine lv_icmp_ne (tgt := 44) C.1 C.2.1 dX8_stands_28 (by decide) (fun q2 => ?_) (fun q2 => ?_)
    · replace hf := (if_neg q2).symm.trans hf
      refine lv_iload_n C.1 C.2.1 dX8_stands_44 rfl (lv_at hl 1 rfl) ?_
      exact mrI C hr hlocks rfl hf hW dX8_stands_45
    · replace hf := (if_pos q2).symm.trans hf
      refine lv_aload_n C.1 C.2.1 dX8_stands_31 rfl (lv_at hl 0 rfl) ?_
      refine fg_8_34 C kX8_stands_8 mX8_stands_170 hW dX8_stands_32 ?_
      refine lv_iconst (v := 3) C.1 C.2.1 dX8_stands_35 (by decide) ?_
      refine lv_iload_n C.1 C.2.1 dX8_stands_36 rfl (lv_at hl 1 rfl) ?_
      refine lv_iconst (v := 3) C.1 C.2.1 dX8_stands_37 (by decide) ?_
      refine lv_irem C.1 C.2.1 dX8_stands_38 (by decide) ?_
      refine lv_iadd C.1 C.2.1 dX8_stands_39 ?_
      obtain ⟨h3, hf⟩ := ckx_el hf
      refine al_8_34 C hW h3 dX8_stands_40 ?_
      refine lv_goto (tgt := 45) C.1 C.2.1 dX8_stands_41 (by decide) ?_
      exact mrI C hr hlocks rfl hf hW dX8_stands_45
  · replace hf := (if_pos q1).symm.trans hf
    refine lv_aload_n C.1 C.2.1 dX8_stands_10 rfl (lv_at hl 0 rfl) ?_
    refine fg_8_34 C kX8_stands_8 mX8_stands_170 hW dX8_stands_11 ?_
    refine lv_iload_n C.1 C.2.1 dX8_stands_14 rfl (lv_at hl 1 rfl) ?_
    refine lv_iconst (v := 3) C.1 C.2.1 dX8_stands_15 (by decide) ?_
    refine lv_irem C.1 C.2.1 dX8_stands_16 (by decide) ?_
    obtain ⟨h4, hf⟩ := ckx_el hf
    refine al_8_34 C hW h4 dX8_stands_17 ?_
    refine lv_goto (tgt := 45) C.1 C.2.1 dX8_stands_18 (by decide) ?_
    exact mrI C hr hlocks rfl hf hW dX8_stands_45
theorem mX8_pass_170 : Cond.fieldLink RX8 170 "SharedLambdaModel" "instead" "[I" ∈ wsX8_pass := by decide +kernel
theorem mX8_pass_113 : Cond.fieldLink RX8 113 "SharedLambdaModel" "wires" "[I" ∈ wsX8_pass := by decide +kernel
theorem mX8_pass_101 : Cond.fieldLink RX8 101 "SharedLambdaModel" "indexes" "[I" ∈ wsX8_pass := by decide +kernel
theorem mX8_pass_98 : Cond.fieldLink RX8 98 "SharedLambdaModel" "kinds" "[I" ∈ wsX8_pass := by decide +kernel
theorem mX8_pass_241 : Cond.fieldLink RX8 241 "SharedLambdaModel" "passer" "I" ∈ wsX8_pass := by decide +kernel
theorem mX8_pass_244 : Cond.fieldLink RX8 244 "SharedLambdaModel" "passed" "I" ∈ wsX8_pass := by decide +kernel
theorem kX8_pass_8 : ∀ w ∈ u_ws RX8 TX8 58, w ∈ wsX8_pass := fun _ h => List.mem_cons_of_mem _ (List.mem_append_right _ h)
def fX8_pass_241s (N : Nat) (k241 : St × Int32 × Int32 × Int32 × Int32 → Option (St)) (S : St) (x1 : Int32) (x2 : Int32) (x4 : Int32) (x8 : Int32) : Option (St) :=
  if x4 ≤ x8 then
    bdo (fX8_free N S x1) fun S4 =>
    bdo (fX8_free N S4 x2) fun S7 =>
    some S7
  else
    ckx (((3 : Int32) + x8)) 6 <|
    ckx ((((3 : Int32) * x2) + x8)) 9030 <|
    bd2 (fX8_stands N S (S.2.1 19 ((((3 : Int32) * x2) + x8) : Int32).toNatClampNeg)) fun v10 S12 =>
    bdo (fX8_wire N S12 (S.2.1 34 (((3 : Int32) + x8) : Int32).toNatClampNeg) v10) fun S15 =>
    bnd (x8 + (1 : Int32)) fun z16 =>
    k241 (S15, x1, x2, x4, z16)
def fX8_pass_241 (N : Nat) : St × Int32 × Int32 × Int32 × Int32 → Option (St) := loopN (fun k x => fX8_pass_241s N k x.1 x.2.1 x.2.2.1 x.2.2.2.1 x.2.2.2.2) N
set_option maxHeartbeats 4000000 in
set_option maxRecDepth 100000 in
theorem lX8_pass_241 {p : Program} {l : Launch} {e : Env} {s : State} {m : MethodId} {args : Array Value} {below : List Frame} {meth : Method} {c : Code} {D : va_G} {cy : Nat → ClassId} {a r : Nat → Nat} {A : Nat → Prop} {Rr : St} (C : Cx p s m args c cX8_pass 10 wsX8_pass RX8 D cy) (hr : meth.sig.returnType = none) (hlocks : meth.locks = false) (N : Nat) : ∀ (n : Nat) (S : St) (x1 : Int32) (x2 : Int32) (x4 : Int32) (x8 : Int32), loopN (fun k x => fX8_pass_241s N k x.1 x.2.1 x.2.2.1 x.2.2.2.1 x.2.2.2.2) n (S, x1, x2, x4, x8) = some Rr → ∀ (H : Heap) (locs : List Loc) (ls : Array Slot), WW D A s.heap (wM cy a r S) H locs → lv_has ls 10 [(0, .ref (a 99)), (1, .int x1), (2, .int x2), (4, .int x4), (8, .int x8)] → W p l e ({ frames := 2, cells := 0, slots := 0, locals := 43 } : Room) s m args below meth c H locs 0 0 (MQ below (QV D cy (wM cy a r) A Rr) args s 0 0 A) (F0 m 241 ls []) := by
  intro n
  induction n with
  | zero =>
    intro S x1 x2 x4 x8 hf
    cases hf
  | succ n ih =>
    intro S x1 x2 x4 x8 hf H locs ls hW hl
    have hf : fX8_pass_241s N (loopN (fun k x => fX8_pass_241s N k x.1 x.2.1 x.2.2.1 x.2.2.2.1 x.2.2.2.2) n) S x1 x2 x4 x8 = some Rr := hf
    unfold fX8_pass_241s at hf
    refine lv_iload C.1 C.2.1 dX8_pass_241 (lv_at hl 4 rfl) ?_
    refine lv_iload C.1 C.2.1 dX8_pass_243 (lv_at hl 3 rfl) ?_
    refine lv_icmp_ge (tgt := 282) C.1 C.2.1 dX8_pass_245 (by decide) (fun q1 => ?_) (fun q1 => ?_)
    · replace hf := (if_pos q1).symm.trans hf
      refine lv_aload_n C.1 C.2.1 dX8_pass_282 rfl (lv_at hl 0 rfl) ?_
      refine lv_iload_n C.1 C.2.1 dX8_pass_283 rfl (lv_at hl 1 rfl) ?_
      obtain ⟨S4, h3, hf⟩ := bdo_el hf
      refine mcVv (w := wM cy a r) (S := S) (As := [.int x1]) (rest := []) (q0 := 0) (ci := 8) C (cX8_free_met l D cy a r _ N S x1 S4 h3) (cwV 1 C.2.2.2.2.1 gX8_pass_X8_free rfl rfl rfl (by decide +kernel) ⟨Nat.le_of_ble_eq_true rfl, Nat.le_of_ble_eq_true rfl⟩) rfl rfl rfl hl.1 (Nat.le_of_ble_eq_true rfl) hW dX8_pass_284 ⟨Nat.zero_le _, Nat.zero_le _⟩ rfl (fun H locs hW => ?_)
      refine lv_aload_n C.1 C.2.1 dX8_pass_287 rfl (lv_at hl 0 rfl) ?_
      refine lv_iload_n C.1 C.2.1 dX8_pass_288 rfl (lv_at hl 2 rfl) ?_
      obtain ⟨S7, h6, hf⟩ := bdo_el hf
      refine mcVv (w := wM cy a r) (S := S4) (As := [.int x2]) (rest := []) (q0 := 0) (ci := 8) C (cX8_free_met l D cy a r _ N S4 x2 S7 h6) (cwV 1 C.2.2.2.2.1 gX8_pass_X8_free rfl rfl rfl (by decide +kernel) ⟨Nat.le_of_ble_eq_true rfl, Nat.le_of_ble_eq_true rfl⟩) rfl rfl rfl hl.1 (Nat.le_of_ble_eq_true rfl) hW dX8_pass_289 ⟨Nat.zero_le _, Nat.zero_le _⟩ rfl (fun H locs hW => ?_)
      exact mrV C hr hlocks hf hW dX8_pass_292
    · replace hf := (if_neg q1).symm.trans hf
      refine lv_aload_n C.1 C.2.1 dX8_pass_248 rfl (lv_at hl 0 rfl) ?_
      refine lv_aload_n C.1 C.2.1 dX8_pass_249 rfl (lv_at hl 0 rfl) ?_
      refine fg_8_34 C kX8_pass_8 mX8_pass_170 hW dX8_pass_250 ?_
      refine lv_iconst (v := 3) C.1 C.2.1 dX8_pass_253 (by decide) ?_
      refine lv_iload C.1 C.2.1 dX8_pass_254 (lv_at hl 4 rfl) ?_
      refine lv_iadd C.1 C.2.1 dX8_pass_256 ?_
      obtain ⟨h8, hf⟩ := ckx_el hf
      refine al_8_34 C hW h8 dX8_pass_257 ?_
      refine lv_aload_n C.1 C.2.1 dX8_pass_258 rfl (lv_at hl 0 rfl) ?_
      refine lv_aload_n C.1 C.2.1 dX8_pass_259 rfl (lv_at hl 0 rfl) ?_
      refine fg_8_19 C kX8_pass_8 mX8_pass_113 hW dX8_pass_260 ?_
      refine lv_iconst (v := 3) C.1 C.2.1 dX8_pass_263 (by decide) ?_
      refine lv_iload_n C.1 C.2.1 dX8_pass_264 rfl (lv_at hl 2 rfl) ?_
      refine lv_imul C.1 C.2.1 dX8_pass_265 ?_
      refine lv_iload C.1 C.2.1 dX8_pass_266 (lv_at hl 4 rfl) ?_
      refine lv_iadd C.1 C.2.1 dX8_pass_268 ?_
      obtain ⟨h9, hf⟩ := ckx_el hf
      refine al_8_19 C hW h9 dX8_pass_269 ?_
      obtain ⟨v10, S12, h11, hf⟩ := bd2_el hf
      refine mcVi (w := wM cy a r) (S := S) (As := [.int (S.2.1 19 ((((3 : Int32) * x2) + x8) : Int32).toNatClampNeg)]) (rest := [.int (S.2.1 34 (((3 : Int32) + x8) : Int32).toNatClampNeg), .ref (a 99)]) (q0 := 0) (ci := 8) C (cX8_stands_met l D cy a r _ N S (S.2.1 19 ((((3 : Int32) * x2) + x8) : Int32).toNatClampNeg) (v10, S12) h11) (cwV 1 C.2.2.2.2.1 gX8_pass_X8_stands rfl rfl rfl (by decide +kernel) ⟨Nat.le_of_ble_eq_true rfl, Nat.le_of_ble_eq_true rfl⟩) rfl rfl rfl hl.1 (Nat.le_of_ble_eq_true rfl) hW dX8_pass_270 ⟨Nat.zero_le _, Nat.zero_le _⟩ rfl (fun H locs hW => ?_)
      obtain ⟨S15, h14, hf⟩ := bdo_el hf
      refine mcVv (w := wM cy a r) (S := S12) (As := [.int (S.2.1 34 (((3 : Int32) + x8) : Int32).toNatClampNeg), .int v10]) (rest := []) (q0 := 0) (ci := 8) C (cX8_wire_met l D cy a r _ N S12 (S.2.1 34 (((3 : Int32) + x8) : Int32).toNatClampNeg) v10 S15 h14) (cwV 2 C.2.2.2.2.1 gX8_pass_X8_wire rfl rfl rfl (by decide +kernel) ⟨Nat.le_of_ble_eq_true rfl, Nat.le_of_ble_eq_true rfl⟩) rfl rfl rfl hl.1 (Nat.le_of_ble_eq_true rfl) hW dX8_pass_273 ⟨Nat.zero_le _, Nat.zero_le _⟩ rfl (fun H locs hW => ?_)
      obtain ⟨z16, ez16, hf⟩ := bnd_el hf
      refine lv_iinc (v := z16) (lv' := [(8, .int z16), (0, .ref (a 99)), (1, .int x1), (2, .int x2), (4, .int x4)]) C.1 C.2.1 dX8_pass_276 hl (k := 4) rfl (by rw [ez16]; rfl) (by decide) rfl (fun ls hl => ?_)
      refine lv_goto (tgt := 241) C.1 C.2.1 dX8_pass_279 (by decide) ?_
      exact ih _ _ _ _ _ hf _ _ _ hW (lv_sub hl [1, 2, 3, 4, 0] rfl)
def fX8_pass_197s (N : Nat) (k197 : St × Int32 × Int32 × Int32 × Int32 × Int32 → Option (St)) (S : St) (x1 : Int32) (x2 : Int32) (x3 : Int32) (x4 : Int32) (x8 : Int32) : Option (St) :=
  bdo (fX8_ports x3) fun v1 =>
  if v1 ≤ x8 then
    bnd (1 : Int32) fun z4 =>
    fX8_pass_241 N (S, x1, x2, x4, z4)
  else
    ckx x8 6 <|
    ckx ((((3 : Int32) * x1) + x8)) 9030 <|
    bd2 (fX8_stands N S (S.2.1 19 ((((3 : Int32) * x1) + x8) : Int32).toNatClampNeg)) fun v7 S9 =>
    bdo (fX8_wire N S9 (S.2.1 34 (x8 : Int32).toNatClampNeg) v7) fun S12 =>
    bnd (x8 + (1 : Int32)) fun z13 =>
    k197 (S12, x1, x2, x3, x4, z13)
def fX8_pass_197 (N : Nat) : St × Int32 × Int32 × Int32 × Int32 × Int32 → Option (St) := loopN (fun k x => fX8_pass_197s N k x.1 x.2.1 x.2.2.1 x.2.2.2.1 x.2.2.2.2.1 x.2.2.2.2.2) N
set_option maxHeartbeats 4000000 in
set_option maxRecDepth 100000 in
theorem lX8_pass_197 {p : Program} {l : Launch} {e : Env} {s : State} {m : MethodId} {args : Array Value} {below : List Frame} {meth : Method} {c : Code} {D : va_G} {cy : Nat → ClassId} {a r : Nat → Nat} {A : Nat → Prop} {Rr : St} (C : Cx p s m args c cX8_pass 10 wsX8_pass RX8 D cy) (hr : meth.sig.returnType = none) (hlocks : meth.locks = false) (N : Nat) : ∀ (n : Nat) (S : St) (x1 : Int32) (x2 : Int32) (x3 : Int32) (x4 : Int32) (x8 : Int32), loopN (fun k x => fX8_pass_197s N k x.1 x.2.1 x.2.2.1 x.2.2.2.1 x.2.2.2.2.1 x.2.2.2.2.2) n (S, x1, x2, x3, x4, x8) = some Rr → ∀ (H : Heap) (locs : List Loc) (ls : Array Slot), WW D A s.heap (wM cy a r S) H locs → lv_has ls 10 [(0, .ref (a 99)), (1, .int x1), (2, .int x2), (3, .int x3), (4, .int x4), (8, .int x8)] → W p l e ({ frames := 2, cells := 0, slots := 0, locals := 43 } : Room) s m args below meth c H locs 0 0 (MQ below (QV D cy (wM cy a r) A Rr) args s 0 0 A) (F0 m 197 ls []) := by
  intro n
  induction n with
  | zero =>
    intro S x1 x2 x3 x4 x8 hf
    cases hf
  | succ n ih =>
    intro S x1 x2 x3 x4 x8 hf H locs ls hW hl
    have hf : fX8_pass_197s N (loopN (fun k x => fX8_pass_197s N k x.1 x.2.1 x.2.2.1 x.2.2.2.1 x.2.2.2.2.1 x.2.2.2.2.2) n) S x1 x2 x3 x4 x8 = some Rr := hf
    unfold fX8_pass_197s at hf
    refine lv_iload C.1 C.2.1 dX8_pass_197 (lv_at hl 5 rfl) ?_
    refine lv_iload_n C.1 C.2.1 dX8_pass_199 rfl (lv_at hl 3 rfl) ?_
    obtain ⟨v1, h2, hf⟩ := bdo_el hf
    refine mcS (As := [.int x3]) (rest := [.int x8]) C (cX8_ports_met l x3 v1 h2) (va_cwS 1 C.2.2.2.2.1 gX8_pass_X8_ports rfl rfl rfl (by decide +kernel) ⟨Nat.le_of_ble_eq_true rfl, Nat.le_of_ble_eq_true rfl⟩) rfl hl.1 (Nat.le_of_ble_eq_true rfl) dX8_pass_200 ⟨Nat.zero_le _, Nat.zero_le _⟩ rfl ?_
    refine lv_icmp_ge (tgt := 238) C.1 C.2.1 dX8_pass_203 (by decide) (fun q3 => ?_) (fun q3 => ?_)
    · replace hf := (if_pos q3).symm.trans hf
      refine lv_iconst (v := 1) C.1 C.2.1 dX8_pass_238 (by decide) ?_
      obtain ⟨z4, ez4, hf⟩ := bnd_el hf
      refine lv_as ez4 ?_
      refine lv_istore (lv' := [(8, .int z4), (0, .ref (a 99)), (1, .int x1), (2, .int x2), (3, .int x3), (4, .int x4)]) C.1 C.2.1 dX8_pass_239 hl (by decide) rfl (fun ls hl => ?_)
      exact lX8_pass_241 C hr hlocks N _ _ _ _ _ _ hf _ _ _ hW (lv_sub hl [1, 2, 3, 5, 0] rfl)
    · replace hf := (if_neg q3).symm.trans hf
      refine lv_aload_n C.1 C.2.1 dX8_pass_206 rfl (lv_at hl 0 rfl) ?_
      refine lv_aload_n C.1 C.2.1 dX8_pass_207 rfl (lv_at hl 0 rfl) ?_
      refine fg_8_34 C kX8_pass_8 mX8_pass_170 hW dX8_pass_208 ?_
      refine lv_iload C.1 C.2.1 dX8_pass_211 (lv_at hl 5 rfl) ?_
      obtain ⟨h5, hf⟩ := ckx_el hf
      refine al_8_34 C hW h5 dX8_pass_213 ?_
      refine lv_aload_n C.1 C.2.1 dX8_pass_214 rfl (lv_at hl 0 rfl) ?_
      refine lv_aload_n C.1 C.2.1 dX8_pass_215 rfl (lv_at hl 0 rfl) ?_
      refine fg_8_19 C kX8_pass_8 mX8_pass_113 hW dX8_pass_216 ?_
      refine lv_iconst (v := 3) C.1 C.2.1 dX8_pass_219 (by decide) ?_
      refine lv_iload_n C.1 C.2.1 dX8_pass_220 rfl (lv_at hl 1 rfl) ?_
      refine lv_imul C.1 C.2.1 dX8_pass_221 ?_
      refine lv_iload C.1 C.2.1 dX8_pass_222 (lv_at hl 5 rfl) ?_
      refine lv_iadd C.1 C.2.1 dX8_pass_224 ?_
      obtain ⟨h6, hf⟩ := ckx_el hf
      refine al_8_19 C hW h6 dX8_pass_225 ?_
      obtain ⟨v7, S9, h8, hf⟩ := bd2_el hf
      refine mcVi (w := wM cy a r) (S := S) (As := [.int (S.2.1 19 ((((3 : Int32) * x1) + x8) : Int32).toNatClampNeg)]) (rest := [.int (S.2.1 34 (x8 : Int32).toNatClampNeg), .ref (a 99)]) (q0 := 0) (ci := 8) C (cX8_stands_met l D cy a r _ N S (S.2.1 19 ((((3 : Int32) * x1) + x8) : Int32).toNatClampNeg) (v7, S9) h8) (cwV 1 C.2.2.2.2.1 gX8_pass_X8_stands rfl rfl rfl (by decide +kernel) ⟨Nat.le_of_ble_eq_true rfl, Nat.le_of_ble_eq_true rfl⟩) rfl rfl rfl hl.1 (Nat.le_of_ble_eq_true rfl) hW dX8_pass_226 ⟨Nat.zero_le _, Nat.zero_le _⟩ rfl (fun H locs hW => ?_)
      obtain ⟨S12, h11, hf⟩ := bdo_el hf
      refine mcVv (w := wM cy a r) (S := S9) (As := [.int (S.2.1 34 (x8 : Int32).toNatClampNeg), .int v7]) (rest := []) (q0 := 0) (ci := 8) C (cX8_wire_met l D cy a r _ N S9 (S.2.1 34 (x8 : Int32).toNatClampNeg) v7 S12 h11) (cwV 2 C.2.2.2.2.1 gX8_pass_X8_wire rfl rfl rfl (by decide +kernel) ⟨Nat.le_of_ble_eq_true rfl, Nat.le_of_ble_eq_true rfl⟩) rfl rfl rfl hl.1 (Nat.le_of_ble_eq_true rfl) hW dX8_pass_229 ⟨Nat.zero_le _, Nat.zero_le _⟩ rfl (fun H locs hW => ?_)
      obtain ⟨z13, ez13, hf⟩ := bnd_el hf
      refine lv_iinc (v := z13) (lv' := [(8, .int z13), (0, .ref (a 99)), (1, .int x1), (2, .int x2), (3, .int x3), (4, .int x4)]) C.1 C.2.1 dX8_pass_232 hl (k := 5) rfl (by rw [ez13]; rfl) (by decide) rfl (fun ls hl => ?_)
      refine lv_goto (tgt := 197) C.1 C.2.1 dX8_pass_235 (by decide) ?_
      exact ih _ _ _ _ _ _ hf _ _ _ hW (lv_sub hl [1, 2, 3, 4, 5, 0] rfl)
def fX8_pass_188 (N : Nat) (k116 : St × Int32 × Int32 × Int32 × Int32 × Int32 × Int32 × Int32 → Option (St)) (S : St) (x1 : Int32) (x2 : Int32) (x3 : Int32) (x4 : Int32) (x6 : Int32) (x7 : Int32) (x8 : Int32) : Option (St) :=
  bnd (x8 + (1 : Int32)) fun z1 =>
  k116 (S, x1, x2, x3, x4, x6, x7, z1)
set_option maxHeartbeats 4000000 in
set_option maxRecDepth 100000 in
theorem lX8_pass_188 {p : Program} {l : Launch} {e : Env} {s : State} {m : MethodId} {args : Array Value} {below : List Frame} {meth : Method} {c : Code} {D : va_G} {cy : Nat → ClassId} {a r : Nat → Nat} {A : Nat → Prop} {Rr : St} (C : Cx p s m args c cX8_pass 10 wsX8_pass RX8 D cy) (hr : meth.sig.returnType = none) (hlocks : meth.locks = false) (N : Nat) (k116 : St × Int32 × Int32 × Int32 × Int32 × Int32 × Int32 × Int32 → Option (St)) (hk116 : ∀ (S : St) (x1 : Int32) (x2 : Int32) (x3 : Int32) (x4 : Int32) (x6 : Int32) (x7 : Int32) (x8 : Int32), k116 (S, x1, x2, x3, x4, x6, x7, x8) = some Rr → ∀ (H : Heap) (locs : List Loc) (ls : Array Slot), WW D A s.heap (wM cy a r S) H locs → lv_has ls 10 [(0, .ref (a 99)), (1, .int x1), (2, .int x2), (3, .int x3), (4, .int x4), (6, .int x6), (7, .int x7), (8, .int x8)] → W p l e ({ frames := 2, cells := 0, slots := 0, locals := 43 } : Room) s m args below meth c H locs 0 0 (MQ below (QV D cy (wM cy a r) A Rr) args s 0 0 A) (F0 m 116 ls [])) (S : St) (x1 : Int32) (x2 : Int32) (x3 : Int32) (x4 : Int32) (x6 : Int32) (x7 : Int32) (x8 : Int32) (hf : fX8_pass_188 N k116 S x1 x2 x3 x4 x6 x7 x8 = some Rr) : ∀ (H : Heap) (locs : List Loc) (ls : Array Slot), WW D A s.heap (wM cy a r S) H locs → lv_has ls 10 [(0, .ref (a 99)), (1, .int x1), (2, .int x2), (3, .int x3), (4, .int x4), (6, .int x6), (7, .int x7), (8, .int x8)] → W p l e ({ frames := 2, cells := 0, slots := 0, locals := 43 } : Room) s m args below meth c H locs 0 0 (MQ below (QV D cy (wM cy a r) A Rr) args s 0 0 A) (F0 m 188 ls []) := by
  intro H locs ls hW hl
  unfold fX8_pass_188 at hf
  obtain ⟨z1, ez1, hf⟩ := bnd_el hf
  refine lv_iinc (v := z1) (lv' := [(8, .int z1), (0, .ref (a 99)), (1, .int x1), (2, .int x2), (3, .int x3), (4, .int x4), (6, .int x6), (7, .int x7)]) C.1 C.2.1 dX8_pass_188 hl (k := 7) rfl (by rw [ez1]; rfl) (by decide) rfl (fun ls hl => ?_)
  refine lv_goto (tgt := 116) C.1 C.2.1 dX8_pass_191 (by decide) ?_
  exact hk116 _ _ _ _ _ _ _ _ hf _ _ _ hW (lv_sub hl [1, 2, 3, 4, 5, 6, 7, 0] rfl)
def fX8_pass_116s (N : Nat) (k116 : St × Int32 × Int32 × Int32 × Int32 × Int32 × Int32 × Int32 → Option (St)) (S : St) (x1 : Int32) (x2 : Int32) (x3 : Int32) (x4 : Int32) (x6 : Int32) (x7 : Int32) (x8 : Int32) : Option (St) :=
  if x4 ≤ x8 then
    bnd (1 : Int32) fun z2 =>
    fX8_pass_197 N (S, x1, x2, x3, x4, z2)
  else
    ckx x1 3010 <|
    bd2 (fX8_node N S x3 (S.2.1 18 (x1 : Int32).toNatClampNeg)) fun v4 S6 =>
    ckx (((3 : Int32) + x8)) 6 <|
    bnd (sA S6 34 (upd (S6.2.1 34) (((3 : Int32) + x8) : Int32).toNatClampNeg (((3 : Int32) * v4)))) fun S8 =>
    bdo (fX8_wire N S8 ((((3 : Int32) * x6) + x8)) ((((3 : Int32) * v4) + (1 : Int32)))) fun S11 =>
    if x3 = (2 : Int32) then
      bdo (fX8_wire N S11 ((((3 : Int32) * x7) + x8)) ((((3 : Int32) * v4) + (2 : Int32)))) fun S15 =>
      fX8_pass_188 N k116 S15 x1 x2 x3 x4 x6 x7 x8
    else
      fX8_pass_188 N k116 S11 x1 x2 x3 x4 x6 x7 x8
def fX8_pass_116 (N : Nat) : St × Int32 × Int32 × Int32 × Int32 × Int32 × Int32 × Int32 → Option (St) := loopN (fun k x => fX8_pass_116s N k x.1 x.2.1 x.2.2.1 x.2.2.2.1 x.2.2.2.2.1 x.2.2.2.2.2.1 x.2.2.2.2.2.2.1 x.2.2.2.2.2.2.2) N
set_option maxHeartbeats 4000000 in
set_option maxRecDepth 100000 in
theorem lX8_pass_116 {p : Program} {l : Launch} {e : Env} {s : State} {m : MethodId} {args : Array Value} {below : List Frame} {meth : Method} {c : Code} {D : va_G} {cy : Nat → ClassId} {a r : Nat → Nat} {A : Nat → Prop} {Rr : St} (C : Cx p s m args c cX8_pass 10 wsX8_pass RX8 D cy) (hr : meth.sig.returnType = none) (hlocks : meth.locks = false) (N : Nat) : ∀ (n : Nat) (S : St) (x1 : Int32) (x2 : Int32) (x3 : Int32) (x4 : Int32) (x6 : Int32) (x7 : Int32) (x8 : Int32), loopN (fun k x => fX8_pass_116s N k x.1 x.2.1 x.2.2.1 x.2.2.2.1 x.2.2.2.2.1 x.2.2.2.2.2.1 x.2.2.2.2.2.2.1 x.2.2.2.2.2.2.2) n (S, x1, x2, x3, x4, x6, x7, x8) = some Rr → ∀ (H : Heap) (locs : List Loc) (ls : Array Slot), WW D A s.heap (wM cy a r S) H locs → lv_has ls 10 [(0, .ref (a 99)), (1, .int x1), (2, .int x2), (3, .int x3), (4, .int x4), (6, .int x6), (7, .int x7), (8, .int x8)] → W p l e ({ frames := 2, cells := 0, slots := 0, locals := 43 } : Room) s m args below meth c H locs 0 0 (MQ below (QV D cy (wM cy a r) A Rr) args s 0 0 A) (F0 m 116 ls []) := by
  intro n
  induction n with
  | zero =>
    intro S x1 x2 x3 x4 x6 x7 x8 hf
    cases hf
  | succ n ih =>
    intro S x1 x2 x3 x4 x6 x7 x8 hf H locs ls hW hl
    have hf : fX8_pass_116s N (loopN (fun k x => fX8_pass_116s N k x.1 x.2.1 x.2.2.1 x.2.2.2.1 x.2.2.2.2.1 x.2.2.2.2.2.1 x.2.2.2.2.2.2.1 x.2.2.2.2.2.2.2) n) S x1 x2 x3 x4 x6 x7 x8 = some Rr := hf
    unfold fX8_pass_116s at hf
    refine lv_iload C.1 C.2.1 dX8_pass_116 (lv_at hl 7 rfl) ?_
    refine lv_iload C.1 C.2.1 dX8_pass_118 (lv_at hl 4 rfl) ?_
    refine lv_icmp_ge (tgt := 194) C.1 C.2.1 dX8_pass_120 (by decide) (fun q1 => ?_) (fun q1 => ?_)
    · replace hf := (if_pos q1).symm.trans hf
      refine lv_iconst (v := 1) C.1 C.2.1 dX8_pass_194 (by decide) ?_
      obtain ⟨z2, ez2, hf⟩ := bnd_el hf
      refine lv_as ez2 ?_
      refine lv_istore (lv' := [(8, .int z2), (0, .ref (a 99)), (1, .int x1), (2, .int x2), (3, .int x3), (4, .int x4), (6, .int x6), (7, .int x7)]) C.1 C.2.1 dX8_pass_195 hl (by decide) rfl (fun ls hl => ?_)
      exact lX8_pass_197 C hr hlocks N _ _ _ _ _ _ _ hf _ _ _ hW (lv_sub hl [1, 2, 3, 4, 5, 0] rfl)
    · replace hf := (if_neg q1).symm.trans hf
      refine lv_aload_n C.1 C.2.1 dX8_pass_123 rfl (lv_at hl 0 rfl) ?_
      refine lv_iload_n C.1 C.2.1 dX8_pass_124 rfl (lv_at hl 3 rfl) ?_
      refine lv_aload_n C.1 C.2.1 dX8_pass_125 rfl (lv_at hl 0 rfl) ?_
      refine fg_8_18 C kX8_pass_8 mX8_pass_101 hW dX8_pass_126 ?_
      refine lv_iload_n C.1 C.2.1 dX8_pass_129 rfl (lv_at hl 1 rfl) ?_
      obtain ⟨h3, hf⟩ := ckx_el hf
      refine al_8_18 C hW h3 dX8_pass_130 ?_
      obtain ⟨v4, S6, h5, hf⟩ := bd2_el hf
      refine mcVi (w := wM cy a r) (S := S) (As := [.int x3, .int (S.2.1 18 (x1 : Int32).toNatClampNeg)]) (rest := []) (q0 := 0) (ci := 8) C (cX8_node_met l D cy a r _ N S x3 (S.2.1 18 (x1 : Int32).toNatClampNeg) (v4, S6) h5) (cwV 2 C.2.2.2.2.1 gX8_pass_X8_node rfl rfl rfl (by decide +kernel) ⟨Nat.le_of_ble_eq_true rfl, Nat.le_of_ble_eq_true rfl⟩) rfl rfl rfl hl.1 (Nat.le_of_ble_eq_true rfl) hW dX8_pass_131 ⟨Nat.zero_le _, Nat.zero_le _⟩ rfl (fun H locs hW => ?_)
      refine lv_istore (lv' := [(9, .int v4), (0, .ref (a 99)), (1, .int x1), (2, .int x2), (3, .int x3), (4, .int x4), (6, .int x6), (7, .int x7), (8, .int x8)]) C.1 C.2.1 dX8_pass_134 hl (by decide) rfl (fun ls hl => ?_)
      refine lv_aload_n C.1 C.2.1 dX8_pass_136 rfl (lv_at hl 1 rfl) ?_
      refine fg_8_34 C kX8_pass_8 mX8_pass_170 hW dX8_pass_137 ?_
      refine lv_iconst (v := 3) C.1 C.2.1 dX8_pass_140 (by decide) ?_
      refine lv_iload C.1 C.2.1 dX8_pass_141 (lv_at hl 8 rfl) ?_
      refine lv_iadd C.1 C.2.1 dX8_pass_143 ?_
      refine lv_iconst (v := 3) C.1 C.2.1 dX8_pass_144 (by decide) ?_
      refine lv_iload C.1 C.2.1 dX8_pass_145 (lv_at hl 0 rfl) ?_
      refine lv_imul C.1 C.2.1 dX8_pass_147 ?_
      obtain ⟨h7, hf⟩ := ckx_el hf
      obtain ⟨S8, eS8, hf⟩ := bnd_el hf
      refine as_8_34 C hW h7 dX8_pass_148 eS8 (fun H locs hW => ?_)
      refine lv_aload_n C.1 C.2.1 dX8_pass_149 rfl (lv_at hl 1 rfl) ?_
      refine lv_iconst (v := 3) C.1 C.2.1 dX8_pass_150 (by decide) ?_
      refine lv_iload C.1 C.2.1 dX8_pass_151 (lv_at hl 6 rfl) ?_
      refine lv_imul C.1 C.2.1 dX8_pass_153 ?_
      refine lv_iload C.1 C.2.1 dX8_pass_154 (lv_at hl 8 rfl) ?_
      refine lv_iadd C.1 C.2.1 dX8_pass_156 ?_
      refine lv_iconst (v := 3) C.1 C.2.1 dX8_pass_157 (by decide) ?_
      refine lv_iload C.1 C.2.1 dX8_pass_158 (lv_at hl 0 rfl) ?_
      refine lv_imul C.1 C.2.1 dX8_pass_160 ?_
      refine lv_iconst (v := 1) C.1 C.2.1 dX8_pass_161 (by decide) ?_
      refine lv_iadd C.1 C.2.1 dX8_pass_162 ?_
      obtain ⟨S11, h10, hf⟩ := bdo_el hf
      refine mcVv (w := wM cy a r) (S := S8) (As := [.int ((((3 : Int32) * x6) + x8)), .int ((((3 : Int32) * v4) + (1 : Int32)))]) (rest := []) (q0 := 0) (ci := 8) C (cX8_wire_met l D cy a r _ N S8 ((((3 : Int32) * x6) + x8)) ((((3 : Int32) * v4) + (1 : Int32))) S11 h10) (cwV 2 C.2.2.2.2.1 gX8_pass_X8_wire rfl rfl rfl (by decide +kernel) ⟨Nat.le_of_ble_eq_true rfl, Nat.le_of_ble_eq_true rfl⟩) rfl rfl rfl hl.1 (Nat.le_of_ble_eq_true rfl) hW dX8_pass_163 ⟨Nat.zero_le _, Nat.zero_le _⟩ rfl (fun H locs hW => ?_)
      refine lv_iload_n C.1 C.2.1 dX8_pass_166 rfl (lv_at hl 4 rfl) ?_
      refine lv_iconst (v := 2) C.1 C.2.1 dX8_pass_167 (by decide) ?_
      refine lv_icmp_ne (tgt := 188) C.1 C.2.1 dX8_pass_168 (by decide) (fun q12 => ?_) (fun q12 => ?_)
      · replace hf := (if_neg q12).symm.trans hf
        exact lX8_pass_188 C hr hlocks N _ ih _ _ _ _ _ _ _ _ hf _ _ _ hW (lv_sub hl [1, 2, 3, 4, 5, 6, 7, 8] rfl)
      · replace hf := (if_pos q12).symm.trans hf
        refine lv_aload_n C.1 C.2.1 dX8_pass_171 rfl (lv_at hl 1 rfl) ?_
        refine lv_iconst (v := 3) C.1 C.2.1 dX8_pass_172 (by decide) ?_
        refine lv_iload C.1 C.2.1 dX8_pass_173 (lv_at hl 7 rfl) ?_
        refine lv_imul C.1 C.2.1 dX8_pass_175 ?_
        refine lv_iload C.1 C.2.1 dX8_pass_176 (lv_at hl 8 rfl) ?_
        refine lv_iadd C.1 C.2.1 dX8_pass_178 ?_
        refine lv_iconst (v := 3) C.1 C.2.1 dX8_pass_179 (by decide) ?_
        refine lv_iload C.1 C.2.1 dX8_pass_180 (lv_at hl 0 rfl) ?_
        refine lv_imul C.1 C.2.1 dX8_pass_182 ?_
        refine lv_iconst (v := 2) C.1 C.2.1 dX8_pass_183 (by decide) ?_
        refine lv_iadd C.1 C.2.1 dX8_pass_184 ?_
        obtain ⟨S15, h14, hf⟩ := bdo_el hf
        refine mcVv (w := wM cy a r) (S := S11) (As := [.int ((((3 : Int32) * x7) + x8)), .int ((((3 : Int32) * v4) + (2 : Int32)))]) (rest := []) (q0 := 0) (ci := 8) C (cX8_wire_met l D cy a r _ N S11 ((((3 : Int32) * x7) + x8)) ((((3 : Int32) * v4) + (2 : Int32))) S15 h14) (cwV 2 C.2.2.2.2.1 gX8_pass_X8_wire rfl rfl rfl (by decide +kernel) ⟨Nat.le_of_ble_eq_true rfl, Nat.le_of_ble_eq_true rfl⟩) rfl rfl rfl hl.1 (Nat.le_of_ble_eq_true rfl) hW dX8_pass_185 ⟨Nat.zero_le _, Nat.zero_le _⟩ rfl (fun H locs hW => ?_)
        exact lX8_pass_188 C hr hlocks N _ ih _ _ _ _ _ _ _ _ hf _ _ _ hW (lv_sub hl [1, 2, 3, 4, 5, 6, 7, 8] rfl)
def fX8_pass_91 (N : Nat) (S : St) (x1 : Int32) (x2 : Int32) (x3 : Int32) (x4 : Int32) (x6 : Int32) (y0 : Int32) : Option (St) :=
  ckx (1 : Int32) 6 <|
  bnd (sA S 34 (upd (S.2.1 34) ((1 : Int32) : Int32).toNatClampNeg (((3 : Int32) * x6)))) fun S2 =>
  ckx (2 : Int32) 6 <|
  bnd (sA S2 34 (upd (S2.2.1 34) ((2 : Int32) : Int32).toNatClampNeg (((3 : Int32) * y0)))) fun S4 =>
  bnd (1 : Int32) fun z5 =>
  fX8_pass_116 N (S4, x1, x2, x3, x4, x6, y0, z5)
set_option maxHeartbeats 4000000 in
set_option maxRecDepth 100000 in
theorem lX8_pass_91 {p : Program} {l : Launch} {e : Env} {s : State} {m : MethodId} {args : Array Value} {below : List Frame} {meth : Method} {c : Code} {D : va_G} {cy : Nat → ClassId} {a r : Nat → Nat} {A : Nat → Prop} {Rr : St} (C : Cx p s m args c cX8_pass 10 wsX8_pass RX8 D cy) (hr : meth.sig.returnType = none) (hlocks : meth.locks = false) (N : Nat) (S : St) (x1 : Int32) (x2 : Int32) (x3 : Int32) (x4 : Int32) (x6 : Int32) (y0 : Int32) (hf : fX8_pass_91 N S x1 x2 x3 x4 x6 y0 = some Rr) : ∀ (H : Heap) (locs : List Loc) (ls : Array Slot), WW D A s.heap (wM cy a r S) H locs → lv_has ls 10 [(0, .ref (a 99)), (1, .int x1), (2, .int x2), (3, .int x3), (4, .int x4), (6, .int x6)] → W p l e ({ frames := 2, cells := 0, slots := 0, locals := 43 } : Room) s m args below meth c H locs 0 0 (MQ below (QV D cy (wM cy a r) A Rr) args s 0 0 A) (F0 m 91 ls [.int y0]) := by
  intro H locs ls hW hl
  unfold fX8_pass_91 at hf
  refine lv_istore (lv' := [(7, .int y0), (0, .ref (a 99)), (1, .int x1), (2, .int x2), (3, .int x3), (4, .int x4), (6, .int x6)]) C.1 C.2.1 dX8_pass_91 hl (by decide) rfl (fun ls hl => ?_)
  refine lv_aload_n C.1 C.2.1 dX8_pass_93 rfl (lv_at hl 1 rfl) ?_
  refine fg_8_34 C kX8_pass_8 mX8_pass_170 hW dX8_pass_94 ?_
  refine lv_iconst (v := 1) C.1 C.2.1 dX8_pass_97 (by decide) ?_
  refine lv_iconst (v := 3) C.1 C.2.1 dX8_pass_98 (by decide) ?_
  refine lv_iload C.1 C.2.1 dX8_pass_99 (lv_at hl 6 rfl) ?_
  refine lv_imul C.1 C.2.1 dX8_pass_101 ?_
  obtain ⟨h1, hf⟩ := ckx_el hf
  obtain ⟨S2, eS2, hf⟩ := bnd_el hf
  refine as_8_34 C hW h1 dX8_pass_102 eS2 (fun H locs hW => ?_)
  refine lv_aload_n C.1 C.2.1 dX8_pass_103 rfl (lv_at hl 1 rfl) ?_
  refine fg_8_34 C kX8_pass_8 mX8_pass_170 hW dX8_pass_104 ?_
  refine lv_iconst (v := 2) C.1 C.2.1 dX8_pass_107 (by decide) ?_
  refine lv_iconst (v := 3) C.1 C.2.1 dX8_pass_108 (by decide) ?_
  refine lv_iload C.1 C.2.1 dX8_pass_109 (lv_at hl 0 rfl) ?_
  refine lv_imul C.1 C.2.1 dX8_pass_111 ?_
  obtain ⟨h3, hf⟩ := ckx_el hf
  obtain ⟨S4, eS4, hf⟩ := bnd_el hf
  refine as_8_34 C hW h3 dX8_pass_112 eS4 (fun H locs hW => ?_)
  refine lv_iconst (v := 1) C.1 C.2.1 dX8_pass_113 (by decide) ?_
  obtain ⟨z5, ez5, hf⟩ := bnd_el hf
  refine lv_as ez5 ?_
  refine lv_istore (lv' := [(8, .int z5), (7, .int y0), (0, .ref (a 99)), (1, .int x1), (2, .int x2), (3, .int x3), (4, .int x4), (6, .int x6)]) C.1 C.2.1 dX8_pass_114 hl (by decide) rfl (fun ls hl => ?_)
  exact lX8_pass_116 C hr hlocks N _ _ _ _ _ _ _ _ _ hf _ _ _ hW (lv_sub hl [2, 3, 4, 5, 6, 7, 1, 0] rfl)
def fX8_pass_53 (N : Nat) (S : St) (x1 : Int32) (x2 : Int32) (x3 : Int32) (x4 : Int32) (y0 : Int32) (y1 : Int32) : Option (St) :=
  bnd (y0 + y1) fun z1 =>
  ckx x2 3010 <|
  bd2 (fX8_node N S (S.2.1 17 (x2 : Int32).toNatClampNeg) z1) fun v3 S5 =>
  if x3 = (2 : Int32) then
    ckx x2 3010 <|
    bd2 (fX8_node N S5 (S5.2.1 17 (x2 : Int32).toNatClampNeg) z1) fun v8 S10 =>
    fX8_pass_91 N S10 x1 x2 x3 x4 v3 v8
  else
    fX8_pass_91 N S5 x1 x2 x3 x4 v3 (-1 : Int32)
set_option maxHeartbeats 4000000 in
set_option maxRecDepth 100000 in
theorem lX8_pass_53 {p : Program} {l : Launch} {e : Env} {s : State} {m : MethodId} {args : Array Value} {below : List Frame} {meth : Method} {c : Code} {D : va_G} {cy : Nat → ClassId} {a r : Nat → Nat} {A : Nat → Prop} {Rr : St} (C : Cx p s m args c cX8_pass 10 wsX8_pass RX8 D cy) (hr : meth.sig.returnType = none) (hlocks : meth.locks = false) (N : Nat) (S : St) (x1 : Int32) (x2 : Int32) (x3 : Int32) (x4 : Int32) (y0 : Int32) (y1 : Int32) (hf : fX8_pass_53 N S x1 x2 x3 x4 y0 y1 = some Rr) : ∀ (H : Heap) (locs : List Loc) (ls : Array Slot), WW D A s.heap (wM cy a r S) H locs → lv_has ls 10 [(0, .ref (a 99)), (1, .int x1), (2, .int x2), (3, .int x3), (4, .int x4)] → W p l e ({ frames := 2, cells := 0, slots := 0, locals := 43 } : Room) s m args below meth c H locs 0 0 (MQ below (QV D cy (wM cy a r) A Rr) args s 0 0 A) (F0 m 53 ls [.int y1, .int y0]) := by
  intro H locs ls hW hl
  unfold fX8_pass_53 at hf
  refine lv_iadd C.1 C.2.1 dX8_pass_53 ?_
  obtain ⟨z1, ez1, hf⟩ := bnd_el hf
  refine lv_as ez1 ?_
  refine lv_istore (lv' := [(5, .int z1), (0, .ref (a 99)), (1, .int x1), (2, .int x2), (3, .int x3), (4, .int x4)]) C.1 C.2.1 dX8_pass_54 hl (by decide) rfl (fun ls hl => ?_)
  refine lv_aload_n C.1 C.2.1 dX8_pass_56 rfl (lv_at hl 1 rfl) ?_
  refine lv_aload_n C.1 C.2.1 dX8_pass_57 rfl (lv_at hl 1 rfl) ?_
  refine fg_8_17 C kX8_pass_8 mX8_pass_98 hW dX8_pass_58 ?_
  refine lv_iload_n C.1 C.2.1 dX8_pass_61 rfl (lv_at hl 3 rfl) ?_
  obtain ⟨h2, hf⟩ := ckx_el hf
  refine al_8_17 C hW h2 dX8_pass_62 ?_
  refine lv_iload C.1 C.2.1 dX8_pass_63 (lv_at hl 0 rfl) ?_
  obtain ⟨v3, S5, h4, hf⟩ := bd2_el hf
  refine mcVi (w := wM cy a r) (S := S) (As := [.int (S.2.1 17 (x2 : Int32).toNatClampNeg), .int z1]) (rest := []) (q0 := 0) (ci := 8) C (cX8_node_met l D cy a r _ N S (S.2.1 17 (x2 : Int32).toNatClampNeg) z1 (v3, S5) h4) (cwV 2 C.2.2.2.2.1 gX8_pass_X8_node rfl rfl rfl (by decide +kernel) ⟨Nat.le_of_ble_eq_true rfl, Nat.le_of_ble_eq_true rfl⟩) rfl rfl rfl hl.1 (Nat.le_of_ble_eq_true rfl) hW dX8_pass_65 ⟨Nat.zero_le _, Nat.zero_le _⟩ rfl (fun H locs hW => ?_)
  refine lv_istore (lv' := [(6, .int v3), (5, .int z1), (0, .ref (a 99)), (1, .int x1), (2, .int x2), (3, .int x3), (4, .int x4)]) C.1 C.2.1 dX8_pass_68 hl (by decide) rfl (fun ls hl => ?_)
  refine lv_iload_n C.1 C.2.1 dX8_pass_70 rfl (lv_at hl 5 rfl) ?_
  refine lv_iconst (v := 2) C.1 C.2.1 dX8_pass_71 (by decide) ?_
  refine lv_icmp_ne (tgt := 90) C.1 C.2.1 dX8_pass_72 (by decide) (fun q6 => ?_) (fun q6 => ?_)
  · replace hf := (if_neg q6).symm.trans hf
    refine lv_iconst (v := -1) C.1 C.2.1 dX8_pass_90 (by decide) ?_
    exact lX8_pass_91 C hr hlocks N _ _ _ _ _ _ _ hf _ _ _ hW (lv_sub hl [2, 3, 4, 5, 6, 0] rfl)
  · replace hf := (if_pos q6).symm.trans hf
    refine lv_aload_n C.1 C.2.1 dX8_pass_75 rfl (lv_at hl 2 rfl) ?_
    refine lv_aload_n C.1 C.2.1 dX8_pass_76 rfl (lv_at hl 2 rfl) ?_
    refine fg_8_17 C kX8_pass_8 mX8_pass_98 hW dX8_pass_77 ?_
    refine lv_iload_n C.1 C.2.1 dX8_pass_80 rfl (lv_at hl 4 rfl) ?_
    obtain ⟨h7, hf⟩ := ckx_el hf
    refine al_8_17 C hW h7 dX8_pass_81 ?_
    refine lv_iload C.1 C.2.1 dX8_pass_82 (lv_at hl 1 rfl) ?_
    obtain ⟨v8, S10, h9, hf⟩ := bd2_el hf
    refine mcVi (w := wM cy a r) (S := S5) (As := [.int (S5.2.1 17 (x2 : Int32).toNatClampNeg), .int z1]) (rest := []) (q0 := 0) (ci := 8) C (cX8_node_met l D cy a r _ N S5 (S5.2.1 17 (x2 : Int32).toNatClampNeg) z1 (v8, S10) h9) (cwV 2 C.2.2.2.2.1 gX8_pass_X8_node rfl rfl rfl (by decide +kernel) ⟨Nat.le_of_ble_eq_true rfl, Nat.le_of_ble_eq_true rfl⟩) rfl rfl rfl hl.1 (Nat.le_of_ble_eq_true rfl) hW dX8_pass_84 ⟨Nat.zero_le _, Nat.zero_le _⟩ rfl (fun H locs hW => ?_)
    refine lv_goto (tgt := 91) C.1 C.2.1 dX8_pass_87 (by decide) ?_
    exact lX8_pass_91 C hr hlocks N _ _ _ _ _ _ _ hf _ _ _ hW (lv_sub hl [2, 3, 4, 5, 6, 0] rfl)
def fX8_pass (N : Nat) (S : St) : Option (St) :=
  bnd (S.1 32) fun z1 =>
  bnd (S.1 33) fun z2 =>
  ckx z1 3010 <|
  bnd (S.2.1 17 (z1 : Int32).toNatClampNeg) fun z4 =>
  ckx z2 3010 <|
  bdo (fX8_ports (S.2.1 17 (z2 : Int32).toNatClampNeg)) fun v6 =>
  ckx z2 3010 <|
  if z4 = (3 : Int32) then
    fX8_pass_53 N S z1 z2 z4 v6 (S.2.1 18 (z2 : Int32).toNatClampNeg) (-1 : Int32)
  else
    if z4 = (4 : Int32) then
      fX8_pass_53 N S z1 z2 z4 v6 (S.2.1 18 (z2 : Int32).toNatClampNeg) (1 : Int32)
    else
      fX8_pass_53 N S z1 z2 z4 v6 (S.2.1 18 (z2 : Int32).toNatClampNeg) (0 : Int32)
set_option maxHeartbeats 4000000 in
set_option maxRecDepth 100000 in
theorem cX8_pass_met (l : Launch) (D : va_G) (cy : Nat → ClassId) (a r : Nat → Nat) (sz N : Nat) (S : St) (Rr : St) (hf : fX8_pass N S  = some Rr) : Met l yX8_pass wsX8_pass ({ frames := 2, cells := 0, slots := 0, locals := 43 } : Room) (va_Pc [.ref (a 99)] (preW D cy (wM cy a r S) sz)) (QV D cy (wM cy a r) (va_A (wM cy a r S) sz) Rr) 0 0 (va_A (wM cy a r S) sz) := by
  refine Met.ofW (cc := cX8_pass) (maxL := 10) (ret := none) (by decide) rfl ?_
  intro p e s m args below meth c s₁ B hml hv
  obtain ⟨rfl, rfl, hP, hK, hD0, hN⟩ := hv
  have hlocks := B.notSynchronized
  have hr := B.returns
  have C : Cx p s m _ c cX8_pass 10 wsX8_pass RX8 D cy := ⟨B.exec, B.bytes, hml, findClass_of_methodNamed B.named, atoms_spec (ws := wsX8_pass) B.pre, hK, hN⟩
  have hW := ww_start (w := wM cy a r) hP hD0
  generalize va_A (wM cy a r S) s.heap.size = A at hW ⊢
  have hl := lv_entry ([.ref (a 99)]) (n := 10) (Nat.le_of_ble_eq_true rfl)
  rw [lg_entry_eq]
  generalize (lg_sl ([.ref (a 99)]) ++ List.replicate (10 - (lg_sl ([.ref (a 99)])).length) Slot.unset).toArray = ls at hl ⊢
  have hl : lv_has ls 10 [(0, .ref (a 99))] := hl
  unfold fX8_pass at hf
  refine lv_aload_n C.1 C.2.1 dX8_pass_0 rfl (lv_at hl 0 rfl) ?_
  refine fg_8_32 C kX8_pass_8 mX8_pass_241 hW dX8_pass_1 ?_
  obtain ⟨z1, ez1, hf⟩ := bnd_el hf
  refine lv_as ez1 ?_
  refine lv_istore_n (lv' := [(1, .int z1), (0, .ref (a 99))]) C.1 C.2.1 dX8_pass_4 rfl hl (by decide) rfl (fun ls hl => ?_)
  refine lv_aload_n C.1 C.2.1 dX8_pass_5 rfl (lv_at hl 1 rfl) ?_
  refine fg_8_33 C kX8_pass_8 mX8_pass_244 hW dX8_pass_6 ?_
  obtain ⟨z2, ez2, hf⟩ := bnd_el hf
  refine lv_as ez2 ?_
  refine lv_istore_n (lv' := [(2, .int z2), (1, .int z1), (0, .ref (a 99))]) C.1 C.2.1 dX8_pass_9 rfl hl (by decide) rfl (fun ls hl => ?_)
  refine lv_aload_n C.1 C.2.1 dX8_pass_10 rfl (lv_at hl 2 rfl) ?_
  refine fg_8_17 C kX8_pass_8 mX8_pass_98 hW dX8_pass_11 ?_
  refine lv_iload_n C.1 C.2.1 dX8_pass_14 rfl (lv_at hl 1 rfl) ?_
  obtain ⟨h3, hf⟩ := ckx_el hf
  refine al_8_17 C hW h3 dX8_pass_15 ?_
  obtain ⟨z4, ez4, hf⟩ := bnd_el hf
  refine lv_as ez4 ?_
  refine lv_istore_n (lv' := [(3, .int z4), (2, .int z2), (1, .int z1), (0, .ref (a 99))]) C.1 C.2.1 dX8_pass_16 rfl hl (by decide) rfl (fun ls hl => ?_)
  refine lv_aload_n C.1 C.2.1 dX8_pass_17 rfl (lv_at hl 3 rfl) ?_
  refine fg_8_17 C kX8_pass_8 mX8_pass_98 hW dX8_pass_18 ?_
  refine lv_iload_n C.1 C.2.1 dX8_pass_21 rfl (lv_at hl 1 rfl) ?_
  obtain ⟨h5, hf⟩ := ckx_el hf
  refine al_8_17 C hW h5 dX8_pass_22 ?_
  obtain ⟨v6, h7, hf⟩ := bdo_el hf
  refine mcS (As := [.int (S.2.1 17 (z2 : Int32).toNatClampNeg)]) (rest := []) C (cX8_ports_met l (S.2.1 17 (z2 : Int32).toNatClampNeg) v6 h7) (va_cwS 1 C.2.2.2.2.1 gX8_pass_X8_ports rfl rfl rfl (by decide +kernel) ⟨Nat.le_of_ble_eq_true rfl, Nat.le_of_ble_eq_true rfl⟩) rfl hl.1 (Nat.le_of_ble_eq_true rfl) dX8_pass_23 ⟨Nat.zero_le _, Nat.zero_le _⟩ rfl ?_
  refine lv_istore (lv' := [(4, .int v6), (3, .int z4), (2, .int z2), (1, .int z1), (0, .ref (a 99))]) C.1 C.2.1 dX8_pass_26 hl (by decide) rfl (fun ls hl => ?_)
  refine lv_aload_n C.1 C.2.1 dX8_pass_28 rfl (lv_at hl 4 rfl) ?_
  refine fg_8_18 C kX8_pass_8 mX8_pass_101 hW dX8_pass_29 ?_
  refine lv_iload_n C.1 C.2.1 dX8_pass_32 rfl (lv_at hl 2 rfl) ?_
  obtain ⟨h8, hf⟩ := ckx_el hf
  refine al_8_18 C hW h8 dX8_pass_33 ?_
  refine lv_iload_n C.1 C.2.1 dX8_pass_34 rfl (lv_at hl 1 rfl) ?_
  refine lv_iconst (v := 3) C.1 C.2.1 dX8_pass_35 (by decide) ?_
  refine lv_icmp_ne (tgt := 43) C.1 C.2.1 dX8_pass_36 (by decide) (fun q9 => ?_) (fun q9 => ?_)
  · replace hf := (if_neg q9).symm.trans hf
    refine lv_iload_n C.1 C.2.1 dX8_pass_43 rfl (lv_at hl 1 rfl) ?_
    refine lv_iconst (v := 4) C.1 C.2.1 dX8_pass_44 (by decide) ?_
    refine lv_icmp_ne (tgt := 52) C.1 C.2.1 dX8_pass_45 (by decide) (fun q10 => ?_) (fun q10 => ?_)
    · replace hf := (if_neg q10).symm.trans hf
      refine lv_iconst (v := 0) C.1 C.2.1 dX8_pass_52 (by decide) ?_
      exact lX8_pass_53 C hr hlocks N _ _ _ _ _ _ _ hf _ _ _ hW (lv_sub hl [4, 3, 2, 1, 0] rfl)
    · replace hf := (if_pos q10).symm.trans hf
      refine lv_iconst (v := 1) C.1 C.2.1 dX8_pass_48 (by decide) ?_
      refine lv_goto (tgt := 53) C.1 C.2.1 dX8_pass_49 (by decide) ?_
      exact lX8_pass_53 C hr hlocks N _ _ _ _ _ _ _ hf _ _ _ hW (lv_sub hl [4, 3, 2, 1, 0] rfl)
  · replace hf := (if_pos q9).symm.trans hf
    refine lv_iconst (v := -1) C.1 C.2.1 dX8_pass_39 (by decide) ?_
    refine lv_goto (tgt := 53) C.1 C.2.1 dX8_pass_40 (by decide) ?_
    exact lX8_pass_53 C hr hlocks N _ _ _ _ _ _ _ hf _ _ _ hW (lv_sub hl [4, 3, 2, 1, 0] rfl)
theorem mX8_meet_147 : Cond.fieldLink RX8 147 "SharedLambdaModel" "annihilations" "I" ∈ wsX8_meet := by decide +kernel
theorem mX8_meet_144 : Cond.fieldLink RX8 144 "SharedLambdaModel" "betas" "I" ∈ wsX8_meet := by decide +kernel
theorem mX8_meet_150 : Cond.fieldLink RX8 150 "SharedLambdaModel" "passings" "I" ∈ wsX8_meet := by decide +kernel
theorem kX8_meet_8 : ∀ w ∈ u_ws RX8 TX8 58, w ∈ wsX8_meet := fun _ h => List.mem_cons_of_mem _ (List.mem_append_right _ h)
def fX8_meet_65 (N : Nat) (S : St) : Option (St) :=
  bdo (fX8_erase N S) fun S3 =>
  some S3
set_option maxHeartbeats 4000000 in
set_option maxRecDepth 100000 in
theorem lX8_meet_65 {p : Program} {l : Launch} {e : Env} {s : State} {m : MethodId} {args : Array Value} {below : List Frame} {meth : Method} {c : Code} {D : va_G} {cy : Nat → ClassId} {a r : Nat → Nat} {A : Nat → Prop} {Rr : St} (C : Cx p s m args c cX8_meet 4 wsX8_meet RX8 D cy) (hr : meth.sig.returnType = none) (hlocks : meth.locks = false) (N : Nat) (S : St) (hf : fX8_meet_65 N S = some Rr) : ∀ (H : Heap) (locs : List Loc) (ls : Array Slot), WW D A s.heap (wM cy a r S) H locs → lv_has ls 4 [(0, .ref (a 99))] → W p l e ({ frames := 5, cells := 0, slots := 0, locals := 116 } : Room) s m args below meth c H locs 0 0 (MQ below (QV D cy (wM cy a r) A Rr) args s 0 0 A) (F0 m 65 ls []) := by
  intro H locs ls hW hl
  unfold fX8_meet_65 at hf
  refine lv_aload_n C.1 C.2.1 dX8_meet_65 rfl (lv_at hl 0 rfl) ?_
  obtain ⟨S3, h2, hf⟩ := bdo_el hf
  refine mcVv (w := wM cy a r) (S := S) (As := []) (rest := []) (q0 := 0) (ci := 8) C (cX8_erase_met l D cy a r _ N S  S3 h2) (cwV 0 C.2.2.2.2.1 gX8_meet_X8_erase rfl rfl rfl (by decide +kernel) ⟨Nat.le_of_ble_eq_true rfl, Nat.le_of_ble_eq_true rfl⟩) rfl rfl rfl hl.1 (Nat.le_of_ble_eq_true rfl) hW dX8_meet_66 ⟨Nat.zero_le _, Nat.zero_le _⟩ rfl (fun H locs hW => ?_)
  exact mrV C hr hlocks hf hW dX8_meet_69
def fX8_meet_61 (N : Nat) (S : St) (y1 : Int32) (y2 : Int32) : Option (St) :=
  bnd (sI S 24 (y1 + y2)) fun S1 =>
  fX8_meet_65 N S1
set_option maxHeartbeats 4000000 in
set_option maxRecDepth 100000 in
theorem lX8_meet_61 {p : Program} {l : Launch} {e : Env} {s : State} {m : MethodId} {args : Array Value} {below : List Frame} {meth : Method} {c : Code} {D : va_G} {cy : Nat → ClassId} {a r : Nat → Nat} {A : Nat → Prop} {Rr : St} (C : Cx p s m args c cX8_meet 4 wsX8_meet RX8 D cy) (hr : meth.sig.returnType = none) (hlocks : meth.locks = false) (N : Nat) (S : St) (y1 : Int32) (y2 : Int32) (hf : fX8_meet_61 N S y1 y2 = some Rr) : ∀ (H : Heap) (locs : List Loc) (ls : Array Slot), WW D A s.heap (wM cy a r S) H locs → lv_has ls 4 [(0, .ref (a 99))] → W p l e ({ frames := 5, cells := 0, slots := 0, locals := 116 } : Room) s m args below meth c H locs 0 0 (MQ below (QV D cy (wM cy a r) A Rr) args s 0 0 A) (F0 m 61 ls [.int y2, .int y1, .ref (a 99)]) := by
  intro H locs ls hW hl
  unfold fX8_meet_61 at hf
  refine lv_iadd C.1 C.2.1 dX8_meet_61 ?_
  obtain ⟨S1, eS1, hf⟩ := bnd_el hf
  refine fp_8_24 C kX8_meet_8 mX8_meet_147 hW dX8_meet_62 eS1 (fun H locs hW => ?_)
  exact lX8_meet_65 C hr hlocks N _ hf _ _ _ hW (lv_sub hl [0] rfl)
def fX8_meet_42 (N : Nat) (S : St) (x1 : Int32) (y1 : Int32) (y2 : Int32) : Option (St) :=
  bnd (sI S 23 (y1 + y2)) fun S1 =>
  if x1 = (1 : Int32) then
    fX8_meet_61 N S1 (S1.1 24) (1 : Int32)
  else
    fX8_meet_61 N S1 (S1.1 24) (0 : Int32)
set_option maxHeartbeats 4000000 in
set_option maxRecDepth 100000 in
theorem lX8_meet_42 {p : Program} {l : Launch} {e : Env} {s : State} {m : MethodId} {args : Array Value} {below : List Frame} {meth : Method} {c : Code} {D : va_G} {cy : Nat → ClassId} {a r : Nat → Nat} {A : Nat → Prop} {Rr : St} (C : Cx p s m args c cX8_meet 4 wsX8_meet RX8 D cy) (hr : meth.sig.returnType = none) (hlocks : meth.locks = false) (N : Nat) (S : St) (x1 : Int32) (y1 : Int32) (y2 : Int32) (hf : fX8_meet_42 N S x1 y1 y2 = some Rr) : ∀ (H : Heap) (locs : List Loc) (ls : Array Slot), WW D A s.heap (wM cy a r S) H locs → lv_has ls 4 [(0, .ref (a 99)), (1, .int x1)] → W p l e ({ frames := 5, cells := 0, slots := 0, locals := 116 } : Room) s m args below meth c H locs 0 0 (MQ below (QV D cy (wM cy a r) A Rr) args s 0 0 A) (F0 m 42 ls [.int y2, .int y1, .ref (a 99)]) := by
  intro H locs ls hW hl
  unfold fX8_meet_42 at hf
  refine lv_iadd C.1 C.2.1 dX8_meet_42 ?_
  obtain ⟨S1, eS1, hf⟩ := bnd_el hf
  refine fp_8_23 C kX8_meet_8 mX8_meet_144 hW dX8_meet_43 eS1 (fun H locs hW => ?_)
  refine lv_aload_n C.1 C.2.1 dX8_meet_46 rfl (lv_at hl 0 rfl) ?_
  refine lv_dup C.1 C.2.1 dX8_meet_47 rfl ?_
  refine fg_8_24 C kX8_meet_8 mX8_meet_147 hW dX8_meet_48 ?_
  refine lv_iload_n C.1 C.2.1 dX8_meet_51 rfl (lv_at hl 1 rfl) ?_
  refine lv_iconst (v := 1) C.1 C.2.1 dX8_meet_52 (by decide) ?_
  refine lv_icmp_ne (tgt := 60) C.1 C.2.1 dX8_meet_53 (by decide) (fun q2 => ?_) (fun q2 => ?_)
  · replace hf := (if_neg q2).symm.trans hf
    refine lv_iconst (v := 0) C.1 C.2.1 dX8_meet_60 (by decide) ?_
    exact lX8_meet_61 C hr hlocks N _ _ _ hf _ _ _ hW (lv_sub hl [0] rfl)
  · replace hf := (if_pos q2).symm.trans hf
    refine lv_iconst (v := 1) C.1 C.2.1 dX8_meet_56 (by decide) ?_
    refine lv_goto (tgt := 61) C.1 C.2.1 dX8_meet_57 (by decide) ?_
    exact lX8_meet_61 C hr hlocks N _ _ _ hf _ _ _ hW (lv_sub hl [0] rfl)
def fX8_meet (N : Nat) (S : St) (p1 : Int32) (p2 : Int32) (p3 : Int32) : Option (St) :=
  if p1 = (2 : Int32) then
    bdo (fX8_pass N S) fun S8 =>
    bnd (sI S8 25 ((S8.1 25 + (1 : Int32)))) fun S9 =>
    fX8_meet_65 N S9
  else
    bdo (fX8_join N S p2 p3) fun S4 =>
    if p1 = 0 then
      fX8_meet_42 N S4 p1 (S4.1 23) (1 : Int32)
    else
      fX8_meet_42 N S4 p1 (S4.1 23) (0 : Int32)
set_option maxHeartbeats 4000000 in
set_option maxRecDepth 100000 in
theorem cX8_meet_met (l : Launch) (D : va_G) (cy : Nat → ClassId) (a r : Nat → Nat) (sz N : Nat) (S : St) (p1 : Int32) (p2 : Int32) (p3 : Int32) (Rr : St) (hf : fX8_meet N S p1 p2 p3 = some Rr) : Met l yX8_meet wsX8_meet ({ frames := 5, cells := 0, slots := 0, locals := 116 } : Room) (va_Pc [.ref (a 99), .int p1, .int p2, .int p3] (preW D cy (wM cy a r S) sz)) (QV D cy (wM cy a r) (va_A (wM cy a r S) sz) Rr) 0 0 (va_A (wM cy a r S) sz) := by
  refine Met.ofW (cc := cX8_meet) (maxL := 4) (ret := none) (by decide) rfl ?_
  intro p e s m args below meth c s₁ B hml hv
  obtain ⟨rfl, rfl, hP, hK, hD0, hN⟩ := hv
  have hlocks := B.notSynchronized
  have hr := B.returns
  have C : Cx p s m _ c cX8_meet 4 wsX8_meet RX8 D cy := ⟨B.exec, B.bytes, hml, findClass_of_methodNamed B.named, atoms_spec (ws := wsX8_meet) B.pre, hK, hN⟩
  have hW := ww_start (w := wM cy a r) hP hD0
  generalize va_A (wM cy a r S) s.heap.size = A at hW ⊢
  have hl := lv_entry ([.ref (a 99), .int p1, .int p2, .int p3]) (n := 4) (Nat.le_of_ble_eq_true rfl)
  rw [lg_entry_eq]
  generalize (lg_sl ([.ref (a 99), .int p1, .int p2, .int p3]) ++ List.replicate (4 - (lg_sl ([.ref (a 99), .int p1, .int p2, .int p3])).length) Slot.unset).toArray = ls at hl ⊢
  have hl : lv_has ls 4 [(0, .ref (a 99)), (1, .int p1), (2, .int p2), (3, .int p3)] := hl
  unfold fX8_meet at hf
  refine lv_iload_n C.1 C.2.1 dX8_meet_0 rfl (lv_at hl 1 rfl) ?_
  refine lv_iconst (v := 2) C.1 C.2.1 dX8_meet_1 (by decide) ?_
  refine lv_icmp_ne (tgt := 22) C.1 C.2.1 dX8_meet_2 (by decide) (fun q1 => ?_) (fun q1 => ?_)
  · replace hf := (if_neg q1).symm.trans hf
    refine lv_aload_n C.1 C.2.1 dX8_meet_22 rfl (lv_at hl 0 rfl) ?_
    refine lv_iload_n C.1 C.2.1 dX8_meet_23 rfl (lv_at hl 2 rfl) ?_
    refine lv_iload_n C.1 C.2.1 dX8_meet_24 rfl (lv_at hl 3 rfl) ?_
    obtain ⟨S4, h3, hf⟩ := bdo_el hf
    refine mcVv (w := wM cy a r) (S := S) (As := [.int p2, .int p3]) (rest := []) (q0 := 0) (ci := 8) C (cX8_join_met l D cy a r _ N S p2 p3 S4 h3) (cwV 2 C.2.2.2.2.1 gX8_meet_X8_join rfl rfl rfl (by decide +kernel) ⟨Nat.le_of_ble_eq_true rfl, Nat.le_of_ble_eq_true rfl⟩) rfl rfl rfl hl.1 (Nat.le_of_ble_eq_true rfl) hW dX8_meet_25 ⟨Nat.zero_le _, Nat.zero_le _⟩ rfl (fun H locs hW => ?_)
    refine lv_aload_n C.1 C.2.1 dX8_meet_28 rfl (lv_at hl 0 rfl) ?_
    refine lv_dup C.1 C.2.1 dX8_meet_29 rfl ?_
    refine fg_8_23 C kX8_meet_8 mX8_meet_144 hW dX8_meet_30 ?_
    refine lv_iload_n C.1 C.2.1 dX8_meet_33 rfl (lv_at hl 1 rfl) ?_
    refine lv_if_ne (tgt := 41) C.1 C.2.1 dX8_meet_34 (by decide) (fun q5 => ?_) (fun q5 => ?_)
    · replace hf := (if_neg q5).symm.trans hf
      refine lv_iconst (v := 0) C.1 C.2.1 dX8_meet_41 (by decide) ?_
      exact lX8_meet_42 C hr hlocks N _ _ _ _ hf _ _ _ hW (lv_sub hl [0, 1] rfl)
    · replace hf := (if_pos q5).symm.trans hf
      refine lv_iconst (v := 1) C.1 C.2.1 dX8_meet_37 (by decide) ?_
      refine lv_goto (tgt := 42) C.1 C.2.1 dX8_meet_38 (by decide) ?_
      exact lX8_meet_42 C hr hlocks N _ _ _ _ hf _ _ _ hW (lv_sub hl [0, 1] rfl)
  · replace hf := (if_pos q1).symm.trans hf
    refine lv_aload_n C.1 C.2.1 dX8_meet_5 rfl (lv_at hl 0 rfl) ?_
    obtain ⟨S8, h7, hf⟩ := bdo_el hf
    refine mcVv (w := wM cy a r) (S := S) (As := []) (rest := []) (q0 := 0) (ci := 8) C (cX8_pass_met l D cy a r _ N S  S8 h7) (cwV 0 C.2.2.2.2.1 gX8_meet_X8_pass rfl rfl rfl (by decide +kernel) ⟨Nat.le_of_ble_eq_true rfl, Nat.le_of_ble_eq_true rfl⟩) rfl rfl rfl hl.1 (Nat.le_of_ble_eq_true rfl) hW dX8_meet_6 ⟨Nat.zero_le _, Nat.zero_le _⟩ rfl (fun H locs hW => ?_)
    refine lv_aload_n C.1 C.2.1 dX8_meet_9 rfl (lv_at hl 0 rfl) ?_
    refine lv_dup C.1 C.2.1 dX8_meet_10 rfl ?_
    refine fg_8_25 C kX8_meet_8 mX8_meet_150 hW dX8_meet_11 ?_
    refine lv_iconst (v := 1) C.1 C.2.1 dX8_meet_14 (by decide) ?_
    refine lv_iadd C.1 C.2.1 dX8_meet_15 ?_
    obtain ⟨S9, eS9, hf⟩ := bnd_el hf
    refine fp_8_25 C kX8_meet_8 mX8_meet_150 hW dX8_meet_16 eS9 (fun H locs hW => ?_)
    refine lv_goto (tgt := 65) C.1 C.2.1 dX8_meet_19 (by decide) ?_
    exact lX8_meet_65 C hr hlocks N _ hf _ _ _ hW (lv_sub hl [0] rfl)
theorem mX8_level_182 : Cond.fieldLink RX8 182 "SharedLambdaModel" "levelNext" "[I" ∈ wsX8_level := by decide +kernel
theorem mX8_level_257 : Cond.fieldLink RX8 257 "SharedLambdaModel" "levels" "I" ∈ wsX8_level := by decide +kernel
theorem mX8_level_173 : Cond.fieldLink RX8 173 "SharedLambdaModel" "levelKinds" "[I" ∈ wsX8_level := by decide +kernel
theorem mX8_level_176 : Cond.fieldLink RX8 176 "SharedLambdaModel" "levelAs" "[I" ∈ wsX8_level := by decide +kernel
theorem mX8_level_179 : Cond.fieldLink RX8 179 "SharedLambdaModel" "levelBs" "[I" ∈ wsX8_level := by decide +kernel
theorem mX8_level_185 : Cond.fieldLink RX8 185 "SharedLambdaModel" "levelHeads" "[I" ∈ wsX8_level := by decide +kernel
theorem mX8_level_c256 : Cond.constant RX8 256 (739982445) ∈ wsX8_level := by decide +kernel
theorem kX8_level_8 : ∀ w ∈ u_ws RX8 TX8 58, w ∈ wsX8_level := fun _ h => List.mem_cons_of_mem _ (List.mem_append_right _ h)
def fX8_level_71 (N : Nat) (k30 : St × Int32 × Int32 × Int32 × Int32 × Int32 → Option (Int32 × St)) (S : St) (x1 : Int32) (x2 : Int32) (x3 : Int32) (x4 : Int32) (x5 : Int32) : Option (Int32 × St) :=
  ckx x5 4010 <|
  bnd (S.2.1 38 (x5 : Int32).toNatClampNeg) fun z2 =>
  k30 (S, x1, x2, x3, x4, z2)
set_option maxHeartbeats 4000000 in
set_option maxRecDepth 100000 in
theorem lX8_level_71 {p : Program} {l : Launch} {e : Env} {s : State} {m : MethodId} {args : Array Value} {below : List Frame} {meth : Method} {c : Code} {D : va_G} {cy : Nat → ClassId} {a r : Nat → Nat} {A : Nat → Prop} {Rr : Int32 × St} (C : Cx p s m args c cX8_level 6 wsX8_level RX8 D cy) (hr : meth.sig.returnType = some .int) (hlocks : meth.locks = false) (N : Nat) (k30 : St × Int32 × Int32 × Int32 × Int32 × Int32 → Option (Int32 × St)) (hk30 : ∀ (S : St) (x1 : Int32) (x2 : Int32) (x3 : Int32) (x4 : Int32) (x5 : Int32), k30 (S, x1, x2, x3, x4, x5) = some Rr → ∀ (H : Heap) (locs : List Loc) (ls : Array Slot), WW D A s.heap (wM cy a r S) H locs → lv_has ls 6 [(0, .ref (a 99)), (1, .int x1), (2, .int x2), (3, .int x3), (4, .int x4), (5, .int x5)] → W p l e ({ frames := 0, cells := 0, slots := 0, locals := 0 } : Room) s m args below meth c H locs 0 0 (MQ below (QI D cy (wM cy a r) A Rr) args s 0 0 A) (F0 m 30 ls [])) (S : St) (x1 : Int32) (x2 : Int32) (x3 : Int32) (x4 : Int32) (x5 : Int32) (hf : fX8_level_71 N k30 S x1 x2 x3 x4 x5 = some Rr) : ∀ (H : Heap) (locs : List Loc) (ls : Array Slot), WW D A s.heap (wM cy a r S) H locs → lv_has ls 6 [(0, .ref (a 99)), (1, .int x1), (2, .int x2), (3, .int x3), (4, .int x4), (5, .int x5)] → W p l e ({ frames := 0, cells := 0, slots := 0, locals := 0 } : Room) s m args below meth c H locs 0 0 (MQ below (QI D cy (wM cy a r) A Rr) args s 0 0 A) (F0 m 71 ls []) := by
  intro H locs ls hW hl
  unfold fX8_level_71 at hf
  refine lv_aload_n C.1 C.2.1 dX8_level_71 rfl (lv_at hl 0 rfl) ?_
  refine fg_8_38 C kX8_level_8 mX8_level_182 hW dX8_level_72 ?_
  refine lv_iload C.1 C.2.1 dX8_level_75 (lv_at hl 5 rfl) ?_
  obtain ⟨h1, hf⟩ := ckx_el hf
  refine al_8_38 C hW h1 dX8_level_77 ?_
  obtain ⟨z2, ez2, hf⟩ := bnd_el hf
  refine lv_as ez2 ?_
  refine lv_istore (lv' := [(5, .int z2), (0, .ref (a 99)), (1, .int x1), (2, .int x2), (3, .int x3), (4, .int x4)]) C.1 C.2.1 dX8_level_78 hl (by decide) rfl (fun ls hl => ?_)
  refine lv_goto (tgt := 30) C.1 C.2.1 dX8_level_80 (by decide) ?_
  exact hk30 _ _ _ _ _ _ hf _ _ _ hW (lv_sub hl [1, 2, 3, 4, 5, 0] rfl)
def fX8_level_30s (N : Nat) (k30 : St × Int32 × Int32 × Int32 × Int32 × Int32 → Option (Int32 × St)) (S : St) (x1 : Int32) (x2 : Int32) (x3 : Int32) (x4 : Int32) (x5 : Int32) : Option (Int32 × St) :=
  if x5 ≤ 0 then
    bnd (S.1 40) fun z2 =>
    bnd (sI S 40 ((S.1 40 + (1 : Int32)))) fun S3 =>
    ckx z2 4010 <|
    bnd (sA S3 35 (upd (S3.2.1 35) (z2 : Int32).toNatClampNeg x1)) fun S5 =>
    ckx z2 4010 <|
    bnd (sA S5 36 (upd (S5.2.1 36) (z2 : Int32).toNatClampNeg x2)) fun S7 =>
    ckx z2 4010 <|
    bnd (sA S7 37 (upd (S7.2.1 37) (z2 : Int32).toNatClampNeg x3)) fun S9 =>
    ckx x4 512 <|
    ckx z2 4010 <|
    bnd (sA S9 38 (upd (S9.2.1 38) (z2 : Int32).toNatClampNeg (S9.2.1 39 (x4 : Int32).toNatClampNeg))) fun S12 =>
    ckx x4 512 <|
    bnd (sA S12 39 (upd (S12.2.1 39) (x4 : Int32).toNatClampNeg z2)) fun S14 =>
    some (z2, S14)
  else
    ckx x5 4010 <|
    if S.2.1 35 (x5 : Int32).toNatClampNeg = x1 then
      ckx x5 4010 <|
      if S.2.1 36 (x5 : Int32).toNatClampNeg = x2 then
        ckx x5 4010 <|
        if S.2.1 37 (x5 : Int32).toNatClampNeg = x3 then
          some (x5, S)
        else
          fX8_level_71 N k30 S x1 x2 x3 x4 x5
      else
        fX8_level_71 N k30 S x1 x2 x3 x4 x5
    else
      fX8_level_71 N k30 S x1 x2 x3 x4 x5
def fX8_level_30 (N : Nat) : St × Int32 × Int32 × Int32 × Int32 × Int32 → Option (Int32 × St) := loopN (fun k x => fX8_level_30s N k x.1 x.2.1 x.2.2.1 x.2.2.2.1 x.2.2.2.2.1 x.2.2.2.2.2) N
set_option maxHeartbeats 4000000 in
set_option maxRecDepth 100000 in
theorem lX8_level_30 {p : Program} {l : Launch} {e : Env} {s : State} {m : MethodId} {args : Array Value} {below : List Frame} {meth : Method} {c : Code} {D : va_G} {cy : Nat → ClassId} {a r : Nat → Nat} {A : Nat → Prop} {Rr : Int32 × St} (C : Cx p s m args c cX8_level 6 wsX8_level RX8 D cy) (hr : meth.sig.returnType = some .int) (hlocks : meth.locks = false) (N : Nat) : ∀ (n : Nat) (S : St) (x1 : Int32) (x2 : Int32) (x3 : Int32) (x4 : Int32) (x5 : Int32), loopN (fun k x => fX8_level_30s N k x.1 x.2.1 x.2.2.1 x.2.2.2.1 x.2.2.2.2.1 x.2.2.2.2.2) n (S, x1, x2, x3, x4, x5) = some Rr → ∀ (H : Heap) (locs : List Loc) (ls : Array Slot), WW D A s.heap (wM cy a r S) H locs → lv_has ls 6 [(0, .ref (a 99)), (1, .int x1), (2, .int x2), (3, .int x3), (4, .int x4), (5, .int x5)] → W p l e ({ frames := 0, cells := 0, slots := 0, locals := 0 } : Room) s m args below meth c H locs 0 0 (MQ below (QI D cy (wM cy a r) A Rr) args s 0 0 A) (F0 m 30 ls []) := by
  intro n
  induction n with
  | zero =>
    intro S x1 x2 x3 x4 x5 hf
    cases hf
  | succ n ih =>
    intro S x1 x2 x3 x4 x5 hf H locs ls hW hl
    have hf : fX8_level_30s N (loopN (fun k x => fX8_level_30s N k x.1 x.2.1 x.2.2.1 x.2.2.2.1 x.2.2.2.2.1 x.2.2.2.2.2) n) S x1 x2 x3 x4 x5 = some Rr := hf
    unfold fX8_level_30s at hf
    refine lv_iload C.1 C.2.1 dX8_level_30 (lv_at hl 5 rfl) ?_
    refine lv_if_le (tgt := 83) C.1 C.2.1 dX8_level_32 (by decide) (fun q1 => ?_) (fun q1 => ?_)
    · replace hf := (if_pos q1).symm.trans hf
      refine lv_aload_n C.1 C.2.1 dX8_level_83 rfl (lv_at hl 0 rfl) ?_
      refine fg_8_40 C kX8_level_8 mX8_level_257 hW dX8_level_84 ?_
      obtain ⟨z2, ez2, hf⟩ := bnd_el hf
      refine lv_as ez2 ?_
      refine lv_istore (lv' := [(5, .int z2), (0, .ref (a 99)), (1, .int x1), (2, .int x2), (3, .int x3), (4, .int x4)]) C.1 C.2.1 dX8_level_87 hl (by decide) rfl (fun ls hl => ?_)
      refine lv_aload_n C.1 C.2.1 dX8_level_89 rfl (lv_at hl 1 rfl) ?_
      refine lv_dup C.1 C.2.1 dX8_level_90 rfl ?_
      refine fg_8_40 C kX8_level_8 mX8_level_257 hW dX8_level_91 ?_
      refine lv_iconst (v := 1) C.1 C.2.1 dX8_level_94 (by decide) ?_
      refine lv_iadd C.1 C.2.1 dX8_level_95 ?_
      obtain ⟨S3, eS3, hf⟩ := bnd_el hf
      refine fp_8_40 C kX8_level_8 mX8_level_257 hW dX8_level_96 eS3 (fun H locs hW => ?_)
      refine lv_aload_n C.1 C.2.1 dX8_level_99 rfl (lv_at hl 1 rfl) ?_
      refine fg_8_35 C kX8_level_8 mX8_level_173 hW dX8_level_100 ?_
      refine lv_iload C.1 C.2.1 dX8_level_103 (lv_at hl 0 rfl) ?_
      refine lv_iload_n C.1 C.2.1 dX8_level_105 rfl (lv_at hl 2 rfl) ?_
      obtain ⟨h4, hf⟩ := ckx_el hf
      obtain ⟨S5, eS5, hf⟩ := bnd_el hf
      refine as_8_35 C hW h4 dX8_level_106 eS5 (fun H locs hW => ?_)
      refine lv_aload_n C.1 C.2.1 dX8_level_107 rfl (lv_at hl 1 rfl) ?_
      refine fg_8_36 C kX8_level_8 mX8_level_176 hW dX8_level_108 ?_
      refine lv_iload C.1 C.2.1 dX8_level_111 (lv_at hl 0 rfl) ?_
      refine lv_iload_n C.1 C.2.1 dX8_level_113 rfl (lv_at hl 3 rfl) ?_
      obtain ⟨h6, hf⟩ := ckx_el hf
      obtain ⟨S7, eS7, hf⟩ := bnd_el hf
      refine as_8_36 C hW h6 dX8_level_114 eS7 (fun H locs hW => ?_)
      refine lv_aload_n C.1 C.2.1 dX8_level_115 rfl (lv_at hl 1 rfl) ?_
      refine fg_8_37 C kX8_level_8 mX8_level_179 hW dX8_level_116 ?_
      refine lv_iload C.1 C.2.1 dX8_level_119 (lv_at hl 0 rfl) ?_
      refine lv_iload_n C.1 C.2.1 dX8_level_121 rfl (lv_at hl 4 rfl) ?_
      obtain ⟨h8, hf⟩ := ckx_el hf
      obtain ⟨S9, eS9, hf⟩ := bnd_el hf
      refine as_8_37 C hW h8 dX8_level_122 eS9 (fun H locs hW => ?_)
      refine lv_aload_n C.1 C.2.1 dX8_level_123 rfl (lv_at hl 1 rfl) ?_
      refine fg_8_38 C kX8_level_8 mX8_level_182 hW dX8_level_124 ?_
      refine lv_iload C.1 C.2.1 dX8_level_127 (lv_at hl 0 rfl) ?_
      refine lv_aload_n C.1 C.2.1 dX8_level_129 rfl (lv_at hl 1 rfl) ?_
      refine fg_8_39 C kX8_level_8 mX8_level_185 hW dX8_level_130 ?_
      refine lv_iload C.1 C.2.1 dX8_level_133 (lv_at hl 5 rfl) ?_
      obtain ⟨h10, hf⟩ := ckx_el hf
      refine al_8_39 C hW h10 dX8_level_135 ?_
      obtain ⟨h11, hf⟩ := ckx_el hf
      obtain ⟨S12, eS12, hf⟩ := bnd_el hf
      refine as_8_38 C hW h11 dX8_level_136 eS12 (fun H locs hW => ?_)
      refine lv_aload_n C.1 C.2.1 dX8_level_137 rfl (lv_at hl 1 rfl) ?_
      refine fg_8_39 C kX8_level_8 mX8_level_185 hW dX8_level_138 ?_
      refine lv_iload C.1 C.2.1 dX8_level_141 (lv_at hl 5 rfl) ?_
      refine lv_iload C.1 C.2.1 dX8_level_143 (lv_at hl 0 rfl) ?_
      obtain ⟨h13, hf⟩ := ckx_el hf
      obtain ⟨S14, eS14, hf⟩ := bnd_el hf
      refine as_8_39 C hW h13 dX8_level_145 eS14 (fun H locs hW => ?_)
      refine lv_iload C.1 C.2.1 dX8_level_146 (lv_at hl 0 rfl) ?_
      exact mrI C hr hlocks rfl hf hW dX8_level_148
    · replace hf := (if_neg q1).symm.trans hf
      refine lv_aload_n C.1 C.2.1 dX8_level_35 rfl (lv_at hl 0 rfl) ?_
      refine fg_8_35 C kX8_level_8 mX8_level_173 hW dX8_level_36 ?_
      refine lv_iload C.1 C.2.1 dX8_level_39 (lv_at hl 5 rfl) ?_
      obtain ⟨h15, hf⟩ := ckx_el hf
      refine al_8_35 C hW h15 dX8_level_41 ?_
      refine lv_iload_n C.1 C.2.1 dX8_level_42 rfl (lv_at hl 1 rfl) ?_
      refine lv_icmp_ne (tgt := 71) C.1 C.2.1 dX8_level_43 (by decide) (fun q16 => ?_) (fun q16 => ?_)
      · replace hf := (if_neg q16).symm.trans hf
        exact lX8_level_71 C hr hlocks N _ ih _ _ _ _ _ _ hf _ _ _ hW (lv_sub hl [0, 1, 2, 3, 4, 5] rfl)
      · replace hf := (if_pos q16).symm.trans hf
        refine lv_aload_n C.1 C.2.1 dX8_level_46 rfl (lv_at hl 0 rfl) ?_
        refine fg_8_36 C kX8_level_8 mX8_level_176 hW dX8_level_47 ?_
        refine lv_iload C.1 C.2.1 dX8_level_50 (lv_at hl 5 rfl) ?_
        obtain ⟨h17, hf⟩ := ckx_el hf
        refine al_8_36 C hW h17 dX8_level_52 ?_
        refine lv_iload_n C.1 C.2.1 dX8_level_53 rfl (lv_at hl 2 rfl) ?_
        refine lv_icmp_ne (tgt := 71) C.1 C.2.1 dX8_level_54 (by decide) (fun q18 => ?_) (fun q18 => ?_)
        · replace hf := (if_neg q18).symm.trans hf
          exact lX8_level_71 C hr hlocks N _ ih _ _ _ _ _ _ hf _ _ _ hW (lv_sub hl [0, 1, 2, 3, 4, 5] rfl)
        · replace hf := (if_pos q18).symm.trans hf
          refine lv_aload_n C.1 C.2.1 dX8_level_57 rfl (lv_at hl 0 rfl) ?_
          refine fg_8_37 C kX8_level_8 mX8_level_179 hW dX8_level_58 ?_
          refine lv_iload C.1 C.2.1 dX8_level_61 (lv_at hl 5 rfl) ?_
          obtain ⟨h19, hf⟩ := ckx_el hf
          refine al_8_37 C hW h19 dX8_level_63 ?_
          refine lv_iload_n C.1 C.2.1 dX8_level_64 rfl (lv_at hl 3 rfl) ?_
          refine lv_icmp_ne (tgt := 71) C.1 C.2.1 dX8_level_65 (by decide) (fun q20 => ?_) (fun q20 => ?_)
          · replace hf := (if_neg q20).symm.trans hf
            exact lX8_level_71 C hr hlocks N _ ih _ _ _ _ _ _ hf _ _ _ hW (lv_sub hl [0, 1, 2, 3, 4, 5] rfl)
          · replace hf := (if_pos q20).symm.trans hf
            refine lv_iload C.1 C.2.1 dX8_level_68 (lv_at hl 5 rfl) ?_
            exact mrI C hr hlocks rfl hf hW dX8_level_70
def fX8_level (N : Nat) (S : St) (p1 : Int32) (p2 : Int32) (p3 : Int32) : Option (Int32 × St) :=
  bnd ((((((p1 + ((31 : Int32) * p2)) + ((1009 : Int32) * p3)) * (739982445 : Int32))).toUInt32 >>> (((23 : Int32)).toUInt32 &&& Int32.toUInt32 31)).toInt32) fun z1 =>
  ckx z1 512 <|
  bnd (S.2.1 39 (z1 : Int32).toNatClampNeg) fun z3 =>
  fX8_level_30 N (S, p1, p2, p3, z1, z3)
set_option maxHeartbeats 4000000 in
set_option maxRecDepth 100000 in
theorem cX8_level_met (l : Launch) (D : va_G) (cy : Nat → ClassId) (a r : Nat → Nat) (sz N : Nat) (S : St) (p1 : Int32) (p2 : Int32) (p3 : Int32) (Rr : Int32 × St) (hf : fX8_level N S p1 p2 p3 = some Rr) : Met l yX8_level wsX8_level ({ frames := 0, cells := 0, slots := 0, locals := 0 } : Room) (va_Pc [.ref (a 99), .int p1, .int p2, .int p3] (preW D cy (wM cy a r S) sz)) (QI D cy (wM cy a r) (va_A (wM cy a r S) sz) Rr) 0 0 (va_A (wM cy a r S) sz) := by
  refine Met.ofW (cc := cX8_level) (maxL := 6) (ret := (some .int)) (by decide) rfl ?_
  intro p e s m args below meth c s₁ B hml hv
  obtain ⟨rfl, rfl, hP, hK, hD0, hN⟩ := hv
  have hlocks := B.notSynchronized
  have hr := B.returns
  have C : Cx p s m _ c cX8_level 6 wsX8_level RX8 D cy := ⟨B.exec, B.bytes, hml, findClass_of_methodNamed B.named, atoms_spec (ws := wsX8_level) B.pre, hK, hN⟩
  have hW := ww_start (w := wM cy a r) hP hD0
  generalize va_A (wM cy a r S) s.heap.size = A at hW ⊢
  have hl := lv_entry ([.ref (a 99), .int p1, .int p2, .int p3]) (n := 6) (Nat.le_of_ble_eq_true rfl)
  rw [lg_entry_eq]
  generalize (lg_sl ([.ref (a 99), .int p1, .int p2, .int p3]) ++ List.replicate (6 - (lg_sl ([.ref (a 99), .int p1, .int p2, .int p3])).length) Slot.unset).toArray = ls at hl ⊢
  have hl : lv_has ls 6 [(0, .ref (a 99)), (1, .int p1), (2, .int p2), (3, .int p3)] := hl
  unfold fX8_level at hf
  refine lv_iload_n C.1 C.2.1 dX8_level_0 rfl (lv_at hl 1 rfl) ?_
  refine lv_bipush (v := 31) C.1 C.2.1 dX8_level_1 (by decide) ?_
  refine lv_iload_n C.1 C.2.1 dX8_level_3 rfl (lv_at hl 2 rfl) ?_
  refine lv_imul C.1 C.2.1 dX8_level_4 ?_
  refine lv_iadd C.1 C.2.1 dX8_level_5 ?_
  refine lv_sipush (v := 1009) C.1 C.2.1 dX8_level_6 (by decide) ?_
  refine lv_iload_n C.1 C.2.1 dX8_level_9 rfl (lv_at hl 3 rfl) ?_
  refine lv_imul C.1 C.2.1 dX8_level_10 ?_
  refine lv_iadd C.1 C.2.1 dX8_level_11 ?_
  refine lv_ldcw (v := 739982445) C.1 C.2.1 C.2.2.2.1 (C.2.2.2.2.1 _ mX8_level_c256) dX8_level_12 ?_
  refine lv_imul C.1 C.2.1 dX8_level_15 ?_
  refine lv_bipush (v := 23) C.1 C.2.1 dX8_level_16 (by decide) ?_
  refine lv_iushr C.1 C.2.1 dX8_level_18 rfl ?_
  obtain ⟨z1, ez1, hf⟩ := bnd_el hf
  refine lv_as ez1 ?_
  refine lv_istore (lv' := [(4, .int z1), (0, .ref (a 99)), (1, .int p1), (2, .int p2), (3, .int p3)]) C.1 C.2.1 dX8_level_19 hl (by decide) rfl (fun ls hl => ?_)
  refine lv_aload_n C.1 C.2.1 dX8_level_21 rfl (lv_at hl 1 rfl) ?_
  refine fg_8_39 C kX8_level_8 mX8_level_185 hW dX8_level_22 ?_
  refine lv_iload C.1 C.2.1 dX8_level_25 (lv_at hl 0 rfl) ?_
  obtain ⟨h2, hf⟩ := ckx_el hf
  refine al_8_39 C hW h2 dX8_level_27 ?_
  obtain ⟨z3, ez3, hf⟩ := bnd_el hf
  refine lv_as ez3 ?_
  refine lv_istore (lv' := [(5, .int z3), (4, .int z1), (0, .ref (a 99)), (1, .int p1), (2, .int p2), (3, .int p3)]) C.1 C.2.1 dX8_level_28 hl (by decide) rfl (fun ls hl => ?_)
  exact lX8_level_30 C hr hlocks N _ _ _ _ _ _ _ hf _ _ _ hW (lv_sub hl [2, 3, 4, 5, 1, 0] rfl)
theorem mX8_list_189 : Cond.fieldLink RX8 189 "SharedLambdaModel" "heads" "[I" ∈ wsX8_list := by decide +kernel
theorem mX8_list_260 : Cond.fieldLink RX8 260 "SharedLambdaModel" "cells" "I" ∈ wsX8_list := by decide +kernel
theorem mX8_list_192 : Cond.fieldLink RX8 192 "SharedLambdaModel" "tails" "[I" ∈ wsX8_list := by decide +kernel
theorem kX8_list_8 : ∀ w ∈ u_ws RX8 TX8 58, w ∈ wsX8_list := fun _ h => List.mem_cons_of_mem _ (List.mem_append_right _ h)
def fX8_list_10 (N : Nat) (S : St) (x1 : Int32) (x2 : Int32) : Option (Int32 × St) :=
  ckx (S.1 43) 270000 <|
  bnd (sA S 41 (upd (S.2.1 41) (S.1 43 : Int32).toNatClampNeg x1)) fun S2 =>
  ckx (S2.1 43) 270000 <|
  bnd (sA S2 42 (upd (S2.2.1 42) (S2.1 43 : Int32).toNatClampNeg x2)) fun S4 =>
  bnd (sI S4 43 ((S4.1 43 + (1 : Int32)))) fun S5 =>
  some ((S5.1 43 - (1 : Int32)), S5)
set_option maxHeartbeats 4000000 in
set_option maxRecDepth 100000 in
theorem lX8_list_10 {p : Program} {l : Launch} {e : Env} {s : State} {m : MethodId} {args : Array Value} {below : List Frame} {meth : Method} {c : Code} {D : va_G} {cy : Nat → ClassId} {a r : Nat → Nat} {A : Nat → Prop} {Rr : Int32 × St} (C : Cx p s m args c cX8_list 3 wsX8_list RX8 D cy) (hr : meth.sig.returnType = some .int) (hlocks : meth.locks = false) (N : Nat) (S : St) (x1 : Int32) (x2 : Int32) (hf : fX8_list_10 N S x1 x2 = some Rr) : ∀ (H : Heap) (locs : List Loc) (ls : Array Slot), WW D A s.heap (wM cy a r S) H locs → lv_has ls 3 [(0, .ref (a 99)), (1, .int x1), (2, .int x2)] → W p l e ({ frames := 0, cells := 0, slots := 0, locals := 0 } : Room) s m args below meth c H locs 0 0 (MQ below (QI D cy (wM cy a r) A Rr) args s 0 0 A) (F0 m 10 ls []) := by
  intro H locs ls hW hl
  unfold fX8_list_10 at hf
  refine lv_aload_n C.1 C.2.1 dX8_list_10 rfl (lv_at hl 0 rfl) ?_
  refine fg_8_41 C kX8_list_8 mX8_list_189 hW dX8_list_11 ?_
  refine lv_aload_n C.1 C.2.1 dX8_list_14 rfl (lv_at hl 0 rfl) ?_
  refine fg_8_43 C kX8_list_8 mX8_list_260 hW dX8_list_15 ?_
  refine lv_iload_n C.1 C.2.1 dX8_list_18 rfl (lv_at hl 1 rfl) ?_
  obtain ⟨h1, hf⟩ := ckx_el hf
  obtain ⟨S2, eS2, hf⟩ := bnd_el hf
  refine as_8_41 C hW h1 dX8_list_19 eS2 (fun H locs hW => ?_)
  refine lv_aload_n C.1 C.2.1 dX8_list_20 rfl (lv_at hl 0 rfl) ?_
  refine fg_8_42 C kX8_list_8 mX8_list_192 hW dX8_list_21 ?_
  refine lv_aload_n C.1 C.2.1 dX8_list_24 rfl (lv_at hl 0 rfl) ?_
  refine fg_8_43 C kX8_list_8 mX8_list_260 hW dX8_list_25 ?_
  refine lv_iload_n C.1 C.2.1 dX8_list_28 rfl (lv_at hl 2 rfl) ?_
  obtain ⟨h3, hf⟩ := ckx_el hf
  obtain ⟨S4, eS4, hf⟩ := bnd_el hf
  refine as_8_42 C hW h3 dX8_list_29 eS4 (fun H locs hW => ?_)
  refine lv_aload_n C.1 C.2.1 dX8_list_30 rfl (lv_at hl 0 rfl) ?_
  refine lv_dup C.1 C.2.1 dX8_list_31 rfl ?_
  refine fg_8_43 C kX8_list_8 mX8_list_260 hW dX8_list_32 ?_
  refine lv_iconst (v := 1) C.1 C.2.1 dX8_list_35 (by decide) ?_
  refine lv_iadd C.1 C.2.1 dX8_list_36 ?_
  obtain ⟨S5, eS5, hf⟩ := bnd_el hf
  refine fp_8_43 C kX8_list_8 mX8_list_260 hW dX8_list_37 eS5 (fun H locs hW => ?_)
  refine lv_aload_n C.1 C.2.1 dX8_list_40 rfl (lv_at hl 0 rfl) ?_
  refine fg_8_43 C kX8_list_8 mX8_list_260 hW dX8_list_41 ?_
  refine lv_iconst (v := 1) C.1 C.2.1 dX8_list_44 (by decide) ?_
  refine lv_isub C.1 C.2.1 dX8_list_45 ?_
  exact mrI C hr hlocks rfl hf hW dX8_list_46
def fX8_list (N : Nat) (S : St) (p1 : Int32) (p2 : Int32) : Option (Int32 × St) :=
  if p1 = 0 then
    if p2 = 0 then
      some ((0 : Int32), S)
    else
      fX8_list_10 N S p1 p2
  else
    fX8_list_10 N S p1 p2
set_option maxHeartbeats 4000000 in
set_option maxRecDepth 100000 in
theorem cX8_list_met (l : Launch) (D : va_G) (cy : Nat → ClassId) (a r : Nat → Nat) (sz N : Nat) (S : St) (p1 : Int32) (p2 : Int32) (Rr : Int32 × St) (hf : fX8_list N S p1 p2 = some Rr) : Met l yX8_list wsX8_list ({ frames := 0, cells := 0, slots := 0, locals := 0 } : Room) (va_Pc [.ref (a 99), .int p1, .int p2] (preW D cy (wM cy a r S) sz)) (QI D cy (wM cy a r) (va_A (wM cy a r S) sz) Rr) 0 0 (va_A (wM cy a r S) sz) := by
  refine Met.ofW (cc := cX8_list) (maxL := 3) (ret := (some .int)) (by decide) rfl ?_
  intro p e s m args below meth c s₁ B hml hv
  obtain ⟨rfl, rfl, hP, hK, hD0, hN⟩ := hv
  have hlocks := B.notSynchronized
  have hr := B.returns
  have C : Cx p s m _ c cX8_list 3 wsX8_list RX8 D cy := ⟨B.exec, B.bytes, hml, findClass_of_methodNamed B.named, atoms_spec (ws := wsX8_list) B.pre, hK, hN⟩
  have hW := ww_start (w := wM cy a r) hP hD0
  generalize va_A (wM cy a r S) s.heap.size = A at hW ⊢
  have hl := lv_entry ([.ref (a 99), .int p1, .int p2]) (n := 3) (Nat.le_of_ble_eq_true rfl)
  rw [lg_entry_eq]
  generalize (lg_sl ([.ref (a 99), .int p1, .int p2]) ++ List.replicate (3 - (lg_sl ([.ref (a 99), .int p1, .int p2])).length) Slot.unset).toArray = ls at hl ⊢
  have hl : lv_has ls 3 [(0, .ref (a 99)), (1, .int p1), (2, .int p2)] := hl
  unfold fX8_list at hf
  refine lv_iload_n C.1 C.2.1 dX8_list_0 rfl (lv_at hl 1 rfl) ?_
  refine lv_if_ne (tgt := 10) C.1 C.2.1 dX8_list_1 (by decide) (fun q1 => ?_) (fun q1 => ?_)
  · replace hf := (if_neg q1).symm.trans hf
    exact lX8_list_10 C hr hlocks N _ _ _ hf _ _ _ hW (lv_sub hl [0, 1, 2] rfl)
  · replace hf := (if_pos q1).symm.trans hf
    refine lv_iload_n C.1 C.2.1 dX8_list_4 rfl (lv_at hl 2 rfl) ?_
    refine lv_if_ne (tgt := 10) C.1 C.2.1 dX8_list_5 (by decide) (fun q2 => ?_) (fun q2 => ?_)
    · replace hf := (if_neg q2).symm.trans hf
      exact lX8_list_10 C hr hlocks N _ _ _ hf _ _ _ hW (lv_sub hl [0, 1, 2] rfl)
    · replace hf := (if_pos q2).symm.trans hf
      refine lv_iconst (v := 0) C.1 C.2.1 dX8_list_8 (by decide) ?_
      exact mrI C hr hlocks rfl hf hW dX8_list_9
theorem mX8_head_189 : Cond.fieldLink RX8 189 "SharedLambdaModel" "heads" "[I" ∈ wsX8_head := by decide +kernel
theorem kX8_head_8 : ∀ w ∈ u_ws RX8 TX8 58, w ∈ wsX8_head := fun _ h => List.mem_cons_of_mem _ (List.mem_append_right _ h)
def fX8_head (N : Nat) (S : St) (p1 : Int32) : Option (Int32 × St) :=
  if p1 = 0 then
    some ((0 : Int32), S)
  else
    ckx p1 270000 <|
    some (S.2.1 41 (p1 : Int32).toNatClampNeg, S)
set_option maxHeartbeats 4000000 in
set_option maxRecDepth 100000 in
theorem cX8_head_met (l : Launch) (D : va_G) (cy : Nat → ClassId) (a r : Nat → Nat) (sz N : Nat) (S : St) (p1 : Int32) (Rr : Int32 × St) (hf : fX8_head N S p1 = some Rr) : Met l yX8_head wsX8_head ({ frames := 0, cells := 0, slots := 0, locals := 0 } : Room) (va_Pc [.ref (a 99), .int p1] (preW D cy (wM cy a r S) sz)) (QI D cy (wM cy a r) (va_A (wM cy a r S) sz) Rr) 0 0 (va_A (wM cy a r S) sz) := by
  refine Met.ofW (cc := cX8_head) (maxL := 2) (ret := (some .int)) (by decide) rfl ?_
  intro p e s m args below meth c s₁ B hml hv
  obtain ⟨rfl, rfl, hP, hK, hD0, hN⟩ := hv
  have hlocks := B.notSynchronized
  have hr := B.returns
  have C : Cx p s m _ c cX8_head 2 wsX8_head RX8 D cy := ⟨B.exec, B.bytes, hml, findClass_of_methodNamed B.named, atoms_spec (ws := wsX8_head) B.pre, hK, hN⟩
  have hW := ww_start (w := wM cy a r) hP hD0
  generalize va_A (wM cy a r S) s.heap.size = A at hW ⊢
  have hl := lv_entry ([.ref (a 99), .int p1]) (n := 2) (Nat.le_of_ble_eq_true rfl)
  rw [lg_entry_eq]
  generalize (lg_sl ([.ref (a 99), .int p1]) ++ List.replicate (2 - (lg_sl ([.ref (a 99), .int p1])).length) Slot.unset).toArray = ls at hl ⊢
  have hl : lv_has ls 2 [(0, .ref (a 99)), (1, .int p1)] := hl
  unfold fX8_head at hf
  refine lv_iload_n C.1 C.2.1 dX8_head_0 rfl (lv_at hl 1 rfl) ?_
  refine lv_if_ne (tgt := 8) C.1 C.2.1 dX8_head_1 (by decide) (fun q1 => ?_) (fun q1 => ?_)
  · replace hf := (if_neg q1).symm.trans hf
    refine lv_aload_n C.1 C.2.1 dX8_head_8 rfl (lv_at hl 0 rfl) ?_
    refine fg_8_41 C kX8_head_8 mX8_head_189 hW dX8_head_9 ?_
    refine lv_iload_n C.1 C.2.1 dX8_head_12 rfl (lv_at hl 1 rfl) ?_
    obtain ⟨h2, hf⟩ := ckx_el hf
    refine al_8_41 C hW h2 dX8_head_13 ?_
    exact mrI C hr hlocks rfl hf hW dX8_head_14
  · replace hf := (if_pos q1).symm.trans hf
    refine lv_iconst (v := 0) C.1 C.2.1 dX8_head_4 (by decide) ?_
    refine lv_goto (tgt := 14) C.1 C.2.1 dX8_head_5 (by decide) ?_
    exact mrI C hr hlocks rfl hf hW dX8_head_14
theorem mX8_tail_192 : Cond.fieldLink RX8 192 "SharedLambdaModel" "tails" "[I" ∈ wsX8_tail := by decide +kernel
theorem kX8_tail_8 : ∀ w ∈ u_ws RX8 TX8 58, w ∈ wsX8_tail := fun _ h => List.mem_cons_of_mem _ (List.mem_append_right _ h)
def fX8_tail (N : Nat) (S : St) (p1 : Int32) : Option (Int32 × St) :=
  if p1 = 0 then
    some ((0 : Int32), S)
  else
    ckx p1 270000 <|
    some (S.2.1 42 (p1 : Int32).toNatClampNeg, S)
set_option maxHeartbeats 4000000 in
set_option maxRecDepth 100000 in
theorem cX8_tail_met (l : Launch) (D : va_G) (cy : Nat → ClassId) (a r : Nat → Nat) (sz N : Nat) (S : St) (p1 : Int32) (Rr : Int32 × St) (hf : fX8_tail N S p1 = some Rr) : Met l yX8_tail wsX8_tail ({ frames := 0, cells := 0, slots := 0, locals := 0 } : Room) (va_Pc [.ref (a 99), .int p1] (preW D cy (wM cy a r S) sz)) (QI D cy (wM cy a r) (va_A (wM cy a r S) sz) Rr) 0 0 (va_A (wM cy a r S) sz) := by
  refine Met.ofW (cc := cX8_tail) (maxL := 2) (ret := (some .int)) (by decide) rfl ?_
  intro p e s m args below meth c s₁ B hml hv
  obtain ⟨rfl, rfl, hP, hK, hD0, hN⟩ := hv
  have hlocks := B.notSynchronized
  have hr := B.returns
  have C : Cx p s m _ c cX8_tail 2 wsX8_tail RX8 D cy := ⟨B.exec, B.bytes, hml, findClass_of_methodNamed B.named, atoms_spec (ws := wsX8_tail) B.pre, hK, hN⟩
  have hW := ww_start (w := wM cy a r) hP hD0
  generalize va_A (wM cy a r S) s.heap.size = A at hW ⊢
  have hl := lv_entry ([.ref (a 99), .int p1]) (n := 2) (Nat.le_of_ble_eq_true rfl)
  rw [lg_entry_eq]
  generalize (lg_sl ([.ref (a 99), .int p1]) ++ List.replicate (2 - (lg_sl ([.ref (a 99), .int p1])).length) Slot.unset).toArray = ls at hl ⊢
  have hl : lv_has ls 2 [(0, .ref (a 99)), (1, .int p1)] := hl
  unfold fX8_tail at hf
  refine lv_iload_n C.1 C.2.1 dX8_tail_0 rfl (lv_at hl 1 rfl) ?_
  refine lv_if_ne (tgt := 8) C.1 C.2.1 dX8_tail_1 (by decide) (fun q1 => ?_) (fun q1 => ?_)
  · replace hf := (if_neg q1).symm.trans hf
    refine lv_aload_n C.1 C.2.1 dX8_tail_8 rfl (lv_at hl 0 rfl) ?_
    refine fg_8_42 C kX8_tail_8 mX8_tail_192 hW dX8_tail_9 ?_
    refine lv_iload_n C.1 C.2.1 dX8_tail_12 rfl (lv_at hl 1 rfl) ?_
    obtain ⟨h2, hf⟩ := ckx_el hf
    refine al_8_42 C hW h2 dX8_tail_13 ?_
    exact mrI C hr hlocks rfl hf hW dX8_tail_14
  · replace hf := (if_pos q1).symm.trans hf
    refine lv_iconst (v := 0) C.1 C.2.1 dX8_tail_4 (by decide) ?_
    refine lv_goto (tgt := 14) C.1 C.2.1 dX8_tail_5 (by decide) ?_
    exact mrI C hr hlocks rfl hf hW dX8_tail_14
theorem mX8_behind_192 : Cond.fieldLink RX8 192 "SharedLambdaModel" "tails" "[I" ∈ wsX8_behind := by decide +kernel
theorem kX8_behind_8 : ∀ w ∈ u_ws RX8 TX8 58, w ∈ wsX8_behind := fun _ h => List.mem_cons_of_mem _ (List.mem_append_right _ h)
def fX8_behind_5s (N : Nat) (k5 : St × Int32 × Int32 × Int32 → Option (Int32 × St)) (S : St) (x2 : Int32) (x3 : Int32) (x4 : Int32) : Option (Int32 × St) :=
  if x2 ≤ x4 then
    some (x3, S)
  else
    if x3 = 0 then
      some (x3, S)
    else
      ckx x3 270000 <|
      bnd (S.2.1 42 (x3 : Int32).toNatClampNeg) fun z4 =>
      bnd (x4 + (1 : Int32)) fun z5 =>
      k5 (S, x2, z4, z5)
def fX8_behind_5 (N : Nat) : St × Int32 × Int32 × Int32 → Option (Int32 × St) := loopN (fun k x => fX8_behind_5s N k x.1 x.2.1 x.2.2.1 x.2.2.2) N
set_option maxHeartbeats 4000000 in
set_option maxRecDepth 100000 in
theorem lX8_behind_5 {p : Program} {l : Launch} {e : Env} {s : State} {m : MethodId} {args : Array Value} {below : List Frame} {meth : Method} {c : Code} {D : va_G} {cy : Nat → ClassId} {a r : Nat → Nat} {A : Nat → Prop} {Rr : Int32 × St} (C : Cx p s m args c cX8_behind 5 wsX8_behind RX8 D cy) (hr : meth.sig.returnType = some .int) (hlocks : meth.locks = false) (N : Nat) : ∀ (n : Nat) (S : St) (x2 : Int32) (x3 : Int32) (x4 : Int32), loopN (fun k x => fX8_behind_5s N k x.1 x.2.1 x.2.2.1 x.2.2.2) n (S, x2, x3, x4) = some Rr → ∀ (H : Heap) (locs : List Loc) (ls : Array Slot), WW D A s.heap (wM cy a r S) H locs → lv_has ls 5 [(0, .ref (a 99)), (2, .int x2), (3, .int x3), (4, .int x4)] → W p l e ({ frames := 0, cells := 0, slots := 0, locals := 0 } : Room) s m args below meth c H locs 0 0 (MQ below (QI D cy (wM cy a r) A Rr) args s 0 0 A) (F0 m 5 ls []) := by
  intro n
  induction n with
  | zero =>
    intro S x2 x3 x4 hf
    cases hf
  | succ n ih =>
    intro S x2 x3 x4 hf H locs ls hW hl
    have hf : fX8_behind_5s N (loopN (fun k x => fX8_behind_5s N k x.1 x.2.1 x.2.2.1 x.2.2.2) n) S x2 x3 x4 = some Rr := hf
    unfold fX8_behind_5s at hf
    refine lv_iload C.1 C.2.1 dX8_behind_5 (lv_at hl 3 rfl) ?_
    refine lv_iload_n C.1 C.2.1 dX8_behind_7 rfl (lv_at hl 1 rfl) ?_
    refine lv_icmp_ge (tgt := 28) C.1 C.2.1 dX8_behind_8 (by decide) (fun q1 => ?_) (fun q1 => ?_)
    · replace hf := (if_pos q1).symm.trans hf
      refine lv_iload_n C.1 C.2.1 dX8_behind_28 rfl (lv_at hl 2 rfl) ?_
      exact mrI C hr hlocks rfl hf hW dX8_behind_29
    · replace hf := (if_neg q1).symm.trans hf
      refine lv_iload_n C.1 C.2.1 dX8_behind_11 rfl (lv_at hl 2 rfl) ?_
      refine lv_if_eq (tgt := 28) C.1 C.2.1 dX8_behind_12 (by decide) (fun q2 => ?_) (fun q2 => ?_)
      · replace hf := (if_pos q2).symm.trans hf
        refine lv_iload_n C.1 C.2.1 dX8_behind_28 rfl (lv_at hl 2 rfl) ?_
        exact mrI C hr hlocks rfl hf hW dX8_behind_29
      · replace hf := (if_neg q2).symm.trans hf
        refine lv_aload_n C.1 C.2.1 dX8_behind_15 rfl (lv_at hl 0 rfl) ?_
        refine fg_8_42 C kX8_behind_8 mX8_behind_192 hW dX8_behind_16 ?_
        refine lv_iload_n C.1 C.2.1 dX8_behind_19 rfl (lv_at hl 2 rfl) ?_
        obtain ⟨h3, hf⟩ := ckx_el hf
        refine al_8_42 C hW h3 dX8_behind_20 ?_
        obtain ⟨z4, ez4, hf⟩ := bnd_el hf
        refine lv_as ez4 ?_
        refine lv_istore_n (lv' := [(3, .int z4), (0, .ref (a 99)), (2, .int x2), (4, .int x4)]) C.1 C.2.1 dX8_behind_21 rfl hl (by decide) rfl (fun ls hl => ?_)
        obtain ⟨z5, ez5, hf⟩ := bnd_el hf
        refine lv_iinc (v := z5) (lv' := [(4, .int z5), (3, .int z4), (0, .ref (a 99)), (2, .int x2)]) C.1 C.2.1 dX8_behind_22 hl (k := 3) rfl (by rw [ez5]; rfl) (by decide) rfl (fun ls hl => ?_)
        refine lv_goto (tgt := 5) C.1 C.2.1 dX8_behind_25 (by decide) ?_
        exact ih _ _ _ _ hf _ _ _ hW (lv_sub hl [2, 3, 1, 0] rfl)
def fX8_behind (N : Nat) (S : St) (p1 : Int32) (p2 : Int32) : Option (Int32 × St) :=
  bnd (0 : Int32) fun z1 =>
  fX8_behind_5 N (S, p2, p1, z1)
set_option maxHeartbeats 4000000 in
set_option maxRecDepth 100000 in
theorem cX8_behind_met (l : Launch) (D : va_G) (cy : Nat → ClassId) (a r : Nat → Nat) (sz N : Nat) (S : St) (p1 : Int32) (p2 : Int32) (Rr : Int32 × St) (hf : fX8_behind N S p1 p2 = some Rr) : Met l yX8_behind wsX8_behind ({ frames := 0, cells := 0, slots := 0, locals := 0 } : Room) (va_Pc [.ref (a 99), .int p1, .int p2] (preW D cy (wM cy a r S) sz)) (QI D cy (wM cy a r) (va_A (wM cy a r S) sz) Rr) 0 0 (va_A (wM cy a r S) sz) := by
  refine Met.ofW (cc := cX8_behind) (maxL := 5) (ret := (some .int)) (by decide) rfl ?_
  intro p e s m args below meth c s₁ B hml hv
  obtain ⟨rfl, rfl, hP, hK, hD0, hN⟩ := hv
  have hlocks := B.notSynchronized
  have hr := B.returns
  have C : Cx p s m _ c cX8_behind 5 wsX8_behind RX8 D cy := ⟨B.exec, B.bytes, hml, findClass_of_methodNamed B.named, atoms_spec (ws := wsX8_behind) B.pre, hK, hN⟩
  have hW := ww_start (w := wM cy a r) hP hD0
  generalize va_A (wM cy a r S) s.heap.size = A at hW ⊢
  have hl := lv_entry ([.ref (a 99), .int p1, .int p2]) (n := 5) (Nat.le_of_ble_eq_true rfl)
  rw [lg_entry_eq]
  generalize (lg_sl ([.ref (a 99), .int p1, .int p2]) ++ List.replicate (5 - (lg_sl ([.ref (a 99), .int p1, .int p2])).length) Slot.unset).toArray = ls at hl ⊢
  have hl : lv_has ls 5 [(0, .ref (a 99)), (1, .int p1), (2, .int p2)] := hl
  unfold fX8_behind at hf
  refine lv_iload_n C.1 C.2.1 dX8_behind_0 rfl (lv_at hl 1 rfl) ?_
  refine lv_istore_n (lv' := [(3, .int p1), (0, .ref (a 99)), (1, .int p1), (2, .int p2)]) C.1 C.2.1 dX8_behind_1 rfl hl (by decide) rfl (fun ls hl => ?_)
  refine lv_iconst (v := 0) C.1 C.2.1 dX8_behind_2 (by decide) ?_
  obtain ⟨z1, ez1, hf⟩ := bnd_el hf
  refine lv_as ez1 ?_
  refine lv_istore (lv' := [(4, .int z1), (3, .int p1), (0, .ref (a 99)), (1, .int p1), (2, .int p2)]) C.1 C.2.1 dX8_behind_3 hl (by decide) rfl (fun ls hl => ?_)
  exact lX8_behind_5 C hr hlocks N _ _ _ _ _ hf _ _ _ hW (lv_sub hl [2, 4, 1, 0] rfl)
theorem mX8_with_195 : Cond.fieldLink RX8 195 "SharedLambdaModel" "front" "[I" ∈ wsX8_with := by decide +kernel
theorem kX8_with_8 : ∀ w ∈ u_ws RX8 TX8 58, w ∈ wsX8_with := fun _ h => List.mem_cons_of_mem _ (List.mem_append_right _ h)
def fX8_with_47s (N : Nat) (k47 : St × Int32 × Int32 → Option (Int32 × St)) (S : St) (x5 : Int32) (x6 : Int32) : Option (Int32 × St) :=
  if x6 < 0 then
    some (x5, S)
  else
    ckx x6 64 <|
    bd2 (fX8_list N S (S.2.1 44 (x6 : Int32).toNatClampNeg) x5) fun v3 S5 =>
    bnd (x6 + (-1 : Int32)) fun z6 =>
    k47 (S5, v3, z6)
def fX8_with_47 (N : Nat) : St × Int32 × Int32 → Option (Int32 × St) := loopN (fun k x => fX8_with_47s N k x.1 x.2.1 x.2.2) N
set_option maxHeartbeats 4000000 in
set_option maxRecDepth 100000 in
theorem lX8_with_47 {p : Program} {l : Launch} {e : Env} {s : State} {m : MethodId} {args : Array Value} {below : List Frame} {meth : Method} {c : Code} {D : va_G} {cy : Nat → ClassId} {a r : Nat → Nat} {A : Nat → Prop} {Rr : Int32 × St} (C : Cx p s m args c cX8_with 7 wsX8_with RX8 D cy) (hr : meth.sig.returnType = some .int) (hlocks : meth.locks = false) (N : Nat) : ∀ (n : Nat) (S : St) (x5 : Int32) (x6 : Int32), loopN (fun k x => fX8_with_47s N k x.1 x.2.1 x.2.2) n (S, x5, x6) = some Rr → ∀ (H : Heap) (locs : List Loc) (ls : Array Slot), WW D A s.heap (wM cy a r S) H locs → lv_has ls 7 [(0, .ref (a 99)), (5, .int x5), (6, .int x6)] → W p l e ({ frames := 1, cells := 0, slots := 0, locals := 22 } : Room) s m args below meth c H locs 0 0 (MQ below (QI D cy (wM cy a r) A Rr) args s 0 0 A) (F0 m 47 ls []) := by
  intro n
  induction n with
  | zero =>
    intro S x5 x6 hf
    cases hf
  | succ n ih =>
    intro S x5 x6 hf H locs ls hW hl
    have hf : fX8_with_47s N (loopN (fun k x => fX8_with_47s N k x.1 x.2.1 x.2.2) n) S x5 x6 = some Rr := hf
    unfold fX8_with_47s at hf
    refine lv_iload C.1 C.2.1 dX8_with_47 (lv_at hl 2 rfl) ?_
    refine lv_if_lt (tgt := 73) C.1 C.2.1 dX8_with_49 (by decide) (fun q1 => ?_) (fun q1 => ?_)
    · replace hf := (if_pos q1).symm.trans hf
      refine lv_iload C.1 C.2.1 dX8_with_73 (lv_at hl 1 rfl) ?_
      exact mrI C hr hlocks rfl hf hW dX8_with_75
    · replace hf := (if_neg q1).symm.trans hf
      refine lv_aload_n C.1 C.2.1 dX8_with_52 rfl (lv_at hl 0 rfl) ?_
      refine lv_aload_n C.1 C.2.1 dX8_with_53 rfl (lv_at hl 0 rfl) ?_
      refine fg_8_44 C kX8_with_8 mX8_with_195 hW dX8_with_54 ?_
      refine lv_iload C.1 C.2.1 dX8_with_57 (lv_at hl 2 rfl) ?_
      obtain ⟨h2, hf⟩ := ckx_el hf
      refine al_8_44 C hW h2 dX8_with_59 ?_
      refine lv_iload C.1 C.2.1 dX8_with_60 (lv_at hl 1 rfl) ?_
      obtain ⟨v3, S5, h4, hf⟩ := bd2_el hf
      refine mcVi (w := wM cy a r) (S := S) (As := [.int (S.2.1 44 (x6 : Int32).toNatClampNeg), .int x5]) (rest := []) (q0 := 0) (ci := 8) C (cX8_list_met l D cy a r _ N S (S.2.1 44 (x6 : Int32).toNatClampNeg) x5 (v3, S5) h4) (cwV 2 C.2.2.2.2.1 gX8_with_X8_list rfl rfl rfl (by decide +kernel) ⟨Nat.le_of_ble_eq_true rfl, Nat.le_of_ble_eq_true rfl⟩) rfl rfl rfl hl.1 (Nat.le_of_ble_eq_true rfl) hW dX8_with_62 ⟨Nat.zero_le _, Nat.zero_le _⟩ rfl (fun H locs hW => ?_)
      refine lv_istore (lv' := [(5, .int v3), (0, .ref (a 99)), (6, .int x6)]) C.1 C.2.1 dX8_with_65 hl (by decide) rfl (fun ls hl => ?_)
      obtain ⟨z6, ez6, hf⟩ := bnd_el hf
      refine lv_iinc (v := z6) (lv' := [(6, .int z6), (5, .int v3), (0, .ref (a 99))]) C.1 C.2.1 dX8_with_67 hl (k := 2) rfl (by rw [ez6]; rfl) (by decide) rfl (fun ls hl => ?_)
      refine lv_goto (tgt := 47) C.1 C.2.1 dX8_with_70 (by decide) ?_
      exact ih _ _ _ hf _ _ _ hW (lv_sub hl [2, 1, 0] rfl)
def fX8_with_6s (N : Nat) (k6 : St × Int32 × Int32 × Int32 × Int32 → Option (Int32 × St)) (S : St) (x2 : Int32) (x3 : Int32) (x4 : Int32) (x5 : Int32) : Option (Int32 × St) :=
  if x2 ≤ x5 then
    bnd ((x2 - (1 : Int32))) fun z2 =>
    fX8_with_47 N (S, x3, z2)
  else
    bd2 (fX8_head N S x4) fun v3 S5 =>
    ckx x5 64 <|
    bnd (sA S5 44 (upd (S5.2.1 44) (x5 : Int32).toNatClampNeg v3)) fun S7 =>
    bd2 (fX8_tail N S7 x4) fun v8 S10 =>
    bnd (x5 + (1 : Int32)) fun z11 =>
    k6 (S10, x2, x3, v8, z11)
def fX8_with_6 (N : Nat) : St × Int32 × Int32 × Int32 × Int32 → Option (Int32 × St) := loopN (fun k x => fX8_with_6s N k x.1 x.2.1 x.2.2.1 x.2.2.2.1 x.2.2.2.2) N
set_option maxHeartbeats 4000000 in
set_option maxRecDepth 100000 in
theorem lX8_with_6 {p : Program} {l : Launch} {e : Env} {s : State} {m : MethodId} {args : Array Value} {below : List Frame} {meth : Method} {c : Code} {D : va_G} {cy : Nat → ClassId} {a r : Nat → Nat} {A : Nat → Prop} {Rr : Int32 × St} (C : Cx p s m args c cX8_with 7 wsX8_with RX8 D cy) (hr : meth.sig.returnType = some .int) (hlocks : meth.locks = false) (N : Nat) : ∀ (n : Nat) (S : St) (x2 : Int32) (x3 : Int32) (x4 : Int32) (x5 : Int32), loopN (fun k x => fX8_with_6s N k x.1 x.2.1 x.2.2.1 x.2.2.2.1 x.2.2.2.2) n (S, x2, x3, x4, x5) = some Rr → ∀ (H : Heap) (locs : List Loc) (ls : Array Slot), WW D A s.heap (wM cy a r S) H locs → lv_has ls 7 [(0, .ref (a 99)), (2, .int x2), (3, .int x3), (4, .int x4), (5, .int x5)] → W p l e ({ frames := 1, cells := 0, slots := 0, locals := 22 } : Room) s m args below meth c H locs 0 0 (MQ below (QI D cy (wM cy a r) A Rr) args s 0 0 A) (F0 m 6 ls []) := by
  intro n
  induction n with
  | zero =>
    intro S x2 x3 x4 x5 hf
    cases hf
  | succ n ih =>
    intro S x2 x3 x4 x5 hf H locs ls hW hl
    have hf : fX8_with_6s N (loopN (fun k x => fX8_with_6s N k x.1 x.2.1 x.2.2.1 x.2.2.2.1 x.2.2.2.2) n) S x2 x3 x4 x5 = some Rr := hf
    unfold fX8_with_6s at hf
    refine lv_iload C.1 C.2.1 dX8_with_6 (lv_at hl 4 rfl) ?_
    refine lv_iload_n C.1 C.2.1 dX8_with_8 rfl (lv_at hl 1 rfl) ?_
    refine lv_icmp_ge (tgt := 39) C.1 C.2.1 dX8_with_9 (by decide) (fun q1 => ?_) (fun q1 => ?_)
    · replace hf := (if_pos q1).symm.trans hf
      refine lv_iload_n C.1 C.2.1 dX8_with_39 rfl (lv_at hl 2 rfl) ?_
      refine lv_istore (lv' := [(5, .int x3), (0, .ref (a 99)), (2, .int x2), (3, .int x3), (4, .int x4)]) C.1 C.2.1 dX8_with_40 hl (by decide) rfl (fun ls hl => ?_)
      refine lv_iload_n C.1 C.2.1 dX8_with_42 rfl (lv_at hl 2 rfl) ?_
      refine lv_iconst (v := 1) C.1 C.2.1 dX8_with_43 (by decide) ?_
      refine lv_isub C.1 C.2.1 dX8_with_44 ?_
      obtain ⟨z2, ez2, hf⟩ := bnd_el hf
      refine lv_as ez2 ?_
      refine lv_istore (lv' := [(6, .int z2), (5, .int x3), (0, .ref (a 99)), (2, .int x2), (3, .int x3), (4, .int x4)]) C.1 C.2.1 dX8_with_45 hl (by decide) rfl (fun ls hl => ?_)
      exact lX8_with_47 C hr hlocks N _ _ _ _ hf _ _ _ hW (lv_sub hl [2, 1, 0] rfl)
    · replace hf := (if_neg q1).symm.trans hf
      refine lv_aload_n C.1 C.2.1 dX8_with_12 rfl (lv_at hl 0 rfl) ?_
      refine fg_8_44 C kX8_with_8 mX8_with_195 hW dX8_with_13 ?_
      refine lv_iload C.1 C.2.1 dX8_with_16 (lv_at hl 4 rfl) ?_
      refine lv_aload_n C.1 C.2.1 dX8_with_18 rfl (lv_at hl 0 rfl) ?_
      refine lv_iload C.1 C.2.1 dX8_with_19 (lv_at hl 3 rfl) ?_
      obtain ⟨v3, S5, h4, hf⟩ := bd2_el hf
      refine mcVi (w := wM cy a r) (S := S) (As := [.int x4]) (rest := [.int x5, .ref (a 44)]) (q0 := 0) (ci := 8) C (cX8_head_met l D cy a r _ N S x4 (v3, S5) h4) (cwV 1 C.2.2.2.2.1 gX8_with_X8_head rfl rfl rfl (by decide +kernel) ⟨Nat.le_of_ble_eq_true rfl, Nat.le_of_ble_eq_true rfl⟩) rfl rfl rfl hl.1 (Nat.le_of_ble_eq_true rfl) hW dX8_with_21 ⟨Nat.zero_le _, Nat.zero_le _⟩ rfl (fun H locs hW => ?_)
      obtain ⟨h6, hf⟩ := ckx_el hf
      obtain ⟨S7, eS7, hf⟩ := bnd_el hf
      refine as_8_44 C hW h6 dX8_with_24 eS7 (fun H locs hW => ?_)
      refine lv_aload_n C.1 C.2.1 dX8_with_25 rfl (lv_at hl 0 rfl) ?_
      refine lv_iload C.1 C.2.1 dX8_with_26 (lv_at hl 3 rfl) ?_
      obtain ⟨v8, S10, h9, hf⟩ := bd2_el hf
      refine mcVi (w := wM cy a r) (S := S7) (As := [.int x4]) (rest := []) (q0 := 0) (ci := 8) C (cX8_tail_met l D cy a r _ N S7 x4 (v8, S10) h9) (cwV 1 C.2.2.2.2.1 gX8_with_X8_tail rfl rfl rfl (by decide +kernel) ⟨Nat.le_of_ble_eq_true rfl, Nat.le_of_ble_eq_true rfl⟩) rfl rfl rfl hl.1 (Nat.le_of_ble_eq_true rfl) hW dX8_with_28 ⟨Nat.zero_le _, Nat.zero_le _⟩ rfl (fun H locs hW => ?_)
      refine lv_istore (lv' := [(4, .int v8), (0, .ref (a 99)), (2, .int x2), (3, .int x3), (5, .int x5)]) C.1 C.2.1 dX8_with_31 hl (by decide) rfl (fun ls hl => ?_)
      obtain ⟨z11, ez11, hf⟩ := bnd_el hf
      refine lv_iinc (v := z11) (lv' := [(5, .int z11), (4, .int v8), (0, .ref (a 99)), (2, .int x2), (3, .int x3)]) C.1 C.2.1 dX8_with_33 hl (k := 4) rfl (by rw [ez11]; rfl) (by decide) rfl (fun ls hl => ?_)
      refine lv_goto (tgt := 6) C.1 C.2.1 dX8_with_36 (by decide) ?_
      exact ih _ _ _ _ _ hf _ _ _ hW (lv_sub hl [2, 3, 4, 1, 0] rfl)
def fX8_with (N : Nat) (S : St) (p1 : Int32) (p2 : Int32) (p3 : Int32) : Option (Int32 × St) :=
  bnd (0 : Int32) fun z1 =>
  fX8_with_6 N (S, p2, p3, p1, z1)
set_option maxHeartbeats 4000000 in
set_option maxRecDepth 100000 in
theorem cX8_with_met (l : Launch) (D : va_G) (cy : Nat → ClassId) (a r : Nat → Nat) (sz N : Nat) (S : St) (p1 : Int32) (p2 : Int32) (p3 : Int32) (Rr : Int32 × St) (hf : fX8_with N S p1 p2 p3 = some Rr) : Met l yX8_with wsX8_with ({ frames := 1, cells := 0, slots := 0, locals := 22 } : Room) (va_Pc [.ref (a 99), .int p1, .int p2, .int p3] (preW D cy (wM cy a r S) sz)) (QI D cy (wM cy a r) (va_A (wM cy a r S) sz) Rr) 0 0 (va_A (wM cy a r S) sz) := by
  refine Met.ofW (cc := cX8_with) (maxL := 7) (ret := (some .int)) (by decide) rfl ?_
  intro p e s m args below meth c s₁ B hml hv
  obtain ⟨rfl, rfl, hP, hK, hD0, hN⟩ := hv
  have hlocks := B.notSynchronized
  have hr := B.returns
  have C : Cx p s m _ c cX8_with 7 wsX8_with RX8 D cy := ⟨B.exec, B.bytes, hml, findClass_of_methodNamed B.named, atoms_spec (ws := wsX8_with) B.pre, hK, hN⟩
  have hW := ww_start (w := wM cy a r) hP hD0
  generalize va_A (wM cy a r S) s.heap.size = A at hW ⊢
  have hl := lv_entry ([.ref (a 99), .int p1, .int p2, .int p3]) (n := 7) (Nat.le_of_ble_eq_true rfl)
  rw [lg_entry_eq]
  generalize (lg_sl ([.ref (a 99), .int p1, .int p2, .int p3]) ++ List.replicate (7 - (lg_sl ([.ref (a 99), .int p1, .int p2, .int p3])).length) Slot.unset).toArray = ls at hl ⊢
  have hl : lv_has ls 7 [(0, .ref (a 99)), (1, .int p1), (2, .int p2), (3, .int p3)] := hl
  unfold fX8_with at hf
  refine lv_iload_n C.1 C.2.1 dX8_with_0 rfl (lv_at hl 1 rfl) ?_
  refine lv_istore (lv' := [(4, .int p1), (0, .ref (a 99)), (1, .int p1), (2, .int p2), (3, .int p3)]) C.1 C.2.1 dX8_with_1 hl (by decide) rfl (fun ls hl => ?_)
  refine lv_iconst (v := 0) C.1 C.2.1 dX8_with_3 (by decide) ?_
  obtain ⟨z1, ez1, hf⟩ := bnd_el hf
  refine lv_as ez1 ?_
  refine lv_istore (lv' := [(5, .int z1), (4, .int p1), (0, .ref (a 99)), (1, .int p1), (2, .int p2), (3, .int p3)]) C.1 C.2.1 dX8_with_4 hl (by decide) rfl (fun ls hl => ?_)
  exact lX8_with_6 C hr hlocks N _ _ _ _ _ _ hf _ _ _ hW (lv_sub hl [2, 4, 5, 1, 0] rfl)
