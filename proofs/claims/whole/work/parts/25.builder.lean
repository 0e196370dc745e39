theorem mX0_buildName_11 : Cond.fieldLink RX0 11 "SharedLambda$Builder" "rootPorts" "[I" ∈ wsX0_buildName := by decide +kernel
theorem mX0_buildName_24 : Cond.fieldLink RX0 24 "SharedLambda$Builder" "height" "I" ∈ wsX0_buildName := by decide +kernel
theorem mX0_buildName_i7 : Cond.initialized RX7 ∈ wsX0_buildName := by decide +kernel
theorem mX0_buildName_s_portOf : Cond.static yX7_portOf ∈ wsX0_buildName := by decide +kernel
theorem mX0_buildName_17 : Cond.fieldLink RX0 17 "SharedLambda$Builder" "freePorts" "[[I" ∈ wsX0_buildName := by decide +kernel
theorem mX0_buildName_20 : Cond.fieldLink RX0 20 "SharedLambda$Builder" "graph" "LSharedLambda$Graph;" ∈ wsX0_buildName := by decide +kernel
theorem kX0_buildName_0 : ∀ w ∈ u_ws RX0 TX0 4, w ∈ wsX0_buildName := fun _ h => List.mem_cons_of_mem _ (List.mem_append_left _ (List.mem_append_right _ h))
def fX0_buildName_33s (N : Nat) (k33 : St × Int32 × Int32 × Int32 → Option (St)) (S : St) (x2 : Int32) (x3 : Int32) (x4 : Int32) : Option (St) :=
  if (40 : Int32) ≤ x4 then
    bdo (fX7_portOf x3 (1 : Int32)) fun v2 =>
    ckx (S.1 3) 43 <|
    bnd (sA S 1 (upd (S.2.1 1) (S.1 3 : Int32).toNatClampNeg v2)) fun S5 =>
    ckx (S5.1 3) 43 <|
    bdo (fX7_portOf x3 (0 : Int32)) fun v7 =>
    ckx x2 40 <|
    bnd (sF S5 (S5.1 3 : Int32).toNatClampNeg (upd (S5.2.2.1 (S5.1 3 : Int32).toNatClampNeg) (x2 : Int32).toNatClampNeg v7)) fun S10 =>
    bnd (sI S10 3 ((S10.1 3 + (1 : Int32)))) fun S11 =>
    some S11
  else
    ckx (S.1 3) 43 <|
    ckx x4 40 <|
    bnd (sF S (S.1 3 : Int32).toNatClampNeg (upd (S.2.2.1 (S.1 3 : Int32).toNatClampNeg) (x4 : Int32).toNatClampNeg (-1 : Int32))) fun S14 =>
    bnd (x4 + (1 : Int32)) fun z15 =>
    k33 (S14, x2, x3, z15)
def fX0_buildName_33 (N : Nat) : St × Int32 × Int32 × Int32 → Option (St) := loopN (fun k x => fX0_buildName_33s N k x.1 x.2.1 x.2.2.1 x.2.2.2) N
set_option maxHeartbeats 4000000 in
set_option maxRecDepth 100000 in
theorem lX0_buildName_33 {p : Program} {l : Launch} {e : Env} {s : State} {m : MethodId} {args : Array Value} {below : List Frame} {meth : Method} {c : Code} {D : va_G} {cy : Nat → ClassId} {a r : Nat → Nat} {A : Nat → Prop} {Rr : St} (C : Cx p s m args c cX0_buildName 5 wsX0_buildName RX0 D cy) (hr : meth.sig.returnType = none) (hlocks : meth.locks = false) (N : Nat) : ∀ (n : Nat) (S : St) (x2 : Int32) (x3 : Int32) (x4 : Int32), loopN (fun k x => fX0_buildName_33s N k x.1 x.2.1 x.2.2.1 x.2.2.2) n (S, x2, x3, x4) = some Rr → ∀ (H : Heap) (locs : List Loc) (ls : Array Slot), WW D A s.heap (wC cy a r S) H locs → lv_has ls 5 [(0, .ref (a 19)), (2, .int x2), (3, .int x3), (4, .int x4)] → W p l e ({ frames := 1, cells := 0, slots := 0, locals := 23 } : Room) s m args below meth c H locs 0 0 (MQ below (QV D cy (wC cy a r) A Rr) args s 0 0 A) (F0 m 33 ls []) := by
  intro n
  induction n with
  | zero =>
    intro S x2 x3 x4 hf
    cases hf
  | succ n ih =>
    intro S x2 x3 x4 hf H locs ls hW hl
    have hf : fX0_buildName_33s N (loopN (fun k x => fX0_buildName_33s N k x.1 x.2.1 x.2.2.1 x.2.2.2) n) S x2 x3 x4 = some Rr := hf
    unfold fX0_buildName_33s at hf
    refine lv_iload C.1 C.2.1 dX0_buildName_33 (lv_at hl 3 rfl) ?_
    refine lv_bipush (v := 40) C.1 C.2.1 dX0_buildName_35 (by decide) ?_
    refine lv_icmp_ge (tgt := 59) C.1 C.2.1 dX0_buildName_37 (by decide) (fun q1 => ?_) (fun q1 => ?_)
    · replace hf := (if_pos q1).symm.trans hf
      refine lv_aload_n C.1 C.2.1 dX0_buildName_59 rfl (lv_at hl 0 rfl) ?_
      refine fg_0_1 C kX0_buildName_0 mX0_buildName_11 hW dX0_buildName_60 ?_
      refine lv_aload_n C.1 C.2.1 dX0_buildName_63 rfl (lv_at hl 0 rfl) ?_
      refine fg_0_3 C kX0_buildName_0 mX0_buildName_24 hW dX0_buildName_64 ?_
      refine lv_iload_n C.1 C.2.1 dX0_buildName_67 rfl (lv_at hl 2 rfl) ?_
      refine lv_iconst (v := 1) C.1 C.2.1 dX0_buildName_68 (by decide) ?_
      obtain ⟨v2, h3, hf⟩ := bdo_el hf
      refine mcSN (As := [.int x3, .int (1 : Int32)]) (rest := [.int (S.1 3), .ref (a 1)]) C (cX7_portOf_met l x3 (1 : Int32) v2 h3) ⟨va_cnB 2 C.2.2.2.2.1 gX0_buildName_X7_portOf_n61 rfl rfl rfl (C.2.2.2.2.2.2 (RX0, 61, yX7_portOf) (by decide +kernel)) (C.2.2.2.2.1 _ mX0_buildName_i7) (by decide +kernel) ⟨Nat.le_of_ble_eq_true rfl, Nat.le_of_ble_eq_true rfl⟩, C.2.2.2.2.1 _ mX0_buildName_s_portOf, trivial⟩ rfl hl.1 (Nat.le_of_ble_eq_true rfl) dX0_buildName_69 ⟨Nat.zero_le _, Nat.zero_le _⟩ rfl ?_
      obtain ⟨h4, hf⟩ := ckx_el hf
      obtain ⟨S5, eS5, hf⟩ := bnd_el hf
      refine as_0_1 C hW h4 dX0_buildName_72 eS5 (fun H locs hW => ?_)
      refine lv_aload_n C.1 C.2.1 dX0_buildName_73 rfl (lv_at hl 0 rfl) ?_
      refine fg_0_2 C kX0_buildName_0 mX0_buildName_17 hW dX0_buildName_74 ?_
      refine lv_aload_n C.1 C.2.1 dX0_buildName_77 rfl (lv_at hl 0 rfl) ?_
      refine fg_0_3 C kX0_buildName_0 mX0_buildName_24 hW dX0_buildName_78 ?_
      obtain ⟨h6, hf⟩ := ckx_el hf
      refine aa_0_2 C hW h6 dX0_buildName_81 ?_
      refine lv_iload_n C.1 C.2.1 dX0_buildName_82 rfl (lv_at hl 1 rfl) ?_
      refine lv_iload_n C.1 C.2.1 dX0_buildName_83 rfl (lv_at hl 2 rfl) ?_
      refine lv_iconst (v := 0) C.1 C.2.1 dX0_buildName_84 (by decide) ?_
      obtain ⟨v7, h8, hf⟩ := bdo_el hf
      refine mcSN (As := [.int x3, .int (0 : Int32)]) (rest := [.int x2, .ref (r (S5.1 3 : Int32).toNatClampNeg)]) C (cX7_portOf_met l x3 (0 : Int32) v7 h8) ⟨va_cnB 2 C.2.2.2.2.1 gX0_buildName_X7_portOf_n61 rfl rfl rfl (C.2.2.2.2.2.2 (RX0, 61, yX7_portOf) (by decide +kernel)) (C.2.2.2.2.1 _ mX0_buildName_i7) (by decide +kernel) ⟨Nat.le_of_ble_eq_true rfl, Nat.le_of_ble_eq_true rfl⟩, C.2.2.2.2.1 _ mX0_buildName_s_portOf, trivial⟩ rfl hl.1 (Nat.le_of_ble_eq_true rfl) dX0_buildName_85 ⟨Nat.zero_le _, Nat.zero_le _⟩ rfl ?_
      obtain ⟨h9, hf⟩ := ckx_el hf
      obtain ⟨S10, eS10, hf⟩ := bnd_el hf
      refine ar_st C hW (vp_ltN h6) h9 dX0_buildName_88 eS10 (fun H locs hW => ?_)
      refine lv_aload_n C.1 C.2.1 dX0_buildName_89 rfl (lv_at hl 0 rfl) ?_
      refine lv_dup C.1 C.2.1 dX0_buildName_90 rfl ?_
      refine fg_0_3 C kX0_buildName_0 mX0_buildName_24 hW dX0_buildName_91 ?_
      refine lv_iconst (v := 1) C.1 C.2.1 dX0_buildName_94 (by decide) ?_
      refine lv_iadd C.1 C.2.1 dX0_buildName_95 ?_
      obtain ⟨S11, eS11, hf⟩ := bnd_el hf
      refine fp_0_3 C kX0_buildName_0 mX0_buildName_24 hW dX0_buildName_96 eS11 (fun H locs hW => ?_)
      exact mrV C hr hlocks hf hW dX0_buildName_99
    · replace hf := (if_neg q1).symm.trans hf
      refine lv_aload_n C.1 C.2.1 dX0_buildName_40 rfl (lv_at hl 0 rfl) ?_
      refine fg_0_2 C kX0_buildName_0 mX0_buildName_17 hW dX0_buildName_41 ?_
      refine lv_aload_n C.1 C.2.1 dX0_buildName_44 rfl (lv_at hl 0 rfl) ?_
      refine fg_0_3 C kX0_buildName_0 mX0_buildName_24 hW dX0_buildName_45 ?_
      obtain ⟨h12, hf⟩ := ckx_el hf
      refine aa_0_2 C hW h12 dX0_buildName_48 ?_
      refine lv_iload C.1 C.2.1 dX0_buildName_49 (lv_at hl 3 rfl) ?_
      refine lv_iconst (v := -1) C.1 C.2.1 dX0_buildName_51 (by decide) ?_
      obtain ⟨h13, hf⟩ := ckx_el hf
      obtain ⟨S14, eS14, hf⟩ := bnd_el hf
      refine ar_st C hW (vp_ltN h12) h13 dX0_buildName_52 eS14 (fun H locs hW => ?_)
      obtain ⟨z15, ez15, hf⟩ := bnd_el hf
      refine lv_iinc (v := z15) (lv' := [(4, .int z15), (0, .ref (a 19)), (2, .int x2), (3, .int x3)]) C.1 C.2.1 dX0_buildName_53 hl (k := 3) rfl (by rw [ez15]; rfl) (by decide) rfl (fun ls hl => ?_)
      refine lv_goto (tgt := 33) C.1 C.2.1 dX0_buildName_56 (by decide) ?_
      exact ih _ _ _ _ hf _ _ _ hW (lv_sub hl [1, 2, 3, 0] rfl)
def fX0_buildName (N : Nat) (S : St) (p1 : Int32) (p2 : Int32) : Option (St) :=
  if (43 : Int32) ≤ S.1 3 then
    some S
  else
    if p2 < 0 then
      some S
    else
      if p2 < (40 : Int32) then
        bd2 (fX2_make N S (3 : Int32) p1) fun v4 S6 =>
        bnd (0 : Int32) fun z7 =>
        fX0_buildName_33 N (S6, p2, v4, z7)
      else
        some S
set_option maxHeartbeats 4000000 in
set_option maxRecDepth 100000 in
theorem cX0_buildName_met (l : Launch) (D : va_G) (cy : Nat → ClassId) (a r : Nat → Nat) (sz N : Nat) (S : St) (p1 : Int32) (p2 : Int32) (Rr : St) (hf : fX0_buildName N S p1 p2 = some Rr) : Met l yX0_buildName wsX0_buildName ({ frames := 1, cells := 0, slots := 0, locals := 23 } : Room) (va_Pc [.ref (a 19), .int p1, .int p2] (preW D cy (wC cy a r S) sz)) (QV D cy (wC cy a r) (va_A (wC cy a r S) sz) Rr) 0 0 (va_A (wC cy a r S) sz) := by
  refine Met.ofW (cc := cX0_buildName) (maxL := 5) (ret := none) (by decide) rfl ?_
  intro p e s m args below meth c s₁ B hml hv
  obtain ⟨rfl, rfl, hP, hK, hD0, hN⟩ := hv
  have hlocks := B.notSynchronized
  have hr := B.returns
  have C : Cx p s m _ c cX0_buildName 5 wsX0_buildName RX0 D cy := ⟨B.exec, B.bytes, hml, findClass_of_methodNamed B.named, atoms_spec (ws := wsX0_buildName) B.pre, hK, hN⟩
  have hW := ww_start (w := wC cy a r) hP hD0
  generalize va_A (wC cy a r S) s.heap.size = A at hW ⊢
  have hl := lv_entry ([.ref (a 19), .int p1, .int p2]) (n := 5) (Nat.le_of_ble_eq_true rfl)
  rw [lg_entry_eq]
  generalize (lg_sl ([.ref (a 19), .int p1, .int p2]) ++ List.replicate (5 - (lg_sl ([.ref (a 19), .int p1, .int p2])).length) Slot.unset).toArray = ls at hl ⊢
  have hl : lv_has ls 5 [(0, .ref (a 19)), (1, .int p1), (2, .int p2)] := hl
  unfold fX0_buildName at hf
  refine lv_aload_n C.1 C.2.1 dX0_buildName_0 rfl (lv_at hl 0 rfl) ?_
  refine fg_0_3 C kX0_buildName_0 mX0_buildName_24 hW dX0_buildName_1 ?_
  refine lv_bipush (v := 43) C.1 C.2.1 dX0_buildName_4 (by decide) ?_
  refine lv_icmp_ge (tgt := 19) C.1 C.2.1 dX0_buildName_6 (by decide) (fun q1 => ?_) (fun q1 => ?_)
  · replace hf := (if_pos q1).symm.trans hf
    exact mrV C hr hlocks hf hW dX0_buildName_19
  · replace hf := (if_neg q1).symm.trans hf
    refine lv_iload_n C.1 C.2.1 dX0_buildName_9 rfl (lv_at hl 2 rfl) ?_
    refine lv_if_lt (tgt := 19) C.1 C.2.1 dX0_buildName_10 (by decide) (fun q2 => ?_) (fun q2 => ?_)
    · replace hf := (if_pos q2).symm.trans hf
      exact mrV C hr hlocks hf hW dX0_buildName_19
    · replace hf := (if_neg q2).symm.trans hf
      refine lv_iload_n C.1 C.2.1 dX0_buildName_13 rfl (lv_at hl 2 rfl) ?_
      refine lv_bipush (v := 40) C.1 C.2.1 dX0_buildName_14 (by decide) ?_
      refine lv_icmp_lt (tgt := 20) C.1 C.2.1 dX0_buildName_16 (by decide) (fun q3 => ?_) (fun q3 => ?_)
      · replace hf := (if_pos q3).symm.trans hf
        refine lv_aload_n C.1 C.2.1 dX0_buildName_20 rfl (lv_at hl 0 rfl) ?_
        refine fg_0_0 C kX0_buildName_0 mX0_buildName_20 hW dX0_buildName_21 ?_
        refine lv_iconst (v := 3) C.1 C.2.1 dX0_buildName_24 (by decide) ?_
        refine lv_iload_n C.1 C.2.1 dX0_buildName_25 rfl (lv_at hl 1 rfl) ?_
        obtain ⟨v4, S6, h5, hf⟩ := bd2_el hf
        refine mcVi (w := wC cy a r) (S := S) (As := [.int (3 : Int32), .int p1]) (rest := []) (q0 := 2) (ci := 2) C (cX2_make_met l D cy a r _ N S (3 : Int32) p1 (v4, S6) h5) (cwV 2 C.2.2.2.2.1 gX0_buildName_X2_make rfl rfl rfl (by decide +kernel) ⟨Nat.le_of_ble_eq_true rfl, Nat.le_of_ble_eq_true rfl⟩) rfl rfl rfl hl.1 (Nat.le_of_ble_eq_true rfl) hW dX0_buildName_26 ⟨Nat.zero_le _, Nat.zero_le _⟩ rfl (fun H locs hW => ?_)
        refine lv_istore_n (lv' := [(3, .int v4), (0, .ref (a 19)), (1, .int p1), (2, .int p2)]) C.1 C.2.1 dX0_buildName_29 rfl hl (by decide) rfl (fun ls hl => ?_)
        refine lv_iconst (v := 0) C.1 C.2.1 dX0_buildName_30 (by decide) ?_
        obtain ⟨z7, ez7, hf⟩ := bnd_el hf
        refine lv_as ez7 ?_
        refine lv_istore (lv' := [(4, .int z7), (3, .int v4), (0, .ref (a 19)), (1, .int p1), (2, .int p2)]) C.1 C.2.1 dX0_buildName_31 hl (by decide) rfl (fun ls hl => ?_)
        exact lX0_buildName_33 C hr hlocks N _ _ _ _ _ hf _ _ _ hW (lv_sub hl [2, 4, 1, 0] rfl)
      · replace hf := (if_neg q3).symm.trans hf
        exact mrV C hr hlocks hf hW dX0_buildName_19
theorem mX0_buildLambda_20 : Cond.fieldLink RX0 20 "SharedLambda$Builder" "graph" "LSharedLambda$Graph;" ∈ wsX0_buildLambda := by decide +kernel
theorem mX0_buildLambda_i7 : Cond.initialized RX7 ∈ wsX0_buildLambda := by decide +kernel
theorem mX0_buildLambda_s_portOf : Cond.static yX7_portOf ∈ wsX0_buildLambda := by decide +kernel
theorem mX0_buildLambda_11 : Cond.fieldLink RX0 11 "SharedLambda$Builder" "rootPorts" "[I" ∈ wsX0_buildLambda := by decide +kernel
theorem mX0_buildLambda_17 : Cond.fieldLink RX0 17 "SharedLambda$Builder" "freePorts" "[[I" ∈ wsX0_buildLambda := by decide +kernel
theorem mX0_buildLambda_24 : Cond.fieldLink RX0 24 "SharedLambda$Builder" "height" "I" ∈ wsX0_buildLambda := by decide +kernel
theorem kX0_buildLambda_0 : ∀ w ∈ u_ws RX0 TX0 4, w ∈ wsX0_buildLambda := fun _ h => List.mem_cons_of_mem _ (List.mem_append_left _ (List.mem_append_right _ h))
def fX0_buildLambda_68 (N : Nat) (S : St) (x2 : Int32) (x3 : Int32) (x4 : Int32) (x5 : Int32) : Option (St) :=
  bdo (fX7_portOf x4 (1 : Int32)) fun v1 =>
  ckx x3 43 <|
  bdo (fX2_link N S v1 (S.2.1 1 (x3 : Int32).toNatClampNeg)) fun S6 =>
  bdo (fX7_portOf x4 (2 : Int32)) fun v7 =>
  bdo (fX2_link N S6 v7 x5) fun S11 =>
  bdo (fX7_portOf x4 (0 : Int32)) fun v12 =>
  ckx x3 43 <|
  bnd (sA S11 1 (upd (S11.2.1 1) (x3 : Int32).toNatClampNeg v12)) fun S15 =>
  ckx x3 43 <|
  ckx x2 40 <|
  bnd (sF S15 (x3 : Int32).toNatClampNeg (upd (S15.2.2.1 (x3 : Int32).toNatClampNeg) (x2 : Int32).toNatClampNeg (-1 : Int32))) fun S18 =>
  some S18
set_option maxHeartbeats 4000000 in
set_option maxRecDepth 100000 in
theorem lX0_buildLambda_68 {p : Program} {l : Launch} {e : Env} {s : State} {m : MethodId} {args : Array Value} {below : List Frame} {meth : Method} {c : Code} {D : va_G} {cy : Nat → ClassId} {a r : Nat → Nat} {A : Nat → Prop} {Rr : St} (C : Cx p s m args c cX0_buildLambda 6 wsX0_buildLambda RX0 D cy) (hr : meth.sig.returnType = none) (hlocks : meth.locks = false) (N : Nat) (S : St) (x2 : Int32) (x3 : Int32) (x4 : Int32) (x5 : Int32) (hf : fX0_buildLambda_68 N S x2 x3 x4 x5 = some Rr) : ∀ (H : Heap) (locs : List Loc) (ls : Array Slot), WW D A s.heap (wC cy a r S) H locs → lv_has ls 6 [(0, .ref (a 19)), (2, .int x2), (3, .int x3), (4, .int x4), (5, .int x5)] → W p l e ({ frames := 2, cells := 0, slots := 0, locals := 43 } : Room) s m args below meth c H locs 0 0 (MQ below (QV D cy (wC cy a r) A Rr) args s 0 0 A) (F0 m 68 ls []) := by
  intro H locs ls hW hl
  unfold fX0_buildLambda_68 at hf
  refine lv_aload_n C.1 C.2.1 dX0_buildLambda_68 rfl (lv_at hl 0 rfl) ?_
  refine fg_0_0 C kX0_buildLambda_0 mX0_buildLambda_20 hW dX0_buildLambda_69 ?_
  refine lv_iload C.1 C.2.1 dX0_buildLambda_72 (lv_at hl 3 rfl) ?_
  refine lv_iconst (v := 1) C.1 C.2.1 dX0_buildLambda_74 (by decide) ?_
  obtain ⟨v1, h2, hf⟩ := bdo_el hf
  refine mcSN (As := [.int x4, .int (1 : Int32)]) (rest := [.ref (a 59)]) C (cX7_portOf_met l x4 (1 : Int32) v1 h2) ⟨va_cnB 2 C.2.2.2.2.1 gX0_buildLambda_X7_portOf_n61 rfl rfl rfl (C.2.2.2.2.2.2 (RX0, 61, yX7_portOf) (by decide +kernel)) (C.2.2.2.2.1 _ mX0_buildLambda_i7) (by decide +kernel) ⟨Nat.le_of_ble_eq_true rfl, Nat.le_of_ble_eq_true rfl⟩, C.2.2.2.2.1 _ mX0_buildLambda_s_portOf, trivial⟩ rfl hl.1 (Nat.le_of_ble_eq_true rfl) dX0_buildLambda_75 ⟨Nat.zero_le _, Nat.zero_le _⟩ rfl ?_
  refine lv_aload_n C.1 C.2.1 dX0_buildLambda_78 rfl (lv_at hl 0 rfl) ?_
  refine fg_0_1 C kX0_buildLambda_0 mX0_buildLambda_11 hW dX0_buildLambda_79 ?_
  refine lv_iload_n C.1 C.2.1 dX0_buildLambda_82 rfl (lv_at hl 2 rfl) ?_
  obtain ⟨h3, hf⟩ := ckx_el hf
  refine al_0_1 C hW h3 dX0_buildLambda_83 ?_
  obtain ⟨S6, h5, hf⟩ := bdo_el hf
  refine mcVv (w := wC cy a r) (S := S) (As := [.int v1, .int (S.2.1 1 (x3 : Int32).toNatClampNeg)]) (rest := []) (q0 := 2) (ci := 2) C (cX2_link_met l D cy a r _ N S v1 (S.2.1 1 (x3 : Int32).toNatClampNeg) S6 h5) (cwV 2 C.2.2.2.2.1 gX0_buildLambda_X2_link rfl rfl rfl (by decide +kernel) ⟨Nat.le_of_ble_eq_true rfl, Nat.le_of_ble_eq_true rfl⟩) rfl rfl rfl hl.1 (Nat.le_of_ble_eq_true rfl) hW dX0_buildLambda_84 ⟨Nat.zero_le _, Nat.zero_le _⟩ rfl (fun H locs hW => ?_)
  refine lv_aload_n C.1 C.2.1 dX0_buildLambda_87 rfl (lv_at hl 0 rfl) ?_
  refine fg_0_0 C kX0_buildLambda_0 mX0_buildLambda_20 hW dX0_buildLambda_88 ?_
  refine lv_iload C.1 C.2.1 dX0_buildLambda_91 (lv_at hl 3 rfl) ?_
  refine lv_iconst (v := 2) C.1 C.2.1 dX0_buildLambda_93 (by decide) ?_
  obtain ⟨v7, h8, hf⟩ := bdo_el hf
  refine mcSN (As := [.int x4, .int (2 : Int32)]) (rest := [.ref (a 59)]) C (cX7_portOf_met l x4 (2 : Int32) v7 h8) ⟨va_cnB 2 C.2.2.2.2.1 gX0_buildLambda_X7_portOf_n61 rfl rfl rfl (C.2.2.2.2.2.2 (RX0, 61, yX7_portOf) (by decide +kernel)) (C.2.2.2.2.1 _ mX0_buildLambda_i7) (by decide +kernel) ⟨Nat.le_of_ble_eq_true rfl, Nat.le_of_ble_eq_true rfl⟩, C.2.2.2.2.1 _ mX0_buildLambda_s_portOf, trivial⟩ rfl hl.1 (Nat.le_of_ble_eq_true rfl) dX0_buildLambda_94 ⟨Nat.zero_le _, Nat.zero_le _⟩ rfl ?_
  refine lv_iload C.1 C.2.1 dX0_buildLambda_97 (lv_at hl 4 rfl) ?_
  obtain ⟨S11, h10, hf⟩ := bdo_el hf
  refine mcVv (w := wC cy a r) (S := S6) (As := [.int v7, .int x5]) (rest := []) (q0 := 2) (ci := 2) C (cX2_link_met l D cy a r _ N S6 v7 x5 S11 h10) (cwV 2 C.2.2.2.2.1 gX0_buildLambda_X2_link rfl rfl rfl (by decide +kernel) ⟨Nat.le_of_ble_eq_true rfl, Nat.le_of_ble_eq_true rfl⟩) rfl rfl rfl hl.1 (Nat.le_of_ble_eq_true rfl) hW dX0_buildLambda_99 ⟨Nat.zero_le _, Nat.zero_le _⟩ rfl (fun H locs hW => ?_)
  refine lv_aload_n C.1 C.2.1 dX0_buildLambda_102 rfl (lv_at hl 0 rfl) ?_
  refine fg_0_1 C kX0_buildLambda_0 mX0_buildLambda_11 hW dX0_buildLambda_103 ?_
  refine lv_iload_n C.1 C.2.1 dX0_buildLambda_106 rfl (lv_at hl 2 rfl) ?_
  refine lv_iload C.1 C.2.1 dX0_buildLambda_107 (lv_at hl 3 rfl) ?_
  refine lv_iconst (v := 0) C.1 C.2.1 dX0_buildLambda_109 (by decide) ?_
  obtain ⟨v12, h13, hf⟩ := bdo_el hf
  refine mcSN (As := [.int x4, .int (0 : Int32)]) (rest := [.int x3, .ref (a 1)]) C (cX7_portOf_met l x4 (0 : Int32) v12 h13) ⟨va_cnB 2 C.2.2.2.2.1 gX0_buildLambda_X7_portOf_n61 rfl rfl rfl (C.2.2.2.2.2.2 (RX0, 61, yX7_portOf) (by decide +kernel)) (C.2.2.2.2.1 _ mX0_buildLambda_i7) (by decide +kernel) ⟨Nat.le_of_ble_eq_true rfl, Nat.le_of_ble_eq_true rfl⟩, C.2.2.2.2.1 _ mX0_buildLambda_s_portOf, trivial⟩ rfl hl.1 (Nat.le_of_ble_eq_true rfl) dX0_buildLambda_110 ⟨Nat.zero_le _, Nat.zero_le _⟩ rfl ?_
  obtain ⟨h14, hf⟩ := ckx_el hf
  obtain ⟨S15, eS15, hf⟩ := bnd_el hf
  refine as_0_1 C hW h14 dX0_buildLambda_113 eS15 (fun H locs hW => ?_)
  refine lv_aload_n C.1 C.2.1 dX0_buildLambda_114 rfl (lv_at hl 0 rfl) ?_
  refine fg_0_2 C kX0_buildLambda_0 mX0_buildLambda_17 hW dX0_buildLambda_115 ?_
  refine lv_iload_n C.1 C.2.1 dX0_buildLambda_118 rfl (lv_at hl 2 rfl) ?_
  obtain ⟨h16, hf⟩ := ckx_el hf
  refine aa_0_2 C hW h16 dX0_buildLambda_119 ?_
  refine lv_iload_n C.1 C.2.1 dX0_buildLambda_120 rfl (lv_at hl 1 rfl) ?_
  refine lv_iconst (v := -1) C.1 C.2.1 dX0_buildLambda_121 (by decide) ?_
  obtain ⟨h17, hf⟩ := ckx_el hf
  obtain ⟨S18, eS18, hf⟩ := bnd_el hf
  refine ar_st C hW (vp_ltN h16) h17 dX0_buildLambda_122 eS18 (fun H locs hW => ?_)
  exact mrV C hr hlocks hf hW dX0_buildLambda_123
def fX0_buildLambda (N : Nat) (S : St) (p1 : Int32) (p2 : Int32) : Option (St) :=
  if S.1 3 < (1 : Int32) then
    some S
  else
    if p2 < 0 then
      some S
    else
      if p2 < (40 : Int32) then
        bnd ((S.1 3 - (1 : Int32))) fun z4 =>
        bd2 (fX2_make N S (0 : Int32) p1) fun v5 S7 =>
        ckx z4 43 <|
        ckx p2 40 <|
        bnd (S7.2.2.1 (z4 : Int32).toNatClampNeg (p2 : Int32).toNatClampNeg) fun z10 =>
        if z10 = (-1 : Int32) then
          bd2 (fX2_make N S7 (5 : Int32) (-1 : Int32)) fun v12 S14 =>
          bdo (fX7_portOf v12 (0 : Int32)) fun v15 =>
          fX0_buildLambda_68 N S14 p2 z4 v5 v15
        else
          fX0_buildLambda_68 N S7 p2 z4 v5 z10
      else
        some S
set_option maxHeartbeats 4000000 in
set_option maxRecDepth 100000 in
theorem cX0_buildLambda_met (l : Launch) (D : va_G) (cy : Nat → ClassId) (a r : Nat → Nat) (sz N : Nat) (S : St) (p1 : Int32) (p2 : Int32) (Rr : St) (hf : fX0_buildLambda N S p1 p2 = some Rr) : Met l yX0_buildLambda wsX0_buildLambda ({ frames := 2, cells := 0, slots := 0, locals := 43 } : Room) (va_Pc [.ref (a 19), .int p1, .int p2] (preW D cy (wC cy a r S) sz)) (QV D cy (wC cy a r) (va_A (wC cy a r S) sz) Rr) 0 0 (va_A (wC cy a r S) sz) := by
  refine Met.ofW (cc := cX0_buildLambda) (maxL := 6) (ret := none) (by decide) rfl ?_
  intro p e s m args below meth c s₁ B hml hv
  obtain ⟨rfl, rfl, hP, hK, hD0, hN⟩ := hv
  have hlocks := B.notSynchronized
  have hr := B.returns
  have C : Cx p s m _ c cX0_buildLambda 6 wsX0_buildLambda RX0 D cy := ⟨B.exec, B.bytes, hml, findClass_of_methodNamed B.named, atoms_spec (ws := wsX0_buildLambda) B.pre, hK, hN⟩
  have hW := ww_start (w := wC cy a r) hP hD0
  generalize va_A (wC cy a r S) s.heap.size = A at hW ⊢
  have hl := lv_entry ([.ref (a 19), .int p1, .int p2]) (n := 6) (Nat.le_of_ble_eq_true rfl)
  rw [lg_entry_eq]
  generalize (lg_sl ([.ref (a 19), .int p1, .int p2]) ++ List.replicate (6 - (lg_sl ([.ref (a 19), .int p1, .int p2])).length) Slot.unset).toArray = ls at hl ⊢
  have hl : lv_has ls 6 [(0, .ref (a 19)), (1, .int p1), (2, .int p2)] := hl
  unfold fX0_buildLambda at hf
  refine lv_aload_n C.1 C.2.1 dX0_buildLambda_0 rfl (lv_at hl 0 rfl) ?_
  refine fg_0_3 C kX0_buildLambda_0 mX0_buildLambda_24 hW dX0_buildLambda_1 ?_
  refine lv_iconst (v := 1) C.1 C.2.1 dX0_buildLambda_4 (by decide) ?_
  refine lv_icmp_lt (tgt := 18) C.1 C.2.1 dX0_buildLambda_5 (by decide) (fun q1 => ?_) (fun q1 => ?_)
  · replace hf := (if_pos q1).symm.trans hf
    exact mrV C hr hlocks hf hW dX0_buildLambda_18
  · replace hf := (if_neg q1).symm.trans hf
    refine lv_iload_n C.1 C.2.1 dX0_buildLambda_8 rfl (lv_at hl 2 rfl) ?_
    refine lv_if_lt (tgt := 18) C.1 C.2.1 dX0_buildLambda_9 (by decide) (fun q2 => ?_) (fun q2 => ?_)
    · replace hf := (if_pos q2).symm.trans hf
      exact mrV C hr hlocks hf hW dX0_buildLambda_18
    · replace hf := (if_neg q2).symm.trans hf
      refine lv_iload_n C.1 C.2.1 dX0_buildLambda_12 rfl (lv_at hl 2 rfl) ?_
      refine lv_bipush (v := 40) C.1 C.2.1 dX0_buildLambda_13 (by decide) ?_
      refine lv_icmp_lt (tgt := 19) C.1 C.2.1 dX0_buildLambda_15 (by decide) (fun q3 => ?_) (fun q3 => ?_)
      · replace hf := (if_pos q3).symm.trans hf
        refine lv_aload_n C.1 C.2.1 dX0_buildLambda_19 rfl (lv_at hl 0 rfl) ?_
        refine fg_0_3 C kX0_buildLambda_0 mX0_buildLambda_24 hW dX0_buildLambda_20 ?_
        refine lv_iconst (v := 1) C.1 C.2.1 dX0_buildLambda_23 (by decide) ?_
        refine lv_isub C.1 C.2.1 dX0_buildLambda_24 ?_
        obtain ⟨z4, ez4, hf⟩ := bnd_el hf
        refine lv_as ez4 ?_
        refine lv_istore_n (lv' := [(3, .int z4), (0, .ref (a 19)), (1, .int p1), (2, .int p2)]) C.1 C.2.1 dX0_buildLambda_25 rfl hl (by decide) rfl (fun ls hl => ?_)
        refine lv_aload_n C.1 C.2.1 dX0_buildLambda_26 rfl (lv_at hl 1 rfl) ?_
        refine fg_0_0 C kX0_buildLambda_0 mX0_buildLambda_20 hW dX0_buildLambda_27 ?_
        refine lv_iconst (v := 0) C.1 C.2.1 dX0_buildLambda_30 (by decide) ?_
        refine lv_iload_n C.1 C.2.1 dX0_buildLambda_31 rfl (lv_at hl 2 rfl) ?_
        obtain ⟨v5, S7, h6, hf⟩ := bd2_el hf
        refine mcVi (w := wC cy a r) (S := S) (As := [.int (0 : Int32), .int p1]) (rest := []) (q0 := 2) (ci := 2) C (cX2_make_met l D cy a r _ N S (0 : Int32) p1 (v5, S7) h6) (cwV 2 C.2.2.2.2.1 gX0_buildLambda_X2_make rfl rfl rfl (by decide +kernel) ⟨Nat.le_of_ble_eq_true rfl, Nat.le_of_ble_eq_true rfl⟩) rfl rfl rfl hl.1 (Nat.le_of_ble_eq_true rfl) hW dX0_buildLambda_32 ⟨Nat.zero_le _, Nat.zero_le _⟩ rfl (fun H locs hW => ?_)
        refine lv_istore (lv' := [(4, .int v5), (3, .int z4), (0, .ref (a 19)), (1, .int p1), (2, .int p2)]) C.1 C.2.1 dX0_buildLambda_35 hl (by decide) rfl (fun ls hl => ?_)
        refine lv_aload_n C.1 C.2.1 dX0_buildLambda_37 rfl (lv_at hl 2 rfl) ?_
        refine fg_0_2 C kX0_buildLambda_0 mX0_buildLambda_17 hW dX0_buildLambda_38 ?_
        refine lv_iload_n C.1 C.2.1 dX0_buildLambda_41 rfl (lv_at hl 1 rfl) ?_
        obtain ⟨h8, hf⟩ := ckx_el hf
        refine aa_0_2 C hW h8 dX0_buildLambda_42 ?_
        refine lv_iload_n C.1 C.2.1 dX0_buildLambda_43 rfl (lv_at hl 4 rfl) ?_
        obtain ⟨h9, hf⟩ := ckx_el hf
        refine ar_ld C hW (vp_ltN h8) h9 dX0_buildLambda_44 ?_
        obtain ⟨z10, ez10, hf⟩ := bnd_el hf
        refine lv_as ez10 ?_
        refine lv_istore (lv' := [(5, .int z10), (4, .int v5), (3, .int z4), (0, .ref (a 19)), (1, .int p1), (2, .int p2)]) C.1 C.2.1 dX0_buildLambda_45 hl (by decide) rfl (fun ls hl => ?_)
        refine lv_iload C.1 C.2.1 dX0_buildLambda_47 (lv_at hl 0 rfl) ?_
        refine lv_iconst (v := -1) C.1 C.2.1 dX0_buildLambda_49 (by decide) ?_
        refine lv_icmp_ne (tgt := 68) C.1 C.2.1 dX0_buildLambda_50 (by decide) (fun q11 => ?_) (fun q11 => ?_)
        · replace hf := (if_neg q11).symm.trans hf
          exact lX0_buildLambda_68 C hr hlocks N _ _ _ _ _ hf _ _ _ hW (lv_sub hl [3, 5, 2, 1, 0] rfl)
        · replace hf := (if_pos q11).symm.trans hf
          refine lv_aload_n C.1 C.2.1 dX0_buildLambda_53 rfl (lv_at hl 3 rfl) ?_
          refine fg_0_0 C kX0_buildLambda_0 mX0_buildLambda_20 hW dX0_buildLambda_54 ?_
          refine lv_iconst (v := 5) C.1 C.2.1 dX0_buildLambda_57 (by decide) ?_
          refine lv_iconst (v := -1) C.1 C.2.1 dX0_buildLambda_58 (by decide) ?_
          obtain ⟨v12, S14, h13, hf⟩ := bd2_el hf
          refine mcVi (w := wC cy a r) (S := S7) (As := [.int (5 : Int32), .int (-1 : Int32)]) (rest := []) (q0 := 2) (ci := 2) C (cX2_make_met l D cy a r _ N S7 (5 : Int32) (-1 : Int32) (v12, S14) h13) (cwV 2 C.2.2.2.2.1 gX0_buildLambda_X2_make rfl rfl rfl (by decide +kernel) ⟨Nat.le_of_ble_eq_true rfl, Nat.le_of_ble_eq_true rfl⟩) rfl rfl rfl hl.1 (Nat.le_of_ble_eq_true rfl) hW dX0_buildLambda_59 ⟨Nat.zero_le _, Nat.zero_le _⟩ rfl (fun H locs hW => ?_)
          refine lv_iconst (v := 0) C.1 C.2.1 dX0_buildLambda_62 (by decide) ?_
          obtain ⟨v15, h16, hf⟩ := bdo_el hf
          refine mcSN (As := [.int v12, .int (0 : Int32)]) (rest := []) C (cX7_portOf_met l v12 (0 : Int32) v15 h16) ⟨va_cnB 2 C.2.2.2.2.1 gX0_buildLambda_X7_portOf_n61 rfl rfl rfl (C.2.2.2.2.2.2 (RX0, 61, yX7_portOf) (by decide +kernel)) (C.2.2.2.2.1 _ mX0_buildLambda_i7) (by decide +kernel) ⟨Nat.le_of_ble_eq_true rfl, Nat.le_of_ble_eq_true rfl⟩, C.2.2.2.2.1 _ mX0_buildLambda_s_portOf, trivial⟩ rfl hl.1 (Nat.le_of_ble_eq_true rfl) dX0_buildLambda_63 ⟨Nat.zero_le _, Nat.zero_le _⟩ rfl ?_
          refine lv_istore (lv' := [(5, .int v15), (4, .int v5), (3, .int z4), (0, .ref (a 19)), (1, .int p1), (2, .int p2)]) C.1 C.2.1 dX0_buildLambda_66 hl (by decide) rfl (fun ls hl => ?_)
          exact lX0_buildLambda_68 C hr hlocks N _ _ _ _ _ hf _ _ _ hW (lv_sub hl [3, 5, 2, 1, 0] rfl)
      · replace hf := (if_neg q3).symm.trans hf
        exact mrV C hr hlocks hf hW dX0_buildLambda_18
theorem mX0_bracket_20 : Cond.fieldLink RX0 20 "SharedLambda$Builder" "graph" "LSharedLambda$Graph;" ∈ wsX0_bracket := by decide +kernel
theorem mX0_bracket_i7 : Cond.initialized RX7 ∈ wsX0_bracket := by decide +kernel
theorem mX0_bracket_s_portOf : Cond.static yX7_portOf ∈ wsX0_bracket := by decide +kernel
theorem kX0_bracket_0 : ∀ w ∈ u_ws RX0 TX0 4, w ∈ wsX0_bracket := fun _ h => List.mem_cons_of_mem _ (List.mem_append_left _ (List.mem_append_right _ h))
def fX0_bracket (N : Nat) (S : St) (p1 : Int32) (p2 : Int32) : Option (Int32 × St) :=
  bd2 (fX2_make N S (4 : Int32) p1) fun v1 S3 =>
  bdo (fX7_portOf v1 (1 : Int32)) fun v4 =>
  bdo (fX2_link N S3 v4 p2) fun S8 =>
  bdo (fX7_portOf v1 (0 : Int32)) fun v9 =>
  some (v9, S8)
set_option maxHeartbeats 4000000 in
set_option maxRecDepth 100000 in
theorem cX0_bracket_met (l : Launch) (D : va_G) (cy : Nat → ClassId) (a r : Nat → Nat) (sz N : Nat) (S : St) (p1 : Int32) (p2 : Int32) (Rr : Int32 × St) (hf : fX0_bracket N S p1 p2 = some Rr) : Met l yX0_bracket wsX0_bracket ({ frames := 2, cells := 0, slots := 0, locals := 43 } : Room) (va_Pc [.ref (a 19), .int p1, .int p2] (preW D cy (wC cy a r S) sz)) (QI D cy (wC cy a r) (va_A (wC cy a r S) sz) Rr) 0 0 (va_A (wC cy a r S) sz) := by
  refine Met.ofW (cc := cX0_bracket) (maxL := 4) (ret := (some .int)) (by decide) rfl ?_
  intro p e s m args below meth c s₁ B hml hv
  obtain ⟨rfl, rfl, hP, hK, hD0, hN⟩ := hv
  have hlocks := B.notSynchronized
  have hr := B.returns
  have C : Cx p s m _ c cX0_bracket 4 wsX0_bracket RX0 D cy := ⟨B.exec, B.bytes, hml, findClass_of_methodNamed B.named, atoms_spec (ws := wsX0_bracket) B.pre, hK, hN⟩
  have hW := ww_start (w := wC cy a r) hP hD0
  generalize va_A (wC cy a r S) s.heap.size = A at hW ⊢
  have hl := lv_entry ([.ref (a 19), .int p1, .int p2]) (n := 4) (Nat.le_of_ble_eq_true rfl)
  rw [lg_entry_eq]
  generalize (lg_sl ([.ref (a 19), .int p1, .int p2]) ++ List.replicate (4 - (lg_sl ([.ref (a 19), .int p1, .int p2])).length) Slot.unset).toArray = ls at hl ⊢
  have hl : lv_has ls 4 [(0, .ref (a 19)), (1, .int p1), (2, .int p2)] := hl
  unfold fX0_bracket at hf
  refine lv_aload_n C.1 C.2.1 dX0_bracket_0 rfl (lv_at hl 0 rfl) ?_
  refine fg_0_0 C kX0_bracket_0 mX0_bracket_20 hW dX0_bracket_1 ?_
  refine lv_iconst (v := 4) C.1 C.2.1 dX0_bracket_4 (by decide) ?_
  refine lv_iload_n C.1 C.2.1 dX0_bracket_5 rfl (lv_at hl 1 rfl) ?_
  obtain ⟨v1, S3, h2, hf⟩ := bd2_el hf
  refine mcVi (w := wC cy a r) (S := S) (As := [.int (4 : Int32), .int p1]) (rest := []) (q0 := 2) (ci := 2) C (cX2_make_met l D cy a r _ N S (4 : Int32) p1 (v1, S3) h2) (cwV 2 C.2.2.2.2.1 gX0_bracket_X2_make rfl rfl rfl (by decide +kernel) ⟨Nat.le_of_ble_eq_true rfl, Nat.le_of_ble_eq_true rfl⟩) rfl rfl rfl hl.1 (Nat.le_of_ble_eq_true rfl) hW dX0_bracket_6 ⟨Nat.zero_le _, Nat.zero_le _⟩ rfl (fun H locs hW => ?_)
  refine lv_istore_n (lv' := [(3, .int v1), (0, .ref (a 19)), (1, .int p1), (2, .int p2)]) C.1 C.2.1 dX0_bracket_9 rfl hl (by decide) rfl (fun ls hl => ?_)
  refine lv_aload_n C.1 C.2.1 dX0_bracket_10 rfl (lv_at hl 1 rfl) ?_
  refine fg_0_0 C kX0_bracket_0 mX0_bracket_20 hW dX0_bracket_11 ?_
  refine lv_iload_n C.1 C.2.1 dX0_bracket_14 rfl (lv_at hl 0 rfl) ?_
  refine lv_iconst (v := 1) C.1 C.2.1 dX0_bracket_15 (by decide) ?_
  obtain ⟨v4, h5, hf⟩ := bdo_el hf
  refine mcSN (As := [.int v1, .int (1 : Int32)]) (rest := [.ref (a 59)]) C (cX7_portOf_met l v1 (1 : Int32) v4 h5) ⟨va_cnB 2 C.2.2.2.2.1 gX0_bracket_X7_portOf_n61 rfl rfl rfl (C.2.2.2.2.2.2 (RX0, 61, yX7_portOf) (by decide +kernel)) (C.2.2.2.2.1 _ mX0_bracket_i7) (by decide +kernel) ⟨Nat.le_of_ble_eq_true rfl, Nat.le_of_ble_eq_true rfl⟩, C.2.2.2.2.1 _ mX0_bracket_s_portOf, trivial⟩ rfl hl.1 (Nat.le_of_ble_eq_true rfl) dX0_bracket_16 ⟨Nat.zero_le _, Nat.zero_le _⟩ rfl ?_
  refine lv_iload_n C.1 C.2.1 dX0_bracket_19 rfl (lv_at hl 3 rfl) ?_
  obtain ⟨S8, h7, hf⟩ := bdo_el hf
  refine mcVv (w := wC cy a r) (S := S3) (As := [.int v4, .int p2]) (rest := []) (q0 := 2) (ci := 2) C (cX2_link_met l D cy a r _ N S3 v4 p2 S8 h7) (cwV 2 C.2.2.2.2.1 gX0_bracket_X2_link rfl rfl rfl (by decide +kernel) ⟨Nat.le_of_ble_eq_true rfl, Nat.le_of_ble_eq_true rfl⟩) rfl rfl rfl hl.1 (Nat.le_of_ble_eq_true rfl) hW dX0_bracket_20 ⟨Nat.zero_le _, Nat.zero_le _⟩ rfl (fun H locs hW => ?_)
  refine lv_iload_n C.1 C.2.1 dX0_bracket_23 rfl (lv_at hl 0 rfl) ?_
  refine lv_iconst (v := 0) C.1 C.2.1 dX0_bracket_24 (by decide) ?_
  obtain ⟨v9, h10, hf⟩ := bdo_el hf
  refine mcSN (As := [.int v1, .int (0 : Int32)]) (rest := []) C (cX7_portOf_met l v1 (0 : Int32) v9 h10) ⟨va_cnB 2 C.2.2.2.2.1 gX0_bracket_X7_portOf_n61 rfl rfl rfl (C.2.2.2.2.2.2 (RX0, 61, yX7_portOf) (by decide +kernel)) (C.2.2.2.2.1 _ mX0_bracket_i7) (by decide +kernel) ⟨Nat.le_of_ble_eq_true rfl, Nat.le_of_ble_eq_true rfl⟩, C.2.2.2.2.1 _ mX0_bracket_s_portOf, trivial⟩ rfl hl.1 (Nat.le_of_ble_eq_true rfl) dX0_bracket_25 ⟨Nat.zero_le _, Nat.zero_le _⟩ rfl ?_
  exact mrI C hr hlocks rfl hf hW dX0_bracket_28
theorem mX0_share_20 : Cond.fieldLink RX0 20 "SharedLambda$Builder" "graph" "LSharedLambda$Graph;" ∈ wsX0_share := by decide +kernel
theorem mX0_share_i7 : Cond.initialized RX7 ∈ wsX0_share := by decide +kernel
theorem mX0_share_s_portOf : Cond.static yX7_portOf ∈ wsX0_share := by decide +kernel
theorem kX0_share_0 : ∀ w ∈ u_ws RX0 TX0 4, w ∈ wsX0_share := fun _ h => List.mem_cons_of_mem _ (List.mem_append_left _ (List.mem_append_right _ h))
def fX0_share (N : Nat) (S : St) (p1 : Int32) (p2 : Int32) (p3 : Int32) : Option (Int32 × St) :=
  if p2 = (-1 : Int32) then
    some (p3, S)
  else
    bd2 (fX2_make N S (2 : Int32) p1) fun v2 S4 =>
    bdo (fX7_portOf v2 (1 : Int32)) fun v5 =>
    bdo (fX2_link N S4 v5 p2) fun S9 =>
    bdo (fX7_portOf v2 (2 : Int32)) fun v10 =>
    bdo (fX2_link N S9 v10 p3) fun S14 =>
    bdo (fX7_portOf v2 (0 : Int32)) fun v15 =>
    some (v15, S14)
set_option maxHeartbeats 4000000 in
set_option maxRecDepth 100000 in
theorem cX0_share_met (l : Launch) (D : va_G) (cy : Nat → ClassId) (a r : Nat → Nat) (sz N : Nat) (S : St) (p1 : Int32) (p2 : Int32) (p3 : Int32) (Rr : Int32 × St) (hf : fX0_share N S p1 p2 p3 = some Rr) : Met l yX0_share wsX0_share ({ frames := 2, cells := 0, slots := 0, locals := 43 } : Room) (va_Pc [.ref (a 19), .int p1, .int p2, .int p3] (preW D cy (wC cy a r S) sz)) (QI D cy (wC cy a r) (va_A (wC cy a r S) sz) Rr) 0 0 (va_A (wC cy a r S) sz) := by
  refine Met.ofW (cc := cX0_share) (maxL := 5) (ret := (some .int)) (by decide) rfl ?_
  intro p e s m args below meth c s₁ B hml hv
  obtain ⟨rfl, rfl, hP, hK, hD0, hN⟩ := hv
  have hlocks := B.notSynchronized
  have hr := B.returns
  have C : Cx p s m _ c cX0_share 5 wsX0_share RX0 D cy := ⟨B.exec, B.bytes, hml, findClass_of_methodNamed B.named, atoms_spec (ws := wsX0_share) B.pre, hK, hN⟩
  have hW := ww_start (w := wC cy a r) hP hD0
  generalize va_A (wC cy a r S) s.heap.size = A at hW ⊢
  have hl := lv_entry ([.ref (a 19), .int p1, .int p2, .int p3]) (n := 5) (Nat.le_of_ble_eq_true rfl)
  rw [lg_entry_eq]
  generalize (lg_sl ([.ref (a 19), .int p1, .int p2, .int p3]) ++ List.replicate (5 - (lg_sl ([.ref (a 19), .int p1, .int p2, .int p3])).length) Slot.unset).toArray = ls at hl ⊢
  have hl : lv_has ls 5 [(0, .ref (a 19)), (1, .int p1), (2, .int p2), (3, .int p3)] := hl
  unfold fX0_share at hf
  refine lv_iload_n C.1 C.2.1 dX0_share_0 rfl (lv_at hl 2 rfl) ?_
  refine lv_iconst (v := -1) C.1 C.2.1 dX0_share_1 (by decide) ?_
  refine lv_icmp_ne (tgt := 7) C.1 C.2.1 dX0_share_2 (by decide) (fun q1 => ?_) (fun q1 => ?_)
  · replace hf := (if_neg q1).symm.trans hf
    refine lv_aload_n C.1 C.2.1 dX0_share_7 rfl (lv_at hl 0 rfl) ?_
    refine fg_0_0 C kX0_share_0 mX0_share_20 hW dX0_share_8 ?_
    refine lv_iconst (v := 2) C.1 C.2.1 dX0_share_11 (by decide) ?_
    refine lv_iload_n C.1 C.2.1 dX0_share_12 rfl (lv_at hl 1 rfl) ?_
    obtain ⟨v2, S4, h3, hf⟩ := bd2_el hf
    refine mcVi (w := wC cy a r) (S := S) (As := [.int (2 : Int32), .int p1]) (rest := []) (q0 := 2) (ci := 2) C (cX2_make_met l D cy a r _ N S (2 : Int32) p1 (v2, S4) h3) (cwV 2 C.2.2.2.2.1 gX0_share_X2_make rfl rfl rfl (by decide +kernel) ⟨Nat.le_of_ble_eq_true rfl, Nat.le_of_ble_eq_true rfl⟩) rfl rfl rfl hl.1 (Nat.le_of_ble_eq_true rfl) hW dX0_share_13 ⟨Nat.zero_le _, Nat.zero_le _⟩ rfl (fun H locs hW => ?_)
    refine lv_istore (lv' := [(4, .int v2), (0, .ref (a 19)), (1, .int p1), (2, .int p2), (3, .int p3)]) C.1 C.2.1 dX0_share_16 hl (by decide) rfl (fun ls hl => ?_)
    refine lv_aload_n C.1 C.2.1 dX0_share_18 rfl (lv_at hl 1 rfl) ?_
    refine fg_0_0 C kX0_share_0 mX0_share_20 hW dX0_share_19 ?_
    refine lv_iload C.1 C.2.1 dX0_share_22 (lv_at hl 0 rfl) ?_
    refine lv_iconst (v := 1) C.1 C.2.1 dX0_share_24 (by decide) ?_
    obtain ⟨v5, h6, hf⟩ := bdo_el hf
    refine mcSN (As := [.int v2, .int (1 : Int32)]) (rest := [.ref (a 59)]) C (cX7_portOf_met l v2 (1 : Int32) v5 h6) ⟨va_cnB 2 C.2.2.2.2.1 gX0_share_X7_portOf_n61 rfl rfl rfl (C.2.2.2.2.2.2 (RX0, 61, yX7_portOf) (by decide +kernel)) (C.2.2.2.2.1 _ mX0_share_i7) (by decide +kernel) ⟨Nat.le_of_ble_eq_true rfl, Nat.le_of_ble_eq_true rfl⟩, C.2.2.2.2.1 _ mX0_share_s_portOf, trivial⟩ rfl hl.1 (Nat.le_of_ble_eq_true rfl) dX0_share_25 ⟨Nat.zero_le _, Nat.zero_le _⟩ rfl ?_
    refine lv_iload_n C.1 C.2.1 dX0_share_28 rfl (lv_at hl 3 rfl) ?_
    obtain ⟨S9, h8, hf⟩ := bdo_el hf
    refine mcVv (w := wC cy a r) (S := S4) (As := [.int v5, .int p2]) (rest := []) (q0 := 2) (ci := 2) C (cX2_link_met l D cy a r _ N S4 v5 p2 S9 h8) (cwV 2 C.2.2.2.2.1 gX0_share_X2_link rfl rfl rfl (by decide +kernel) ⟨Nat.le_of_ble_eq_true rfl, Nat.le_of_ble_eq_true rfl⟩) rfl rfl rfl hl.1 (Nat.le_of_ble_eq_true rfl) hW dX0_share_29 ⟨Nat.zero_le _, Nat.zero_le _⟩ rfl (fun H locs hW => ?_)
    refine lv_aload_n C.1 C.2.1 dX0_share_32 rfl (lv_at hl 1 rfl) ?_
    refine fg_0_0 C kX0_share_0 mX0_share_20 hW dX0_share_33 ?_
    refine lv_iload C.1 C.2.1 dX0_share_36 (lv_at hl 0 rfl) ?_
    refine lv_iconst (v := 2) C.1 C.2.1 dX0_share_38 (by decide) ?_
    obtain ⟨v10, h11, hf⟩ := bdo_el hf
    refine mcSN (As := [.int v2, .int (2 : Int32)]) (rest := [.ref (a 59)]) C (cX7_portOf_met l v2 (2 : Int32) v10 h11) ⟨va_cnB 2 C.2.2.2.2.1 gX0_share_X7_portOf_n61 rfl rfl rfl (C.2.2.2.2.2.2 (RX0, 61, yX7_portOf) (by decide +kernel)) (C.2.2.2.2.1 _ mX0_share_i7) (by decide +kernel) ⟨Nat.le_of_ble_eq_true rfl, Nat.le_of_ble_eq_true rfl⟩, C.2.2.2.2.1 _ mX0_share_s_portOf, trivial⟩ rfl hl.1 (Nat.le_of_ble_eq_true rfl) dX0_share_39 ⟨Nat.zero_le _, Nat.zero_le _⟩ rfl ?_
    refine lv_iload_n C.1 C.2.1 dX0_share_42 rfl (lv_at hl 4 rfl) ?_
    obtain ⟨S14, h13, hf⟩ := bdo_el hf
    refine mcVv (w := wC cy a r) (S := S9) (As := [.int v10, .int p3]) (rest := []) (q0 := 2) (ci := 2) C (cX2_link_met l D cy a r _ N S9 v10 p3 S14 h13) (cwV 2 C.2.2.2.2.1 gX0_share_X2_link rfl rfl rfl (by decide +kernel) ⟨Nat.le_of_ble_eq_true rfl, Nat.le_of_ble_eq_true rfl⟩) rfl rfl rfl hl.1 (Nat.le_of_ble_eq_true rfl) hW dX0_share_43 ⟨Nat.zero_le _, Nat.zero_le _⟩ rfl (fun H locs hW => ?_)
    refine lv_iload C.1 C.2.1 dX0_share_46 (lv_at hl 0 rfl) ?_
    refine lv_iconst (v := 0) C.1 C.2.1 dX0_share_48 (by decide) ?_
    obtain ⟨v15, h16, hf⟩ := bdo_el hf
    refine mcSN (As := [.int v2, .int (0 : Int32)]) (rest := []) C (cX7_portOf_met l v2 (0 : Int32) v15 h16) ⟨va_cnB 2 C.2.2.2.2.1 gX0_share_X7_portOf_n61 rfl rfl rfl (C.2.2.2.2.2.2 (RX0, 61, yX7_portOf) (by decide +kernel)) (C.2.2.2.2.1 _ mX0_share_i7) (by decide +kernel) ⟨Nat.le_of_ble_eq_true rfl, Nat.le_of_ble_eq_true rfl⟩, C.2.2.2.2.1 _ mX0_share_s_portOf, trivial⟩ rfl hl.1 (Nat.le_of_ble_eq_true rfl) dX0_share_49 ⟨Nat.zero_le _, Nat.zero_le _⟩ rfl ?_
    exact mrI C hr hlocks rfl hf hW dX0_share_52
  · replace hf := (if_pos q1).symm.trans hf
    refine lv_iload_n C.1 C.2.1 dX0_share_5 rfl (lv_at hl 3 rfl) ?_
    exact mrI C hr hlocks rfl hf hW dX0_share_6
theorem mX0_buildApplication_24 : Cond.fieldLink RX0 24 "SharedLambda$Builder" "height" "I" ∈ wsX0_buildApplication := by decide +kernel
theorem mX0_buildApplication_17 : Cond.fieldLink RX0 17 "SharedLambda$Builder" "freePorts" "[[I" ∈ wsX0_buildApplication := by decide +kernel
theorem mX0_buildApplication_20 : Cond.fieldLink RX0 20 "SharedLambda$Builder" "graph" "LSharedLambda$Graph;" ∈ wsX0_buildApplication := by decide +kernel
theorem mX0_buildApplication_i7 : Cond.initialized RX7 ∈ wsX0_buildApplication := by decide +kernel
theorem mX0_buildApplication_s_portOf : Cond.static yX7_portOf ∈ wsX0_buildApplication := by decide +kernel
theorem mX0_buildApplication_11 : Cond.fieldLink RX0 11 "SharedLambda$Builder" "rootPorts" "[I" ∈ wsX0_buildApplication := by decide +kernel
theorem kX0_buildApplication_0 : ∀ w ∈ u_ws RX0 TX0 4, w ∈ wsX0_buildApplication := fun _ h => List.mem_cons_of_mem _ (List.mem_append_left _ (List.mem_append_right _ h))
def fX0_buildApplication_141 (N : Nat) (k87 : St × Int32 × Int32 × Int32 × Int32 → Option (St)) (S : St) (x1 : Int32) (x2 : Int32) (x3 : Int32) (x5 : Int32) : Option (St) :=
  bnd (x5 + (1 : Int32)) fun z1 =>
  k87 (S, x1, x2, x3, z1)
set_option maxHeartbeats 4000000 in
set_option maxRecDepth 100000 in
theorem lX0_buildApplication_141 {p : Program} {l : Launch} {e : Env} {s : State} {m : MethodId} {args : Array Value} {below : List Frame} {meth : Method} {c : Code} {D : va_G} {cy : Nat → ClassId} {a r : Nat → Nat} {A : Nat → Prop} {Rr : St} (C : Cx p s m args c cX0_buildApplication 7 wsX0_buildApplication RX0 D cy) (hr : meth.sig.returnType = none) (hlocks : meth.locks = false) (N : Nat) (k87 : St × Int32 × Int32 × Int32 × Int32 → Option (St)) (hk87 : ∀ (S : St) (x1 : Int32) (x2 : Int32) (x3 : Int32) (x5 : Int32), k87 (S, x1, x2, x3, x5) = some Rr → ∀ (H : Heap) (locs : List Loc) (ls : Array Slot), WW D A s.heap (wC cy a r S) H locs → lv_has ls 7 [(0, .ref (a 19)), (1, .int x1), (2, .int x2), (3, .int x3), (5, .int x5)] → W p l e ({ frames := 3, cells := 0, slots := 0, locals := 67 } : Room) s m args below meth c H locs 0 0 (MQ below (QV D cy (wC cy a r) A Rr) args s 0 0 A) (F0 m 87 ls [])) (S : St) (x1 : Int32) (x2 : Int32) (x3 : Int32) (x5 : Int32) (hf : fX0_buildApplication_141 N k87 S x1 x2 x3 x5 = some Rr) : ∀ (H : Heap) (locs : List Loc) (ls : Array Slot), WW D A s.heap (wC cy a r S) H locs → lv_has ls 7 [(0, .ref (a 19)), (1, .int x1), (2, .int x2), (3, .int x3), (5, .int x5)] → W p l e ({ frames := 3, cells := 0, slots := 0, locals := 67 } : Room) s m args below meth c H locs 0 0 (MQ below (QV D cy (wC cy a r) A Rr) args s 0 0 A) (F0 m 141 ls []) := by
  intro H locs ls hW hl
  unfold fX0_buildApplication_141 at hf
  obtain ⟨z1, ez1, hf⟩ := bnd_el hf
  refine lv_iinc (v := z1) (lv' := [(5, .int z1), (0, .ref (a 19)), (1, .int x1), (2, .int x2), (3, .int x3)]) C.1 C.2.1 dX0_buildApplication_141 hl (k := 4) rfl (by rw [ez1]; rfl) (by decide) rfl (fun ls hl => ?_)
  refine lv_goto (tgt := 87) C.1 C.2.1 dX0_buildApplication_144 (by decide) ?_
  exact hk87 _ _ _ _ _ hf _ _ _ hW (lv_sub hl [1, 2, 3, 4, 0] rfl)
def fX0_buildApplication_87s (N : Nat) (k87 : St × Int32 × Int32 × Int32 × Int32 → Option (St)) (S : St) (x1 : Int32) (x2 : Int32) (x3 : Int32) (x5 : Int32) : Option (St) :=
  if (40 : Int32) ≤ x5 then
    bnd (sI S 3 x2) fun S2 =>
    some S2
  else
    ckx x2 43 <|
    ckx x5 40 <|
    bnd (S.2.2.1 (x2 : Int32).toNatClampNeg (x5 : Int32).toNatClampNeg) fun z5 =>
    if z5 = (-1 : Int32) then
      fX0_buildApplication_141 N k87 S x1 x2 x3 x5
    else
      ckx x3 43 <|
      ckx x3 43 <|
      ckx x5 40 <|
      bd2 (fX0_bracket N S x1 z5) fun v10 S12 =>
      bd2 (fX0_share N S12 x1 (S.2.2.1 (x3 : Int32).toNatClampNeg (x5 : Int32).toNatClampNeg) v10) fun v13 S15 =>
      ckx x5 40 <|
      bnd (sF S15 (x3 : Int32).toNatClampNeg (upd (S15.2.2.1 (x3 : Int32).toNatClampNeg) (x5 : Int32).toNatClampNeg v13)) fun S17 =>
      fX0_buildApplication_141 N k87 S17 x1 x2 x3 x5
def fX0_buildApplication_87 (N : Nat) : St × Int32 × Int32 × Int32 × Int32 → Option (St) := loopN (fun k x => fX0_buildApplication_87s N k x.1 x.2.1 x.2.2.1 x.2.2.2.1 x.2.2.2.2) N
set_option maxHeartbeats 4000000 in
set_option maxRecDepth 100000 in
theorem lX0_buildApplication_87 {p : Program} {l : Launch} {e : Env} {s : State} {m : MethodId} {args : Array Value} {below : List Frame} {meth : Method} {c : Code} {D : va_G} {cy : Nat → ClassId} {a r : Nat → Nat} {A : Nat → Prop} {Rr : St} (C : Cx p s m args c cX0_buildApplication 7 wsX0_buildApplication RX0 D cy) (hr : meth.sig.returnType = none) (hlocks : meth.locks = false) (N : Nat) : ∀ (n : Nat) (S : St) (x1 : Int32) (x2 : Int32) (x3 : Int32) (x5 : Int32), loopN (fun k x => fX0_buildApplication_87s N k x.1 x.2.1 x.2.2.1 x.2.2.2.1 x.2.2.2.2) n (S, x1, x2, x3, x5) = some Rr → ∀ (H : Heap) (locs : List Loc) (ls : Array Slot), WW D A s.heap (wC cy a r S) H locs → lv_has ls 7 [(0, .ref (a 19)), (1, .int x1), (2, .int x2), (3, .int x3), (5, .int x5)] → W p l e ({ frames := 3, cells := 0, slots := 0, locals := 67 } : Room) s m args below meth c H locs 0 0 (MQ below (QV D cy (wC cy a r) A Rr) args s 0 0 A) (F0 m 87 ls []) := by
  intro n
  induction n with
  | zero =>
    intro S x1 x2 x3 x5 hf
    cases hf
  | succ n ih =>
    intro S x1 x2 x3 x5 hf H locs ls hW hl
    have hf : fX0_buildApplication_87s N (loopN (fun k x => fX0_buildApplication_87s N k x.1 x.2.1 x.2.2.1 x.2.2.2.1 x.2.2.2.2) n) S x1 x2 x3 x5 = some Rr := hf
    unfold fX0_buildApplication_87s at hf
    refine lv_iload C.1 C.2.1 dX0_buildApplication_87 (lv_at hl 4 rfl) ?_
    refine lv_bipush (v := 40) C.1 C.2.1 dX0_buildApplication_89 (by decide) ?_
    refine lv_icmp_ge (tgt := 147) C.1 C.2.1 dX0_buildApplication_91 (by decide) (fun q1 => ?_) (fun q1 => ?_)
    · replace hf := (if_pos q1).symm.trans hf
      refine lv_aload_n C.1 C.2.1 dX0_buildApplication_147 rfl (lv_at hl 0 rfl) ?_
      refine lv_iload_n C.1 C.2.1 dX0_buildApplication_148 rfl (lv_at hl 2 rfl) ?_
      obtain ⟨S2, eS2, hf⟩ := bnd_el hf
      refine fp_0_3 C kX0_buildApplication_0 mX0_buildApplication_24 hW dX0_buildApplication_149 eS2 (fun H locs hW => ?_)
      exact mrV C hr hlocks hf hW dX0_buildApplication_152
    · replace hf := (if_neg q1).symm.trans hf
      refine lv_aload_n C.1 C.2.1 dX0_buildApplication_94 rfl (lv_at hl 0 rfl) ?_
      refine fg_0_2 C kX0_buildApplication_0 mX0_buildApplication_17 hW dX0_buildApplication_95 ?_
      refine lv_iload_n C.1 C.2.1 dX0_buildApplication_98 rfl (lv_at hl 2 rfl) ?_
      obtain ⟨h3, hf⟩ := ckx_el hf
      refine aa_0_2 C hW h3 dX0_buildApplication_99 ?_
      refine lv_iload C.1 C.2.1 dX0_buildApplication_100 (lv_at hl 4 rfl) ?_
      obtain ⟨h4, hf⟩ := ckx_el hf
      refine ar_ld C hW (vp_ltN h3) h4 dX0_buildApplication_102 ?_
      obtain ⟨z5, ez5, hf⟩ := bnd_el hf
      refine lv_as ez5 ?_
      refine lv_istore (lv' := [(6, .int z5), (0, .ref (a 19)), (1, .int x1), (2, .int x2), (3, .int x3), (5, .int x5)]) C.1 C.2.1 dX0_buildApplication_103 hl (by decide) rfl (fun ls hl => ?_)
      refine lv_iload C.1 C.2.1 dX0_buildApplication_105 (lv_at hl 0 rfl) ?_
      refine lv_iconst (v := -1) C.1 C.2.1 dX0_buildApplication_107 (by decide) ?_
      refine lv_icmp_eq (tgt := 141) C.1 C.2.1 dX0_buildApplication_108 (by decide) (fun q6 => ?_) (fun q6 => ?_)
      · replace hf := (if_pos q6).symm.trans hf
        exact lX0_buildApplication_141 C hr hlocks N _ ih _ _ _ _ _ hf _ _ _ hW (lv_sub hl [1, 2, 3, 4, 5] rfl)
      · replace hf := (if_neg q6).symm.trans hf
        refine lv_aload_n C.1 C.2.1 dX0_buildApplication_111 rfl (lv_at hl 1 rfl) ?_
        refine fg_0_2 C kX0_buildApplication_0 mX0_buildApplication_17 hW dX0_buildApplication_112 ?_
        refine lv_iload_n C.1 C.2.1 dX0_buildApplication_115 rfl (lv_at hl 4 rfl) ?_
        obtain ⟨h7, hf⟩ := ckx_el hf
        refine aa_0_2 C hW h7 dX0_buildApplication_116 ?_
        refine lv_iload C.1 C.2.1 dX0_buildApplication_117 (lv_at hl 5 rfl) ?_
        refine lv_aload_n C.1 C.2.1 dX0_buildApplication_119 rfl (lv_at hl 1 rfl) ?_
        refine lv_iload_n C.1 C.2.1 dX0_buildApplication_120 rfl (lv_at hl 2 rfl) ?_
        refine lv_aload_n C.1 C.2.1 dX0_buildApplication_121 rfl (lv_at hl 1 rfl) ?_
        refine fg_0_2 C kX0_buildApplication_0 mX0_buildApplication_17 hW dX0_buildApplication_122 ?_
        refine lv_iload_n C.1 C.2.1 dX0_buildApplication_125 rfl (lv_at hl 4 rfl) ?_
        obtain ⟨h8, hf⟩ := ckx_el hf
        refine aa_0_2 C hW h8 dX0_buildApplication_126 ?_
        refine lv_iload C.1 C.2.1 dX0_buildApplication_127 (lv_at hl 5 rfl) ?_
        obtain ⟨h9, hf⟩ := ckx_el hf
        refine ar_ld C hW (vp_ltN h8) h9 dX0_buildApplication_129 ?_
        refine lv_aload_n C.1 C.2.1 dX0_buildApplication_130 rfl (lv_at hl 1 rfl) ?_
        refine lv_iload_n C.1 C.2.1 dX0_buildApplication_131 rfl (lv_at hl 2 rfl) ?_
        refine lv_iload C.1 C.2.1 dX0_buildApplication_132 (lv_at hl 0 rfl) ?_
        obtain ⟨v10, S12, h11, hf⟩ := bd2_el hf
        refine mcVi (w := wC cy a r) (S := S) (As := [.int x1, .int z5]) (rest := [.int (S.2.2.1 (x3 : Int32).toNatClampNeg (x5 : Int32).toNatClampNeg), .int x1, .ref (a 19), .int x5, .ref (r (x3 : Int32).toNatClampNeg)]) (q0 := 0) (ci := 0) C (cX0_bracket_met l D cy a r _ N S x1 z5 (v10, S12) h11) (cwV 2 C.2.2.2.2.1 gX0_buildApplication_X0_bracket rfl rfl rfl (by decide +kernel) ⟨Nat.le_of_ble_eq_true rfl, Nat.le_of_ble_eq_true rfl⟩) rfl rfl rfl hl.1 (Nat.le_of_ble_eq_true rfl) hW dX0_buildApplication_134 ⟨Nat.zero_le _, Nat.zero_le _⟩ rfl (fun H locs hW => ?_)
        obtain ⟨v13, S15, h14, hf⟩ := bd2_el hf
        refine mcVi (w := wC cy a r) (S := S12) (As := [.int x1, .int (S.2.2.1 (x3 : Int32).toNatClampNeg (x5 : Int32).toNatClampNeg), .int v10]) (rest := [.int x5, .ref (r (x3 : Int32).toNatClampNeg)]) (q0 := 0) (ci := 0) C (cX0_share_met l D cy a r _ N S12 x1 (S.2.2.1 (x3 : Int32).toNatClampNeg (x5 : Int32).toNatClampNeg) v10 (v13, S15) h14) (cwV 3 C.2.2.2.2.1 gX0_buildApplication_X0_share rfl rfl rfl (by decide +kernel) ⟨Nat.le_of_ble_eq_true rfl, Nat.le_of_ble_eq_true rfl⟩) rfl rfl rfl hl.1 (Nat.le_of_ble_eq_true rfl) hW dX0_buildApplication_137 ⟨Nat.zero_le _, Nat.zero_le _⟩ rfl (fun H locs hW => ?_)
        obtain ⟨h16, hf⟩ := ckx_el hf
        obtain ⟨S17, eS17, hf⟩ := bnd_el hf
        refine ar_st C hW (vp_ltN h7) h16 dX0_buildApplication_140 eS17 (fun H locs hW => ?_)
        exact lX0_buildApplication_141 C hr hlocks N _ ih _ _ _ _ _ hf _ _ _ hW (lv_sub hl [1, 2, 3, 4, 5] rfl)
def fX0_buildApplication (N : Nat) (S : St) (p1 : Int32) : Option (St) :=
  if (2 : Int32) ≤ S.1 3 then
    bnd ((S.1 3 - (1 : Int32))) fun z2 =>
    bnd ((S.1 3 - (2 : Int32))) fun z3 =>
    bd2 (fX2_make N S (1 : Int32) p1) fun v4 S6 =>
    bdo (fX7_portOf v4 (0 : Int32)) fun v7 =>
    ckx z3 43 <|
    bdo (fX2_link N S6 v7 (S6.2.1 1 (z3 : Int32).toNatClampNeg)) fun S12 =>
    bdo (fX7_portOf v4 (2 : Int32)) fun v13 =>
    ckx z2 43 <|
    bdo (fX2_link N S12 v13 (S12.2.1 1 (z2 : Int32).toNatClampNeg)) fun S18 =>
    bdo (fX7_portOf v4 (1 : Int32)) fun v19 =>
    ckx z3 43 <|
    bnd (sA S18 1 (upd (S18.2.1 1) (z3 : Int32).toNatClampNeg v19)) fun S22 =>
    bnd (0 : Int32) fun z23 =>
    fX0_buildApplication_87 N (S22, p1, z2, z3, z23)
  else
    some S
set_option maxHeartbeats 4000000 in
set_option maxRecDepth 100000 in
theorem cX0_buildApplication_met (l : Launch) (D : va_G) (cy : Nat → ClassId) (a r : Nat → Nat) (sz N : Nat) (S : St) (p1 : Int32) (Rr : St) (hf : fX0_buildApplication N S p1 = some Rr) : Met l yX0_buildApplication wsX0_buildApplication ({ frames := 3, cells := 0, slots := 0, locals := 67 } : Room) (va_Pc [.ref (a 19), .int p1] (preW D cy (wC cy a r S) sz)) (QV D cy (wC cy a r) (va_A (wC cy a r S) sz) Rr) 0 0 (va_A (wC cy a r S) sz) := by
  refine Met.ofW (cc := cX0_buildApplication) (maxL := 7) (ret := none) (by decide) rfl ?_
  intro p e s m args below meth c s₁ B hml hv
  obtain ⟨rfl, rfl, hP, hK, hD0, hN⟩ := hv
  have hlocks := B.notSynchronized
  have hr := B.returns
  have C : Cx p s m _ c cX0_buildApplication 7 wsX0_buildApplication RX0 D cy := ⟨B.exec, B.bytes, hml, findClass_of_methodNamed B.named, atoms_spec (ws := wsX0_buildApplication) B.pre, hK, hN⟩
  have hW := ww_start (w := wC cy a r) hP hD0
  generalize va_A (wC cy a r S) s.heap.size = A at hW ⊢
  have hl := lv_entry ([.ref (a 19), .int p1]) (n := 7) (Nat.le_of_ble_eq_true rfl)
  rw [lg_entry_eq]
  generalize (lg_sl ([.ref (a 19), .int p1]) ++ List.replicate (7 - (lg_sl ([.ref (a 19), .int p1])).length) Slot.unset).toArray = ls at hl ⊢
  have hl : lv_has ls 7 [(0, .ref (a 19)), (1, .int p1)] := hl
  unfold fX0_buildApplication at hf
  refine lv_aload_n C.1 C.2.1 dX0_buildApplication_0 rfl (lv_at hl 0 rfl) ?_
  refine fg_0_3 C kX0_buildApplication_0 mX0_buildApplication_24 hW dX0_buildApplication_1 ?_
  refine lv_iconst (v := 2) C.1 C.2.1 dX0_buildApplication_4 (by decide) ?_
  refine lv_icmp_ge (tgt := 9) C.1 C.2.1 dX0_buildApplication_5 (by decide) (fun q1 => ?_) (fun q1 => ?_)
  · replace hf := (if_pos q1).symm.trans hf
    refine lv_aload_n C.1 C.2.1 dX0_buildApplication_9 rfl (lv_at hl 0 rfl) ?_
    refine fg_0_3 C kX0_buildApplication_0 mX0_buildApplication_24 hW dX0_buildApplication_10 ?_
    refine lv_iconst (v := 1) C.1 C.2.1 dX0_buildApplication_13 (by decide) ?_
    refine lv_isub C.1 C.2.1 dX0_buildApplication_14 ?_
    obtain ⟨z2, ez2, hf⟩ := bnd_el hf
    refine lv_as ez2 ?_
    refine lv_istore_n (lv' := [(2, .int z2), (0, .ref (a 19)), (1, .int p1)]) C.1 C.2.1 dX0_buildApplication_15 rfl hl (by decide) rfl (fun ls hl => ?_)
    refine lv_aload_n C.1 C.2.1 dX0_buildApplication_16 rfl (lv_at hl 1 rfl) ?_
    refine fg_0_3 C kX0_buildApplication_0 mX0_buildApplication_24 hW dX0_buildApplication_17 ?_
    refine lv_iconst (v := 2) C.1 C.2.1 dX0_buildApplication_20 (by decide) ?_
    refine lv_isub C.1 C.2.1 dX0_buildApplication_21 ?_
    obtain ⟨z3, ez3, hf⟩ := bnd_el hf
    refine lv_as ez3 ?_
    refine lv_istore_n (lv' := [(3, .int z3), (2, .int z2), (0, .ref (a 19)), (1, .int p1)]) C.1 C.2.1 dX0_buildApplication_22 rfl hl (by decide) rfl (fun ls hl => ?_)
    refine lv_aload_n C.1 C.2.1 dX0_buildApplication_23 rfl (lv_at hl 2 rfl) ?_
    refine fg_0_0 C kX0_buildApplication_0 mX0_buildApplication_20 hW dX0_buildApplication_24 ?_
    refine lv_iconst (v := 1) C.1 C.2.1 dX0_buildApplication_27 (by decide) ?_
    refine lv_iload_n C.1 C.2.1 dX0_buildApplication_28 rfl (lv_at hl 3 rfl) ?_
    obtain ⟨v4, S6, h5, hf⟩ := bd2_el hf
    refine mcVi (w := wC cy a r) (S := S) (As := [.int (1 : Int32), .int p1]) (rest := []) (q0 := 2) (ci := 2) C (cX2_make_met l D cy a r _ N S (1 : Int32) p1 (v4, S6) h5) (cwV 2 C.2.2.2.2.1 gX0_buildApplication_X2_make rfl rfl rfl (by decide +kernel) ⟨Nat.le_of_ble_eq_true rfl, Nat.le_of_ble_eq_true rfl⟩) rfl rfl rfl hl.1 (Nat.le_of_ble_eq_true rfl) hW dX0_buildApplication_29 ⟨Nat.zero_le _, Nat.zero_le _⟩ rfl (fun H locs hW => ?_)
    refine lv_istore (lv' := [(4, .int v4), (3, .int z3), (2, .int z2), (0, .ref (a 19)), (1, .int p1)]) C.1 C.2.1 dX0_buildApplication_32 hl (by decide) rfl (fun ls hl => ?_)
    refine lv_aload_n C.1 C.2.1 dX0_buildApplication_34 rfl (lv_at hl 3 rfl) ?_
    refine fg_0_0 C kX0_buildApplication_0 mX0_buildApplication_20 hW dX0_buildApplication_35 ?_
    refine lv_iload C.1 C.2.1 dX0_buildApplication_38 (lv_at hl 0 rfl) ?_
    refine lv_iconst (v := 0) C.1 C.2.1 dX0_buildApplication_40 (by decide) ?_
    obtain ⟨v7, h8, hf⟩ := bdo_el hf
    refine mcSN (As := [.int v4, .int (0 : Int32)]) (rest := [.ref (a 59)]) C (cX7_portOf_met l v4 (0 : Int32) v7 h8) ⟨va_cnB 2 C.2.2.2.2.1 gX0_buildApplication_X7_portOf_n61 rfl rfl rfl (C.2.2.2.2.2.2 (RX0, 61, yX7_portOf) (by decide +kernel)) (C.2.2.2.2.1 _ mX0_buildApplication_i7) (by decide +kernel) ⟨Nat.le_of_ble_eq_true rfl, Nat.le_of_ble_eq_true rfl⟩, C.2.2.2.2.1 _ mX0_buildApplication_s_portOf, trivial⟩ rfl hl.1 (Nat.le_of_ble_eq_true rfl) dX0_buildApplication_41 ⟨Nat.zero_le _, Nat.zero_le _⟩ rfl ?_
    refine lv_aload_n C.1 C.2.1 dX0_buildApplication_44 rfl (lv_at hl 3 rfl) ?_
    refine fg_0_1 C kX0_buildApplication_0 mX0_buildApplication_11 hW dX0_buildApplication_45 ?_
    refine lv_iload_n C.1 C.2.1 dX0_buildApplication_48 rfl (lv_at hl 1 rfl) ?_
    obtain ⟨h9, hf⟩ := ckx_el hf
    refine al_0_1 C hW h9 dX0_buildApplication_49 ?_
    obtain ⟨S12, h11, hf⟩ := bdo_el hf
    refine mcVv (w := wC cy a r) (S := S6) (As := [.int v7, .int (S6.2.1 1 (z3 : Int32).toNatClampNeg)]) (rest := []) (q0 := 2) (ci := 2) C (cX2_link_met l D cy a r _ N S6 v7 (S6.2.1 1 (z3 : Int32).toNatClampNeg) S12 h11) (cwV 2 C.2.2.2.2.1 gX0_buildApplication_X2_link rfl rfl rfl (by decide +kernel) ⟨Nat.le_of_ble_eq_true rfl, Nat.le_of_ble_eq_true rfl⟩) rfl rfl rfl hl.1 (Nat.le_of_ble_eq_true rfl) hW dX0_buildApplication_50 ⟨Nat.zero_le _, Nat.zero_le _⟩ rfl (fun H locs hW => ?_)
    refine lv_aload_n C.1 C.2.1 dX0_buildApplication_53 rfl (lv_at hl 3 rfl) ?_
    refine fg_0_0 C kX0_buildApplication_0 mX0_buildApplication_20 hW dX0_buildApplication_54 ?_
    refine lv_iload C.1 C.2.1 dX0_buildApplication_57 (lv_at hl 0 rfl) ?_
    refine lv_iconst (v := 2) C.1 C.2.1 dX0_buildApplication_59 (by decide) ?_
    obtain ⟨v13, h14, hf⟩ := bdo_el hf
    refine mcSN (As := [.int v4, .int (2 : Int32)]) (rest := [.ref (a 59)]) C (cX7_portOf_met l v4 (2 : Int32) v13 h14) ⟨va_cnB 2 C.2.2.2.2.1 gX0_buildApplication_X7_portOf_n61 rfl rfl rfl (C.2.2.2.2.2.2 (RX0, 61, yX7_portOf) (by decide +kernel)) (C.2.2.2.2.1 _ mX0_buildApplication_i7) (by decide +kernel) ⟨Nat.le_of_ble_eq_true rfl, Nat.le_of_ble_eq_true rfl⟩, C.2.2.2.2.1 _ mX0_buildApplication_s_portOf, trivial⟩ rfl hl.1 (Nat.le_of_ble_eq_true rfl) dX0_buildApplication_60 ⟨Nat.zero_le _, Nat.zero_le _⟩ rfl ?_
    refine lv_aload_n C.1 C.2.1 dX0_buildApplication_63 rfl (lv_at hl 3 rfl) ?_
    refine fg_0_1 C kX0_buildApplication_0 mX0_buildApplication_11 hW dX0_buildApplication_64 ?_
    refine lv_iload_n C.1 C.2.1 dX0_buildApplication_67 rfl (lv_at hl 2 rfl) ?_
    obtain ⟨h15, hf⟩ := ckx_el hf
    refine al_0_1 C hW h15 dX0_buildApplication_68 ?_
    obtain ⟨S18, h17, hf⟩ := bdo_el hf
    refine mcVv (w := wC cy a r) (S := S12) (As := [.int v13, .int (S12.2.1 1 (z2 : Int32).toNatClampNeg)]) (rest := []) (q0 := 2) (ci := 2) C (cX2_link_met l D cy a r _ N S12 v13 (S12.2.1 1 (z2 : Int32).toNatClampNeg) S18 h17) (cwV 2 C.2.2.2.2.1 gX0_buildApplication_X2_link rfl rfl rfl (by decide +kernel) ⟨Nat.le_of_ble_eq_true rfl, Nat.le_of_ble_eq_true rfl⟩) rfl rfl rfl hl.1 (Nat.le_of_ble_eq_true rfl) hW dX0_buildApplication_69 ⟨Nat.zero_le _, Nat.zero_le _⟩ rfl (fun H locs hW => ?_)
    refine lv_aload_n C.1 C.2.1 dX0_buildApplication_72 rfl (lv_at hl 3 rfl) ?_
    refine fg_0_1 C kX0_buildApplication_0 mX0_buildApplication_11 hW dX0_buildApplication_73 ?_
    refine lv_iload_n C.1 C.2.1 dX0_buildApplication_76 rfl (lv_at hl 1 rfl) ?_
    refine lv_iload C.1 C.2.1 dX0_buildApplication_77 (lv_at hl 0 rfl) ?_
    refine lv_iconst (v := 1) C.1 C.2.1 dX0_buildApplication_79 (by decide) ?_
    obtain ⟨v19, h20, hf⟩ := bdo_el hf
    refine mcSN (As := [.int v4, .int (1 : Int32)]) (rest := [.int z3, .ref (a 1)]) C (cX7_portOf_met l v4 (1 : Int32) v19 h20) ⟨va_cnB 2 C.2.2.2.2.1 gX0_buildApplication_X7_portOf_n61 rfl rfl rfl (C.2.2.2.2.2.2 (RX0, 61, yX7_portOf) (by decide +kernel)) (C.2.2.2.2.1 _ mX0_buildApplication_i7) (by decide +kernel) ⟨Nat.le_of_ble_eq_true rfl, Nat.le_of_ble_eq_true rfl⟩, C.2.2.2.2.1 _ mX0_buildApplication_s_portOf, trivial⟩ rfl hl.1 (Nat.le_of_ble_eq_true rfl) dX0_buildApplication_80 ⟨Nat.zero_le _, Nat.zero_le _⟩ rfl ?_
    obtain ⟨h21, hf⟩ := ckx_el hf
    obtain ⟨S22, eS22, hf⟩ := bnd_el hf
    refine as_0_1 C hW h21 dX0_buildApplication_83 eS22 (fun H locs hW => ?_)
    refine lv_iconst (v := 0) C.1 C.2.1 dX0_buildApplication_84 (by decide) ?_
    obtain ⟨z23, ez23, hf⟩ := bnd_el hf
    refine lv_as ez23 ?_
    refine lv_istore (lv' := [(5, .int z23), (4, .int v4), (3, .int z3), (2, .int z2), (0, .ref (a 19)), (1, .int p1)]) C.1 C.2.1 dX0_buildApplication_85 hl (by decide) rfl (fun ls hl => ?_)
    exact lX0_buildApplication_87 C hr hlocks N _ _ _ _ _ _ hf _ _ _ hW (lv_sub hl [4, 5, 3, 2, 0] rfl)
  · replace hf := (if_neg q1).symm.trans hf
    exact mrV C hr hlocks hf hW dX0_buildApplication_8
theorem mX0_build_24 : Cond.fieldLink RX0 24 "SharedLambda$Builder" "height" "I" ∈ wsX0_build := by decide +kernel
theorem mX0_build_20 : Cond.fieldLink RX0 20 "SharedLambda$Builder" "graph" "LSharedLambda$Graph;" ∈ wsX0_build := by decide +kernel
theorem mX0_build_i7 : Cond.initialized RX7 ∈ wsX0_build := by decide +kernel
theorem mX0_build_s_portOf : Cond.static yX7_portOf ∈ wsX0_build := by decide +kernel
theorem mX0_build_11 : Cond.fieldLink RX0 11 "SharedLambda$Builder" "rootPorts" "[I" ∈ wsX0_build := by decide +kernel
theorem kX0_build_0 : ∀ w ∈ u_ws RX0 TX0 4, w ∈ wsX0_build := fun _ h => List.mem_cons_of_mem _ (List.mem_append_left _ (List.mem_append_left _ (List.mem_append_right _ h)))
def fX0_build_100 (N : Nat) (k18 : St × Int32 × Int32 → Option (St)) (S : St) (x2 : Int32) (x3 : Int32) : Option (St) :=
  bnd (x3 + (1 : Int32)) fun z1 =>
  k18 (S, x2, z1)
set_option maxHeartbeats 4000000 in
set_option maxRecDepth 100000 in
theorem lX0_build_100 {p : Program} {l : Launch} {e : Env} {s : State} {m : MethodId} {args : Array Value} {below : List Frame} {meth : Method} {c : Code} {D : va_G} {cy : Nat → ClassId} {a r : Nat → Nat} {A : Nat → Prop} {Rr : St} (C : Cx p s m args c cX0_build 6 wsX0_build RX0 D cy) (hr : meth.sig.returnType = none) (hlocks : meth.locks = false) (N : Nat) (k18 : St × Int32 × Int32 → Option (St)) (hk18 : ∀ (S : St) (x2 : Int32) (x3 : Int32), k18 (S, x2, x3) = some Rr → ∀ (H : Heap) (locs : List Loc) (ls : Array Slot), WW D A s.heap (wC cy a r S) H locs → lv_has ls 6 [(0, .ref (a 19)), (1, .ref (a 99)), (2, .int x2), (3, .int x3)] → W p l e ({ frames := 4, cells := 0, slots := 0, locals := 93 } : Room) s m args below meth c H locs 0 0 (MQ below (QV D cy (wC cy a r) A Rr) args s 0 0 A) (F0 m 18 ls [])) (S : St) (x2 : Int32) (x3 : Int32) (hf : fX0_build_100 N k18 S x2 x3 = some Rr) : ∀ (H : Heap) (locs : List Loc) (ls : Array Slot), WW D A s.heap (wC cy a r S) H locs → lv_has ls 6 [(0, .ref (a 19)), (1, .ref (a 99)), (2, .int x2), (3, .int x3)] → W p l e ({ frames := 4, cells := 0, slots := 0, locals := 93 } : Room) s m args below meth c H locs 0 0 (MQ below (QV D cy (wC cy a r) A Rr) args s 0 0 A) (F0 m 100 ls []) := by
  intro H locs ls hW hl
  unfold fX0_build_100 at hf
  obtain ⟨z1, ez1, hf⟩ := bnd_el hf
  refine lv_iinc (v := z1) (lv' := [(3, .int z1), (0, .ref (a 19)), (1, .ref (a 99)), (2, .int x2)]) C.1 C.2.1 dX0_build_100 hl (k := 3) rfl (by rw [ez1]; rfl) (by decide) rfl (fun ls hl => ?_)
  refine lv_goto (tgt := 18) C.1 C.2.1 dX0_build_103 (by decide) ?_
  exact hk18 _ _ _ hf _ _ _ hW (lv_sub hl [1, 2, 3, 0] rfl)
def fX0_build_18s (N : Nat) (k18 : St × Int32 × Int32 → Option (St)) (S : St) (x2 : Int32) (x3 : Int32) : Option (St) :=
  bd2 (fX4_wordCount N S) fun v1 S3 =>
  if v1 ≤ x3 then
    if S3.1 3 ≤ 0 then
      some S3
    else
      bdo (fX7_portOf x2 (0 : Int32)) fun v6 =>
      ckx (0 : Int32) 43 <|
      bdo (fX2_link N S3 v6 (S3.2.1 1 ((0 : Int32) : Int32).toNatClampNeg)) fun S11 =>
      some S11
  else
    bd2 (fX4_wordIndex N S3 x3) fun v12 S14 =>
    bd2 (fX4_wordSlot N S14 x3) fun v15 S17 =>
    bd2 (fX4_wordKind N S17 x3) fun v18 S20 =>
    if v18 = 0 then
      bdo (fX0_buildName N S20 v12 v15) fun S24 =>
      fX0_build_100 N k18 S24 x2 x3
    else
      if v18 = 1 then
        bdo (fX0_buildLambda N S20 v12 v15) fun S28 =>
        fX0_build_100 N k18 S28 x2 x3
      else
        bdo (fX0_buildApplication N S20 v12) fun S31 =>
        fX0_build_100 N k18 S31 x2 x3
def fX0_build_18 (N : Nat) : St × Int32 × Int32 → Option (St) := loopN (fun k x => fX0_build_18s N k x.1 x.2.1 x.2.2) N
set_option maxHeartbeats 4000000 in
set_option maxRecDepth 100000 in
theorem lX0_build_18 {p : Program} {l : Launch} {e : Env} {s : State} {m : MethodId} {args : Array Value} {below : List Frame} {meth : Method} {c : Code} {D : va_G} {cy : Nat → ClassId} {a r : Nat → Nat} {A : Nat → Prop} {Rr : St} (C : Cx p s m args c cX0_build 6 wsX0_build RX0 D cy) (hr : meth.sig.returnType = none) (hlocks : meth.locks = false) (N : Nat) : ∀ (n : Nat) (S : St) (x2 : Int32) (x3 : Int32), loopN (fun k x => fX0_build_18s N k x.1 x.2.1 x.2.2) n (S, x2, x3) = some Rr → ∀ (H : Heap) (locs : List Loc) (ls : Array Slot), WW D A s.heap (wC cy a r S) H locs → lv_has ls 6 [(0, .ref (a 19)), (1, .ref (a 99)), (2, .int x2), (3, .int x3)] → W p l e ({ frames := 4, cells := 0, slots := 0, locals := 93 } : Room) s m args below meth c H locs 0 0 (MQ below (QV D cy (wC cy a r) A Rr) args s 0 0 A) (F0 m 18 ls []) := by
  intro n
  induction n with
  | zero =>
    intro S x2 x3 hf
    cases hf
  | succ n ih =>
    intro S x2 x3 hf H locs ls hW hl
    have hf : fX0_build_18s N (loopN (fun k x => fX0_build_18s N k x.1 x.2.1 x.2.2) n) S x2 x3 = some Rr := hf
    unfold fX0_build_18s at hf
    refine lv_iload_n C.1 C.2.1 dX0_build_18 rfl (lv_at hl 3 rfl) ?_
    refine lv_aload_n C.1 C.2.1 dX0_build_19 rfl (lv_at hl 1 rfl) ?_
    obtain ⟨v1, S3, h2, hf⟩ := bd2_el hf
    refine mcVi (w := wC cy a r) (S := S) (As := []) (rest := [.int x3]) (q0 := 4) (ci := 4) C (cX4_wordCount_met l D cy a r _ N S  (v1, S3) h2) (cwV 0 C.2.2.2.2.1 gX0_build_X4_wordCount rfl rfl rfl (by decide +kernel) ⟨Nat.le_of_ble_eq_true rfl, Nat.le_of_ble_eq_true rfl⟩) rfl rfl rfl hl.1 (Nat.le_of_ble_eq_true rfl) hW dX0_build_20 ⟨Nat.zero_le _, Nat.zero_le _⟩ rfl (fun H locs hW => ?_)
    refine lv_icmp_ge (tgt := 106) C.1 C.2.1 dX0_build_23 (by decide) (fun q4 => ?_) (fun q4 => ?_)
    · replace hf := (if_pos q4).symm.trans hf
      refine lv_aload_n C.1 C.2.1 dX0_build_106 rfl (lv_at hl 0 rfl) ?_
      refine fg_0_3 C kX0_build_0 mX0_build_24 hW dX0_build_107 ?_
      refine lv_if_le (tgt := 131) C.1 C.2.1 dX0_build_110 (by decide) (fun q5 => ?_) (fun q5 => ?_)
      · replace hf := (if_pos q5).symm.trans hf
        exact mrV C hr hlocks hf hW dX0_build_131
      · replace hf := (if_neg q5).symm.trans hf
        refine lv_aload_n C.1 C.2.1 dX0_build_113 rfl (lv_at hl 0 rfl) ?_
        refine fg_0_0 C kX0_build_0 mX0_build_20 hW dX0_build_114 ?_
        refine lv_iload_n C.1 C.2.1 dX0_build_117 rfl (lv_at hl 2 rfl) ?_
        refine lv_iconst (v := 0) C.1 C.2.1 dX0_build_118 (by decide) ?_
        obtain ⟨v6, h7, hf⟩ := bdo_el hf
        refine mcSN (As := [.int x2, .int (0 : Int32)]) (rest := [.ref (a 59)]) C (cX7_portOf_met l x2 (0 : Int32) v6 h7) ⟨va_cnB 2 C.2.2.2.2.1 gX0_build_X7_portOf_n61 rfl rfl rfl (C.2.2.2.2.2.2 (RX0, 61, yX7_portOf) (by decide +kernel)) (C.2.2.2.2.1 _ mX0_build_i7) (by decide +kernel) ⟨Nat.le_of_ble_eq_true rfl, Nat.le_of_ble_eq_true rfl⟩, C.2.2.2.2.1 _ mX0_build_s_portOf, trivial⟩ rfl hl.1 (Nat.le_of_ble_eq_true rfl) dX0_build_119 ⟨Nat.zero_le _, Nat.zero_le _⟩ rfl ?_
        refine lv_aload_n C.1 C.2.1 dX0_build_122 rfl (lv_at hl 0 rfl) ?_
        refine fg_0_1 C kX0_build_0 mX0_build_11 hW dX0_build_123 ?_
        refine lv_iconst (v := 0) C.1 C.2.1 dX0_build_126 (by decide) ?_
        obtain ⟨h8, hf⟩ := ckx_el hf
        refine al_0_1 C hW h8 dX0_build_127 ?_
        obtain ⟨S11, h10, hf⟩ := bdo_el hf
        refine mcVv (w := wC cy a r) (S := S3) (As := [.int v6, .int (S3.2.1 1 ((0 : Int32) : Int32).toNatClampNeg)]) (rest := []) (q0 := 2) (ci := 2) C (cX2_link_met l D cy a r _ N S3 v6 (S3.2.1 1 ((0 : Int32) : Int32).toNatClampNeg) S11 h10) (cwV 2 C.2.2.2.2.1 gX0_build_X2_link rfl rfl rfl (by decide +kernel) ⟨Nat.le_of_ble_eq_true rfl, Nat.le_of_ble_eq_true rfl⟩) rfl rfl rfl hl.1 (Nat.le_of_ble_eq_true rfl) hW dX0_build_128 ⟨Nat.zero_le _, Nat.zero_le _⟩ rfl (fun H locs hW => ?_)
        exact mrV C hr hlocks hf hW dX0_build_131
    · replace hf := (if_neg q4).symm.trans hf
      refine lv_aload_n C.1 C.2.1 dX0_build_26 rfl (lv_at hl 1 rfl) ?_
      refine lv_iload_n C.1 C.2.1 dX0_build_27 rfl (lv_at hl 3 rfl) ?_
      obtain ⟨v12, S14, h13, hf⟩ := bd2_el hf
      refine mcVi (w := wC cy a r) (S := S3) (As := [.int x3]) (rest := []) (q0 := 4) (ci := 4) C (cX4_wordIndex_met l D cy a r _ N S3 x3 (v12, S14) h13) (cwV 1 C.2.2.2.2.1 gX0_build_X4_wordIndex rfl rfl rfl (by decide +kernel) ⟨Nat.le_of_ble_eq_true rfl, Nat.le_of_ble_eq_true rfl⟩) rfl rfl rfl hl.1 (Nat.le_of_ble_eq_true rfl) hW dX0_build_28 ⟨Nat.zero_le _, Nat.zero_le _⟩ rfl (fun H locs hW => ?_)
      refine lv_istore (lv' := [(4, .int v12), (0, .ref (a 19)), (1, .ref (a 99)), (2, .int x2), (3, .int x3)]) C.1 C.2.1 dX0_build_31 hl (by decide) rfl (fun ls hl => ?_)
      refine lv_aload_n C.1 C.2.1 dX0_build_33 rfl (lv_at hl 2 rfl) ?_
      refine lv_iload_n C.1 C.2.1 dX0_build_34 rfl (lv_at hl 4 rfl) ?_
      obtain ⟨v15, S17, h16, hf⟩ := bd2_el hf
      refine mcVi (w := wC cy a r) (S := S14) (As := [.int x3]) (rest := []) (q0 := 4) (ci := 4) C (cX4_wordSlot_met l D cy a r _ N S14 x3 (v15, S17) h16) (cwV 1 C.2.2.2.2.1 gX0_build_X4_wordSlot rfl rfl rfl (by decide +kernel) ⟨Nat.le_of_ble_eq_true rfl, Nat.le_of_ble_eq_true rfl⟩) rfl rfl rfl hl.1 (Nat.le_of_ble_eq_true rfl) hW dX0_build_35 ⟨Nat.zero_le _, Nat.zero_le _⟩ rfl (fun H locs hW => ?_)
      refine lv_istore (lv' := [(5, .int v15), (4, .int v12), (0, .ref (a 19)), (1, .ref (a 99)), (2, .int x2), (3, .int x3)]) C.1 C.2.1 dX0_build_38 hl (by decide) rfl (fun ls hl => ?_)
      refine lv_aload_n C.1 C.2.1 dX0_build_40 rfl (lv_at hl 3 rfl) ?_
      refine lv_iload_n C.1 C.2.1 dX0_build_41 rfl (lv_at hl 5 rfl) ?_
      obtain ⟨v18, S20, h19, hf⟩ := bd2_el hf
      refine mcVi (w := wC cy a r) (S := S17) (As := [.int x3]) (rest := []) (q0 := 4) (ci := 4) C (cX4_wordKind_met l D cy a r _ N S17 x3 (v18, S20) h19) (cwV 1 C.2.2.2.2.1 gX0_build_X4_wordKind rfl rfl rfl (by decide +kernel) ⟨Nat.le_of_ble_eq_true rfl, Nat.le_of_ble_eq_true rfl⟩) rfl rfl rfl hl.1 (Nat.le_of_ble_eq_true rfl) hW dX0_build_42 ⟨Nat.zero_le _, Nat.zero_le _⟩ rfl (fun H locs hW => ?_)
      by_cases q21 : v18 = 0
      · refine lv_lookup (tgt := 72) (off := 27) C.1 C.2.1 dX0_build_45 (by decide) (by rw [q21]; try decide) (by decide) ?_
        replace hf := (if_pos q21).symm.trans hf
        refine lv_aload_n C.1 C.2.1 dX0_build_72 rfl (lv_at hl 2 rfl) ?_
        refine lv_iload C.1 C.2.1 dX0_build_73 (lv_at hl 1 rfl) ?_
        refine lv_iload C.1 C.2.1 dX0_build_75 (lv_at hl 0 rfl) ?_
        obtain ⟨S24, h23, hf⟩ := bdo_el hf
        refine mcVv (w := wC cy a r) (S := S20) (As := [.int v12, .int v15]) (rest := []) (q0 := 0) (ci := 0) C (cX0_buildName_met l D cy a r _ N S20 v12 v15 S24 h23) (cwV 2 C.2.2.2.2.1 gX0_build_X0_buildName rfl rfl rfl (by decide +kernel) ⟨Nat.le_of_ble_eq_true rfl, Nat.le_of_ble_eq_true rfl⟩) rfl rfl rfl hl.1 (Nat.le_of_ble_eq_true rfl) hW dX0_build_77 ⟨Nat.zero_le _, Nat.zero_le _⟩ rfl (fun H locs hW => ?_)
        refine lv_goto (tgt := 100) C.1 C.2.1 dX0_build_80 (by decide) ?_
        exact lX0_build_100 C hr hlocks N _ ih _ _ _ hf _ _ _ hW (lv_sub hl [2, 3, 4, 5] rfl)
      · replace hf := (if_neg q21).symm.trans hf
        by_cases q25 : v18 = 1
        · refine lv_lookup (tgt := 83) (off := 38) C.1 C.2.1 dX0_build_45 (by decide) (by rw [q25]; try decide) (by decide) ?_
          replace hf := (if_pos q25).symm.trans hf
          refine lv_aload_n C.1 C.2.1 dX0_build_83 rfl (lv_at hl 2 rfl) ?_
          refine lv_iload C.1 C.2.1 dX0_build_84 (lv_at hl 1 rfl) ?_
          refine lv_iload C.1 C.2.1 dX0_build_86 (lv_at hl 0 rfl) ?_
          obtain ⟨S28, h27, hf⟩ := bdo_el hf
          refine mcVv (w := wC cy a r) (S := S20) (As := [.int v12, .int v15]) (rest := []) (q0 := 0) (ci := 0) C (cX0_buildLambda_met l D cy a r _ N S20 v12 v15 S28 h27) (cwV 2 C.2.2.2.2.1 gX0_build_X0_buildLambda rfl rfl rfl (by decide +kernel) ⟨Nat.le_of_ble_eq_true rfl, Nat.le_of_ble_eq_true rfl⟩) rfl rfl rfl hl.1 (Nat.le_of_ble_eq_true rfl) hW dX0_build_88 ⟨Nat.zero_le _, Nat.zero_le _⟩ rfl (fun H locs hW => ?_)
          refine lv_goto (tgt := 100) C.1 C.2.1 dX0_build_91 (by decide) ?_
          exact lX0_build_100 C hr hlocks N _ ih _ _ _ hf _ _ _ hW (lv_sub hl [2, 3, 4, 5] rfl)
        · replace hf := (if_neg q25).symm.trans hf
          refine lv_lookup (tgt := 94) (off := 49) C.1 C.2.1 dX0_build_45 (by decide) (by simp [Op.lookupswitch.offset_cons, Op.lookupswitch.offset_nil, lk_ne (k := 0) (by decide) (by decide) q21, lk_ne (k := 1) (by decide) (by decide) q25]) (by decide) ?_
          refine lv_aload_n C.1 C.2.1 dX0_build_94 rfl (lv_at hl 2 rfl) ?_
          refine lv_iload C.1 C.2.1 dX0_build_95 (lv_at hl 1 rfl) ?_
          obtain ⟨S31, h30, hf⟩ := bdo_el hf
          refine mcVv (w := wC cy a r) (S := S20) (As := [.int v12]) (rest := []) (q0 := 0) (ci := 0) C (cX0_buildApplication_met l D cy a r _ N S20 v12 S31 h30) (cwV 1 C.2.2.2.2.1 gX0_build_X0_buildApplication rfl rfl rfl (by decide +kernel) ⟨Nat.le_of_ble_eq_true rfl, Nat.le_of_ble_eq_true rfl⟩) rfl rfl rfl hl.1 (Nat.le_of_ble_eq_true rfl) hW dX0_build_97 ⟨Nat.zero_le _, Nat.zero_le _⟩ rfl (fun H locs hW => ?_)
          exact lX0_build_100 C hr hlocks N _ ih _ _ _ hf _ _ _ hW (lv_sub hl [2, 3, 4, 5] rfl)
def fX0_build (N : Nat) (S : St) : Option (St) :=
  bnd (sI S 3 (0 : Int32)) fun S1 =>
  bd2 (fX2_make N S1 (6 : Int32) (-1 : Int32)) fun v2 S4 =>
  bnd (0 : Int32) fun z5 =>
  fX0_build_18 N (S4, v2, z5)
set_option maxHeartbeats 4000000 in
set_option maxRecDepth 100000 in
theorem cX0_build_met (l : Launch) (D : va_G) (cy : Nat → ClassId) (a r : Nat → Nat) (sz N : Nat) (S : St) (Rr : St) (hf : fX0_build N S  = some Rr) : Met l yX0_build wsX0_build ({ frames := 4, cells := 0, slots := 0, locals := 93 } : Room) (va_Pc [.ref (a 19), .ref (a 99)] (preW D cy (wC cy a r S) sz)) (QV D cy (wC cy a r) (va_A (wC cy a r S) sz) Rr) 0 0 (va_A (wC cy a r S) sz) := by
  refine Met.ofW (cc := cX0_build) (maxL := 6) (ret := none) (by decide) rfl ?_
  intro p e s m args below meth c s₁ B hml hv
  obtain ⟨rfl, rfl, hP, hK, hD0, hN⟩ := hv
  have hlocks := B.notSynchronized
  have hr := B.returns
  have C : Cx p s m _ c cX0_build 6 wsX0_build RX0 D cy := ⟨B.exec, B.bytes, hml, findClass_of_methodNamed B.named, atoms_spec (ws := wsX0_build) B.pre, hK, hN⟩
  have hW := ww_start (w := wC cy a r) hP hD0
  generalize va_A (wC cy a r S) s.heap.size = A at hW ⊢
  have hl := lv_entry ([.ref (a 19), .ref (a 99)]) (n := 6) (Nat.le_of_ble_eq_true rfl)
  rw [lg_entry_eq]
  generalize (lg_sl ([.ref (a 19), .ref (a 99)]) ++ List.replicate (6 - (lg_sl ([.ref (a 19), .ref (a 99)])).length) Slot.unset).toArray = ls at hl ⊢
  have hl : lv_has ls 6 [(0, .ref (a 19)), (1, .ref (a 99))] := hl
  unfold fX0_build at hf
  refine lv_aload_n C.1 C.2.1 dX0_build_0 rfl (lv_at hl 0 rfl) ?_
  refine lv_iconst (v := 0) C.1 C.2.1 dX0_build_1 (by decide) ?_
  obtain ⟨S1, eS1, hf⟩ := bnd_el hf
  refine fp_0_3 C kX0_build_0 mX0_build_24 hW dX0_build_2 eS1 (fun H locs hW => ?_)
  refine lv_aload_n C.1 C.2.1 dX0_build_5 rfl (lv_at hl 0 rfl) ?_
  refine fg_0_0 C kX0_build_0 mX0_build_20 hW dX0_build_6 ?_
  refine lv_bipush (v := 6) C.1 C.2.1 dX0_build_9 (by decide) ?_
  refine lv_iconst (v := -1) C.1 C.2.1 dX0_build_11 (by decide) ?_
  obtain ⟨v2, S4, h3, hf⟩ := bd2_el hf
  refine mcVi (w := wC cy a r) (S := S1) (As := [.int (6 : Int32), .int (-1 : Int32)]) (rest := []) (q0 := 2) (ci := 2) C (cX2_make_met l D cy a r _ N S1 (6 : Int32) (-1 : Int32) (v2, S4) h3) (cwV 2 C.2.2.2.2.1 gX0_build_X2_make rfl rfl rfl (by decide +kernel) ⟨Nat.le_of_ble_eq_true rfl, Nat.le_of_ble_eq_true rfl⟩) rfl rfl rfl hl.1 (Nat.le_of_ble_eq_true rfl) hW dX0_build_12 ⟨Nat.zero_le _, Nat.zero_le _⟩ rfl (fun H locs hW => ?_)
  refine lv_istore_n (lv' := [(2, .int v2), (0, .ref (a 19)), (1, .ref (a 99))]) C.1 C.2.1 dX0_build_15 rfl hl (by decide) rfl (fun ls hl => ?_)
  refine lv_iconst (v := 0) C.1 C.2.1 dX0_build_16 (by decide) ?_
  obtain ⟨z5, ez5, hf⟩ := bnd_el hf
  refine lv_as ez5 ?_
  refine lv_istore_n (lv' := [(3, .int z5), (2, .int v2), (0, .ref (a 19)), (1, .ref (a 99))]) C.1 C.2.1 dX0_build_17 rfl hl (by decide) rfl (fun ls hl => ?_)
  exact lX0_build_18 C hr hlocks N _ _ _ _ hf _ _ _ hW (lv_sub hl [2, 3, 1, 0] rfl)
