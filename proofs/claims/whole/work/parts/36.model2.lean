def fX8_areSame_9s (N : Nat) (k9 : St × Int32 × Int32 × Int32 × Int32 → Option (Int32 × St)) (S : St) (x3 : Int32) (x4 : Int32) (x5 : Int32) (x6 : Int32) : Option (Int32 × St) :=
  if x3 ≤ x6 then
    some ((1 : Int32), S)
  else
    bd2 (fX8_head N S x4) fun v2 S4 =>
    bd2 (fX8_head N S4 x5) fun v5 S7 =>
    if v2 = v5 then
      bd2 (fX8_tail N S7 x4) fun v9 S11 =>
      bd2 (fX8_tail N S11 x5) fun v12 S14 =>
      bnd (x6 + (1 : Int32)) fun z15 =>
      k9 (S14, x3, v9, v12, z15)
    else
      some ((0 : Int32), S7)
def fX8_areSame_9 (N : Nat) : St × Int32 × Int32 × Int32 × Int32 → Option (Int32 × St) := loopN (fun k x => fX8_areSame_9s N k x.1 x.2.1 x.2.2.1 x.2.2.2.1 x.2.2.2.2) N
set_option maxHeartbeats 4000000 in
set_option maxRecDepth 100000 in
theorem lX8_areSame_9 {p : Program} {l : Launch} {e : Env} {s : State} {m : MethodId} {args : Array Value} {below : List Frame} {meth : Method} {c : Code} {D : va_G} {cy : Nat → ClassId} {a r : Nat → Nat} {A : Nat → Prop} {Rr : Int32 × St} (C : Cx p s m args c cX8_areSame 7 wsX8_areSame RX8 D cy) (hr : meth.sig.returnType = some .boolean) (hlocks : meth.locks = false) (N : Nat) : ∀ (n : Nat) (S : St) (x3 : Int32) (x4 : Int32) (x5 : Int32) (x6 : Int32), loopN (fun k x => fX8_areSame_9s N k x.1 x.2.1 x.2.2.1 x.2.2.2.1 x.2.2.2.2) n (S, x3, x4, x5, x6) = some Rr → ∀ (H : Heap) (locs : List Loc) (ls : Array Slot), WW D A s.heap (wM cy a r S) H locs → lv_has ls 7 [(0, .ref (a 99)), (3, .int x3), (4, .int x4), (5, .int x5), (6, .int x6)] → W p l e ({ frames := 1, cells := 0, slots := 0, locals := 21 } : Room) s m args below meth c H locs 0 0 (MQ below (QI D cy (wM cy a r) A Rr) args s 0 0 A) (F0 m 9 ls []) := by
  intro n
  induction n with
  | zero =>
    intro S x3 x4 x5 x6 hf
    cases hf
  | succ n ih =>
    intro S x3 x4 x5 x6 hf H locs ls hW hl
    have hf : fX8_areSame_9s N (loopN (fun k x => fX8_areSame_9s N k x.1 x.2.1 x.2.2.1 x.2.2.2.1 x.2.2.2.2) n) S x3 x4 x5 x6 = some Rr := hf
    unfold fX8_areSame_9s at hf
    refine lv_iload C.1 C.2.1 dX8_areSame_9 (lv_at hl 4 rfl) ?_
    refine lv_iload_n C.1 C.2.1 dX8_areSame_11 rfl (lv_at hl 1 rfl) ?_
    refine lv_icmp_ge (tgt := 54) C.1 C.2.1 dX8_areSame_12 (by decide) (fun q1 => ?_) (fun q1 => ?_)
    · replace hf := (if_pos q1).symm.trans hf
      refine lv_iconst (v := 1) C.1 C.2.1 dX8_areSame_54 (by decide) ?_
      exact mrI C hr hlocks rfl hf hW dX8_areSame_55
    · replace hf := (if_neg q1).symm.trans hf
      refine lv_aload_n C.1 C.2.1 dX8_areSame_15 rfl (lv_at hl 0 rfl) ?_
      refine lv_iload C.1 C.2.1 dX8_areSame_16 (lv_at hl 2 rfl) ?_
      obtain ⟨v2, S4, h3, hf⟩ := bd2_el hf
      refine mcVi (w := wM cy a r) (S := S) (As := [.int x4]) (rest := []) (q0 := 0) (ci := 8) C (cX8_head_met l D cy a r _ N S x4 (v2, S4) h3) (cwV 1 C.2.2.2.2.1 gX8_areSame_X8_head rfl rfl rfl (by decide +kernel) ⟨Nat.le_of_ble_eq_true rfl, Nat.le_of_ble_eq_true rfl⟩) rfl rfl rfl hl.1 (Nat.le_of_ble_eq_true rfl) hW dX8_areSame_18 ⟨Nat.zero_le _, Nat.zero_le _⟩ rfl (fun H locs hW => ?_)
      refine lv_aload_n C.1 C.2.1 dX8_areSame_21 rfl (lv_at hl 0 rfl) ?_
      refine lv_iload C.1 C.2.1 dX8_areSame_22 (lv_at hl 3 rfl) ?_
      obtain ⟨v5, S7, h6, hf⟩ := bd2_el hf
      refine mcVi (w := wM cy a r) (S := S4) (As := [.int x5]) (rest := [.int v2]) (q0 := 0) (ci := 8) C (cX8_head_met l D cy a r _ N S4 x5 (v5, S7) h6) (cwV 1 C.2.2.2.2.1 gX8_areSame_X8_head rfl rfl rfl (by decide +kernel) ⟨Nat.le_of_ble_eq_true rfl, Nat.le_of_ble_eq_true rfl⟩) rfl rfl rfl hl.1 (Nat.le_of_ble_eq_true rfl) hW dX8_areSame_24 ⟨Nat.zero_le _, Nat.zero_le _⟩ rfl (fun H locs hW => ?_)
      refine lv_icmp_eq (tgt := 32) C.1 C.2.1 dX8_areSame_27 (by decide) (fun q8 => ?_) (fun q8 => ?_)
      · replace hf := (if_pos q8).symm.trans hf
        refine lv_aload_n C.1 C.2.1 dX8_areSame_32 rfl (lv_at hl 0 rfl) ?_
        refine lv_iload C.1 C.2.1 dX8_areSame_33 (lv_at hl 2 rfl) ?_
        obtain ⟨v9, S11, h10, hf⟩ := bd2_el hf
        refine mcVi (w := wM cy a r) (S := S7) (As := [.int x4]) (rest := []) (q0 := 0) (ci := 8) C (cX8_tail_met l D cy a r _ N S7 x4 (v9, S11) h10) (cwV 1 C.2.2.2.2.1 gX8_areSame_X8_tail rfl rfl rfl (by decide +kernel) ⟨Nat.le_of_ble_eq_true rfl, Nat.le_of_ble_eq_true rfl⟩) rfl rfl rfl hl.1 (Nat.le_of_ble_eq_true rfl) hW dX8_areSame_35 ⟨Nat.zero_le _, Nat.zero_le _⟩ rfl (fun H locs hW => ?_)
        refine lv_istore (lv' := [(4, .int v9), (0, .ref (a 99)), (3, .int x3), (5, .int x5), (6, .int x6)]) C.1 C.2.1 dX8_areSame_38 hl (by decide) rfl (fun ls hl => ?_)
        refine lv_aload_n C.1 C.2.1 dX8_areSame_40 rfl (lv_at hl 1 rfl) ?_
        refine lv_iload C.1 C.2.1 dX8_areSame_41 (lv_at hl 3 rfl) ?_
        obtain ⟨v12, S14, h13, hf⟩ := bd2_el hf
        refine mcVi (w := wM cy a r) (S := S11) (As := [.int x5]) (rest := []) (q0 := 0) (ci := 8) C (cX8_tail_met l D cy a r _ N S11 x5 (v12, S14) h13) (cwV 1 C.2.2.2.2.1 gX8_areSame_X8_tail rfl rfl rfl (by decide +kernel) ⟨Nat.le_of_ble_eq_true rfl, Nat.le_of_ble_eq_true rfl⟩) rfl rfl rfl hl.1 (Nat.le_of_ble_eq_true rfl) hW dX8_areSame_43 ⟨Nat.zero_le _, Nat.zero_le _⟩ rfl (fun H locs hW => ?_)
        refine lv_istore (lv' := [(5, .int v12), (4, .int v9), (0, .ref (a 99)), (3, .int x3), (6, .int x6)]) C.1 C.2.1 dX8_areSame_46 hl (by decide) rfl (fun ls hl => ?_)
        obtain ⟨z15, ez15, hf⟩ := bnd_el hf
        refine lv_iinc (v := z15) (lv' := [(6, .int z15), (5, .int v12), (4, .int v9), (0, .ref (a 99)), (3, .int x3)]) C.1 C.2.1 dX8_areSame_48 hl (k := 4) rfl (by rw [ez15]; rfl) (by decide) rfl (fun ls hl => ?_)
        refine lv_goto (tgt := 9) C.1 C.2.1 dX8_areSame_51 (by decide) ?_
        exact ih _ _ _ _ _ hf _ _ _ hW (lv_sub hl [3, 4, 2, 1, 0] rfl)
      · replace hf := (if_neg q8).symm.trans hf
        refine lv_iconst (v := 0) C.1 C.2.1 dX8_areSame_30 (by decide) ?_
        exact mrI C hr hlocks rfl hf hW dX8_areSame_31
def fX8_areSame (N : Nat) (S : St) (p1 : Int32) (p2 : Int32) (p3 : Int32) : Option (Int32 × St) :=
  bnd (0 : Int32) fun z1 =>
  fX8_areSame_9 N (S, p3, p1, p2, z1)
set_option maxHeartbeats 4000000 in
set_option maxRecDepth 100000 in
theorem cX8_areSame_met (l : Launch) (D : va_G) (cy : Nat → ClassId) (a r : Nat → Nat) (sz N : Nat) (S : St) (p1 : Int32) (p2 : Int32) (p3 : Int32) (Rr : Int32 × St) (hf : fX8_areSame N S p1 p2 p3 = some Rr) : Met l yX8_areSame wsX8_areSame ({ frames := 1, cells := 0, slots := 0, locals := 21 } : Room) (va_Pc [.ref (a 99), .int p1, .int p2, .int p3] (preW D cy (wM cy a r S) sz)) (QI D cy (wM cy a r) (va_A (wM cy a r S) sz) Rr) 0 0 (va_A (wM cy a r S) sz) := by
  refine Met.ofW (cc := cX8_areSame) (maxL := 7) (ret := (some .boolean)) (by decide) rfl ?_
  intro p e s m args below meth c s₁ B hml hv
  obtain ⟨rfl, rfl, hP, hK, hD0, hN⟩ := hv
  have hlocks := B.notSynchronized
  have hr := B.returns
  have C : Cx p s m _ c cX8_areSame 7 wsX8_areSame RX8 D cy := ⟨B.exec, B.bytes, hml, findClass_of_methodNamed B.named, atoms_spec (ws := wsX8_areSame) B.pre, hK, hN⟩
  have hW := ww_start (w := wM cy a r) hP hD0
  generalize va_A (wM cy a r S) s.heap.size = A at hW ⊢
  have hl := lv_entry ([.ref (a 99), .int p1, .int p2, .int p3]) (n := 7) (Nat.le_of_ble_eq_true rfl)
  rw [lg_entry_eq]
  generalize (lg_sl ([.ref (a 99), .int p1, .int p2, .int p3]) ++ List.replicate (7 - (lg_sl ([.ref (a 99), .int p1, .int p2, .int p3])).length) Slot.unset).toArray = ls at hl ⊢
  have hl : lv_has ls 7 [(0, .ref (a 99)), (1, .int p1), (2, .int p2), (3, .int p3)] := hl
  unfold fX8_areSame at hf
  refine lv_iload_n C.1 C.2.1 dX8_areSame_0 rfl (lv_at hl 1 rfl) ?_
  refine lv_istore (lv' := [(4, .int p1), (0, .ref (a 99)), (1, .int p1), (2, .int p2), (3, .int p3)]) C.1 C.2.1 dX8_areSame_1 hl (by decide) rfl (fun ls hl => ?_)
  refine lv_iload_n C.1 C.2.1 dX8_areSame_3 rfl (lv_at hl 3 rfl) ?_
  refine lv_istore (lv' := [(5, .int p2), (4, .int p1), (0, .ref (a 99)), (1, .int p1), (2, .int p2), (3, .int p3)]) C.1 C.2.1 dX8_areSame_4 hl (by decide) rfl (fun ls hl => ?_)
  refine lv_iconst (v := 0) C.1 C.2.1 dX8_areSame_6 (by decide) ?_
  obtain ⟨z1, ez1, hf⟩ := bnd_el hf
  refine lv_as ez1 ?_
  refine lv_istore (lv' := [(6, .int z1), (5, .int p2), (4, .int p1), (0, .ref (a 99)), (1, .int p1), (2, .int p2), (3, .int p3)]) C.1 C.2.1 dX8_areSame_7 hl (by decide) rfl (fun ls hl => ?_)
  exact lX8_areSame_9 C hr hlocks N _ _ _ _ _ _ hf _ _ _ hW (lv_sub hl [3, 6, 2, 1, 0] rfl)
theorem mX8_tell_272 : Cond.fieldLink RX8 272 "SharedLambdaModel" "tells" "I" ∈ wsX8_tell := by decide +kernel
theorem mX8_tell_198 : Cond.fieldLink RX8 198 "SharedLambdaModel" "told" "[B" ∈ wsX8_tell := by decide +kernel
theorem kX8_tell_8 : ∀ w ∈ u_ws RX8 TX8 58, w ∈ wsX8_tell := fun _ h => List.mem_cons_of_mem _ (List.mem_append_right _ h)
def fX8_tell (N : Nat) (S : St) (p1 : Int32) : Option (St) :=
  if (4000 : Int32) ≤ S.1 46 then
    bnd (sI S 46 ((S.1 46 + (1 : Int32)))) fun S2 =>
    some S2
  else
    ckx (S.1 46) 4000 <|
    bnd (sA S 45 (upd (S.2.1 45) (S.1 46 : Int32).toNatClampNeg (vp_nar .byte ((p1 : Int32).toInt8.toInt32)))) fun S4 =>
    bnd (sI S4 46 ((S4.1 46 + (1 : Int32)))) fun S5 =>
    some S5
set_option maxHeartbeats 4000000 in
set_option maxRecDepth 100000 in
theorem cX8_tell_met (l : Launch) (D : va_G) (cy : Nat → ClassId) (a r : Nat → Nat) (sz N : Nat) (S : St) (p1 : Int32) (Rr : St) (hf : fX8_tell N S p1 = some Rr) : Met l yX8_tell wsX8_tell ({ frames := 0, cells := 0, slots := 0, locals := 0 } : Room) (va_Pc [.ref (a 99), .int p1] (preW D cy (wM cy a r S) sz)) (QV D cy (wM cy a r) (va_A (wM cy a r S) sz) Rr) 0 0 (va_A (wM cy a r S) sz) := by
  refine Met.ofW (cc := cX8_tell) (maxL := 2) (ret := none) (by decide) rfl ?_
  intro p e s m args below meth c s₁ B hml hv
  obtain ⟨rfl, rfl, hP, hK, hD0, hN⟩ := hv
  have hlocks := B.notSynchronized
  have hr := B.returns
  have C : Cx p s m _ c cX8_tell 2 wsX8_tell RX8 D cy := ⟨B.exec, B.bytes, hml, findClass_of_methodNamed B.named, atoms_spec (ws := wsX8_tell) B.pre, hK, hN⟩
  have hW := ww_start (w := wM cy a r) hP hD0
  generalize va_A (wM cy a r S) s.heap.size = A at hW ⊢
  have hl := lv_entry ([.ref (a 99), .int p1]) (n := 2) (Nat.le_of_ble_eq_true rfl)
  rw [lg_entry_eq]
  generalize (lg_sl ([.ref (a 99), .int p1]) ++ List.replicate (2 - (lg_sl ([.ref (a 99), .int p1])).length) Slot.unset).toArray = ls at hl ⊢
  have hl : lv_has ls 2 [(0, .ref (a 99)), (1, .int p1)] := hl
  unfold fX8_tell at hf
  refine lv_aload_n C.1 C.2.1 dX8_tell_0 rfl (lv_at hl 0 rfl) ?_
  refine fg_8_46 C kX8_tell_8 mX8_tell_272 hW dX8_tell_1 ?_
  refine lv_sipush (v := 4000) C.1 C.2.1 dX8_tell_4 (by decide) ?_
  refine lv_icmp_ge (tgt := 21) C.1 C.2.1 dX8_tell_7 (by decide) (fun q1 => ?_) (fun q1 => ?_)
  · replace hf := (if_pos q1).symm.trans hf
    refine lv_aload_n C.1 C.2.1 dX8_tell_21 rfl (lv_at hl 0 rfl) ?_
    refine lv_dup C.1 C.2.1 dX8_tell_22 rfl ?_
    refine fg_8_46 C kX8_tell_8 mX8_tell_272 hW dX8_tell_23 ?_
    refine lv_iconst (v := 1) C.1 C.2.1 dX8_tell_26 (by decide) ?_
    refine lv_iadd C.1 C.2.1 dX8_tell_27 ?_
    obtain ⟨S2, eS2, hf⟩ := bnd_el hf
    refine fp_8_46 C kX8_tell_8 mX8_tell_272 hW dX8_tell_28 eS2 (fun H locs hW => ?_)
    exact mrV C hr hlocks hf hW dX8_tell_31
  · replace hf := (if_neg q1).symm.trans hf
    refine lv_aload_n C.1 C.2.1 dX8_tell_10 rfl (lv_at hl 0 rfl) ?_
    refine fg_8_45 C kX8_tell_8 mX8_tell_198 hW dX8_tell_11 ?_
    refine lv_aload_n C.1 C.2.1 dX8_tell_14 rfl (lv_at hl 0 rfl) ?_
    refine fg_8_46 C kX8_tell_8 mX8_tell_272 hW dX8_tell_15 ?_
    refine lv_iload_n C.1 C.2.1 dX8_tell_18 rfl (lv_at hl 1 rfl) ?_
    refine lv_i2b C.1 C.2.1 dX8_tell_19 rfl ?_
    obtain ⟨h3, hf⟩ := ckx_el hf
    obtain ⟨S4, eS4, hf⟩ := bnd_el hf
    refine as_8_45 C hW h3 dX8_tell_20 eS4 (fun H locs hW => ?_)
    refine lv_aload_n C.1 C.2.1 dX8_tell_21 rfl (lv_at hl 0 rfl) ?_
    refine lv_dup C.1 C.2.1 dX8_tell_22 rfl ?_
    refine fg_8_46 C kX8_tell_8 mX8_tell_272 hW dX8_tell_23 ?_
    refine lv_iconst (v := 1) C.1 C.2.1 dX8_tell_26 (by decide) ?_
    refine lv_iadd C.1 C.2.1 dX8_tell_27 ?_
    obtain ⟨S5, eS5, hf⟩ := bnd_el hf
    refine fp_8_46 C kX8_tell_8 mX8_tell_272 hW dX8_tell_28 eS5 (fun H locs hW => ?_)
    exact mrV C hr hlocks hf hW dX8_tell_31
def fX8_tellNumber_18s (N : Nat) (k18 : St × Int32 × Int32 → Option (St)) (S : St) (x1 : Int32) (x2 : Int32) : Option (St) :=
  if x2 ≤ 0 then
    some S
  else
    ckp (!(x2 == 0)) <|
    bdo (fX8_tell N S (((48 : Int32) + ((x1 / x2) - (x1 / x2) / (10 : Int32) * (10 : Int32))))) fun S5 =>
    bnd ((x2 / (10 : Int32))) fun z6 =>
    k18 (S5, x1, z6)
def fX8_tellNumber_18 (N : Nat) : St × Int32 × Int32 → Option (St) := loopN (fun k x => fX8_tellNumber_18s N k x.1 x.2.1 x.2.2) N
set_option maxHeartbeats 4000000 in
set_option maxRecDepth 100000 in
theorem lX8_tellNumber_18 {p : Program} {l : Launch} {e : Env} {s : State} {m : MethodId} {args : Array Value} {below : List Frame} {meth : Method} {c : Code} {D : va_G} {cy : Nat → ClassId} {a r : Nat → Nat} {A : Nat → Prop} {Rr : St} (C : Cx p s m args c cX8_tellNumber 3 wsX8_tellNumber RX8 D cy) (hr : meth.sig.returnType = none) (hlocks : meth.locks = false) (N : Nat) : ∀ (n : Nat) (S : St) (x1 : Int32) (x2 : Int32), loopN (fun k x => fX8_tellNumber_18s N k x.1 x.2.1 x.2.2) n (S, x1, x2) = some Rr → ∀ (H : Heap) (locs : List Loc) (ls : Array Slot), WW D A s.heap (wM cy a r S) H locs → lv_has ls 3 [(0, .ref (a 99)), (1, .int x1), (2, .int x2)] → W p l e ({ frames := 1, cells := 0, slots := 0, locals := 21 } : Room) s m args below meth c H locs 0 0 (MQ below (QV D cy (wM cy a r) A Rr) args s 0 0 A) (F0 m 18 ls []) := by
  intro n
  induction n with
  | zero =>
    intro S x1 x2 hf
    cases hf
  | succ n ih =>
    intro S x1 x2 hf H locs ls hW hl
    have hf : fX8_tellNumber_18s N (loopN (fun k x => fX8_tellNumber_18s N k x.1 x.2.1 x.2.2) n) S x1 x2 = some Rr := hf
    unfold fX8_tellNumber_18s at hf
    refine lv_iload_n C.1 C.2.1 dX8_tellNumber_18 rfl (lv_at hl 2 rfl) ?_
    refine lv_if_le (tgt := 43) C.1 C.2.1 dX8_tellNumber_19 (by decide) (fun q1 => ?_) (fun q1 => ?_)
    · replace hf := (if_pos q1).symm.trans hf
      exact mrV C hr hlocks hf hW dX8_tellNumber_43
    · replace hf := (if_neg q1).symm.trans hf
      refine lv_aload_n C.1 C.2.1 dX8_tellNumber_22 rfl (lv_at hl 0 rfl) ?_
      refine lv_bipush (v := 48) C.1 C.2.1 dX8_tellNumber_23 (by decide) ?_
      refine lv_iload_n C.1 C.2.1 dX8_tellNumber_25 rfl (lv_at hl 1 rfl) ?_
      refine lv_iload_n C.1 C.2.1 dX8_tellNumber_26 rfl (lv_at hl 2 rfl) ?_
      obtain ⟨h2, hf⟩ := ckp_el hf
      refine lv_idiv C.1 C.2.1 dX8_tellNumber_27 (nz_el h2) ?_
      refine lv_bipush (v := 10) C.1 C.2.1 dX8_tellNumber_28 (by decide) ?_
      refine lv_irem C.1 C.2.1 dX8_tellNumber_30 (by decide) ?_
      refine lv_iadd C.1 C.2.1 dX8_tellNumber_31 ?_
      obtain ⟨S5, h4, hf⟩ := bdo_el hf
      refine mcVv (w := wM cy a r) (S := S) (As := [.int (((48 : Int32) + ((x1 / x2) - (x1 / x2) / (10 : Int32) * (10 : Int32))))]) (rest := []) (q0 := 0) (ci := 8) C (cX8_tell_met l D cy a r _ N S (((48 : Int32) + ((x1 / x2) - (x1 / x2) / (10 : Int32) * (10 : Int32)))) S5 h4) (cwV 1 C.2.2.2.2.1 gX8_tellNumber_X8_tell rfl rfl rfl (by decide +kernel) ⟨Nat.le_of_ble_eq_true rfl, Nat.le_of_ble_eq_true rfl⟩) rfl rfl rfl hl.1 (Nat.le_of_ble_eq_true rfl) hW dX8_tellNumber_32 ⟨Nat.zero_le _, Nat.zero_le _⟩ rfl (fun H locs hW => ?_)
      refine lv_iload_n C.1 C.2.1 dX8_tellNumber_35 rfl (lv_at hl 2 rfl) ?_
      refine lv_bipush (v := 10) C.1 C.2.1 dX8_tellNumber_36 (by decide) ?_
      refine lv_idiv C.1 C.2.1 dX8_tellNumber_38 (by decide) ?_
      obtain ⟨z6, ez6, hf⟩ := bnd_el hf
      refine lv_as ez6 ?_
      refine lv_istore_n (lv' := [(2, .int z6), (0, .ref (a 99)), (1, .int x1)]) C.1 C.2.1 dX8_tellNumber_39 rfl hl (by decide) rfl (fun ls hl => ?_)
      refine lv_goto (tgt := 18) C.1 C.2.1 dX8_tellNumber_40 (by decide) ?_
      exact ih _ _ _ hf _ _ _ hW (lv_sub hl [1, 2, 0] rfl)
def fX8_tellNumber_2s (N : Nat) (k2 : St × Int32 × Int32 → Option (St)) (S : St) (x1 : Int32) (x2 : Int32) : Option (St) :=
  ckp (!(x2 == 0)) <|
  if (x1 / x2) ≤ (9 : Int32) then
    fX8_tellNumber_18 N (S, x1, x2)
  else
    bnd (((10 : Int32) * x2)) fun z3 =>
    k2 (S, x1, z3)
def fX8_tellNumber_2 (N : Nat) : St × Int32 × Int32 → Option (St) := loopN (fun k x => fX8_tellNumber_2s N k x.1 x.2.1 x.2.2) N
set_option maxHeartbeats 4000000 in
set_option maxRecDepth 100000 in
theorem lX8_tellNumber_2 {p : Program} {l : Launch} {e : Env} {s : State} {m : MethodId} {args : Array Value} {below : List Frame} {meth : Method} {c : Code} {D : va_G} {cy : Nat → ClassId} {a r : Nat → Nat} {A : Nat → Prop} {Rr : St} (C : Cx p s m args c cX8_tellNumber 3 wsX8_tellNumber RX8 D cy) (hr : meth.sig.returnType = none) (hlocks : meth.locks = false) (N : Nat) : ∀ (n : Nat) (S : St) (x1 : Int32) (x2 : Int32), loopN (fun k x => fX8_tellNumber_2s N k x.1 x.2.1 x.2.2) n (S, x1, x2) = some Rr → ∀ (H : Heap) (locs : List Loc) (ls : Array Slot), WW D A s.heap (wM cy a r S) H locs → lv_has ls 3 [(0, .ref (a 99)), (1, .int x1), (2, .int x2)] → W p l e ({ frames := 1, cells := 0, slots := 0, locals := 21 } : Room) s m args below meth c H locs 0 0 (MQ below (QV D cy (wM cy a r) A Rr) args s 0 0 A) (F0 m 2 ls []) := by
  intro n
  induction n with
  | zero =>
    intro S x1 x2 hf
    cases hf
  | succ n ih =>
    intro S x1 x2 hf H locs ls hW hl
    have hf : fX8_tellNumber_2s N (loopN (fun k x => fX8_tellNumber_2s N k x.1 x.2.1 x.2.2) n) S x1 x2 = some Rr := hf
    unfold fX8_tellNumber_2s at hf
    refine lv_iload_n C.1 C.2.1 dX8_tellNumber_2 rfl (lv_at hl 1 rfl) ?_
    refine lv_iload_n C.1 C.2.1 dX8_tellNumber_3 rfl (lv_at hl 2 rfl) ?_
    obtain ⟨h1, hf⟩ := ckp_el hf
    refine lv_idiv C.1 C.2.1 dX8_tellNumber_4 (nz_el h1) ?_
    refine lv_bipush (v := 9) C.1 C.2.1 dX8_tellNumber_5 (by decide) ?_
    refine lv_icmp_le (tgt := 18) C.1 C.2.1 dX8_tellNumber_7 (by decide) (fun q2 => ?_) (fun q2 => ?_)
    · replace hf := (if_pos q2).symm.trans hf
      exact lX8_tellNumber_18 C hr hlocks N _ _ _ _ hf _ _ _ hW (lv_sub hl [0, 1, 2] rfl)
    · replace hf := (if_neg q2).symm.trans hf
      refine lv_bipush (v := 10) C.1 C.2.1 dX8_tellNumber_10 (by decide) ?_
      refine lv_iload_n C.1 C.2.1 dX8_tellNumber_12 rfl (lv_at hl 2 rfl) ?_
      refine lv_imul C.1 C.2.1 dX8_tellNumber_13 ?_
      obtain ⟨z3, ez3, hf⟩ := bnd_el hf
      refine lv_as ez3 ?_
      refine lv_istore_n (lv' := [(2, .int z3), (0, .ref (a 99)), (1, .int x1)]) C.1 C.2.1 dX8_tellNumber_14 rfl hl (by decide) rfl (fun ls hl => ?_)
      refine lv_goto (tgt := 2) C.1 C.2.1 dX8_tellNumber_15 (by decide) ?_
      exact ih _ _ _ hf _ _ _ hW (lv_sub hl [1, 2, 0] rfl)
def fX8_tellNumber (N : Nat) (S : St) (p1 : Int32) : Option (St) :=
  bnd (1 : Int32) fun z1 =>
  fX8_tellNumber_2 N (S, p1, z1)
set_option maxHeartbeats 4000000 in
set_option maxRecDepth 100000 in
theorem cX8_tellNumber_met (l : Launch) (D : va_G) (cy : Nat → ClassId) (a r : Nat → Nat) (sz N : Nat) (S : St) (p1 : Int32) (Rr : St) (hf : fX8_tellNumber N S p1 = some Rr) : Met l yX8_tellNumber wsX8_tellNumber ({ frames := 1, cells := 0, slots := 0, locals := 21 } : Room) (va_Pc [.ref (a 99), .int p1] (preW D cy (wM cy a r S) sz)) (QV D cy (wM cy a r) (va_A (wM cy a r S) sz) Rr) 0 0 (va_A (wM cy a r S) sz) := by
  refine Met.ofW (cc := cX8_tellNumber) (maxL := 3) (ret := none) (by decide) rfl ?_
  intro p e s m args below meth c s₁ B hml hv
  obtain ⟨rfl, rfl, hP, hK, hD0, hN⟩ := hv
  have hlocks := B.notSynchronized
  have hr := B.returns
  have C : Cx p s m _ c cX8_tellNumber 3 wsX8_tellNumber RX8 D cy := ⟨B.exec, B.bytes, hml, findClass_of_methodNamed B.named, atoms_spec (ws := wsX8_tellNumber) B.pre, hK, hN⟩
  have hW := ww_start (w := wM cy a r) hP hD0
  generalize va_A (wM cy a r S) s.heap.size = A at hW ⊢
  have hl := lv_entry ([.ref (a 99), .int p1]) (n := 3) (Nat.le_of_ble_eq_true rfl)
  rw [lg_entry_eq]
  generalize (lg_sl ([.ref (a 99), .int p1]) ++ List.replicate (3 - (lg_sl ([.ref (a 99), .int p1])).length) Slot.unset).toArray = ls at hl ⊢
  have hl : lv_has ls 3 [(0, .ref (a 99)), (1, .int p1)] := hl
  unfold fX8_tellNumber at hf
  refine lv_iconst (v := 1) C.1 C.2.1 dX8_tellNumber_0 (by decide) ?_
  obtain ⟨z1, ez1, hf⟩ := bnd_el hf
  refine lv_as ez1 ?_
  refine lv_istore_n (lv' := [(2, .int z1), (0, .ref (a 99)), (1, .int p1)]) C.1 C.2.1 dX8_tellNumber_1 rfl hl (by decide) rfl (fun ls hl => ?_)
  exact lX8_tellNumber_2 C hr hlocks N _ _ _ _ hf _ _ _ hW (lv_sub hl [1, 2, 0] rfl)
theorem mX8_after_207 : Cond.fieldLink RX8 207 "SharedLambdaModel" "later" "[I" ∈ wsX8_after := by decide +kernel
theorem mX8_after_278 : Cond.fieldLink RX8 278 "SharedLambdaModel" "laters" "I" ∈ wsX8_after := by decide +kernel
theorem mX8_after_210 : Cond.fieldLink RX8 210 "SharedLambdaModel" "laterContexts" "[I" ∈ wsX8_after := by decide +kernel
theorem kX8_after_8 : ∀ w ∈ u_ws RX8 TX8 58, w ∈ wsX8_after := fun _ h => List.mem_cons_of_mem _ (List.mem_append_right _ h)
def fX8_after (N : Nat) (S : St) (p1 : Int32) (p2 : Int32) : Option (St) :=
  ckx (S.1 57) 8010 <|
  bnd (sA S 55 (upd (S.2.1 55) (S.1 57 : Int32).toNatClampNeg p1)) fun S2 =>
  ckx (S2.1 57) 8010 <|
  bnd (sA S2 56 (upd (S2.2.1 56) (S2.1 57 : Int32).toNatClampNeg p2)) fun S4 =>
  bnd (sI S4 57 ((S4.1 57 + (1 : Int32)))) fun S5 =>
  some S5
set_option maxHeartbeats 4000000 in
set_option maxRecDepth 100000 in
theorem cX8_after_met (l : Launch) (D : va_G) (cy : Nat → ClassId) (a r : Nat → Nat) (sz N : Nat) (S : St) (p1 : Int32) (p2 : Int32) (Rr : St) (hf : fX8_after N S p1 p2 = some Rr) : Met l yX8_after wsX8_after ({ frames := 0, cells := 0, slots := 0, locals := 0 } : Room) (va_Pc [.ref (a 99), .int p1, .int p2] (preW D cy (wM cy a r S) sz)) (QV D cy (wM cy a r) (va_A (wM cy a r S) sz) Rr) 0 0 (va_A (wM cy a r S) sz) := by
  refine Met.ofW (cc := cX8_after) (maxL := 3) (ret := none) (by decide) rfl ?_
  intro p e s m args below meth c s₁ B hml hv
  obtain ⟨rfl, rfl, hP, hK, hD0, hN⟩ := hv
  have hlocks := B.notSynchronized
  have hr := B.returns
  have C : Cx p s m _ c cX8_after 3 wsX8_after RX8 D cy := ⟨B.exec, B.bytes, hml, findClass_of_methodNamed B.named, atoms_spec (ws := wsX8_after) B.pre, hK, hN⟩
  have hW := ww_start (w := wM cy a r) hP hD0
  generalize va_A (wM cy a r S) s.heap.size = A at hW ⊢
  have hl := lv_entry ([.ref (a 99), .int p1, .int p2]) (n := 3) (Nat.le_of_ble_eq_true rfl)
  rw [lg_entry_eq]
  generalize (lg_sl ([.ref (a 99), .int p1, .int p2]) ++ List.replicate (3 - (lg_sl ([.ref (a 99), .int p1, .int p2])).length) Slot.unset).toArray = ls at hl ⊢
  have hl : lv_has ls 3 [(0, .ref (a 99)), (1, .int p1), (2, .int p2)] := hl
  unfold fX8_after at hf
  refine lv_aload_n C.1 C.2.1 dX8_after_0 rfl (lv_at hl 0 rfl) ?_
  refine fg_8_55 C kX8_after_8 mX8_after_207 hW dX8_after_1 ?_
  refine lv_aload_n C.1 C.2.1 dX8_after_4 rfl (lv_at hl 0 rfl) ?_
  refine fg_8_57 C kX8_after_8 mX8_after_278 hW dX8_after_5 ?_
  refine lv_iload_n C.1 C.2.1 dX8_after_8 rfl (lv_at hl 1 rfl) ?_
  obtain ⟨h1, hf⟩ := ckx_el hf
  obtain ⟨S2, eS2, hf⟩ := bnd_el hf
  refine as_8_55 C hW h1 dX8_after_9 eS2 (fun H locs hW => ?_)
  refine lv_aload_n C.1 C.2.1 dX8_after_10 rfl (lv_at hl 0 rfl) ?_
  refine fg_8_56 C kX8_after_8 mX8_after_210 hW dX8_after_11 ?_
  refine lv_aload_n C.1 C.2.1 dX8_after_14 rfl (lv_at hl 0 rfl) ?_
  refine fg_8_57 C kX8_after_8 mX8_after_278 hW dX8_after_15 ?_
  refine lv_iload_n C.1 C.2.1 dX8_after_18 rfl (lv_at hl 2 rfl) ?_
  obtain ⟨h3, hf⟩ := ckx_el hf
  obtain ⟨S4, eS4, hf⟩ := bnd_el hf
  refine as_8_56 C hW h3 dX8_after_19 eS4 (fun H locs hW => ?_)
  refine lv_aload_n C.1 C.2.1 dX8_after_20 rfl (lv_at hl 0 rfl) ?_
  refine lv_dup C.1 C.2.1 dX8_after_21 rfl ?_
  refine fg_8_57 C kX8_after_8 mX8_after_278 hW dX8_after_22 ?_
  refine lv_iconst (v := 1) C.1 C.2.1 dX8_after_25 (by decide) ?_
  refine lv_iadd C.1 C.2.1 dX8_after_26 ?_
  obtain ⟨S5, eS5, hf⟩ := bnd_el hf
  refine fp_8_57 C kX8_after_8 mX8_after_278 hW dX8_after_27 eS5 (fun H locs hW => ?_)
  exact mrV C hr hlocks hf hW dX8_after_30
theorem mX8_goOn_278 : Cond.fieldLink RX8 278 "SharedLambdaModel" "laters" "I" ∈ wsX8_goOn := by decide +kernel
theorem mX8_goOn_207 : Cond.fieldLink RX8 207 "SharedLambdaModel" "later" "[I" ∈ wsX8_goOn := by decide +kernel
theorem mX8_goOn_210 : Cond.fieldLink RX8 210 "SharedLambdaModel" "laterContexts" "[I" ∈ wsX8_goOn := by decide +kernel
theorem mX8_goOn_284 : Cond.fieldLink RX8 284 "SharedLambdaModel" "context" "I" ∈ wsX8_goOn := by decide +kernel
theorem mX8_goOn_287 : Cond.fieldLink RX8 287 "SharedLambdaModel" "out" "I" ∈ wsX8_goOn := by decide +kernel
theorem mX8_goOn_281 : Cond.fieldLink RX8 281 "SharedLambdaModel" "abstracted" "I" ∈ wsX8_goOn := by decide +kernel
theorem kX8_goOn_8 : ∀ w ∈ u_ws RX8 TX8 58, w ∈ wsX8_goOn := fun _ h => List.mem_cons_of_mem _ (List.mem_append_right _ h)
def fX8_goOn_98 (N : Nat) (k0 : St → Option (Int32 × St)) (S : St) : Option (Int32 × St) :=
  k0 (S)
set_option maxHeartbeats 4000000 in
set_option maxRecDepth 100000 in
theorem lX8_goOn_98 {p : Program} {l : Launch} {e : Env} {s : State} {m : MethodId} {args : Array Value} {below : List Frame} {meth : Method} {c : Code} {D : va_G} {cy : Nat → ClassId} {a r : Nat → Nat} {A : Nat → Prop} {Rr : Int32 × St} (C : Cx p s m args c cX8_goOn 2 wsX8_goOn RX8 D cy) (hr : meth.sig.returnType = some .int) (hlocks : meth.locks = false) (N : Nat) (k0 : St → Option (Int32 × St)) (hk0 : ∀ (S : St), k0 (S) = some Rr → ∀ (H : Heap) (locs : List Loc) (ls : Array Slot), WW D A s.heap (wM cy a r S) H locs → lv_has ls 2 [(0, .ref (a 99))] → W p l e ({ frames := 1, cells := 0, slots := 0, locals := 22 } : Room) s m args below meth c H locs 0 0 (MQ below (QI D cy (wM cy a r) A Rr) args s 0 0 A) (F0 m 0 ls [])) (S : St) (hf : fX8_goOn_98 N k0 S = some Rr) : ∀ (H : Heap) (locs : List Loc) (ls : Array Slot), WW D A s.heap (wM cy a r S) H locs → lv_has ls 2 [(0, .ref (a 99))] → W p l e ({ frames := 1, cells := 0, slots := 0, locals := 22 } : Room) s m args below meth c H locs 0 0 (MQ below (QI D cy (wM cy a r) A Rr) args s 0 0 A) (F0 m 98 ls []) := by
  intro H locs ls hW hl
  unfold fX8_goOn_98 at hf
  refine lv_goto (tgt := 0) C.1 C.2.1 dX8_goOn_98 (by decide) ?_
  exact hk0 _ hf _ _ _ hW (lv_sub hl [0] rfl)
def fX8_goOn_0s (N : Nat) (k0 : St → Option (Int32 × St)) (S : St) : Option (Int32 × St) :=
  if S.1 57 ≤ 0 then
    some ((0 : Int32), S)
  else
    bnd (sI S 57 ((S.1 57 - (1 : Int32)))) fun S2 =>
    ckx (S2.1 57) 8010 <|
    bnd (S2.2.1 55 (S2.1 57 : Int32).toNatClampNeg) fun z4 =>
    if z4 = (-1 : Int32) then
      bnd (sI S2 54 ((S2.1 54 - (1 : Int32)))) fun S19 =>
      fX8_goOn_98 N k0 S19
    else
      if z4 = (-2 : Int32) then
        bdo (fX8_tell N S2 (41 : Int32)) fun S18 =>
        fX8_goOn_98 N k0 S18
      else
        bdo (fX8_tell N S2 (32 : Int32)) fun S9 =>
        ckx (S9.1 57) 8010 <|
        bnd (sI S9 48 (S9.2.1 56 (S9.1 57 : Int32).toNatClampNeg)) fun S11 =>
        bnd (sI S11 49 ((((3 : Int32) * z4) + (2 : Int32)))) fun S12 =>
        bdo (fX8_after N S12 (-2 : Int32) (0 : Int32)) fun S15 =>
        some ((6 : Int32), S15)
def fX8_goOn_0 (N : Nat) : St → Option (Int32 × St) := loopN (fun k x => fX8_goOn_0s N k x) N
set_option maxHeartbeats 4000000 in
set_option maxRecDepth 100000 in
theorem lX8_goOn_0 {p : Program} {l : Launch} {e : Env} {s : State} {m : MethodId} {args : Array Value} {below : List Frame} {meth : Method} {c : Code} {D : va_G} {cy : Nat → ClassId} {a r : Nat → Nat} {A : Nat → Prop} {Rr : Int32 × St} (C : Cx p s m args c cX8_goOn 2 wsX8_goOn RX8 D cy) (hr : meth.sig.returnType = some .int) (hlocks : meth.locks = false) (N : Nat) : ∀ (n : Nat) (S : St), loopN (fun k x => fX8_goOn_0s N k x) n (S) = some Rr → ∀ (H : Heap) (locs : List Loc) (ls : Array Slot), WW D A s.heap (wM cy a r S) H locs → lv_has ls 2 [(0, .ref (a 99))] → W p l e ({ frames := 1, cells := 0, slots := 0, locals := 22 } : Room) s m args below meth c H locs 0 0 (MQ below (QI D cy (wM cy a r) A Rr) args s 0 0 A) (F0 m 0 ls []) := by
  intro n
  induction n with
  | zero =>
    intro S hf
    cases hf
  | succ n ih =>
    intro S hf H locs ls hW hl
    have hf : fX8_goOn_0s N (loopN (fun k x => fX8_goOn_0s N k x) n) S = some Rr := hf
    unfold fX8_goOn_0s at hf
    refine lv_aload_n C.1 C.2.1 dX8_goOn_0 rfl (lv_at hl 0 rfl) ?_
    refine fg_8_57 C kX8_goOn_8 mX8_goOn_278 hW dX8_goOn_1 ?_
    refine lv_if_le (tgt := 101) C.1 C.2.1 dX8_goOn_4 (by decide) (fun q1 => ?_) (fun q1 => ?_)
    · replace hf := (if_pos q1).symm.trans hf
      refine lv_iconst (v := 0) C.1 C.2.1 dX8_goOn_101 (by decide) ?_
      exact mrI C hr hlocks rfl hf hW dX8_goOn_102
    · replace hf := (if_neg q1).symm.trans hf
      refine lv_aload_n C.1 C.2.1 dX8_goOn_7 rfl (lv_at hl 0 rfl) ?_
      refine lv_dup C.1 C.2.1 dX8_goOn_8 rfl ?_
      refine fg_8_57 C kX8_goOn_8 mX8_goOn_278 hW dX8_goOn_9 ?_
      refine lv_iconst (v := 1) C.1 C.2.1 dX8_goOn_12 (by decide) ?_
      refine lv_isub C.1 C.2.1 dX8_goOn_13 ?_
      obtain ⟨S2, eS2, hf⟩ := bnd_el hf
      refine fp_8_57 C kX8_goOn_8 mX8_goOn_278 hW dX8_goOn_14 eS2 (fun H locs hW => ?_)
      refine lv_aload_n C.1 C.2.1 dX8_goOn_17 rfl (lv_at hl 0 rfl) ?_
      refine fg_8_55 C kX8_goOn_8 mX8_goOn_207 hW dX8_goOn_18 ?_
      refine lv_aload_n C.1 C.2.1 dX8_goOn_21 rfl (lv_at hl 0 rfl) ?_
      refine fg_8_57 C kX8_goOn_8 mX8_goOn_278 hW dX8_goOn_22 ?_
      obtain ⟨h3, hf⟩ := ckx_el hf
      refine al_8_55 C hW h3 dX8_goOn_25 ?_
      obtain ⟨z4, ez4, hf⟩ := bnd_el hf
      refine lv_as ez4 ?_
      refine lv_istore_n (lv' := [(1, .int z4), (0, .ref (a 99))]) C.1 C.2.1 dX8_goOn_26 rfl hl (by decide) rfl (fun ls hl => ?_)
      refine lv_iload_n C.1 C.2.1 dX8_goOn_27 rfl (lv_at hl 0 rfl) ?_
      refine lv_iconst (v := -1) C.1 C.2.1 dX8_goOn_28 (by decide) ?_
      refine lv_icmp_ne (tgt := 45) C.1 C.2.1 dX8_goOn_29 (by decide) (fun q5 => ?_) (fun q5 => ?_)
      · replace hf := (if_neg q5).symm.trans hf
        refine lv_iload_n C.1 C.2.1 dX8_goOn_45 rfl (lv_at hl 0 rfl) ?_
        refine lv_bipush (v := -2) C.1 C.2.1 dX8_goOn_46 (by decide) ?_
        refine lv_icmp_ne (tgt := 60) C.1 C.2.1 dX8_goOn_48 (by decide) (fun q6 => ?_) (fun q6 => ?_)
        · replace hf := (if_neg q6).symm.trans hf
          refine lv_aload_n C.1 C.2.1 dX8_goOn_60 rfl (lv_at hl 1 rfl) ?_
          refine lv_bipush (v := 32) C.1 C.2.1 dX8_goOn_61 (by decide) ?_
          obtain ⟨S9, h8, hf⟩ := bdo_el hf
          refine mcVv (w := wM cy a r) (S := S2) (As := [.int (32 : Int32)]) (rest := []) (q0 := 0) (ci := 8) C (cX8_tell_met l D cy a r _ N S2 (32 : Int32) S9 h8) (cwV 1 C.2.2.2.2.1 gX8_goOn_X8_tell rfl rfl rfl (by decide +kernel) ⟨Nat.le_of_ble_eq_true rfl, Nat.le_of_ble_eq_true rfl⟩) rfl rfl rfl hl.1 (Nat.le_of_ble_eq_true rfl) hW dX8_goOn_63 ⟨Nat.zero_le _, Nat.zero_le _⟩ rfl (fun H locs hW => ?_)
          refine lv_aload_n C.1 C.2.1 dX8_goOn_66 rfl (lv_at hl 1 rfl) ?_
          refine lv_aload_n C.1 C.2.1 dX8_goOn_67 rfl (lv_at hl 1 rfl) ?_
          refine fg_8_56 C kX8_goOn_8 mX8_goOn_210 hW dX8_goOn_68 ?_
          refine lv_aload_n C.1 C.2.1 dX8_goOn_71 rfl (lv_at hl 1 rfl) ?_
          refine fg_8_57 C kX8_goOn_8 mX8_goOn_278 hW dX8_goOn_72 ?_
          obtain ⟨h10, hf⟩ := ckx_el hf
          refine al_8_56 C hW h10 dX8_goOn_75 ?_
          obtain ⟨S11, eS11, hf⟩ := bnd_el hf
          refine fp_8_48 C kX8_goOn_8 mX8_goOn_284 hW dX8_goOn_76 eS11 (fun H locs hW => ?_)
          refine lv_aload_n C.1 C.2.1 dX8_goOn_79 rfl (lv_at hl 1 rfl) ?_
          refine lv_iconst (v := 3) C.1 C.2.1 dX8_goOn_80 (by decide) ?_
          refine lv_iload_n C.1 C.2.1 dX8_goOn_81 rfl (lv_at hl 0 rfl) ?_
          refine lv_imul C.1 C.2.1 dX8_goOn_82 ?_
          refine lv_iconst (v := 2) C.1 C.2.1 dX8_goOn_83 (by decide) ?_
          refine lv_iadd C.1 C.2.1 dX8_goOn_84 ?_
          obtain ⟨S12, eS12, hf⟩ := bnd_el hf
          refine fp_8_49 C kX8_goOn_8 mX8_goOn_287 hW dX8_goOn_85 eS12 (fun H locs hW => ?_)
          refine lv_aload_n C.1 C.2.1 dX8_goOn_88 rfl (lv_at hl 1 rfl) ?_
          refine lv_bipush (v := -2) C.1 C.2.1 dX8_goOn_89 (by decide) ?_
          refine lv_iconst (v := 0) C.1 C.2.1 dX8_goOn_91 (by decide) ?_
          obtain ⟨S15, h14, hf⟩ := bdo_el hf
          refine mcVv (w := wM cy a r) (S := S12) (As := [.int (-2 : Int32), .int (0 : Int32)]) (rest := []) (q0 := 0) (ci := 8) C (cX8_after_met l D cy a r _ N S12 (-2 : Int32) (0 : Int32) S15 h14) (cwV 2 C.2.2.2.2.1 gX8_goOn_X8_after rfl rfl rfl (by decide +kernel) ⟨Nat.le_of_ble_eq_true rfl, Nat.le_of_ble_eq_true rfl⟩) rfl rfl rfl hl.1 (Nat.le_of_ble_eq_true rfl) hW dX8_goOn_92 ⟨Nat.zero_le _, Nat.zero_le _⟩ rfl (fun H locs hW => ?_)
          refine lv_bipush (v := 6) C.1 C.2.1 dX8_goOn_95 (by decide) ?_
          exact mrI C hr hlocks rfl hf hW dX8_goOn_97
        · replace hf := (if_pos q6).symm.trans hf
          refine lv_aload_n C.1 C.2.1 dX8_goOn_51 rfl (lv_at hl 1 rfl) ?_
          refine lv_bipush (v := 41) C.1 C.2.1 dX8_goOn_52 (by decide) ?_
          obtain ⟨S18, h17, hf⟩ := bdo_el hf
          refine mcVv (w := wM cy a r) (S := S2) (As := [.int (41 : Int32)]) (rest := []) (q0 := 0) (ci := 8) C (cX8_tell_met l D cy a r _ N S2 (41 : Int32) S18 h17) (cwV 1 C.2.2.2.2.1 gX8_goOn_X8_tell rfl rfl rfl (by decide +kernel) ⟨Nat.le_of_ble_eq_true rfl, Nat.le_of_ble_eq_true rfl⟩) rfl rfl rfl hl.1 (Nat.le_of_ble_eq_true rfl) hW dX8_goOn_54 ⟨Nat.zero_le _, Nat.zero_le _⟩ rfl (fun H locs hW => ?_)
          refine lv_goto (tgt := 98) C.1 C.2.1 dX8_goOn_57 (by decide) ?_
          exact lX8_goOn_98 C hr hlocks N _ ih _ hf _ _ _ hW (lv_sub hl [1] rfl)
      · replace hf := (if_pos q5).symm.trans hf
        refine lv_aload_n C.1 C.2.1 dX8_goOn_32 rfl (lv_at hl 1 rfl) ?_
        refine lv_dup C.1 C.2.1 dX8_goOn_33 rfl ?_
        refine fg_8_54 C kX8_goOn_8 mX8_goOn_281 hW dX8_goOn_34 ?_
        refine lv_iconst (v := 1) C.1 C.2.1 dX8_goOn_37 (by decide) ?_
        refine lv_isub C.1 C.2.1 dX8_goOn_38 ?_
        obtain ⟨S19, eS19, hf⟩ := bnd_el hf
        refine fp_8_54 C kX8_goOn_8 mX8_goOn_281 hW dX8_goOn_39 eS19 (fun H locs hW => ?_)
        refine lv_goto (tgt := 98) C.1 C.2.1 dX8_goOn_42 (by decide) ?_
        exact lX8_goOn_98 C hr hlocks N _ ih _ hf _ _ _ hW (lv_sub hl [1] rfl)
def fX8_goOn (N : Nat) (S : St) : Option (Int32 × St) :=
  fX8_goOn_0 N (S)
set_option maxHeartbeats 4000000 in
set_option maxRecDepth 100000 in
theorem cX8_goOn_met (l : Launch) (D : va_G) (cy : Nat → ClassId) (a r : Nat → Nat) (sz N : Nat) (S : St) (Rr : Int32 × St) (hf : fX8_goOn N S  = some Rr) : Met l yX8_goOn wsX8_goOn ({ frames := 1, cells := 0, slots := 0, locals := 22 } : Room) (va_Pc [.ref (a 99)] (preW D cy (wM cy a r S) sz)) (QI D cy (wM cy a r) (va_A (wM cy a r S) sz) Rr) 0 0 (va_A (wM cy a r S) sz) := by
  refine Met.ofW (cc := cX8_goOn) (maxL := 2) (ret := (some .int)) (by decide) rfl ?_
  intro p e s m args below meth c s₁ B hml hv
  obtain ⟨rfl, rfl, hP, hK, hD0, hN⟩ := hv
  have hlocks := B.notSynchronized
  have hr := B.returns
  have C : Cx p s m _ c cX8_goOn 2 wsX8_goOn RX8 D cy := ⟨B.exec, B.bytes, hml, findClass_of_methodNamed B.named, atoms_spec (ws := wsX8_goOn) B.pre, hK, hN⟩
  have hW := ww_start (w := wM cy a r) hP hD0
  generalize va_A (wM cy a r S) s.heap.size = A at hW ⊢
  have hl := lv_entry ([.ref (a 99)]) (n := 2) (Nat.le_of_ble_eq_true rfl)
  rw [lg_entry_eq]
  generalize (lg_sl ([.ref (a 99)]) ++ List.replicate (2 - (lg_sl ([.ref (a 99)])).length) Slot.unset).toArray = ls at hl ⊢
  have hl : lv_has ls 2 [(0, .ref (a 99))] := hl
  unfold fX8_goOn at hf
  exact lX8_goOn_0 C hr hlocks N _ _ hf _ _ _ hW (lv_sub hl [0] rfl)
theorem mX8_variable_281 : Cond.fieldLink RX8 281 "SharedLambdaModel" "abstracted" "I" ∈ wsX8_variable := by decide +kernel
theorem mX8_variable_201 : Cond.fieldLink RX8 201 "SharedLambdaModel" "abstractions" "[I" ∈ wsX8_variable := by decide +kernel
theorem mX8_variable_204 : Cond.fieldLink RX8 204 "SharedLambdaModel" "contexts" "[I" ∈ wsX8_variable := by decide +kernel
theorem mX8_variable_284 : Cond.fieldLink RX8 284 "SharedLambdaModel" "context" "I" ∈ wsX8_variable := by decide +kernel
theorem mX8_variable_101 : Cond.fieldLink RX8 101 "SharedLambdaModel" "indexes" "[I" ∈ wsX8_variable := by decide +kernel
theorem kX8_variable_8 : ∀ w ∈ u_ws RX8 TX8 58, w ∈ wsX8_variable := fun _ h => List.mem_cons_of_mem _ (List.mem_append_right _ h)
def fX8_variable_50 (N : Nat) (S : St) (x2 : Int32) : Option (Int32 × St) :=
  if 0 ≤ x2 then
    bdo (fX8_tellNumber N S (((S.1 54 - (1 : Int32)) - x2))) fun S4 =>
    bd2 (fX8_goOn N S4) fun v5 S7 =>
    some (v5, S7)
  else
    some ((4 : Int32), S)
set_option maxHeartbeats 4000000 in
set_option maxRecDepth 100000 in
theorem lX8_variable_50 {p : Program} {l : Launch} {e : Env} {s : State} {m : MethodId} {args : Array Value} {below : List Frame} {meth : Method} {c : Code} {D : va_G} {cy : Nat → ClassId} {a r : Nat → Nat} {A : Nat → Prop} {Rr : Int32 × St} (C : Cx p s m args c cX8_variable 3 wsX8_variable RX8 D cy) (hr : meth.sig.returnType = some .int) (hlocks : meth.locks = false) (N : Nat) (S : St) (x2 : Int32) (hf : fX8_variable_50 N S x2 = some Rr) : ∀ (H : Heap) (locs : List Loc) (ls : Array Slot), WW D A s.heap (wM cy a r S) H locs → lv_has ls 3 [(0, .ref (a 99)), (2, .int x2)] → W p l e ({ frames := 2, cells := 0, slots := 0, locals := 47 } : Room) s m args below meth c H locs 0 0 (MQ below (QI D cy (wM cy a r) A Rr) args s 0 0 A) (F0 m 50 ls []) := by
  intro H locs ls hW hl
  unfold fX8_variable_50 at hf
  refine lv_iload_n C.1 C.2.1 dX8_variable_50 rfl (lv_at hl 1 rfl) ?_
  refine lv_if_ge (tgt := 56) C.1 C.2.1 dX8_variable_51 (by decide) (fun q1 => ?_) (fun q1 => ?_)
  · replace hf := (if_pos q1).symm.trans hf
    refine lv_aload_n C.1 C.2.1 dX8_variable_56 rfl (lv_at hl 0 rfl) ?_
    refine lv_aload_n C.1 C.2.1 dX8_variable_57 rfl (lv_at hl 0 rfl) ?_
    refine fg_8_54 C kX8_variable_8 mX8_variable_281 hW dX8_variable_58 ?_
    refine lv_iconst (v := 1) C.1 C.2.1 dX8_variable_61 (by decide) ?_
    refine lv_isub C.1 C.2.1 dX8_variable_62 ?_
    refine lv_iload_n C.1 C.2.1 dX8_variable_63 rfl (lv_at hl 1 rfl) ?_
    refine lv_isub C.1 C.2.1 dX8_variable_64 ?_
    obtain ⟨S4, h3, hf⟩ := bdo_el hf
    refine mcVv (w := wM cy a r) (S := S) (As := [.int (((S.1 54 - (1 : Int32)) - x2))]) (rest := []) (q0 := 0) (ci := 8) C (cX8_tellNumber_met l D cy a r _ N S (((S.1 54 - (1 : Int32)) - x2)) S4 h3) (cwV 1 C.2.2.2.2.1 gX8_variable_X8_tellNumber rfl rfl rfl (by decide +kernel) ⟨Nat.le_of_ble_eq_true rfl, Nat.le_of_ble_eq_true rfl⟩) rfl rfl rfl hl.1 (Nat.le_of_ble_eq_true rfl) hW dX8_variable_65 ⟨Nat.zero_le _, Nat.zero_le _⟩ rfl (fun H locs hW => ?_)
    refine lv_aload_n C.1 C.2.1 dX8_variable_68 rfl (lv_at hl 0 rfl) ?_
    obtain ⟨v5, S7, h6, hf⟩ := bd2_el hf
    refine mcVi (w := wM cy a r) (S := S4) (As := []) (rest := []) (q0 := 0) (ci := 8) C (cX8_goOn_met l D cy a r _ N S4  (v5, S7) h6) (cwV 0 C.2.2.2.2.1 gX8_variable_X8_goOn rfl rfl rfl (by decide +kernel) ⟨Nat.le_of_ble_eq_true rfl, Nat.le_of_ble_eq_true rfl⟩) rfl rfl rfl hl.1 (Nat.le_of_ble_eq_true rfl) hW dX8_variable_69 ⟨Nat.zero_le _, Nat.zero_le _⟩ rfl (fun H locs hW => ?_)
    exact mrI C hr hlocks rfl hf hW dX8_variable_72
  · replace hf := (if_neg q1).symm.trans hf
    refine lv_iconst (v := 4) C.1 C.2.1 dX8_variable_54 (by decide) ?_
    exact mrI C hr hlocks rfl hf hW dX8_variable_55
def fX8_variable_44 (N : Nat) (k7 : St × Int32 × Int32 → Option (Int32 × St)) (S : St) (x1 : Int32) (x2 : Int32) : Option (Int32 × St) :=
  bnd (x2 + (-1 : Int32)) fun z1 =>
  k7 (S, x1, z1)
set_option maxHeartbeats 4000000 in
set_option maxRecDepth 100000 in
theorem lX8_variable_44 {p : Program} {l : Launch} {e : Env} {s : State} {m : MethodId} {args : Array Value} {below : List Frame} {meth : Method} {c : Code} {D : va_G} {cy : Nat → ClassId} {a r : Nat → Nat} {A : Nat → Prop} {Rr : Int32 × St} (C : Cx p s m args c cX8_variable 3 wsX8_variable RX8 D cy) (hr : meth.sig.returnType = some .int) (hlocks : meth.locks = false) (N : Nat) (k7 : St × Int32 × Int32 → Option (Int32 × St)) (hk7 : ∀ (S : St) (x1 : Int32) (x2 : Int32), k7 (S, x1, x2) = some Rr → ∀ (H : Heap) (locs : List Loc) (ls : Array Slot), WW D A s.heap (wM cy a r S) H locs → lv_has ls 3 [(0, .ref (a 99)), (1, .int x1), (2, .int x2)] → W p l e ({ frames := 2, cells := 0, slots := 0, locals := 47 } : Room) s m args below meth c H locs 0 0 (MQ below (QI D cy (wM cy a r) A Rr) args s 0 0 A) (F0 m 7 ls [])) (S : St) (x1 : Int32) (x2 : Int32) (hf : fX8_variable_44 N k7 S x1 x2 = some Rr) : ∀ (H : Heap) (locs : List Loc) (ls : Array Slot), WW D A s.heap (wM cy a r S) H locs → lv_has ls 3 [(0, .ref (a 99)), (1, .int x1), (2, .int x2)] → W p l e ({ frames := 2, cells := 0, slots := 0, locals := 47 } : Room) s m args below meth c H locs 0 0 (MQ below (QI D cy (wM cy a r) A Rr) args s 0 0 A) (F0 m 44 ls []) := by
  intro H locs ls hW hl
  unfold fX8_variable_44 at hf
  obtain ⟨z1, ez1, hf⟩ := bnd_el hf
  refine lv_iinc (v := z1) (lv' := [(2, .int z1), (0, .ref (a 99)), (1, .int x1)]) C.1 C.2.1 dX8_variable_44 hl (k := 2) rfl (by rw [ez1]; rfl) (by decide) rfl (fun ls hl => ?_)
  refine lv_goto (tgt := 7) C.1 C.2.1 dX8_variable_47 (by decide) ?_
  exact hk7 _ _ _ hf _ _ _ hW (lv_sub hl [1, 2, 0] rfl)
def fX8_variable_7s (N : Nat) (k7 : St × Int32 × Int32 → Option (Int32 × St)) (S : St) (x1 : Int32) (x2 : Int32) : Option (Int32 × St) :=
  if x2 < 0 then
    fX8_variable_50 N S x2
  else
    ckx x2 4010 <|
    if S.2.1 52 (x2 : Int32).toNatClampNeg = x1 then
      ckx x2 4010 <|
      ckx x1 3010 <|
      bd2 (fX8_areSame N S (S.2.1 53 (x2 : Int32).toNatClampNeg) (S.1 48) (S.2.1 18 (x1 : Int32).toNatClampNeg)) fun v6 S8 =>
      if v6 = 0 then
        fX8_variable_44 N k7 S8 x1 x2
      else
        fX8_variable_50 N S8 x2
    else
      fX8_variable_44 N k7 S x1 x2
def fX8_variable_7 (N : Nat) : St × Int32 × Int32 → Option (Int32 × St) := loopN (fun k x => fX8_variable_7s N k x.1 x.2.1 x.2.2) N
set_option maxHeartbeats 4000000 in
set_option maxRecDepth 100000 in
theorem lX8_variable_7 {p : Program} {l : Launch} {e : Env} {s : State} {m : MethodId} {args : Array Value} {below : List Frame} {meth : Method} {c : Code} {D : va_G} {cy : Nat → ClassId} {a r : Nat → Nat} {A : Nat → Prop} {Rr : Int32 × St} (C : Cx p s m args c cX8_variable 3 wsX8_variable RX8 D cy) (hr : meth.sig.returnType = some .int) (hlocks : meth.locks = false) (N : Nat) : ∀ (n : Nat) (S : St) (x1 : Int32) (x2 : Int32), loopN (fun k x => fX8_variable_7s N k x.1 x.2.1 x.2.2) n (S, x1, x2) = some Rr → ∀ (H : Heap) (locs : List Loc) (ls : Array Slot), WW D A s.heap (wM cy a r S) H locs → lv_has ls 3 [(0, .ref (a 99)), (1, .int x1), (2, .int x2)] → W p l e ({ frames := 2, cells := 0, slots := 0, locals := 47 } : Room) s m args below meth c H locs 0 0 (MQ below (QI D cy (wM cy a r) A Rr) args s 0 0 A) (F0 m 7 ls []) := by
  intro n
  induction n with
  | zero =>
    intro S x1 x2 hf
    cases hf
  | succ n ih =>
    intro S x1 x2 hf H locs ls hW hl
    have hf : fX8_variable_7s N (loopN (fun k x => fX8_variable_7s N k x.1 x.2.1 x.2.2) n) S x1 x2 = some Rr := hf
    unfold fX8_variable_7s at hf
    refine lv_iload_n C.1 C.2.1 dX8_variable_7 rfl (lv_at hl 2 rfl) ?_
    refine lv_if_lt (tgt := 50) C.1 C.2.1 dX8_variable_8 (by decide) (fun q1 => ?_) (fun q1 => ?_)
    · replace hf := (if_pos q1).symm.trans hf
      exact lX8_variable_50 C hr hlocks N _ _ hf _ _ _ hW (lv_sub hl [0, 2] rfl)
    · replace hf := (if_neg q1).symm.trans hf
      refine lv_aload_n C.1 C.2.1 dX8_variable_11 rfl (lv_at hl 0 rfl) ?_
      refine fg_8_52 C kX8_variable_8 mX8_variable_201 hW dX8_variable_12 ?_
      refine lv_iload_n C.1 C.2.1 dX8_variable_15 rfl (lv_at hl 2 rfl) ?_
      obtain ⟨h2, hf⟩ := ckx_el hf
      refine al_8_52 C hW h2 dX8_variable_16 ?_
      refine lv_iload_n C.1 C.2.1 dX8_variable_17 rfl (lv_at hl 1 rfl) ?_
      refine lv_icmp_ne (tgt := 44) C.1 C.2.1 dX8_variable_18 (by decide) (fun q3 => ?_) (fun q3 => ?_)
      · replace hf := (if_neg q3).symm.trans hf
        exact lX8_variable_44 C hr hlocks N _ ih _ _ _ hf _ _ _ hW (lv_sub hl [0, 1, 2] rfl)
      · replace hf := (if_pos q3).symm.trans hf
        refine lv_aload_n C.1 C.2.1 dX8_variable_21 rfl (lv_at hl 0 rfl) ?_
        refine lv_aload_n C.1 C.2.1 dX8_variable_22 rfl (lv_at hl 0 rfl) ?_
        refine fg_8_53 C kX8_variable_8 mX8_variable_204 hW dX8_variable_23 ?_
        refine lv_iload_n C.1 C.2.1 dX8_variable_26 rfl (lv_at hl 2 rfl) ?_
        obtain ⟨h4, hf⟩ := ckx_el hf
        refine al_8_53 C hW h4 dX8_variable_27 ?_
        refine lv_aload_n C.1 C.2.1 dX8_variable_28 rfl (lv_at hl 0 rfl) ?_
        refine fg_8_48 C kX8_variable_8 mX8_variable_284 hW dX8_variable_29 ?_
        refine lv_aload_n C.1 C.2.1 dX8_variable_32 rfl (lv_at hl 0 rfl) ?_
        refine fg_8_18 C kX8_variable_8 mX8_variable_101 hW dX8_variable_33 ?_
        refine lv_iload_n C.1 C.2.1 dX8_variable_36 rfl (lv_at hl 1 rfl) ?_
        obtain ⟨h5, hf⟩ := ckx_el hf
        refine al_8_18 C hW h5 dX8_variable_37 ?_
        obtain ⟨v6, S8, h7, hf⟩ := bd2_el hf
        refine mcVi (w := wM cy a r) (S := S) (As := [.int (S.2.1 53 (x2 : Int32).toNatClampNeg), .int (S.1 48), .int (S.2.1 18 (x1 : Int32).toNatClampNeg)]) (rest := []) (q0 := 0) (ci := 8) C (cX8_areSame_met l D cy a r _ N S (S.2.1 53 (x2 : Int32).toNatClampNeg) (S.1 48) (S.2.1 18 (x1 : Int32).toNatClampNeg) (v6, S8) h7) (cwV 3 C.2.2.2.2.1 gX8_variable_X8_areSame rfl rfl rfl (by decide +kernel) ⟨Nat.le_of_ble_eq_true rfl, Nat.le_of_ble_eq_true rfl⟩) rfl rfl rfl hl.1 (Nat.le_of_ble_eq_true rfl) hW dX8_variable_38 ⟨Nat.zero_le _, Nat.zero_le _⟩ rfl (fun H locs hW => ?_)
        refine lv_if_ne (tgt := 50) C.1 C.2.1 dX8_variable_41 (by decide) (fun q9 => ?_) (fun q9 => ?_)
        · replace hf := (if_neg q9).symm.trans hf
          exact lX8_variable_50 C hr hlocks N _ _ hf _ _ _ hW (lv_sub hl [0, 2] rfl)
        · replace hf := (if_pos q9).symm.trans hf
          exact lX8_variable_44 C hr hlocks N _ ih _ _ _ hf _ _ _ hW (lv_sub hl [0, 1, 2] rfl)
def fX8_variable (N : Nat) (S : St) (p1 : Int32) : Option (Int32 × St) :=
  bnd ((S.1 54 - (1 : Int32))) fun z1 =>
  fX8_variable_7 N (S, p1, z1)
set_option maxHeartbeats 4000000 in
set_option maxRecDepth 100000 in
theorem cX8_variable_met (l : Launch) (D : va_G) (cy : Nat → ClassId) (a r : Nat → Nat) (sz N : Nat) (S : St) (p1 : Int32) (Rr : Int32 × St) (hf : fX8_variable N S p1 = some Rr) : Met l yX8_variable wsX8_variable ({ frames := 2, cells := 0, slots := 0, locals := 47 } : Room) (va_Pc [.ref (a 99), .int p1] (preW D cy (wM cy a r S) sz)) (QI D cy (wM cy a r) (va_A (wM cy a r S) sz) Rr) 0 0 (va_A (wM cy a r S) sz) := by
  refine Met.ofW (cc := cX8_variable) (maxL := 3) (ret := (some .int)) (by decide) rfl ?_
  intro p e s m args below meth c s₁ B hml hv
  obtain ⟨rfl, rfl, hP, hK, hD0, hN⟩ := hv
  have hlocks := B.notSynchronized
  have hr := B.returns
  have C : Cx p s m _ c cX8_variable 3 wsX8_variable RX8 D cy := ⟨B.exec, B.bytes, hml, findClass_of_methodNamed B.named, atoms_spec (ws := wsX8_variable) B.pre, hK, hN⟩
  have hW := ww_start (w := wM cy a r) hP hD0
  generalize va_A (wM cy a r S) s.heap.size = A at hW ⊢
  have hl := lv_entry ([.ref (a 99), .int p1]) (n := 3) (Nat.le_of_ble_eq_true rfl)
  rw [lg_entry_eq]
  generalize (lg_sl ([.ref (a 99), .int p1]) ++ List.replicate (3 - (lg_sl ([.ref (a 99), .int p1])).length) Slot.unset).toArray = ls at hl ⊢
  have hl : lv_has ls 3 [(0, .ref (a 99)), (1, .int p1)] := hl
  unfold fX8_variable at hf
  refine lv_aload_n C.1 C.2.1 dX8_variable_0 rfl (lv_at hl 0 rfl) ?_
  refine fg_8_54 C kX8_variable_8 mX8_variable_281 hW dX8_variable_1 ?_
  refine lv_iconst (v := 1) C.1 C.2.1 dX8_variable_4 (by decide) ?_
  refine lv_isub C.1 C.2.1 dX8_variable_5 ?_
  obtain ⟨z1, ez1, hf⟩ := bnd_el hf
  refine lv_as ez1 ?_
  refine lv_istore_n (lv' := [(2, .int z1), (0, .ref (a 99)), (1, .int p1)]) C.1 C.2.1 dX8_variable_6 rfl hl (by decide) rfl (fun ls hl => ?_)
  exact lX8_variable_7 C hr hlocks N _ _ _ _ hf _ _ _ hW (lv_sub hl [1, 2, 0] rfl)
theorem mX8_atLambda_272 : Cond.fieldLink RX8 272 "SharedLambdaModel" "tells" "I" ∈ wsX8_atLambda := by decide +kernel
theorem mX8_atLambda_201 : Cond.fieldLink RX8 201 "SharedLambdaModel" "abstractions" "[I" ∈ wsX8_atLambda := by decide +kernel
theorem mX8_atLambda_281 : Cond.fieldLink RX8 281 "SharedLambdaModel" "abstracted" "I" ∈ wsX8_atLambda := by decide +kernel
theorem mX8_atLambda_204 : Cond.fieldLink RX8 204 "SharedLambdaModel" "contexts" "[I" ∈ wsX8_atLambda := by decide +kernel
theorem mX8_atLambda_284 : Cond.fieldLink RX8 284 "SharedLambdaModel" "context" "I" ∈ wsX8_atLambda := by decide +kernel
theorem mX8_atLambda_287 : Cond.fieldLink RX8 287 "SharedLambdaModel" "out" "I" ∈ wsX8_atLambda := by decide +kernel
theorem kX8_atLambda_8 : ∀ w ∈ u_ws RX8 TX8 58, w ∈ wsX8_atLambda := fun _ h => List.mem_cons_of_mem _ (List.mem_append_right _ h)
def fX8_atLambda (N : Nat) (S : St) (p1 : Int32) (p2 : Int32) : Option (Int32 × St) :=
  if p2 = (2 : Int32) then
    bd2 (fX8_variable N S p1) fun v16 S18 =>
    some (v16, S18)
  else
    if p2 = (1 : Int32) then
      some ((4 : Int32), S)
    else
      bdo (fX8_tell N S (92 : Int32)) fun S5 =>
      if S5.1 46 ≤ (4000 : Int32) then
        ckx (S5.1 54) 4010 <|
        bnd (sA S5 52 (upd (S5.2.1 52) (S5.1 54 : Int32).toNatClampNeg p1)) fun S8 =>
        ckx (S8.1 54) 4010 <|
        bnd (sA S8 53 (upd (S8.2.1 53) (S8.1 54 : Int32).toNatClampNeg (S8.1 48))) fun S10 =>
        bnd (sI S10 54 ((S10.1 54 + (1 : Int32)))) fun S11 =>
        bdo (fX8_after N S11 (-1 : Int32) (0 : Int32)) fun S14 =>
        bnd (sI S14 49 ((((3 : Int32) * p1) + (1 : Int32)))) fun S15 =>
        some ((6 : Int32), S15)
      else
        some ((3 : Int32), S5)
set_option maxHeartbeats 4000000 in
set_option maxRecDepth 100000 in
theorem cX8_atLambda_met (l : Launch) (D : va_G) (cy : Nat → ClassId) (a r : Nat → Nat) (sz N : Nat) (S : St) (p1 : Int32) (p2 : Int32) (Rr : Int32 × St) (hf : fX8_atLambda N S p1 p2 = some Rr) : Met l yX8_atLambda wsX8_atLambda ({ frames := 3, cells := 0, slots := 0, locals := 69 } : Room) (va_Pc [.ref (a 99), .int p1, .int p2] (preW D cy (wM cy a r S) sz)) (QI D cy (wM cy a r) (va_A (wM cy a r S) sz) Rr) 0 0 (va_A (wM cy a r S) sz) := by
  refine Met.ofW (cc := cX8_atLambda) (maxL := 3) (ret := (some .int)) (by decide) rfl ?_
  intro p e s m args below meth c s₁ B hml hv
  obtain ⟨rfl, rfl, hP, hK, hD0, hN⟩ := hv
  have hlocks := B.notSynchronized
  have hr := B.returns
  have C : Cx p s m _ c cX8_atLambda 3 wsX8_atLambda RX8 D cy := ⟨B.exec, B.bytes, hml, findClass_of_methodNamed B.named, atoms_spec (ws := wsX8_atLambda) B.pre, hK, hN⟩
  have hW := ww_start (w := wM cy a r) hP hD0
  generalize va_A (wM cy a r S) s.heap.size = A at hW ⊢
  have hl := lv_entry ([.ref (a 99), .int p1, .int p2]) (n := 3) (Nat.le_of_ble_eq_true rfl)
  rw [lg_entry_eq]
  generalize (lg_sl ([.ref (a 99), .int p1, .int p2]) ++ List.replicate (3 - (lg_sl ([.ref (a 99), .int p1, .int p2])).length) Slot.unset).toArray = ls at hl ⊢
  have hl : lv_has ls 3 [(0, .ref (a 99)), (1, .int p1), (2, .int p2)] := hl
  unfold fX8_atLambda at hf
  refine lv_iload_n C.1 C.2.1 dX8_atLambda_0 rfl (lv_at hl 2 rfl) ?_
  refine lv_iconst (v := 2) C.1 C.2.1 dX8_atLambda_1 (by decide) ?_
  refine lv_icmp_ne (tgt := 11) C.1 C.2.1 dX8_atLambda_2 (by decide) (fun q1 => ?_) (fun q1 => ?_)
  · replace hf := (if_neg q1).symm.trans hf
    refine lv_iload_n C.1 C.2.1 dX8_atLambda_11 rfl (lv_at hl 2 rfl) ?_
    refine lv_iconst (v := 1) C.1 C.2.1 dX8_atLambda_12 (by decide) ?_
    refine lv_icmp_ne (tgt := 18) C.1 C.2.1 dX8_atLambda_13 (by decide) (fun q2 => ?_) (fun q2 => ?_)
    · replace hf := (if_neg q2).symm.trans hf
      refine lv_aload_n C.1 C.2.1 dX8_atLambda_18 rfl (lv_at hl 0 rfl) ?_
      refine lv_bipush (v := 92) C.1 C.2.1 dX8_atLambda_19 (by decide) ?_
      obtain ⟨S5, h4, hf⟩ := bdo_el hf
      refine mcVv (w := wM cy a r) (S := S) (As := [.int (92 : Int32)]) (rest := []) (q0 := 0) (ci := 8) C (cX8_tell_met l D cy a r _ N S (92 : Int32) S5 h4) (cwV 1 C.2.2.2.2.1 gX8_atLambda_X8_tell rfl rfl rfl (by decide +kernel) ⟨Nat.le_of_ble_eq_true rfl, Nat.le_of_ble_eq_true rfl⟩) rfl rfl rfl hl.1 (Nat.le_of_ble_eq_true rfl) hW dX8_atLambda_21 ⟨Nat.zero_le _, Nat.zero_le _⟩ rfl (fun H locs hW => ?_)
      refine lv_aload_n C.1 C.2.1 dX8_atLambda_24 rfl (lv_at hl 0 rfl) ?_
      refine fg_8_46 C kX8_atLambda_8 mX8_atLambda_272 hW dX8_atLambda_25 ?_
      refine lv_sipush (v := 4000) C.1 C.2.1 dX8_atLambda_28 (by decide) ?_
      refine lv_icmp_le (tgt := 36) C.1 C.2.1 dX8_atLambda_31 (by decide) (fun q6 => ?_) (fun q6 => ?_)
      · replace hf := (if_pos q6).symm.trans hf
        refine lv_aload_n C.1 C.2.1 dX8_atLambda_36 rfl (lv_at hl 0 rfl) ?_
        refine fg_8_52 C kX8_atLambda_8 mX8_atLambda_201 hW dX8_atLambda_37 ?_
        refine lv_aload_n C.1 C.2.1 dX8_atLambda_40 rfl (lv_at hl 0 rfl) ?_
        refine fg_8_54 C kX8_atLambda_8 mX8_atLambda_281 hW dX8_atLambda_41 ?_
        refine lv_iload_n C.1 C.2.1 dX8_atLambda_44 rfl (lv_at hl 1 rfl) ?_
        obtain ⟨h7, hf⟩ := ckx_el hf
        obtain ⟨S8, eS8, hf⟩ := bnd_el hf
        refine as_8_52 C hW h7 dX8_atLambda_45 eS8 (fun H locs hW => ?_)
        refine lv_aload_n C.1 C.2.1 dX8_atLambda_46 rfl (lv_at hl 0 rfl) ?_
        refine fg_8_53 C kX8_atLambda_8 mX8_atLambda_204 hW dX8_atLambda_47 ?_
        refine lv_aload_n C.1 C.2.1 dX8_atLambda_50 rfl (lv_at hl 0 rfl) ?_
        refine fg_8_54 C kX8_atLambda_8 mX8_atLambda_281 hW dX8_atLambda_51 ?_
        refine lv_aload_n C.1 C.2.1 dX8_atLambda_54 rfl (lv_at hl 0 rfl) ?_
        refine fg_8_48 C kX8_atLambda_8 mX8_atLambda_284 hW dX8_atLambda_55 ?_
        obtain ⟨h9, hf⟩ := ckx_el hf
        obtain ⟨S10, eS10, hf⟩ := bnd_el hf
        refine as_8_53 C hW h9 dX8_atLambda_58 eS10 (fun H locs hW => ?_)
        refine lv_aload_n C.1 C.2.1 dX8_atLambda_59 rfl (lv_at hl 0 rfl) ?_
        refine lv_dup C.1 C.2.1 dX8_atLambda_60 rfl ?_
        refine fg_8_54 C kX8_atLambda_8 mX8_atLambda_281 hW dX8_atLambda_61 ?_
        refine lv_iconst (v := 1) C.1 C.2.1 dX8_atLambda_64 (by decide) ?_
        refine lv_iadd C.1 C.2.1 dX8_atLambda_65 ?_
        obtain ⟨S11, eS11, hf⟩ := bnd_el hf
        refine fp_8_54 C kX8_atLambda_8 mX8_atLambda_281 hW dX8_atLambda_66 eS11 (fun H locs hW => ?_)
        refine lv_aload_n C.1 C.2.1 dX8_atLambda_69 rfl (lv_at hl 0 rfl) ?_
        refine lv_iconst (v := -1) C.1 C.2.1 dX8_atLambda_70 (by decide) ?_
        refine lv_iconst (v := 0) C.1 C.2.1 dX8_atLambda_71 (by decide) ?_
        obtain ⟨S14, h13, hf⟩ := bdo_el hf
        refine mcVv (w := wM cy a r) (S := S11) (As := [.int (-1 : Int32), .int (0 : Int32)]) (rest := []) (q0 := 0) (ci := 8) C (cX8_after_met l D cy a r _ N S11 (-1 : Int32) (0 : Int32) S14 h13) (cwV 2 C.2.2.2.2.1 gX8_atLambda_X8_after rfl rfl rfl (by decide +kernel) ⟨Nat.le_of_ble_eq_true rfl, Nat.le_of_ble_eq_true rfl⟩) rfl rfl rfl hl.1 (Nat.le_of_ble_eq_true rfl) hW dX8_atLambda_72 ⟨Nat.zero_le _, Nat.zero_le _⟩ rfl (fun H locs hW => ?_)
        refine lv_aload_n C.1 C.2.1 dX8_atLambda_75 rfl (lv_at hl 0 rfl) ?_
        refine lv_iconst (v := 3) C.1 C.2.1 dX8_atLambda_76 (by decide) ?_
        refine lv_iload_n C.1 C.2.1 dX8_atLambda_77 rfl (lv_at hl 1 rfl) ?_
        refine lv_imul C.1 C.2.1 dX8_atLambda_78 ?_
        refine lv_iconst (v := 1) C.1 C.2.1 dX8_atLambda_79 (by decide) ?_
        refine lv_iadd C.1 C.2.1 dX8_atLambda_80 ?_
        obtain ⟨S15, eS15, hf⟩ := bnd_el hf
        refine fp_8_49 C kX8_atLambda_8 mX8_atLambda_287 hW dX8_atLambda_81 eS15 (fun H locs hW => ?_)
        refine lv_bipush (v := 6) C.1 C.2.1 dX8_atLambda_84 (by decide) ?_
        exact mrI C hr hlocks rfl hf hW dX8_atLambda_86
      · replace hf := (if_neg q6).symm.trans hf
        refine lv_iconst (v := 3) C.1 C.2.1 dX8_atLambda_34 (by decide) ?_
        exact mrI C hr hlocks rfl hf hW dX8_atLambda_35
    · replace hf := (if_pos q2).symm.trans hf
      refine lv_iconst (v := 4) C.1 C.2.1 dX8_atLambda_16 (by decide) ?_
      exact mrI C hr hlocks rfl hf hW dX8_atLambda_17
  · replace hf := (if_pos q1).symm.trans hf
    refine lv_aload_n C.1 C.2.1 dX8_atLambda_5 rfl (lv_at hl 0 rfl) ?_
    refine lv_iload_n C.1 C.2.1 dX8_atLambda_6 rfl (lv_at hl 1 rfl) ?_
    obtain ⟨v16, S18, h17, hf⟩ := bd2_el hf
    refine mcVi (w := wM cy a r) (S := S) (As := [.int p1]) (rest := []) (q0 := 0) (ci := 8) C (cX8_variable_met l D cy a r _ N S p1 (v16, S18) h17) (cwV 1 C.2.2.2.2.1 gX8_atLambda_X8_variable rfl rfl rfl (by decide +kernel) ⟨Nat.le_of_ble_eq_true rfl, Nat.le_of_ble_eq_true rfl⟩) rfl rfl rfl hl.1 (Nat.le_of_ble_eq_true rfl) hW dX8_atLambda_7 ⟨Nat.zero_le _, Nat.zero_le _⟩ rfl (fun H locs hW => ?_)
    exact mrI C hr hlocks rfl hf hW dX8_atLambda_10
theorem mX8_atApplication_272 : Cond.fieldLink RX8 272 "SharedLambdaModel" "tells" "I" ∈ wsX8_atApplication := by decide +kernel
theorem mX8_atApplication_284 : Cond.fieldLink RX8 284 "SharedLambdaModel" "context" "I" ∈ wsX8_atApplication := by decide +kernel
theorem mX8_atApplication_287 : Cond.fieldLink RX8 287 "SharedLambdaModel" "out" "I" ∈ wsX8_atApplication := by decide +kernel
theorem kX8_atApplication_8 : ∀ w ∈ u_ws RX8 TX8 58, w ∈ wsX8_atApplication := fun _ h => List.mem_cons_of_mem _ (List.mem_append_right _ h)
def fX8_atApplication (N : Nat) (S : St) (p1 : Int32) (p2 : Int32) : Option (Int32 × St) :=
  if p2 = (1 : Int32) then
    bdo (fX8_tell N S (40 : Int32)) fun S4 =>
    if S4.1 46 ≤ (4000 : Int32) then
      bdo (fX8_after N S4 p1 (S4.1 48)) fun S8 =>
      bnd (sI S8 49 (((3 : Int32) * p1))) fun S9 =>
      some ((6 : Int32), S9)
    else
      some ((3 : Int32), S4)
  else
    some ((4 : Int32), S)
set_option maxHeartbeats 4000000 in
set_option maxRecDepth 100000 in
theorem cX8_atApplication_met (l : Launch) (D : va_G) (cy : Nat → ClassId) (a r : Nat → Nat) (sz N : Nat) (S : St) (p1 : Int32) (p2 : Int32) (Rr : Int32 × St) (hf : fX8_atApplication N S p1 p2 = some Rr) : Met l yX8_atApplication wsX8_atApplication ({ frames := 1, cells := 0, slots := 0, locals := 22 } : Room) (va_Pc [.ref (a 99), .int p1, .int p2] (preW D cy (wM cy a r S) sz)) (QI D cy (wM cy a r) (va_A (wM cy a r S) sz) Rr) 0 0 (va_A (wM cy a r S) sz) := by
  refine Met.ofW (cc := cX8_atApplication) (maxL := 3) (ret := (some .int)) (by decide) rfl ?_
  intro p e s m args below meth c s₁ B hml hv
  obtain ⟨rfl, rfl, hP, hK, hD0, hN⟩ := hv
  have hlocks := B.notSynchronized
  have hr := B.returns
  have C : Cx p s m _ c cX8_atApplication 3 wsX8_atApplication RX8 D cy := ⟨B.exec, B.bytes, hml, findClass_of_methodNamed B.named, atoms_spec (ws := wsX8_atApplication) B.pre, hK, hN⟩
  have hW := ww_start (w := wM cy a r) hP hD0
  generalize va_A (wM cy a r S) s.heap.size = A at hW ⊢
  have hl := lv_entry ([.ref (a 99), .int p1, .int p2]) (n := 3) (Nat.le_of_ble_eq_true rfl)
  rw [lg_entry_eq]
  generalize (lg_sl ([.ref (a 99), .int p1, .int p2]) ++ List.replicate (3 - (lg_sl ([.ref (a 99), .int p1, .int p2])).length) Slot.unset).toArray = ls at hl ⊢
  have hl : lv_has ls 3 [(0, .ref (a 99)), (1, .int p1), (2, .int p2)] := hl
  unfold fX8_atApplication at hf
  refine lv_iload_n C.1 C.2.1 dX8_atApplication_0 rfl (lv_at hl 2 rfl) ?_
  refine lv_iconst (v := 1) C.1 C.2.1 dX8_atApplication_1 (by decide) ?_
  refine lv_icmp_eq (tgt := 7) C.1 C.2.1 dX8_atApplication_2 (by decide) (fun q1 => ?_) (fun q1 => ?_)
  · replace hf := (if_pos q1).symm.trans hf
    refine lv_aload_n C.1 C.2.1 dX8_atApplication_7 rfl (lv_at hl 0 rfl) ?_
    refine lv_bipush (v := 40) C.1 C.2.1 dX8_atApplication_8 (by decide) ?_
    obtain ⟨S4, h3, hf⟩ := bdo_el hf
    refine mcVv (w := wM cy a r) (S := S) (As := [.int (40 : Int32)]) (rest := []) (q0 := 0) (ci := 8) C (cX8_tell_met l D cy a r _ N S (40 : Int32) S4 h3) (cwV 1 C.2.2.2.2.1 gX8_atApplication_X8_tell rfl rfl rfl (by decide +kernel) ⟨Nat.le_of_ble_eq_true rfl, Nat.le_of_ble_eq_true rfl⟩) rfl rfl rfl hl.1 (Nat.le_of_ble_eq_true rfl) hW dX8_atApplication_10 ⟨Nat.zero_le _, Nat.zero_le _⟩ rfl (fun H locs hW => ?_)
    refine lv_aload_n C.1 C.2.1 dX8_atApplication_13 rfl (lv_at hl 0 rfl) ?_
    refine fg_8_46 C kX8_atApplication_8 mX8_atApplication_272 hW dX8_atApplication_14 ?_
    refine lv_sipush (v := 4000) C.1 C.2.1 dX8_atApplication_17 (by decide) ?_
    refine lv_icmp_le (tgt := 25) C.1 C.2.1 dX8_atApplication_20 (by decide) (fun q5 => ?_) (fun q5 => ?_)
    · replace hf := (if_pos q5).symm.trans hf
      refine lv_aload_n C.1 C.2.1 dX8_atApplication_25 rfl (lv_at hl 0 rfl) ?_
      refine lv_iload_n C.1 C.2.1 dX8_atApplication_26 rfl (lv_at hl 1 rfl) ?_
      refine lv_aload_n C.1 C.2.1 dX8_atApplication_27 rfl (lv_at hl 0 rfl) ?_
      refine fg_8_48 C kX8_atApplication_8 mX8_atApplication_284 hW dX8_atApplication_28 ?_
      obtain ⟨S8, h7, hf⟩ := bdo_el hf
      refine mcVv (w := wM cy a r) (S := S4) (As := [.int p1, .int (S4.1 48)]) (rest := []) (q0 := 0) (ci := 8) C (cX8_after_met l D cy a r _ N S4 p1 (S4.1 48) S8 h7) (cwV 2 C.2.2.2.2.1 gX8_atApplication_X8_after rfl rfl rfl (by decide +kernel) ⟨Nat.le_of_ble_eq_true rfl, Nat.le_of_ble_eq_true rfl⟩) rfl rfl rfl hl.1 (Nat.le_of_ble_eq_true rfl) hW dX8_atApplication_31 ⟨Nat.zero_le _, Nat.zero_le _⟩ rfl (fun H locs hW => ?_)
      refine lv_aload_n C.1 C.2.1 dX8_atApplication_34 rfl (lv_at hl 0 rfl) ?_
      refine lv_iconst (v := 3) C.1 C.2.1 dX8_atApplication_35 (by decide) ?_
      refine lv_iload_n C.1 C.2.1 dX8_atApplication_36 rfl (lv_at hl 1 rfl) ?_
      refine lv_imul C.1 C.2.1 dX8_atApplication_37 ?_
      obtain ⟨S9, eS9, hf⟩ := bnd_el hf
      refine fp_8_49 C kX8_atApplication_8 mX8_atApplication_287 hW dX8_atApplication_38 eS9 (fun H locs hW => ?_)
      refine lv_bipush (v := 6) C.1 C.2.1 dX8_atApplication_41 (by decide) ?_
      exact mrI C hr hlocks rfl hf hW dX8_atApplication_43
    · replace hf := (if_neg q5).symm.trans hf
      refine lv_iconst (v := 3) C.1 C.2.1 dX8_atApplication_23 (by decide) ?_
      exact mrI C hr hlocks rfl hf hW dX8_atApplication_24
  · replace hf := (if_neg q1).symm.trans hf
    refine lv_iconst (v := 4) C.1 C.2.1 dX8_atApplication_5 (by decide) ?_
    exact mrI C hr hlocks rfl hf hW dX8_atApplication_6
theorem mX8_atFan_284 : Cond.fieldLink RX8 284 "SharedLambdaModel" "context" "I" ∈ wsX8_atFan := by decide +kernel
theorem mX8_atFan_176 : Cond.fieldLink RX8 176 "SharedLambdaModel" "levelAs" "[I" ∈ wsX8_atFan := by decide +kernel
theorem mX8_atFan_287 : Cond.fieldLink RX8 287 "SharedLambdaModel" "out" "I" ∈ wsX8_atFan := by decide +kernel
theorem mX8_atFan_101 : Cond.fieldLink RX8 101 "SharedLambdaModel" "indexes" "[I" ∈ wsX8_atFan := by decide +kernel
theorem mX8_atFan_173 : Cond.fieldLink RX8 173 "SharedLambdaModel" "levelKinds" "[I" ∈ wsX8_atFan := by decide +kernel
theorem kX8_atFan_8 : ∀ w ∈ u_ws RX8 TX8 58, w ∈ wsX8_atFan := fun _ h => List.mem_cons_of_mem _ (List.mem_append_right _ h)
def fX8_atFan_112 (N : Nat) (S : St) (x1 : Int32) (x3 : Int32) (x4 : Int32) (x5 : Int32) (x6 : Int32) : Option (Int32 × St) :=
  ckx x5 4010 <|
  bd2 (fX8_tail N S x4) fun v2 S4 =>
  bd2 (fX8_list N S4 (S.2.1 36 (x5 : Int32).toNatClampNeg) v2) fun v5 S7 =>
  bd2 (fX8_with N S7 (S.1 48) x3 v5) fun v8 S10 =>
  bnd (sI S10 48 v8) fun S11 =>
  bnd (sI S11 49 ((((3 : Int32) * x1) + x6))) fun S12 =>
  some ((6 : Int32), S12)
set_option maxHeartbeats 4000000 in
set_option maxRecDepth 100000 in
theorem lX8_atFan_112 {p : Program} {l : Launch} {e : Env} {s : State} {m : MethodId} {args : Array Value} {below : List Frame} {meth : Method} {c : Code} {D : va_G} {cy : Nat → ClassId} {a r : Nat → Nat} {A : Nat → Prop} {Rr : Int32 × St} (C : Cx p s m args c cX8_atFan 7 wsX8_atFan RX8 D cy) (hr : meth.sig.returnType = some .int) (hlocks : meth.locks = false) (N : Nat) (S : St) (x1 : Int32) (x3 : Int32) (x4 : Int32) (x5 : Int32) (x6 : Int32) (hf : fX8_atFan_112 N S x1 x3 x4 x5 x6 = some Rr) : ∀ (H : Heap) (locs : List Loc) (ls : Array Slot), WW D A s.heap (wM cy a r S) H locs → lv_has ls 7 [(0, .ref (a 99)), (1, .int x1), (3, .int x3), (4, .int x4), (5, .int x5), (6, .int x6)] → W p l e ({ frames := 2, cells := 0, slots := 0, locals := 48 } : Room) s m args below meth c H locs 0 0 (MQ below (QI D cy (wM cy a r) A Rr) args s 0 0 A) (F0 m 112 ls []) := by
  intro H locs ls hW hl
  unfold fX8_atFan_112 at hf
  refine lv_aload_n C.1 C.2.1 dX8_atFan_112 rfl (lv_at hl 0 rfl) ?_
  refine lv_aload_n C.1 C.2.1 dX8_atFan_113 rfl (lv_at hl 0 rfl) ?_
  refine lv_aload_n C.1 C.2.1 dX8_atFan_114 rfl (lv_at hl 0 rfl) ?_
  refine fg_8_48 C kX8_atFan_8 mX8_atFan_284 hW dX8_atFan_115 ?_
  refine lv_iload_n C.1 C.2.1 dX8_atFan_118 rfl (lv_at hl 2 rfl) ?_
  refine lv_aload_n C.1 C.2.1 dX8_atFan_119 rfl (lv_at hl 0 rfl) ?_
  refine lv_aload_n C.1 C.2.1 dX8_atFan_120 rfl (lv_at hl 0 rfl) ?_
  refine fg_8_36 C kX8_atFan_8 mX8_atFan_176 hW dX8_atFan_121 ?_
  refine lv_iload C.1 C.2.1 dX8_atFan_124 (lv_at hl 4 rfl) ?_
  obtain ⟨h1, hf⟩ := ckx_el hf
  refine al_8_36 C hW h1 dX8_atFan_126 ?_
  refine lv_aload_n C.1 C.2.1 dX8_atFan_127 rfl (lv_at hl 0 rfl) ?_
  refine lv_iload C.1 C.2.1 dX8_atFan_128 (lv_at hl 3 rfl) ?_
  obtain ⟨v2, S4, h3, hf⟩ := bd2_el hf
  refine mcVi (w := wM cy a r) (S := S) (As := [.int x4]) (rest := [.int (S.2.1 36 (x5 : Int32).toNatClampNeg), .ref (a 99), .int x3, .int (S.1 48), .ref (a 99), .ref (a 99)]) (q0 := 0) (ci := 8) C (cX8_tail_met l D cy a r _ N S x4 (v2, S4) h3) (cwV 1 C.2.2.2.2.1 gX8_atFan_X8_tail rfl rfl rfl (by decide +kernel) ⟨Nat.le_of_ble_eq_true rfl, Nat.le_of_ble_eq_true rfl⟩) rfl rfl rfl hl.1 (Nat.le_of_ble_eq_true rfl) hW dX8_atFan_130 ⟨Nat.zero_le _, Nat.zero_le _⟩ rfl (fun H locs hW => ?_)
  obtain ⟨v5, S7, h6, hf⟩ := bd2_el hf
  refine mcVi (w := wM cy a r) (S := S4) (As := [.int (S.2.1 36 (x5 : Int32).toNatClampNeg), .int v2]) (rest := [.int x3, .int (S.1 48), .ref (a 99), .ref (a 99)]) (q0 := 0) (ci := 8) C (cX8_list_met l D cy a r _ N S4 (S.2.1 36 (x5 : Int32).toNatClampNeg) v2 (v5, S7) h6) (cwV 2 C.2.2.2.2.1 gX8_atFan_X8_list rfl rfl rfl (by decide +kernel) ⟨Nat.le_of_ble_eq_true rfl, Nat.le_of_ble_eq_true rfl⟩) rfl rfl rfl hl.1 (Nat.le_of_ble_eq_true rfl) hW dX8_atFan_133 ⟨Nat.zero_le _, Nat.zero_le _⟩ rfl (fun H locs hW => ?_)
  obtain ⟨v8, S10, h9, hf⟩ := bd2_el hf
  refine mcVi (w := wM cy a r) (S := S7) (As := [.int (S.1 48), .int x3, .int v5]) (rest := [.ref (a 99)]) (q0 := 0) (ci := 8) C (cX8_with_met l D cy a r _ N S7 (S.1 48) x3 v5 (v8, S10) h9) (cwV 3 C.2.2.2.2.1 gX8_atFan_X8_with rfl rfl rfl (by decide +kernel) ⟨Nat.le_of_ble_eq_true rfl, Nat.le_of_ble_eq_true rfl⟩) rfl rfl rfl hl.1 (Nat.le_of_ble_eq_true rfl) hW dX8_atFan_136 ⟨Nat.zero_le _, Nat.zero_le _⟩ rfl (fun H locs hW => ?_)
  obtain ⟨S11, eS11, hf⟩ := bnd_el hf
  refine fp_8_48 C kX8_atFan_8 mX8_atFan_284 hW dX8_atFan_139 eS11 (fun H locs hW => ?_)
  refine lv_aload_n C.1 C.2.1 dX8_atFan_142 rfl (lv_at hl 0 rfl) ?_
  refine lv_iconst (v := 3) C.1 C.2.1 dX8_atFan_143 (by decide) ?_
  refine lv_iload_n C.1 C.2.1 dX8_atFan_144 rfl (lv_at hl 1 rfl) ?_
  refine lv_imul C.1 C.2.1 dX8_atFan_145 ?_
  refine lv_iload C.1 C.2.1 dX8_atFan_146 (lv_at hl 5 rfl) ?_
  refine lv_iadd C.1 C.2.1 dX8_atFan_148 ?_
  obtain ⟨S12, eS12, hf⟩ := bnd_el hf
  refine fp_8_49 C kX8_atFan_8 mX8_atFan_287 hW dX8_atFan_149 eS12 (fun H locs hW => ?_)
  refine lv_bipush (v := 6) C.1 C.2.1 dX8_atFan_152 (by decide) ?_
  exact mrI C hr hlocks rfl hf hW dX8_atFan_154
def fX8_atFan_96 (N : Nat) (S : St) (x1 : Int32) (x3 : Int32) (x4 : Int32) (x5 : Int32) (y0 : Int32) : Option (Int32 × St) :=
  if y0 = (1 : Int32) then
    fX8_atFan_112 N S x1 x3 x4 x5 y0
  else
    if y0 = (2 : Int32) then
      fX8_atFan_112 N S x1 x3 x4 x5 y0
    else
      some ((4 : Int32), S)
set_option maxHeartbeats 4000000 in
set_option maxRecDepth 100000 in
theorem lX8_atFan_96 {p : Program} {l : Launch} {e : Env} {s : State} {m : MethodId} {args : Array Value} {below : List Frame} {meth : Method} {c : Code} {D : va_G} {cy : Nat → ClassId} {a r : Nat → Nat} {A : Nat → Prop} {Rr : Int32 × St} (C : Cx p s m args c cX8_atFan 7 wsX8_atFan RX8 D cy) (hr : meth.sig.returnType = some .int) (hlocks : meth.locks = false) (N : Nat) (S : St) (x1 : Int32) (x3 : Int32) (x4 : Int32) (x5 : Int32) (y0 : Int32) (hf : fX8_atFan_96 N S x1 x3 x4 x5 y0 = some Rr) : ∀ (H : Heap) (locs : List Loc) (ls : Array Slot), WW D A s.heap (wM cy a r S) H locs → lv_has ls 7 [(0, .ref (a 99)), (1, .int x1), (3, .int x3), (4, .int x4), (5, .int x5)] → W p l e ({ frames := 2, cells := 0, slots := 0, locals := 48 } : Room) s m args below meth c H locs 0 0 (MQ below (QI D cy (wM cy a r) A Rr) args s 0 0 A) (F0 m 96 ls [.int y0]) := by
  intro H locs ls hW hl
  unfold fX8_atFan_96 at hf
  refine lv_istore (lv' := [(6, .int y0), (0, .ref (a 99)), (1, .int x1), (3, .int x3), (4, .int x4), (5, .int x5)]) C.1 C.2.1 dX8_atFan_96 hl (by decide) rfl (fun ls hl => ?_)
  refine lv_iload C.1 C.2.1 dX8_atFan_98 (lv_at hl 0 rfl) ?_
  refine lv_iconst (v := 1) C.1 C.2.1 dX8_atFan_100 (by decide) ?_
  refine lv_icmp_eq (tgt := 112) C.1 C.2.1 dX8_atFan_101 (by decide) (fun q1 => ?_) (fun q1 => ?_)
  · replace hf := (if_pos q1).symm.trans hf
    exact lX8_atFan_112 C hr hlocks N _ _ _ _ _ _ hf _ _ _ hW (lv_sub hl [1, 2, 3, 4, 5, 0] rfl)
  · replace hf := (if_neg q1).symm.trans hf
    refine lv_iload C.1 C.2.1 dX8_atFan_104 (lv_at hl 0 rfl) ?_
    refine lv_iconst (v := 2) C.1 C.2.1 dX8_atFan_106 (by decide) ?_
    refine lv_icmp_eq (tgt := 112) C.1 C.2.1 dX8_atFan_107 (by decide) (fun q2 => ?_) (fun q2 => ?_)
    · replace hf := (if_pos q2).symm.trans hf
      exact lX8_atFan_112 C hr hlocks N _ _ _ _ _ _ hf _ _ _ hW (lv_sub hl [1, 2, 3, 4, 5, 0] rfl)
    · replace hf := (if_neg q2).symm.trans hf
      refine lv_iconst (v := 4) C.1 C.2.1 dX8_atFan_110 (by decide) ?_
      exact mrI C hr hlocks rfl hf hW dX8_atFan_111
def fX8_atFan_49 (N : Nat) (S : St) (x1 : Int32) (x4 : Int32) (x5 : Int32) (y2 : Int32) (y3 : Int32) (y6 : Int32) : Option (Int32 × St) :=
  bd2 (fX8_level N S y6 x5 (0 : Int32)) fun v1 S3 =>
  bd2 (fX8_tail N S3 x4) fun v4 S6 =>
  bd2 (fX8_list N S6 v1 v4) fun v7 S9 =>
  bd2 (fX8_with N S9 y2 y3 v7) fun v10 S12 =>
  bnd (sI S12 48 v10) fun S13 =>
  bnd (sI S13 49 (((3 : Int32) * x1))) fun S14 =>
  some ((6 : Int32), S14)
set_option maxHeartbeats 4000000 in
set_option maxRecDepth 100000 in
theorem lX8_atFan_49 {p : Program} {l : Launch} {e : Env} {s : State} {m : MethodId} {args : Array Value} {below : List Frame} {meth : Method} {c : Code} {D : va_G} {cy : Nat → ClassId} {a r : Nat → Nat} {A : Nat → Prop} {Rr : Int32 × St} (C : Cx p s m args c cX8_atFan 7 wsX8_atFan RX8 D cy) (hr : meth.sig.returnType = some .int) (hlocks : meth.locks = false) (N : Nat) (S : St) (x1 : Int32) (x4 : Int32) (x5 : Int32) (y2 : Int32) (y3 : Int32) (y6 : Int32) (hf : fX8_atFan_49 N S x1 x4 x5 y2 y3 y6 = some Rr) : ∀ (H : Heap) (locs : List Loc) (ls : Array Slot), WW D A s.heap (wM cy a r S) H locs → lv_has ls 7 [(0, .ref (a 99)), (1, .int x1), (4, .int x4), (5, .int x5)] → W p l e ({ frames := 2, cells := 0, slots := 0, locals := 48 } : Room) s m args below meth c H locs 0 0 (MQ below (QI D cy (wM cy a r) A Rr) args s 0 0 A) (F0 m 49 ls [.int y6, .ref (a 99), .ref (a 99), .int y3, .int y2, .ref (a 99), .ref (a 99)]) := by
  intro H locs ls hW hl
  unfold fX8_atFan_49 at hf
  refine lv_iload C.1 C.2.1 dX8_atFan_49 (lv_at hl 3 rfl) ?_
  refine lv_iconst (v := 0) C.1 C.2.1 dX8_atFan_51 (by decide) ?_
  obtain ⟨v1, S3, h2, hf⟩ := bd2_el hf
  refine mcVi (w := wM cy a r) (S := S) (As := [.int y6, .int x5, .int (0 : Int32)]) (rest := [.ref (a 99), .int y3, .int y2, .ref (a 99), .ref (a 99)]) (q0 := 0) (ci := 8) C (cX8_level_met l D cy a r _ N S y6 x5 (0 : Int32) (v1, S3) h2) (cwV 3 C.2.2.2.2.1 gX8_atFan_X8_level rfl rfl rfl (by decide +kernel) ⟨Nat.le_of_ble_eq_true rfl, Nat.le_of_ble_eq_true rfl⟩) rfl rfl rfl hl.1 (Nat.le_of_ble_eq_true rfl) hW dX8_atFan_52 ⟨Nat.zero_le _, Nat.zero_le _⟩ rfl (fun H locs hW => ?_)
  refine lv_aload_n C.1 C.2.1 dX8_atFan_55 rfl (lv_at hl 0 rfl) ?_
  refine lv_iload C.1 C.2.1 dX8_atFan_56 (lv_at hl 2 rfl) ?_
  obtain ⟨v4, S6, h5, hf⟩ := bd2_el hf
  refine mcVi (w := wM cy a r) (S := S3) (As := [.int x4]) (rest := [.int v1, .ref (a 99), .int y3, .int y2, .ref (a 99), .ref (a 99)]) (q0 := 0) (ci := 8) C (cX8_tail_met l D cy a r _ N S3 x4 (v4, S6) h5) (cwV 1 C.2.2.2.2.1 gX8_atFan_X8_tail rfl rfl rfl (by decide +kernel) ⟨Nat.le_of_ble_eq_true rfl, Nat.le_of_ble_eq_true rfl⟩) rfl rfl rfl hl.1 (Nat.le_of_ble_eq_true rfl) hW dX8_atFan_58 ⟨Nat.zero_le _, Nat.zero_le _⟩ rfl (fun H locs hW => ?_)
  obtain ⟨v7, S9, h8, hf⟩ := bd2_el hf
  refine mcVi (w := wM cy a r) (S := S6) (As := [.int v1, .int v4]) (rest := [.int y3, .int y2, .ref (a 99), .ref (a 99)]) (q0 := 0) (ci := 8) C (cX8_list_met l D cy a r _ N S6 v1 v4 (v7, S9) h8) (cwV 2 C.2.2.2.2.1 gX8_atFan_X8_list rfl rfl rfl (by decide +kernel) ⟨Nat.le_of_ble_eq_true rfl, Nat.le_of_ble_eq_true rfl⟩) rfl rfl rfl hl.1 (Nat.le_of_ble_eq_true rfl) hW dX8_atFan_61 ⟨Nat.zero_le _, Nat.zero_le _⟩ rfl (fun H locs hW => ?_)
  obtain ⟨v10, S12, h11, hf⟩ := bd2_el hf
  refine mcVi (w := wM cy a r) (S := S9) (As := [.int y2, .int y3, .int v7]) (rest := [.ref (a 99)]) (q0 := 0) (ci := 8) C (cX8_with_met l D cy a r _ N S9 y2 y3 v7 (v10, S12) h11) (cwV 3 C.2.2.2.2.1 gX8_atFan_X8_with rfl rfl rfl (by decide +kernel) ⟨Nat.le_of_ble_eq_true rfl, Nat.le_of_ble_eq_true rfl⟩) rfl rfl rfl hl.1 (Nat.le_of_ble_eq_true rfl) hW dX8_atFan_64 ⟨Nat.zero_le _, Nat.zero_le _⟩ rfl (fun H locs hW => ?_)
  obtain ⟨S13, eS13, hf⟩ := bnd_el hf
  refine fp_8_48 C kX8_atFan_8 mX8_atFan_284 hW dX8_atFan_67 eS13 (fun H locs hW => ?_)
  refine lv_aload_n C.1 C.2.1 dX8_atFan_70 rfl (lv_at hl 0 rfl) ?_
  refine lv_iconst (v := 3) C.1 C.2.1 dX8_atFan_71 (by decide) ?_
  refine lv_iload_n C.1 C.2.1 dX8_atFan_72 rfl (lv_at hl 1 rfl) ?_
  refine lv_imul C.1 C.2.1 dX8_atFan_73 ?_
  obtain ⟨S14, eS14, hf⟩ := bnd_el hf
  refine fp_8_49 C kX8_atFan_8 mX8_atFan_287 hW dX8_atFan_74 eS14 (fun H locs hW => ?_)
  refine lv_bipush (v := 6) C.1 C.2.1 dX8_atFan_77 (by decide) ?_
  exact mrI C hr hlocks rfl hf hW dX8_atFan_79
def fX8_atFan (N : Nat) (S : St) (p1 : Int32) (p2 : Int32) : Option (Int32 × St) :=
  ckx p1 3010 <|
  bnd (S.2.1 18 (p1 : Int32).toNatClampNeg) fun z2 =>
  bd2 (fX8_behind N S (S.1 48) z2) fun v3 S5 =>
  bd2 (fX8_head N S5 v3) fun v6 S8 =>
  if p2 ≤ 0 then
    if v6 = 0 then
      fX8_atFan_96 N S8 p1 z2 v3 v6 (0 : Int32)
    else
      ckx v6 4010 <|
      fX8_atFan_96 N S8 p1 z2 v3 v6 (S8.2.1 35 (v6 : Int32).toNatClampNeg)
  else
    if p2 = (1 : Int32) then
      fX8_atFan_49 N S8 p1 v3 v6 (S8.1 48) z2 (1 : Int32)
    else
      fX8_atFan_49 N S8 p1 v3 v6 (S8.1 48) z2 (2 : Int32)
set_option maxHeartbeats 4000000 in
set_option maxRecDepth 100000 in
theorem cX8_atFan_met (l : Launch) (D : va_G) (cy : Nat → ClassId) (a r : Nat → Nat) (sz N : Nat) (S : St) (p1 : Int32) (p2 : Int32) (Rr : Int32 × St) (hf : fX8_atFan N S p1 p2 = some Rr) : Met l yX8_atFan wsX8_atFan ({ frames := 2, cells := 0, slots := 0, locals := 48 } : Room) (va_Pc [.ref (a 99), .int p1, .int p2] (preW D cy (wM cy a r S) sz)) (QI D cy (wM cy a r) (va_A (wM cy a r S) sz) Rr) 0 0 (va_A (wM cy a r S) sz) := by
  refine Met.ofW (cc := cX8_atFan) (maxL := 7) (ret := (some .int)) (by decide) rfl ?_
  intro p e s m args below meth c s₁ B hml hv
  obtain ⟨rfl, rfl, hP, hK, hD0, hN⟩ := hv
  have hlocks := B.notSynchronized
  have hr := B.returns
  have C : Cx p s m _ c cX8_atFan 7 wsX8_atFan RX8 D cy := ⟨B.exec, B.bytes, hml, findClass_of_methodNamed B.named, atoms_spec (ws := wsX8_atFan) B.pre, hK, hN⟩
  have hW := ww_start (w := wM cy a r) hP hD0
  generalize va_A (wM cy a r S) s.heap.size = A at hW ⊢
  have hl := lv_entry ([.ref (a 99), .int p1, .int p2]) (n := 7) (Nat.le_of_ble_eq_true rfl)
  rw [lg_entry_eq]
  generalize (lg_sl ([.ref (a 99), .int p1, .int p2]) ++ List.replicate (7 - (lg_sl ([.ref (a 99), .int p1, .int p2])).length) Slot.unset).toArray = ls at hl ⊢
  have hl : lv_has ls 7 [(0, .ref (a 99)), (1, .int p1), (2, .int p2)] := hl
  unfold fX8_atFan at hf
  refine lv_aload_n C.1 C.2.1 dX8_atFan_0 rfl (lv_at hl 0 rfl) ?_
  refine fg_8_18 C kX8_atFan_8 mX8_atFan_101 hW dX8_atFan_1 ?_
  refine lv_iload_n C.1 C.2.1 dX8_atFan_4 rfl (lv_at hl 1 rfl) ?_
  obtain ⟨h1, hf⟩ := ckx_el hf
  refine al_8_18 C hW h1 dX8_atFan_5 ?_
  obtain ⟨z2, ez2, hf⟩ := bnd_el hf
  refine lv_as ez2 ?_
  refine lv_istore_n (lv' := [(3, .int z2), (0, .ref (a 99)), (1, .int p1), (2, .int p2)]) C.1 C.2.1 dX8_atFan_6 rfl hl (by decide) rfl (fun ls hl => ?_)
  refine lv_aload_n C.1 C.2.1 dX8_atFan_7 rfl (lv_at hl 1 rfl) ?_
  refine lv_aload_n C.1 C.2.1 dX8_atFan_8 rfl (lv_at hl 1 rfl) ?_
  refine fg_8_48 C kX8_atFan_8 mX8_atFan_284 hW dX8_atFan_9 ?_
  refine lv_iload_n C.1 C.2.1 dX8_atFan_12 rfl (lv_at hl 0 rfl) ?_
  obtain ⟨v3, S5, h4, hf⟩ := bd2_el hf
  refine mcVi (w := wM cy a r) (S := S) (As := [.int (S.1 48), .int z2]) (rest := []) (q0 := 0) (ci := 8) C (cX8_behind_met l D cy a r _ N S (S.1 48) z2 (v3, S5) h4) (cwV 2 C.2.2.2.2.1 gX8_atFan_X8_behind rfl rfl rfl (by decide +kernel) ⟨Nat.le_of_ble_eq_true rfl, Nat.le_of_ble_eq_true rfl⟩) rfl rfl rfl hl.1 (Nat.le_of_ble_eq_true rfl) hW dX8_atFan_13 ⟨Nat.zero_le _, Nat.zero_le _⟩ rfl (fun H locs hW => ?_)
  refine lv_istore (lv' := [(4, .int v3), (3, .int z2), (0, .ref (a 99)), (1, .int p1), (2, .int p2)]) C.1 C.2.1 dX8_atFan_16 hl (by decide) rfl (fun ls hl => ?_)
  refine lv_aload_n C.1 C.2.1 dX8_atFan_18 rfl (lv_at hl 2 rfl) ?_
  refine lv_iload C.1 C.2.1 dX8_atFan_19 (lv_at hl 0 rfl) ?_
  obtain ⟨v6, S8, h7, hf⟩ := bd2_el hf
  refine mcVi (w := wM cy a r) (S := S5) (As := [.int v3]) (rest := []) (q0 := 0) (ci := 8) C (cX8_head_met l D cy a r _ N S5 v3 (v6, S8) h7) (cwV 1 C.2.2.2.2.1 gX8_atFan_X8_head rfl rfl rfl (by decide +kernel) ⟨Nat.le_of_ble_eq_true rfl, Nat.le_of_ble_eq_true rfl⟩) rfl rfl rfl hl.1 (Nat.le_of_ble_eq_true rfl) hW dX8_atFan_21 ⟨Nat.zero_le _, Nat.zero_le _⟩ rfl (fun H locs hW => ?_)
  refine lv_istore (lv' := [(5, .int v6), (4, .int v3), (3, .int z2), (0, .ref (a 99)), (1, .int p1), (2, .int p2)]) C.1 C.2.1 dX8_atFan_24 hl (by decide) rfl (fun ls hl => ?_)
  refine lv_iload_n C.1 C.2.1 dX8_atFan_26 rfl (lv_at hl 5 rfl) ?_
  refine lv_if_le (tgt := 80) C.1 C.2.1 dX8_atFan_27 (by decide) (fun q9 => ?_) (fun q9 => ?_)
  · replace hf := (if_pos q9).symm.trans hf
    refine lv_iload C.1 C.2.1 dX8_atFan_80 (lv_at hl 0 rfl) ?_
    refine lv_if_ne (tgt := 89) C.1 C.2.1 dX8_atFan_82 (by decide) (fun q10 => ?_) (fun q10 => ?_)
    · replace hf := (if_neg q10).symm.trans hf
      refine lv_aload_n C.1 C.2.1 dX8_atFan_89 rfl (lv_at hl 3 rfl) ?_
      refine fg_8_35 C kX8_atFan_8 mX8_atFan_173 hW dX8_atFan_90 ?_
      refine lv_iload C.1 C.2.1 dX8_atFan_93 (lv_at hl 0 rfl) ?_
      obtain ⟨h11, hf⟩ := ckx_el hf
      refine al_8_35 C hW h11 dX8_atFan_95 ?_
      exact lX8_atFan_96 C hr hlocks N _ _ _ _ _ _ hf _ _ _ hW (lv_sub hl [3, 4, 2, 1, 0] rfl)
    · replace hf := (if_pos q10).symm.trans hf
      refine lv_iconst (v := 0) C.1 C.2.1 dX8_atFan_85 (by decide) ?_
      refine lv_goto (tgt := 96) C.1 C.2.1 dX8_atFan_86 (by decide) ?_
      exact lX8_atFan_96 C hr hlocks N _ _ _ _ _ _ hf _ _ _ hW (lv_sub hl [3, 4, 2, 1, 0] rfl)
  · replace hf := (if_neg q9).symm.trans hf
    refine lv_aload_n C.1 C.2.1 dX8_atFan_30 rfl (lv_at hl 3 rfl) ?_
    refine lv_aload_n C.1 C.2.1 dX8_atFan_31 rfl (lv_at hl 3 rfl) ?_
    refine lv_aload_n C.1 C.2.1 dX8_atFan_32 rfl (lv_at hl 3 rfl) ?_
    refine fg_8_48 C kX8_atFan_8 mX8_atFan_284 hW dX8_atFan_33 ?_
    refine lv_iload_n C.1 C.2.1 dX8_atFan_36 rfl (lv_at hl 2 rfl) ?_
    refine lv_aload_n C.1 C.2.1 dX8_atFan_37 rfl (lv_at hl 3 rfl) ?_
    refine lv_aload_n C.1 C.2.1 dX8_atFan_38 rfl (lv_at hl 3 rfl) ?_
    refine lv_iload_n C.1 C.2.1 dX8_atFan_39 rfl (lv_at hl 5 rfl) ?_
    refine lv_iconst (v := 1) C.1 C.2.1 dX8_atFan_40 (by decide) ?_
    refine lv_icmp_ne (tgt := 48) C.1 C.2.1 dX8_atFan_41 (by decide) (fun q12 => ?_) (fun q12 => ?_)
    · replace hf := (if_neg q12).symm.trans hf
      refine lv_iconst (v := 2) C.1 C.2.1 dX8_atFan_48 (by decide) ?_
      exact lX8_atFan_49 C hr hlocks N _ _ _ _ _ _ _ hf _ _ _ hW (lv_sub hl [3, 4, 1, 0] rfl)
    · replace hf := (if_pos q12).symm.trans hf
      refine lv_iconst (v := 1) C.1 C.2.1 dX8_atFan_44 (by decide) ?_
      refine lv_goto (tgt := 49) C.1 C.2.1 dX8_atFan_45 (by decide) ?_
      exact lX8_atFan_49 C hr hlocks N _ _ _ _ _ _ _ hf _ _ _ hW (lv_sub hl [3, 4, 1, 0] rfl)
theorem mX8_atOther_287 : Cond.fieldLink RX8 287 "SharedLambdaModel" "out" "I" ∈ wsX8_atOther := by decide +kernel
theorem mX8_atOther_284 : Cond.fieldLink RX8 284 "SharedLambdaModel" "context" "I" ∈ wsX8_atOther := by decide +kernel
theorem mX8_atOther_101 : Cond.fieldLink RX8 101 "SharedLambdaModel" "indexes" "[I" ∈ wsX8_atOther := by decide +kernel
theorem mX8_atOther_98 : Cond.fieldLink RX8 98 "SharedLambdaModel" "kinds" "[I" ∈ wsX8_atOther := by decide +kernel
theorem mX8_atOther_173 : Cond.fieldLink RX8 173 "SharedLambdaModel" "levelKinds" "[I" ∈ wsX8_atOther := by decide +kernel
theorem mX8_atOther_176 : Cond.fieldLink RX8 176 "SharedLambdaModel" "levelAs" "[I" ∈ wsX8_atOther := by decide +kernel
theorem mX8_atOther_179 : Cond.fieldLink RX8 179 "SharedLambdaModel" "levelBs" "[I" ∈ wsX8_atOther := by decide +kernel
theorem kX8_atOther_8 : ∀ w ∈ u_ws RX8 TX8 58, w ∈ wsX8_atOther := fun _ h => List.mem_cons_of_mem _ (List.mem_append_right _ h)
def fX8_atOther_176 (N : Nat) (S : St) (x1 : Int32) (x2 : Int32) : Option (Int32 × St) :=
  bnd (sI S 49 (((((3 : Int32) * x1) + (1 : Int32)) - x2))) fun S1 =>
  some ((6 : Int32), S1)
set_option maxHeartbeats 4000000 in
set_option maxRecDepth 100000 in
theorem lX8_atOther_176 {p : Program} {l : Launch} {e : Env} {s : State} {m : MethodId} {args : Array Value} {below : List Frame} {meth : Method} {c : Code} {D : va_G} {cy : Nat → ClassId} {a r : Nat → Nat} {A : Nat → Prop} {Rr : Int32 × St} (C : Cx p s m args c cX8_atOther 7 wsX8_atOther RX8 D cy) (hr : meth.sig.returnType = some .int) (hlocks : meth.locks = false) (N : Nat) (S : St) (x1 : Int32) (x2 : Int32) (hf : fX8_atOther_176 N S x1 x2 = some Rr) : ∀ (H : Heap) (locs : List Loc) (ls : Array Slot), WW D A s.heap (wM cy a r S) H locs → lv_has ls 7 [(0, .ref (a 99)), (1, .int x1), (2, .int x2)] → W p l e ({ frames := 2, cells := 0, slots := 0, locals := 48 } : Room) s m args below meth c H locs 0 0 (MQ below (QI D cy (wM cy a r) A Rr) args s 0 0 A) (F0 m 176 ls []) := by
  intro H locs ls hW hl
  unfold fX8_atOther_176 at hf
  refine lv_aload_n C.1 C.2.1 dX8_atOther_176 rfl (lv_at hl 0 rfl) ?_
  refine lv_iconst (v := 3) C.1 C.2.1 dX8_atOther_177 (by decide) ?_
  refine lv_iload_n C.1 C.2.1 dX8_atOther_178 rfl (lv_at hl 1 rfl) ?_
  refine lv_imul C.1 C.2.1 dX8_atOther_179 ?_
  refine lv_iconst (v := 1) C.1 C.2.1 dX8_atOther_180 (by decide) ?_
  refine lv_iadd C.1 C.2.1 dX8_atOther_181 ?_
  refine lv_iload_n C.1 C.2.1 dX8_atOther_182 rfl (lv_at hl 2 rfl) ?_
  refine lv_isub C.1 C.2.1 dX8_atOther_183 ?_
  obtain ⟨S1, eS1, hf⟩ := bnd_el hf
  refine fp_8_49 C kX8_atOther_8 mX8_atOther_287 hW dX8_atOther_184 eS1 (fun H locs hW => ?_)
  refine lv_bipush (v := 6) C.1 C.2.1 dX8_atOther_187 (by decide) ?_
  exact mrI C hr hlocks rfl hf hW dX8_atOther_189
def fX8_atOther_68 (N : Nat) (S : St) (x1 : Int32) (x2 : Int32) (y2 : Int32) (y3 : Int32) (y4 : Int32) : Option (Int32 × St) :=
  bd2 (fX8_with N S y2 y3 y4) fun v1 S3 =>
  bnd (sI S3 48 v1) fun S4 =>
  fX8_atOther_176 N S4 x1 x2
set_option maxHeartbeats 4000000 in
set_option maxRecDepth 100000 in
theorem lX8_atOther_68 {p : Program} {l : Launch} {e : Env} {s : State} {m : MethodId} {args : Array Value} {below : List Frame} {meth : Method} {c : Code} {D : va_G} {cy : Nat → ClassId} {a r : Nat → Nat} {A : Nat → Prop} {Rr : Int32 × St} (C : Cx p s m args c cX8_atOther 7 wsX8_atOther RX8 D cy) (hr : meth.sig.returnType = some .int) (hlocks : meth.locks = false) (N : Nat) (S : St) (x1 : Int32) (x2 : Int32) (y2 : Int32) (y3 : Int32) (y4 : Int32) (hf : fX8_atOther_68 N S x1 x2 y2 y3 y4 = some Rr) : ∀ (H : Heap) (locs : List Loc) (ls : Array Slot), WW D A s.heap (wM cy a r S) H locs → lv_has ls 7 [(0, .ref (a 99)), (1, .int x1), (2, .int x2)] → W p l e ({ frames := 2, cells := 0, slots := 0, locals := 48 } : Room) s m args below meth c H locs 0 0 (MQ below (QI D cy (wM cy a r) A Rr) args s 0 0 A) (F0 m 68 ls [.int y4, .int y3, .int y2, .ref (a 99), .ref (a 99)]) := by
  intro H locs ls hW hl
  unfold fX8_atOther_68 at hf
  obtain ⟨v1, S3, h2, hf⟩ := bd2_el hf
  refine mcVi (w := wM cy a r) (S := S) (As := [.int y2, .int y3, .int y4]) (rest := [.ref (a 99)]) (q0 := 0) (ci := 8) C (cX8_with_met l D cy a r _ N S y2 y3 y4 (v1, S3) h2) (cwV 3 C.2.2.2.2.1 gX8_atOther_X8_with rfl rfl rfl (by decide +kernel) ⟨Nat.le_of_ble_eq_true rfl, Nat.le_of_ble_eq_true rfl⟩) rfl rfl rfl hl.1 (Nat.le_of_ble_eq_true rfl) hW dX8_atOther_68 ⟨Nat.zero_le _, Nat.zero_le _⟩ rfl (fun H locs hW => ?_)
  obtain ⟨S4, eS4, hf⟩ := bnd_el hf
  refine fp_8_48 C kX8_atOther_8 mX8_atOther_284 hW dX8_atOther_71 eS4 (fun H locs hW => ?_)
  refine lv_goto (tgt := 176) C.1 C.2.1 dX8_atOther_74 (by decide) ?_
  exact lX8_atOther_176 C hr hlocks N _ _ _ hf _ _ _ hW (lv_sub hl [0, 1, 2] rfl)
def fX8_atOther (N : Nat) (S : St) (p1 : Int32) (p2 : Int32) : Option (Int32 × St) :=
  ckx p1 3010 <|
  bnd (S.2.1 18 (p1 : Int32).toNatClampNeg) fun z2 =>
  bd2 (fX8_behind N S (S.1 48) z2) fun v3 S5 =>
  bd2 (fX8_head N S5 v3) fun v6 S8 =>
  bd2 (fX8_tail N S8 v3) fun v9 S11 =>
  ckx p1 3010 <|
  if S11.2.1 17 (p1 : Int32).toNatClampNeg = (3 : Int32) then
    if p2 = (1 : Int32) then
      bd2 (fX8_list N S11 (0 : Int32) v3) fun v47 S49 =>
      fX8_atOther_68 N S49 p1 p2 (S11.1 48) z2 v47
    else
      fX8_atOther_68 N S11 p1 p2 (S11.1 48) z2 v9
  else
    if p2 = (1 : Int32) then
      bd2 (fX8_head N S11 v9) fun v30 S32 =>
      bd2 (fX8_level N S32 (3 : Int32) v6 v30) fun v33 S35 =>
      bd2 (fX8_tail N S35 v9) fun v36 S38 =>
      bd2 (fX8_list N S38 v33 v36) fun v39 S41 =>
      bd2 (fX8_with N S41 (S11.1 48) z2 v39) fun v42 S44 =>
      bnd (sI S44 48 v42) fun S45 =>
      fX8_atOther_176 N S45 p1 p2
    else
      if v6 = 0 then
        some ((4 : Int32), S11)
      else
        ckx v6 4010 <|
        if S11.2.1 35 (v6 : Int32).toNatClampNeg = (3 : Int32) then
          ckx v6 4010 <|
          ckx v6 4010 <|
          bd2 (fX8_list N S11 (S11.2.1 37 (v6 : Int32).toNatClampNeg) v9) fun v20 S22 =>
          bd2 (fX8_list N S22 (S11.2.1 36 (v6 : Int32).toNatClampNeg) v20) fun v23 S25 =>
          bd2 (fX8_with N S25 (S11.1 48) z2 v23) fun v26 S28 =>
          bnd (sI S28 48 v26) fun S29 =>
          fX8_atOther_176 N S29 p1 p2
        else
          some ((4 : Int32), S11)
set_option maxHeartbeats 4000000 in
set_option maxRecDepth 100000 in
theorem cX8_atOther_met (l : Launch) (D : va_G) (cy : Nat → ClassId) (a r : Nat → Nat) (sz N : Nat) (S : St) (p1 : Int32) (p2 : Int32) (Rr : Int32 × St) (hf : fX8_atOther N S p1 p2 = some Rr) : Met l yX8_atOther wsX8_atOther ({ frames := 2, cells := 0, slots := 0, locals := 48 } : Room) (va_Pc [.ref (a 99), .int p1, .int p2] (preW D cy (wM cy a r S) sz)) (QI D cy (wM cy a r) (va_A (wM cy a r S) sz) Rr) 0 0 (va_A (wM cy a r S) sz) := by
  refine Met.ofW (cc := cX8_atOther) (maxL := 7) (ret := (some .int)) (by decide) rfl ?_
  intro p e s m args below meth c s₁ B hml hv
  obtain ⟨rfl, rfl, hP, hK, hD0, hN⟩ := hv
  have hlocks := B.notSynchronized
  have hr := B.returns
  have C : Cx p s m _ c cX8_atOther 7 wsX8_atOther RX8 D cy := ⟨B.exec, B.bytes, hml, findClass_of_methodNamed B.named, atoms_spec (ws := wsX8_atOther) B.pre, hK, hN⟩
  have hW := ww_start (w := wM cy a r) hP hD0
  generalize va_A (wM cy a r S) s.heap.size = A at hW ⊢
  have hl := lv_entry ([.ref (a 99), .int p1, .int p2]) (n := 7) (Nat.le_of_ble_eq_true rfl)
  rw [lg_entry_eq]
  generalize (lg_sl ([.ref (a 99), .int p1, .int p2]) ++ List.replicate (7 - (lg_sl ([.ref (a 99), .int p1, .int p2])).length) Slot.unset).toArray = ls at hl ⊢
  have hl : lv_has ls 7 [(0, .ref (a 99)), (1, .int p1), (2, .int p2)] := hl
  unfold fX8_atOther at hf
  refine lv_aload_n C.1 C.2.1 dX8_atOther_0 rfl (lv_at hl 0 rfl) ?_
  refine fg_8_18 C kX8_atOther_8 mX8_atOther_101 hW dX8_atOther_1 ?_
  refine lv_iload_n C.1 C.2.1 dX8_atOther_4 rfl (lv_at hl 1 rfl) ?_
  obtain ⟨h1, hf⟩ := ckx_el hf
  refine al_8_18 C hW h1 dX8_atOther_5 ?_
  obtain ⟨z2, ez2, hf⟩ := bnd_el hf
  refine lv_as ez2 ?_
  refine lv_istore_n (lv' := [(3, .int z2), (0, .ref (a 99)), (1, .int p1), (2, .int p2)]) C.1 C.2.1 dX8_atOther_6 rfl hl (by decide) rfl (fun ls hl => ?_)
  refine lv_aload_n C.1 C.2.1 dX8_atOther_7 rfl (lv_at hl 1 rfl) ?_
  refine lv_aload_n C.1 C.2.1 dX8_atOther_8 rfl (lv_at hl 1 rfl) ?_
  refine fg_8_48 C kX8_atOther_8 mX8_atOther_284 hW dX8_atOther_9 ?_
  refine lv_iload_n C.1 C.2.1 dX8_atOther_12 rfl (lv_at hl 0 rfl) ?_
  obtain ⟨v3, S5, h4, hf⟩ := bd2_el hf
  refine mcVi (w := wM cy a r) (S := S) (As := [.int (S.1 48), .int z2]) (rest := []) (q0 := 0) (ci := 8) C (cX8_behind_met l D cy a r _ N S (S.1 48) z2 (v3, S5) h4) (cwV 2 C.2.2.2.2.1 gX8_atOther_X8_behind rfl rfl rfl (by decide +kernel) ⟨Nat.le_of_ble_eq_true rfl, Nat.le_of_ble_eq_true rfl⟩) rfl rfl rfl hl.1 (Nat.le_of_ble_eq_true rfl) hW dX8_atOther_13 ⟨Nat.zero_le _, Nat.zero_le _⟩ rfl (fun H locs hW => ?_)
  refine lv_istore (lv' := [(4, .int v3), (3, .int z2), (0, .ref (a 99)), (1, .int p1), (2, .int p2)]) C.1 C.2.1 dX8_atOther_16 hl (by decide) rfl (fun ls hl => ?_)
  refine lv_aload_n C.1 C.2.1 dX8_atOther_18 rfl (lv_at hl 2 rfl) ?_
  refine lv_iload C.1 C.2.1 dX8_atOther_19 (lv_at hl 0 rfl) ?_
  obtain ⟨v6, S8, h7, hf⟩ := bd2_el hf
  refine mcVi (w := wM cy a r) (S := S5) (As := [.int v3]) (rest := []) (q0 := 0) (ci := 8) C (cX8_head_met l D cy a r _ N S5 v3 (v6, S8) h7) (cwV 1 C.2.2.2.2.1 gX8_atOther_X8_head rfl rfl rfl (by decide +kernel) ⟨Nat.le_of_ble_eq_true rfl, Nat.le_of_ble_eq_true rfl⟩) rfl rfl rfl hl.1 (Nat.le_of_ble_eq_true rfl) hW dX8_atOther_21 ⟨Nat.zero_le _, Nat.zero_le _⟩ rfl (fun H locs hW => ?_)
  refine lv_istore (lv' := [(5, .int v6), (4, .int v3), (3, .int z2), (0, .ref (a 99)), (1, .int p1), (2, .int p2)]) C.1 C.2.1 dX8_atOther_24 hl (by decide) rfl (fun ls hl => ?_)
  refine lv_aload_n C.1 C.2.1 dX8_atOther_26 rfl (lv_at hl 3 rfl) ?_
  refine lv_iload C.1 C.2.1 dX8_atOther_27 (lv_at hl 1 rfl) ?_
  obtain ⟨v9, S11, h10, hf⟩ := bd2_el hf
  refine mcVi (w := wM cy a r) (S := S8) (As := [.int v3]) (rest := []) (q0 := 0) (ci := 8) C (cX8_tail_met l D cy a r _ N S8 v3 (v9, S11) h10) (cwV 1 C.2.2.2.2.1 gX8_atOther_X8_tail rfl rfl rfl (by decide +kernel) ⟨Nat.le_of_ble_eq_true rfl, Nat.le_of_ble_eq_true rfl⟩) rfl rfl rfl hl.1 (Nat.le_of_ble_eq_true rfl) hW dX8_atOther_29 ⟨Nat.zero_le _, Nat.zero_le _⟩ rfl (fun H locs hW => ?_)
  refine lv_istore (lv' := [(6, .int v9), (5, .int v6), (4, .int v3), (3, .int z2), (0, .ref (a 99)), (1, .int p1), (2, .int p2)]) C.1 C.2.1 dX8_atOther_32 hl (by decide) rfl (fun ls hl => ?_)
  refine lv_aload_n C.1 C.2.1 dX8_atOther_34 rfl (lv_at hl 4 rfl) ?_
  refine fg_8_17 C kX8_atOther_8 mX8_atOther_98 hW dX8_atOther_35 ?_
  refine lv_iload_n C.1 C.2.1 dX8_atOther_38 rfl (lv_at hl 5 rfl) ?_
  obtain ⟨h12, hf⟩ := ckx_el hf
  refine al_8_17 C hW h12 dX8_atOther_39 ?_
  refine lv_iconst (v := 3) C.1 C.2.1 dX8_atOther_40 (by decide) ?_
  refine lv_icmp_ne (tgt := 77) C.1 C.2.1 dX8_atOther_41 (by decide) (fun q13 => ?_) (fun q13 => ?_)
  · replace hf := (if_neg q13).symm.trans hf
    refine lv_iload_n C.1 C.2.1 dX8_atOther_77 rfl (lv_at hl 6 rfl) ?_
    refine lv_iconst (v := 1) C.1 C.2.1 dX8_atOther_78 (by decide) ?_
    refine lv_icmp_ne (tgt := 121) C.1 C.2.1 dX8_atOther_79 (by decide) (fun q14 => ?_) (fun q14 => ?_)
    · replace hf := (if_neg q14).symm.trans hf
      refine lv_iload C.1 C.2.1 dX8_atOther_121 (lv_at hl 1 rfl) ?_
      refine lv_if_eq (tgt := 137) C.1 C.2.1 dX8_atOther_123 (by decide) (fun q15 => ?_) (fun q15 => ?_)
      · replace hf := (if_pos q15).symm.trans hf
        refine lv_iconst (v := 4) C.1 C.2.1 dX8_atOther_137 (by decide) ?_
        exact mrI C hr hlocks rfl hf hW dX8_atOther_138
      · replace hf := (if_neg q15).symm.trans hf
        refine lv_aload_n C.1 C.2.1 dX8_atOther_126 rfl (lv_at hl 4 rfl) ?_
        refine fg_8_35 C kX8_atOther_8 mX8_atOther_173 hW dX8_atOther_127 ?_
        refine lv_iload C.1 C.2.1 dX8_atOther_130 (lv_at hl 1 rfl) ?_
        obtain ⟨h16, hf⟩ := ckx_el hf
        refine al_8_35 C hW h16 dX8_atOther_132 ?_
        refine lv_iconst (v := 3) C.1 C.2.1 dX8_atOther_133 (by decide) ?_
        refine lv_icmp_eq (tgt := 139) C.1 C.2.1 dX8_atOther_134 (by decide) (fun q17 => ?_) (fun q17 => ?_)
        · replace hf := (if_pos q17).symm.trans hf
          refine lv_aload_n C.1 C.2.1 dX8_atOther_139 rfl (lv_at hl 4 rfl) ?_
          refine lv_aload_n C.1 C.2.1 dX8_atOther_140 rfl (lv_at hl 4 rfl) ?_
          refine lv_aload_n C.1 C.2.1 dX8_atOther_141 rfl (lv_at hl 4 rfl) ?_
          refine fg_8_48 C kX8_atOther_8 mX8_atOther_284 hW dX8_atOther_142 ?_
          refine lv_iload_n C.1 C.2.1 dX8_atOther_145 rfl (lv_at hl 3 rfl) ?_
          refine lv_aload_n C.1 C.2.1 dX8_atOther_146 rfl (lv_at hl 4 rfl) ?_
          refine lv_aload_n C.1 C.2.1 dX8_atOther_147 rfl (lv_at hl 4 rfl) ?_
          refine fg_8_36 C kX8_atOther_8 mX8_atOther_176 hW dX8_atOther_148 ?_
          refine lv_iload C.1 C.2.1 dX8_atOther_151 (lv_at hl 1 rfl) ?_
          obtain ⟨h18, hf⟩ := ckx_el hf
          refine al_8_36 C hW h18 dX8_atOther_153 ?_
          refine lv_aload_n C.1 C.2.1 dX8_atOther_154 rfl (lv_at hl 4 rfl) ?_
          refine lv_aload_n C.1 C.2.1 dX8_atOther_155 rfl (lv_at hl 4 rfl) ?_
          refine fg_8_37 C kX8_atOther_8 mX8_atOther_179 hW dX8_atOther_156 ?_
          refine lv_iload C.1 C.2.1 dX8_atOther_159 (lv_at hl 1 rfl) ?_
          obtain ⟨h19, hf⟩ := ckx_el hf
          refine al_8_37 C hW h19 dX8_atOther_161 ?_
          refine lv_iload C.1 C.2.1 dX8_atOther_162 (lv_at hl 0 rfl) ?_
          obtain ⟨v20, S22, h21, hf⟩ := bd2_el hf
          refine mcVi (w := wM cy a r) (S := S11) (As := [.int (S11.2.1 37 (v6 : Int32).toNatClampNeg), .int v9]) (rest := [.int (S11.2.1 36 (v6 : Int32).toNatClampNeg), .ref (a 99), .int z2, .int (S11.1 48), .ref (a 99), .ref (a 99)]) (q0 := 0) (ci := 8) C (cX8_list_met l D cy a r _ N S11 (S11.2.1 37 (v6 : Int32).toNatClampNeg) v9 (v20, S22) h21) (cwV 2 C.2.2.2.2.1 gX8_atOther_X8_list rfl rfl rfl (by decide +kernel) ⟨Nat.le_of_ble_eq_true rfl, Nat.le_of_ble_eq_true rfl⟩) rfl rfl rfl hl.1 (Nat.le_of_ble_eq_true rfl) hW dX8_atOther_164 ⟨Nat.zero_le _, Nat.zero_le _⟩ rfl (fun H locs hW => ?_)
          obtain ⟨v23, S25, h24, hf⟩ := bd2_el hf
          refine mcVi (w := wM cy a r) (S := S22) (As := [.int (S11.2.1 36 (v6 : Int32).toNatClampNeg), .int v20]) (rest := [.int z2, .int (S11.1 48), .ref (a 99), .ref (a 99)]) (q0 := 0) (ci := 8) C (cX8_list_met l D cy a r _ N S22 (S11.2.1 36 (v6 : Int32).toNatClampNeg) v20 (v23, S25) h24) (cwV 2 C.2.2.2.2.1 gX8_atOther_X8_list rfl rfl rfl (by decide +kernel) ⟨Nat.le_of_ble_eq_true rfl, Nat.le_of_ble_eq_true rfl⟩) rfl rfl rfl hl.1 (Nat.le_of_ble_eq_true rfl) hW dX8_atOther_167 ⟨Nat.zero_le _, Nat.zero_le _⟩ rfl (fun H locs hW => ?_)
          obtain ⟨v26, S28, h27, hf⟩ := bd2_el hf
          refine mcVi (w := wM cy a r) (S := S25) (As := [.int (S11.1 48), .int z2, .int v23]) (rest := [.ref (a 99)]) (q0 := 0) (ci := 8) C (cX8_with_met l D cy a r _ N S25 (S11.1 48) z2 v23 (v26, S28) h27) (cwV 3 C.2.2.2.2.1 gX8_atOther_X8_with rfl rfl rfl (by decide +kernel) ⟨Nat.le_of_ble_eq_true rfl, Nat.le_of_ble_eq_true rfl⟩) rfl rfl rfl hl.1 (Nat.le_of_ble_eq_true rfl) hW dX8_atOther_170 ⟨Nat.zero_le _, Nat.zero_le _⟩ rfl (fun H locs hW => ?_)
          obtain ⟨S29, eS29, hf⟩ := bnd_el hf
          refine fp_8_48 C kX8_atOther_8 mX8_atOther_284 hW dX8_atOther_173 eS29 (fun H locs hW => ?_)
          exact lX8_atOther_176 C hr hlocks N _ _ _ hf _ _ _ hW (lv_sub hl [4, 5, 6] rfl)
        · replace hf := (if_neg q17).symm.trans hf
          refine lv_iconst (v := 4) C.1 C.2.1 dX8_atOther_137 (by decide) ?_
          exact mrI C hr hlocks rfl hf hW dX8_atOther_138
    · replace hf := (if_pos q14).symm.trans hf
      refine lv_aload_n C.1 C.2.1 dX8_atOther_82 rfl (lv_at hl 4 rfl) ?_
      refine lv_aload_n C.1 C.2.1 dX8_atOther_83 rfl (lv_at hl 4 rfl) ?_
      refine lv_aload_n C.1 C.2.1 dX8_atOther_84 rfl (lv_at hl 4 rfl) ?_
      refine fg_8_48 C kX8_atOther_8 mX8_atOther_284 hW dX8_atOther_85 ?_
      refine lv_iload_n C.1 C.2.1 dX8_atOther_88 rfl (lv_at hl 3 rfl) ?_
      refine lv_aload_n C.1 C.2.1 dX8_atOther_89 rfl (lv_at hl 4 rfl) ?_
      refine lv_aload_n C.1 C.2.1 dX8_atOther_90 rfl (lv_at hl 4 rfl) ?_
      refine lv_iconst (v := 3) C.1 C.2.1 dX8_atOther_91 (by decide) ?_
      refine lv_iload C.1 C.2.1 dX8_atOther_92 (lv_at hl 1 rfl) ?_
      refine lv_aload_n C.1 C.2.1 dX8_atOther_94 rfl (lv_at hl 4 rfl) ?_
      refine lv_iload C.1 C.2.1 dX8_atOther_95 (lv_at hl 0 rfl) ?_
      obtain ⟨v30, S32, h31, hf⟩ := bd2_el hf
      refine mcVi (w := wM cy a r) (S := S11) (As := [.int v9]) (rest := [.int v6, .int (3 : Int32), .ref (a 99), .ref (a 99), .int z2, .int (S11.1 48), .ref (a 99), .ref (a 99)]) (q0 := 0) (ci := 8) C (cX8_head_met l D cy a r _ N S11 v9 (v30, S32) h31) (cwV 1 C.2.2.2.2.1 gX8_atOther_X8_head rfl rfl rfl (by decide +kernel) ⟨Nat.le_of_ble_eq_true rfl, Nat.le_of_ble_eq_true rfl⟩) rfl rfl rfl hl.1 (Nat.le_of_ble_eq_true rfl) hW dX8_atOther_97 ⟨Nat.zero_le _, Nat.zero_le _⟩ rfl (fun H locs hW => ?_)
      obtain ⟨v33, S35, h34, hf⟩ := bd2_el hf
      refine mcVi (w := wM cy a r) (S := S32) (As := [.int (3 : Int32), .int v6, .int v30]) (rest := [.ref (a 99), .int z2, .int (S11.1 48), .ref (a 99), .ref (a 99)]) (q0 := 0) (ci := 8) C (cX8_level_met l D cy a r _ N S32 (3 : Int32) v6 v30 (v33, S35) h34) (cwV 3 C.2.2.2.2.1 gX8_atOther_X8_level rfl rfl rfl (by decide +kernel) ⟨Nat.le_of_ble_eq_true rfl, Nat.le_of_ble_eq_true rfl⟩) rfl rfl rfl hl.1 (Nat.le_of_ble_eq_true rfl) hW dX8_atOther_100 ⟨Nat.zero_le _, Nat.zero_le _⟩ rfl (fun H locs hW => ?_)
      refine lv_aload_n C.1 C.2.1 dX8_atOther_103 rfl (lv_at hl 4 rfl) ?_
      refine lv_iload C.1 C.2.1 dX8_atOther_104 (lv_at hl 0 rfl) ?_
      obtain ⟨v36, S38, h37, hf⟩ := bd2_el hf
      refine mcVi (w := wM cy a r) (S := S35) (As := [.int v9]) (rest := [.int v33, .ref (a 99), .int z2, .int (S11.1 48), .ref (a 99), .ref (a 99)]) (q0 := 0) (ci := 8) C (cX8_tail_met l D cy a r _ N S35 v9 (v36, S38) h37) (cwV 1 C.2.2.2.2.1 gX8_atOther_X8_tail rfl rfl rfl (by decide +kernel) ⟨Nat.le_of_ble_eq_true rfl, Nat.le_of_ble_eq_true rfl⟩) rfl rfl rfl hl.1 (Nat.le_of_ble_eq_true rfl) hW dX8_atOther_106 ⟨Nat.zero_le _, Nat.zero_le _⟩ rfl (fun H locs hW => ?_)
      obtain ⟨v39, S41, h40, hf⟩ := bd2_el hf
      refine mcVi (w := wM cy a r) (S := S38) (As := [.int v33, .int v36]) (rest := [.int z2, .int (S11.1 48), .ref (a 99), .ref (a 99)]) (q0 := 0) (ci := 8) C (cX8_list_met l D cy a r _ N S38 v33 v36 (v39, S41) h40) (cwV 2 C.2.2.2.2.1 gX8_atOther_X8_list rfl rfl rfl (by decide +kernel) ⟨Nat.le_of_ble_eq_true rfl, Nat.le_of_ble_eq_true rfl⟩) rfl rfl rfl hl.1 (Nat.le_of_ble_eq_true rfl) hW dX8_atOther_109 ⟨Nat.zero_le _, Nat.zero_le _⟩ rfl (fun H locs hW => ?_)
      obtain ⟨v42, S44, h43, hf⟩ := bd2_el hf
      refine mcVi (w := wM cy a r) (S := S41) (As := [.int (S11.1 48), .int z2, .int v39]) (rest := [.ref (a 99)]) (q0 := 0) (ci := 8) C (cX8_with_met l D cy a r _ N S41 (S11.1 48) z2 v39 (v42, S44) h43) (cwV 3 C.2.2.2.2.1 gX8_atOther_X8_with rfl rfl rfl (by decide +kernel) ⟨Nat.le_of_ble_eq_true rfl, Nat.le_of_ble_eq_true rfl⟩) rfl rfl rfl hl.1 (Nat.le_of_ble_eq_true rfl) hW dX8_atOther_112 ⟨Nat.zero_le _, Nat.zero_le _⟩ rfl (fun H locs hW => ?_)
      obtain ⟨S45, eS45, hf⟩ := bnd_el hf
      refine fp_8_48 C kX8_atOther_8 mX8_atOther_284 hW dX8_atOther_115 eS45 (fun H locs hW => ?_)
      refine lv_goto (tgt := 176) C.1 C.2.1 dX8_atOther_118 (by decide) ?_
      exact lX8_atOther_176 C hr hlocks N _ _ _ hf _ _ _ hW (lv_sub hl [4, 5, 6] rfl)
  · replace hf := (if_pos q13).symm.trans hf
    refine lv_aload_n C.1 C.2.1 dX8_atOther_44 rfl (lv_at hl 4 rfl) ?_
    refine lv_aload_n C.1 C.2.1 dX8_atOther_45 rfl (lv_at hl 4 rfl) ?_
    refine lv_aload_n C.1 C.2.1 dX8_atOther_46 rfl (lv_at hl 4 rfl) ?_
    refine fg_8_48 C kX8_atOther_8 mX8_atOther_284 hW dX8_atOther_47 ?_
    refine lv_iload_n C.1 C.2.1 dX8_atOther_50 rfl (lv_at hl 3 rfl) ?_
    refine lv_iload_n C.1 C.2.1 dX8_atOther_51 rfl (lv_at hl 6 rfl) ?_
    refine lv_iconst (v := 1) C.1 C.2.1 dX8_atOther_52 (by decide) ?_
    refine lv_icmp_ne (tgt := 66) C.1 C.2.1 dX8_atOther_53 (by decide) (fun q46 => ?_) (fun q46 => ?_)
    · replace hf := (if_neg q46).symm.trans hf
      refine lv_iload C.1 C.2.1 dX8_atOther_66 (lv_at hl 0 rfl) ?_
      exact lX8_atOther_68 C hr hlocks N _ _ _ _ _ _ hf _ _ _ hW (lv_sub hl [4, 5, 6] rfl)
    · replace hf := (if_pos q46).symm.trans hf
      refine lv_aload_n C.1 C.2.1 dX8_atOther_56 rfl (lv_at hl 4 rfl) ?_
      refine lv_iconst (v := 0) C.1 C.2.1 dX8_atOther_57 (by decide) ?_
      refine lv_iload C.1 C.2.1 dX8_atOther_58 (lv_at hl 2 rfl) ?_
      obtain ⟨v47, S49, h48, hf⟩ := bd2_el hf
      refine mcVi (w := wM cy a r) (S := S11) (As := [.int (0 : Int32), .int v3]) (rest := [.int z2, .int (S11.1 48), .ref (a 99), .ref (a 99)]) (q0 := 0) (ci := 8) C (cX8_list_met l D cy a r _ N S11 (0 : Int32) v3 (v47, S49) h48) (cwV 2 C.2.2.2.2.1 gX8_atOther_X8_list rfl rfl rfl (by decide +kernel) ⟨Nat.le_of_ble_eq_true rfl, Nat.le_of_ble_eq_true rfl⟩) rfl rfl rfl hl.1 (Nat.le_of_ble_eq_true rfl) hW dX8_atOther_60 ⟨Nat.zero_le _, Nat.zero_le _⟩ rfl (fun H locs hW => ?_)
      refine lv_goto (tgt := 68) C.1 C.2.1 dX8_atOther_63 (by decide) ?_
      exact lX8_atOther_68 C hr hlocks N _ _ _ _ _ _ hf _ _ _ hW (lv_sub hl [4, 5, 6] rfl)
theorem mX8_step_98 : Cond.fieldLink RX8 98 "SharedLambdaModel" "kinds" "[I" ∈ wsX8_step := by decide +kernel
theorem mX8_step_113 : Cond.fieldLink RX8 113 "SharedLambdaModel" "wires" "[I" ∈ wsX8_step := by decide +kernel
theorem mX8_step_287 : Cond.fieldLink RX8 287 "SharedLambdaModel" "out" "I" ∈ wsX8_step := by decide +kernel
theorem mX8_step_315 : Cond.fieldLink RX8 315 "SharedLambdaModel" "one" "I" ∈ wsX8_step := by decide +kernel
theorem mX8_step_318 : Cond.fieldLink RX8 318 "SharedLambdaModel" "other" "I" ∈ wsX8_step := by decide +kernel
theorem kX8_step_8 : ∀ w ∈ u_ws RX8 TX8 58, w ∈ wsX8_step := fun _ h => List.mem_cons_of_mem _ (List.mem_append_right _ h)
def fX8_step_64 (N : Nat) (S : St) (x2 : Int32) (x3 : Int32) : Option (Int32 × St) :=
  ckx x2 3010 <|
  if S.2.1 17 (x2 : Int32).toNatClampNeg = 0 then
    bd2 (fX8_atLambda N S x2 x3) fun v3 S5 =>
    some (v3, S5)
  else
    if S.2.1 17 (x2 : Int32).toNatClampNeg = 1 then
      bd2 (fX8_atApplication N S x2 x3) fun v7 S9 =>
      some (v7, S9)
    else
      if S.2.1 17 (x2 : Int32).toNatClampNeg = 2 then
        bd2 (fX8_atFan N S x2 x3) fun v11 S13 =>
        some (v11, S13)
      else
        if S.2.1 17 (x2 : Int32).toNatClampNeg = 3 then
          bd2 (fX8_atOther N S x2 x3) fun v15 S17 =>
          some (v15, S17)
        else
          if S.2.1 17 (x2 : Int32).toNatClampNeg = 4 then
            bd2 (fX8_atOther N S x2 x3) fun v19 S21 =>
            some (v19, S21)
          else
            some ((4 : Int32), S)
set_option maxHeartbeats 4000000 in
set_option maxRecDepth 100000 in
theorem lX8_step_64 {p : Program} {l : Launch} {e : Env} {s : State} {m : MethodId} {args : Array Value} {below : List Frame} {meth : Method} {c : Code} {D : va_G} {cy : Nat → ClassId} {a r : Nat → Nat} {A : Nat → Prop} {Rr : Int32 × St} (C : Cx p s m args c cX8_step 4 wsX8_step RX8 D cy) (hr : meth.sig.returnType = some .int) (hlocks : meth.locks = false) (N : Nat) (S : St) (x2 : Int32) (x3 : Int32) (hf : fX8_step_64 N S x2 x3 = some Rr) : ∀ (H : Heap) (locs : List Loc) (ls : Array Slot), WW D A s.heap (wM cy a r S) H locs → lv_has ls 4 [(0, .ref (a 99)), (2, .int x2), (3, .int x3)] → W p l e ({ frames := 4, cells := 0, slots := 0, locals := 91 } : Room) s m args below meth c H locs 0 0 (MQ below (QI D cy (wM cy a r) A Rr) args s 0 0 A) (F0 m 64 ls []) := by
  intro H locs ls hW hl
  unfold fX8_step_64 at hf
  refine lv_aload_n C.1 C.2.1 dX8_step_64 rfl (lv_at hl 0 rfl) ?_
  refine fg_8_17 C kX8_step_8 mX8_step_98 hW dX8_step_65 ?_
  refine lv_iload_n C.1 C.2.1 dX8_step_68 rfl (lv_at hl 1 rfl) ?_
  obtain ⟨h1, hf⟩ := ckx_el hf
  refine al_8_17 C hW h1 dX8_step_69 ?_
  by_cases q2 : S.2.1 17 (x2 : Int32).toNatClampNeg = 0
  · refine lv_tableIn (tgt := 104) C.1 C.2.1 dX8_step_70 (by rw [q2]; decide) (by rw [q2]; decide) (by rw [q2]; rfl) (by decide) ?_
    replace hf := (if_pos q2).symm.trans hf
    refine lv_aload_n C.1 C.2.1 dX8_step_104 rfl (lv_at hl 0 rfl) ?_
    refine lv_iload_n C.1 C.2.1 dX8_step_105 rfl (lv_at hl 1 rfl) ?_
    refine lv_iload_n C.1 C.2.1 dX8_step_106 rfl (lv_at hl 2 rfl) ?_
    obtain ⟨v3, S5, h4, hf⟩ := bd2_el hf
    refine mcVi (w := wM cy a r) (S := S) (As := [.int x2, .int x3]) (rest := []) (q0 := 0) (ci := 8) C (cX8_atLambda_met l D cy a r _ N S x2 x3 (v3, S5) h4) (cwV 2 C.2.2.2.2.1 gX8_step_X8_atLambda rfl rfl rfl (by decide +kernel) ⟨Nat.le_of_ble_eq_true rfl, Nat.le_of_ble_eq_true rfl⟩) rfl rfl rfl hl.1 (Nat.le_of_ble_eq_true rfl) hW dX8_step_107 ⟨Nat.zero_le _, Nat.zero_le _⟩ rfl (fun H locs hW => ?_)
    exact mrI C hr hlocks rfl hf hW dX8_step_110
  · replace hf := (if_neg q2).symm.trans hf
    by_cases q6 : S.2.1 17 (x2 : Int32).toNatClampNeg = 1
    · refine lv_tableIn (tgt := 111) C.1 C.2.1 dX8_step_70 (by rw [q6]; decide) (by rw [q6]; decide) (by rw [q6]; rfl) (by decide) ?_
      replace hf := (if_pos q6).symm.trans hf
      refine lv_aload_n C.1 C.2.1 dX8_step_111 rfl (lv_at hl 0 rfl) ?_
      refine lv_iload_n C.1 C.2.1 dX8_step_112 rfl (lv_at hl 1 rfl) ?_
      refine lv_iload_n C.1 C.2.1 dX8_step_113 rfl (lv_at hl 2 rfl) ?_
      obtain ⟨v7, S9, h8, hf⟩ := bd2_el hf
      refine mcVi (w := wM cy a r) (S := S) (As := [.int x2, .int x3]) (rest := []) (q0 := 0) (ci := 8) C (cX8_atApplication_met l D cy a r _ N S x2 x3 (v7, S9) h8) (cwV 2 C.2.2.2.2.1 gX8_step_X8_atApplication rfl rfl rfl (by decide +kernel) ⟨Nat.le_of_ble_eq_true rfl, Nat.le_of_ble_eq_true rfl⟩) rfl rfl rfl hl.1 (Nat.le_of_ble_eq_true rfl) hW dX8_step_114 ⟨Nat.zero_le _, Nat.zero_le _⟩ rfl (fun H locs hW => ?_)
      exact mrI C hr hlocks rfl hf hW dX8_step_117
    · replace hf := (if_neg q6).symm.trans hf
      by_cases q10 : S.2.1 17 (x2 : Int32).toNatClampNeg = 2
      · refine lv_tableIn (tgt := 118) C.1 C.2.1 dX8_step_70 (by rw [q10]; decide) (by rw [q10]; decide) (by rw [q10]; rfl) (by decide) ?_
        replace hf := (if_pos q10).symm.trans hf
        refine lv_aload_n C.1 C.2.1 dX8_step_118 rfl (lv_at hl 0 rfl) ?_
        refine lv_iload_n C.1 C.2.1 dX8_step_119 rfl (lv_at hl 1 rfl) ?_
        refine lv_iload_n C.1 C.2.1 dX8_step_120 rfl (lv_at hl 2 rfl) ?_
        obtain ⟨v11, S13, h12, hf⟩ := bd2_el hf
        refine mcVi (w := wM cy a r) (S := S) (As := [.int x2, .int x3]) (rest := []) (q0 := 0) (ci := 8) C (cX8_atFan_met l D cy a r _ N S x2 x3 (v11, S13) h12) (cwV 2 C.2.2.2.2.1 gX8_step_X8_atFan rfl rfl rfl (by decide +kernel) ⟨Nat.le_of_ble_eq_true rfl, Nat.le_of_ble_eq_true rfl⟩) rfl rfl rfl hl.1 (Nat.le_of_ble_eq_true rfl) hW dX8_step_121 ⟨Nat.zero_le _, Nat.zero_le _⟩ rfl (fun H locs hW => ?_)
        exact mrI C hr hlocks rfl hf hW dX8_step_124
      · replace hf := (if_neg q10).symm.trans hf
        by_cases q14 : S.2.1 17 (x2 : Int32).toNatClampNeg = 3
        · refine lv_tableIn (tgt := 125) C.1 C.2.1 dX8_step_70 (by rw [q14]; decide) (by rw [q14]; decide) (by rw [q14]; rfl) (by decide) ?_
          replace hf := (if_pos q14).symm.trans hf
          refine lv_aload_n C.1 C.2.1 dX8_step_125 rfl (lv_at hl 0 rfl) ?_
          refine lv_iload_n C.1 C.2.1 dX8_step_126 rfl (lv_at hl 1 rfl) ?_
          refine lv_iload_n C.1 C.2.1 dX8_step_127 rfl (lv_at hl 2 rfl) ?_
          obtain ⟨v15, S17, h16, hf⟩ := bd2_el hf
          refine mcVi (w := wM cy a r) (S := S) (As := [.int x2, .int x3]) (rest := []) (q0 := 0) (ci := 8) C (cX8_atOther_met l D cy a r _ N S x2 x3 (v15, S17) h16) (cwV 2 C.2.2.2.2.1 gX8_step_X8_atOther rfl rfl rfl (by decide +kernel) ⟨Nat.le_of_ble_eq_true rfl, Nat.le_of_ble_eq_true rfl⟩) rfl rfl rfl hl.1 (Nat.le_of_ble_eq_true rfl) hW dX8_step_128 ⟨Nat.zero_le _, Nat.zero_le _⟩ rfl (fun H locs hW => ?_)
          exact mrI C hr hlocks rfl hf hW dX8_step_131
        · replace hf := (if_neg q14).symm.trans hf
          by_cases q18 : S.2.1 17 (x2 : Int32).toNatClampNeg = 4
          · refine lv_tableIn (tgt := 125) C.1 C.2.1 dX8_step_70 (by rw [q18]; decide) (by rw [q18]; decide) (by rw [q18]; rfl) (by decide) ?_
            replace hf := (if_pos q18).symm.trans hf
            refine lv_aload_n C.1 C.2.1 dX8_step_125 rfl (lv_at hl 0 rfl) ?_
            refine lv_iload_n C.1 C.2.1 dX8_step_126 rfl (lv_at hl 1 rfl) ?_
            refine lv_iload_n C.1 C.2.1 dX8_step_127 rfl (lv_at hl 2 rfl) ?_
            obtain ⟨v19, S21, h20, hf⟩ := bd2_el hf
            refine mcVi (w := wM cy a r) (S := S) (As := [.int x2, .int x3]) (rest := []) (q0 := 0) (ci := 8) C (cX8_atOther_met l D cy a r _ N S x2 x3 (v19, S21) h20) (cwV 2 C.2.2.2.2.1 gX8_step_X8_atOther rfl rfl rfl (by decide +kernel) ⟨Nat.le_of_ble_eq_true rfl, Nat.le_of_ble_eq_true rfl⟩) rfl rfl rfl hl.1 (Nat.le_of_ble_eq_true rfl) hW dX8_step_128 ⟨Nat.zero_le _, Nat.zero_le _⟩ rfl (fun H locs hW => ?_)
            exact mrI C hr hlocks rfl hf hW dX8_step_131
          · replace hf := (if_neg q18).symm.trans hf
            refine lv_tableOut (tgt := 132) C.1 C.2.1 dX8_step_70 (tb_out 5 (by decide) (fun j hj => ?_)) (by decide) ?_
            · rcases (show j = 0 ∨ j = 1 ∨ j = 2 ∨ j = 3 ∨ j = 4 by omega) with rfl | rfl | rfl | rfl | rfl
              · exact q2
              · exact q6
              · exact q10
              · exact q14
              · exact q18
            · skip
              refine lv_iconst (v := 4) C.1 C.2.1 dX8_step_132 (by decide) ?_
              exact mrI C hr hlocks rfl hf hW dX8_step_133
def fX8_step (N : Nat) (S : St) : Option (Int32 × St) :=
  ckx (S.1 49) 9030 <|
  bnd (S.2.1 19 (S.1 49 : Int32).toNatClampNeg) fun z2 =>
  bnd ((z2 / (3 : Int32))) fun z3 =>
  bnd ((z2 - z2 / (3 : Int32) * (3 : Int32))) fun z4 =>
  if z4 = 0 then
    if (S.1 49 - S.1 49 / (3 : Int32) * (3 : Int32)) = 0 then
      ckx ((S.1 49 / (3 : Int32))) 3010 <|
      if S.2.1 17 ((S.1 49 / (3 : Int32)) : Int32).toNatClampNeg = (6 : Int32) then
        fX8_step_64 N S z3 z4
      else
        bnd (sI S 50 ((S.1 49 / (3 : Int32)))) fun S9 =>
        bnd (sI S9 51 z3) fun S10 =>
        some ((5 : Int32), S10)
    else
      fX8_step_64 N S z3 z4
  else
    fX8_step_64 N S z3 z4
set_option maxHeartbeats 4000000 in
set_option maxRecDepth 100000 in
theorem cX8_step_met (l : Launch) (D : va_G) (cy : Nat → ClassId) (a r : Nat → Nat) (sz N : Nat) (S : St) (Rr : Int32 × St) (hf : fX8_step N S  = some Rr) : Met l yX8_step wsX8_step ({ frames := 4, cells := 0, slots := 0, locals := 91 } : Room) (va_Pc [.ref (a 99)] (preW D cy (wM cy a r S) sz)) (QI D cy (wM cy a r) (va_A (wM cy a r S) sz) Rr) 0 0 (va_A (wM cy a r S) sz) := by
  refine Met.ofW (cc := cX8_step) (maxL := 4) (ret := (some .int)) (by decide) rfl ?_
  intro p e s m args below meth c s₁ B hml hv
  obtain ⟨rfl, rfl, hP, hK, hD0, hN⟩ := hv
  have hlocks := B.notSynchronized
  have hr := B.returns
  have C : Cx p s m _ c cX8_step 4 wsX8_step RX8 D cy := ⟨B.exec, B.bytes, hml, findClass_of_methodNamed B.named, atoms_spec (ws := wsX8_step) B.pre, hK, hN⟩
  have hW := ww_start (w := wM cy a r) hP hD0
  generalize va_A (wM cy a r S) s.heap.size = A at hW ⊢
  have hl := lv_entry ([.ref (a 99)]) (n := 4) (Nat.le_of_ble_eq_true rfl)
  rw [lg_entry_eq]
  generalize (lg_sl ([.ref (a 99)]) ++ List.replicate (4 - (lg_sl ([.ref (a 99)])).length) Slot.unset).toArray = ls at hl ⊢
  have hl : lv_has ls 4 [(0, .ref (a 99))] := hl
  unfold fX8_step at hf
  refine lv_aload_n C.1 C.2.1 dX8_step_0 rfl (lv_at hl 0 rfl) ?_
  refine fg_8_19 C kX8_step_8 mX8_step_113 hW dX8_step_1 ?_
  refine lv_aload_n C.1 C.2.1 dX8_step_4 rfl (lv_at hl 0 rfl) ?_
  refine fg_8_49 C kX8_step_8 mX8_step_287 hW dX8_step_5 ?_
  obtain ⟨h1, hf⟩ := ckx_el hf
  refine al_8_19 C hW h1 dX8_step_8 ?_
  obtain ⟨z2, ez2, hf⟩ := bnd_el hf
  refine lv_as ez2 ?_
  refine lv_istore_n (lv' := [(1, .int z2), (0, .ref (a 99))]) C.1 C.2.1 dX8_step_9 rfl hl (by decide) rfl (fun ls hl => ?_)
  refine lv_iload_n C.1 C.2.1 dX8_step_10 rfl (lv_at hl 0 rfl) ?_
  refine lv_iconst (v := 3) C.1 C.2.1 dX8_step_11 (by decide) ?_
  refine lv_idiv C.1 C.2.1 dX8_step_12 (by decide) ?_
  obtain ⟨z3, ez3, hf⟩ := bnd_el hf
  refine lv_as ez3 ?_
  refine lv_istore_n (lv' := [(2, .int z3), (1, .int z2), (0, .ref (a 99))]) C.1 C.2.1 dX8_step_13 rfl hl (by decide) rfl (fun ls hl => ?_)
  refine lv_iload_n C.1 C.2.1 dX8_step_14 rfl (lv_at hl 1 rfl) ?_
  refine lv_iconst (v := 3) C.1 C.2.1 dX8_step_15 (by decide) ?_
  refine lv_irem C.1 C.2.1 dX8_step_16 (by decide) ?_
  obtain ⟨z4, ez4, hf⟩ := bnd_el hf
  refine lv_as ez4 ?_
  refine lv_istore_n (lv' := [(3, .int z4), (2, .int z3), (1, .int z2), (0, .ref (a 99))]) C.1 C.2.1 dX8_step_17 rfl hl (by decide) rfl (fun ls hl => ?_)
  refine lv_iload_n C.1 C.2.1 dX8_step_18 rfl (lv_at hl 0 rfl) ?_
  refine lv_if_ne (tgt := 64) C.1 C.2.1 dX8_step_19 (by decide) (fun q5 => ?_) (fun q5 => ?_)
  · replace hf := (if_neg q5).symm.trans hf
    exact lX8_step_64 C hr hlocks N _ _ _ hf _ _ _ hW (lv_sub hl [3, 1, 0] rfl)
  · replace hf := (if_pos q5).symm.trans hf
    refine lv_aload_n C.1 C.2.1 dX8_step_22 rfl (lv_at hl 3 rfl) ?_
    refine fg_8_49 C kX8_step_8 mX8_step_287 hW dX8_step_23 ?_
    refine lv_iconst (v := 3) C.1 C.2.1 dX8_step_26 (by decide) ?_
    refine lv_irem C.1 C.2.1 dX8_step_27 (by decide) ?_
    refine lv_if_ne (tgt := 64) C.1 C.2.1 dX8_step_28 (by decide) (fun q6 => ?_) (fun q6 => ?_)
    · replace hf := (if_neg q6).symm.trans hf
      exact lX8_step_64 C hr hlocks N _ _ _ hf _ _ _ hW (lv_sub hl [3, 1, 0] rfl)
    · replace hf := (if_pos q6).symm.trans hf
      refine lv_aload_n C.1 C.2.1 dX8_step_31 rfl (lv_at hl 3 rfl) ?_
      refine fg_8_17 C kX8_step_8 mX8_step_98 hW dX8_step_32 ?_
      refine lv_aload_n C.1 C.2.1 dX8_step_35 rfl (lv_at hl 3 rfl) ?_
      refine fg_8_49 C kX8_step_8 mX8_step_287 hW dX8_step_36 ?_
      refine lv_iconst (v := 3) C.1 C.2.1 dX8_step_39 (by decide) ?_
      refine lv_idiv C.1 C.2.1 dX8_step_40 (by decide) ?_
      obtain ⟨h7, hf⟩ := ckx_el hf
      refine al_8_17 C hW h7 dX8_step_41 ?_
      refine lv_bipush (v := 6) C.1 C.2.1 dX8_step_42 (by decide) ?_
      refine lv_icmp_eq (tgt := 64) C.1 C.2.1 dX8_step_44 (by decide) (fun q8 => ?_) (fun q8 => ?_)
      · replace hf := (if_pos q8).symm.trans hf
        exact lX8_step_64 C hr hlocks N _ _ _ hf _ _ _ hW (lv_sub hl [3, 1, 0] rfl)
      · replace hf := (if_neg q8).symm.trans hf
        refine lv_aload_n C.1 C.2.1 dX8_step_47 rfl (lv_at hl 3 rfl) ?_
        refine lv_aload_n C.1 C.2.1 dX8_step_48 rfl (lv_at hl 3 rfl) ?_
        refine fg_8_49 C kX8_step_8 mX8_step_287 hW dX8_step_49 ?_
        refine lv_iconst (v := 3) C.1 C.2.1 dX8_step_52 (by decide) ?_
        refine lv_idiv C.1 C.2.1 dX8_step_53 (by decide) ?_
        obtain ⟨S9, eS9, hf⟩ := bnd_el hf
        refine fp_8_50 C kX8_step_8 mX8_step_315 hW dX8_step_54 eS9 (fun H locs hW => ?_)
        refine lv_aload_n C.1 C.2.1 dX8_step_57 rfl (lv_at hl 3 rfl) ?_
        refine lv_iload_n C.1 C.2.1 dX8_step_58 rfl (lv_at hl 1 rfl) ?_
        obtain ⟨S10, eS10, hf⟩ := bnd_el hf
        refine fp_8_51 C kX8_step_8 mX8_step_318 hW dX8_step_59 eS10 (fun H locs hW => ?_)
        refine lv_iconst (v := 5) C.1 C.2.1 dX8_step_62 (by decide) ?_
        exact mrI C hr hlocks rfl hf hW dX8_step_63
theorem mX8_walk_272 : Cond.fieldLink RX8 272 "SharedLambdaModel" "tells" "I" ∈ wsX8_walk := by decide +kernel
theorem mX8_walk_257 : Cond.fieldLink RX8 257 "SharedLambdaModel" "levels" "I" ∈ wsX8_walk := by decide +kernel
theorem mX8_walk_260 : Cond.fieldLink RX8 260 "SharedLambdaModel" "cells" "I" ∈ wsX8_walk := by decide +kernel
theorem mX8_walk_281 : Cond.fieldLink RX8 281 "SharedLambdaModel" "abstracted" "I" ∈ wsX8_walk := by decide +kernel
theorem mX8_walk_278 : Cond.fieldLink RX8 278 "SharedLambdaModel" "laters" "I" ∈ wsX8_walk := by decide +kernel
theorem mX8_walk_284 : Cond.fieldLink RX8 284 "SharedLambdaModel" "context" "I" ∈ wsX8_walk := by decide +kernel
theorem mX8_walk_287 : Cond.fieldLink RX8 287 "SharedLambdaModel" "out" "I" ∈ wsX8_walk := by decide +kernel
theorem mX8_walk_185 : Cond.fieldLink RX8 185 "SharedLambdaModel" "levelHeads" "[I" ∈ wsX8_walk := by decide +kernel
theorem kX8_walk_8 : ∀ w ∈ u_ws RX8 TX8 58, w ∈ wsX8_walk := fun _ h => List.mem_cons_of_mem _ (List.mem_append_right _ h)
def fX8_walk_99 (N : Nat) (k62 : St × Int32 × Int32 → Option (Int32 × St)) (S : St) (x2 : Int32) (y0 : Int32) : Option (Int32 × St) :=
  bnd (x2 + (1 : Int32)) fun z1 =>
  k62 (S, y0, z1)
set_option maxHeartbeats 4000000 in
set_option maxRecDepth 100000 in
theorem lX8_walk_99 {p : Program} {l : Launch} {e : Env} {s : State} {m : MethodId} {args : Array Value} {below : List Frame} {meth : Method} {c : Code} {D : va_G} {cy : Nat → ClassId} {a r : Nat → Nat} {A : Nat → Prop} {Rr : Int32 × St} (C : Cx p s m args c cX8_walk 3 wsX8_walk RX8 D cy) (hr : meth.sig.returnType = some .int) (hlocks : meth.locks = false) (N : Nat) (k62 : St × Int32 × Int32 → Option (Int32 × St)) (hk62 : ∀ (S : St) (x1 : Int32) (x2 : Int32), k62 (S, x1, x2) = some Rr → ∀ (H : Heap) (locs : List Loc) (ls : Array Slot), WW D A s.heap (wM cy a r S) H locs → lv_has ls 3 [(0, .ref (a 99)), (1, .int x1), (2, .int x2)] → W p l e ({ frames := 5, cells := 0, slots := 0, locals := 114 } : Room) s m args below meth c H locs 0 0 (MQ below (QI D cy (wM cy a r) A Rr) args s 0 0 A) (F0 m 62 ls [])) (S : St) (x2 : Int32) (y0 : Int32) (hf : fX8_walk_99 N k62 S x2 y0 = some Rr) : ∀ (H : Heap) (locs : List Loc) (ls : Array Slot), WW D A s.heap (wM cy a r S) H locs → lv_has ls 3 [(0, .ref (a 99)), (2, .int x2)] → W p l e ({ frames := 5, cells := 0, slots := 0, locals := 114 } : Room) s m args below meth c H locs 0 0 (MQ below (QI D cy (wM cy a r) A Rr) args s 0 0 A) (F0 m 99 ls [.int y0]) := by
  intro H locs ls hW hl
  unfold fX8_walk_99 at hf
  refine lv_istore_n (lv' := [(1, .int y0), (0, .ref (a 99)), (2, .int x2)]) C.1 C.2.1 dX8_walk_99 rfl hl (by decide) rfl (fun ls hl => ?_)
  obtain ⟨z1, ez1, hf⟩ := bnd_el hf
  refine lv_iinc (v := z1) (lv' := [(2, .int z1), (1, .int y0), (0, .ref (a 99))]) C.1 C.2.1 dX8_walk_100 hl (k := 2) rfl (by rw [ez1]; rfl) (by decide) rfl (fun ls hl => ?_)
  refine lv_goto (tgt := 62) C.1 C.2.1 dX8_walk_103 (by decide) ?_
  exact hk62 _ _ _ hf _ _ _ hW (lv_sub hl [2, 1, 0] rfl)
def fX8_walk_83 (N : Nat) (k62 : St × Int32 × Int32 → Option (Int32 × St)) (S : St) (x2 : Int32) (y0 : Int32) : Option (Int32 × St) :=
  if S.1 46 ≤ (4000 : Int32) then
    fX8_walk_99 N k62 S x2 y0
  else
    fX8_walk_99 N k62 S x2 (3 : Int32)
set_option maxHeartbeats 4000000 in
set_option maxRecDepth 100000 in
theorem lX8_walk_83 {p : Program} {l : Launch} {e : Env} {s : State} {m : MethodId} {args : Array Value} {below : List Frame} {meth : Method} {c : Code} {D : va_G} {cy : Nat → ClassId} {a r : Nat → Nat} {A : Nat → Prop} {Rr : Int32 × St} (C : Cx p s m args c cX8_walk 3 wsX8_walk RX8 D cy) (hr : meth.sig.returnType = some .int) (hlocks : meth.locks = false) (N : Nat) (k62 : St × Int32 × Int32 → Option (Int32 × St)) (hk62 : ∀ (S : St) (x1 : Int32) (x2 : Int32), k62 (S, x1, x2) = some Rr → ∀ (H : Heap) (locs : List Loc) (ls : Array Slot), WW D A s.heap (wM cy a r S) H locs → lv_has ls 3 [(0, .ref (a 99)), (1, .int x1), (2, .int x2)] → W p l e ({ frames := 5, cells := 0, slots := 0, locals := 114 } : Room) s m args below meth c H locs 0 0 (MQ below (QI D cy (wM cy a r) A Rr) args s 0 0 A) (F0 m 62 ls [])) (S : St) (x2 : Int32) (y0 : Int32) (hf : fX8_walk_83 N k62 S x2 y0 = some Rr) : ∀ (H : Heap) (locs : List Loc) (ls : Array Slot), WW D A s.heap (wM cy a r S) H locs → lv_has ls 3 [(0, .ref (a 99)), (2, .int x2)] → W p l e ({ frames := 5, cells := 0, slots := 0, locals := 114 } : Room) s m args below meth c H locs 0 0 (MQ below (QI D cy (wM cy a r) A Rr) args s 0 0 A) (F0 m 83 ls [.int y0]) := by
  intro H locs ls hW hl
  unfold fX8_walk_83 at hf
  refine lv_istore_n (lv' := [(1, .int y0), (0, .ref (a 99)), (2, .int x2)]) C.1 C.2.1 dX8_walk_83 rfl hl (by decide) rfl (fun ls hl => ?_)
  refine lv_aload_n C.1 C.2.1 dX8_walk_84 rfl (lv_at hl 1 rfl) ?_
  refine fg_8_46 C kX8_walk_8 mX8_walk_272 hW dX8_walk_85 ?_
  refine lv_sipush (v := 4000) C.1 C.2.1 dX8_walk_88 (by decide) ?_
  refine lv_icmp_le (tgt := 98) C.1 C.2.1 dX8_walk_91 (by decide) (fun q1 => ?_) (fun q1 => ?_)
  · replace hf := (if_pos q1).symm.trans hf
    refine lv_iload_n C.1 C.2.1 dX8_walk_98 rfl (lv_at hl 0 rfl) ?_
    exact lX8_walk_99 C hr hlocks N _ hk62 _ _ _ hf _ _ _ hW (lv_sub hl [1, 2] rfl)
  · replace hf := (if_neg q1).symm.trans hf
    refine lv_iconst (v := 3) C.1 C.2.1 dX8_walk_94 (by decide) ?_
    refine lv_goto (tgt := 99) C.1 C.2.1 dX8_walk_95 (by decide) ?_
    exact lX8_walk_99 C hr hlocks N _ hk62 _ _ _ hf _ _ _ hW (lv_sub hl [1, 2] rfl)
def fX8_walk_62s (N : Nat) (k62 : St × Int32 × Int32 → Option (Int32 × St)) (S : St) (x1 : Int32) (x2 : Int32) : Option (Int32 × St) :=
  if x1 = (6 : Int32) then
    if x2 = (4000 : Int32) then
      fX8_walk_83 N k62 S x2 (3 : Int32)
    else
      bd2 (fX8_step N S) fun v3 S5 =>
      fX8_walk_83 N k62 S5 x2 v3
  else
    some (x1, S)
def fX8_walk_62 (N : Nat) : St × Int32 × Int32 → Option (Int32 × St) := loopN (fun k x => fX8_walk_62s N k x.1 x.2.1 x.2.2) N
set_option maxHeartbeats 4000000 in
set_option maxRecDepth 100000 in
theorem lX8_walk_62 {p : Program} {l : Launch} {e : Env} {s : State} {m : MethodId} {args : Array Value} {below : List Frame} {meth : Method} {c : Code} {D : va_G} {cy : Nat → ClassId} {a r : Nat → Nat} {A : Nat → Prop} {Rr : Int32 × St} (C : Cx p s m args c cX8_walk 3 wsX8_walk RX8 D cy) (hr : meth.sig.returnType = some .int) (hlocks : meth.locks = false) (N : Nat) : ∀ (n : Nat) (S : St) (x1 : Int32) (x2 : Int32), loopN (fun k x => fX8_walk_62s N k x.1 x.2.1 x.2.2) n (S, x1, x2) = some Rr → ∀ (H : Heap) (locs : List Loc) (ls : Array Slot), WW D A s.heap (wM cy a r S) H locs → lv_has ls 3 [(0, .ref (a 99)), (1, .int x1), (2, .int x2)] → W p l e ({ frames := 5, cells := 0, slots := 0, locals := 114 } : Room) s m args below meth c H locs 0 0 (MQ below (QI D cy (wM cy a r) A Rr) args s 0 0 A) (F0 m 62 ls []) := by
  intro n
  induction n with
  | zero =>
    intro S x1 x2 hf
    cases hf
  | succ n ih =>
    intro S x1 x2 hf H locs ls hW hl
    have hf : fX8_walk_62s N (loopN (fun k x => fX8_walk_62s N k x.1 x.2.1 x.2.2) n) S x1 x2 = some Rr := hf
    unfold fX8_walk_62s at hf
    refine lv_iload_n C.1 C.2.1 dX8_walk_62 rfl (lv_at hl 1 rfl) ?_
    refine lv_bipush (v := 6) C.1 C.2.1 dX8_walk_63 (by decide) ?_
    refine lv_icmp_ne (tgt := 106) C.1 C.2.1 dX8_walk_65 (by decide) (fun q1 => ?_) (fun q1 => ?_)
    · replace hf := (if_neg q1).symm.trans hf
      refine lv_iload_n C.1 C.2.1 dX8_walk_106 rfl (lv_at hl 1 rfl) ?_
      exact mrI C hr hlocks rfl hf hW dX8_walk_107
    · replace hf := (if_pos q1).symm.trans hf
      refine lv_iload_n C.1 C.2.1 dX8_walk_68 rfl (lv_at hl 2 rfl) ?_
      refine lv_sipush (v := 4000) C.1 C.2.1 dX8_walk_69 (by decide) ?_
      refine lv_icmp_ne (tgt := 79) C.1 C.2.1 dX8_walk_72 (by decide) (fun q2 => ?_) (fun q2 => ?_)
      · replace hf := (if_neg q2).symm.trans hf
        refine lv_aload_n C.1 C.2.1 dX8_walk_79 rfl (lv_at hl 0 rfl) ?_
        obtain ⟨v3, S5, h4, hf⟩ := bd2_el hf
        refine mcVi (w := wM cy a r) (S := S) (As := []) (rest := []) (q0 := 0) (ci := 8) C (cX8_step_met l D cy a r _ N S  (v3, S5) h4) (cwV 0 C.2.2.2.2.1 gX8_walk_X8_step rfl rfl rfl (by decide +kernel) ⟨Nat.le_of_ble_eq_true rfl, Nat.le_of_ble_eq_true rfl⟩) rfl rfl rfl hl.1 (Nat.le_of_ble_eq_true rfl) hW dX8_walk_80 ⟨Nat.zero_le _, Nat.zero_le _⟩ rfl (fun H locs hW => ?_)
        exact lX8_walk_83 C hr hlocks N _ ih _ _ _ hf _ _ _ hW (lv_sub hl [0, 2] rfl)
      · replace hf := (if_pos q2).symm.trans hf
        refine lv_iconst (v := 3) C.1 C.2.1 dX8_walk_75 (by decide) ?_
        refine lv_goto (tgt := 83) C.1 C.2.1 dX8_walk_76 (by decide) ?_
        exact lX8_walk_83 C hr hlocks N _ ih _ _ _ hf _ _ _ hW (lv_sub hl [0, 2] rfl)
def fX8_walk_2s (N : Nat) (k2 : St × Int32 → Option (Int32 × St)) (S : St) (x1 : Int32) : Option (Int32 × St) :=
  if (512 : Int32) ≤ x1 then
    bnd (sI S 40 (1 : Int32)) fun S2 =>
    bnd (sI S2 43 (1 : Int32)) fun S3 =>
    bnd (sI S3 46 (0 : Int32)) fun S4 =>
    bnd (sI S4 54 (0 : Int32)) fun S5 =>
    bnd (sI S5 57 (0 : Int32)) fun S6 =>
    bnd (sI S6 48 (0 : Int32)) fun S7 =>
    bnd (sI S7 49 (0 : Int32)) fun S8 =>
    bnd (6 : Int32) fun z9 =>
    bnd (0 : Int32) fun z10 =>
    fX8_walk_62 N (S8, z9, z10)
  else
    ckx x1 512 <|
    bnd (sA S 39 (upd (S.2.1 39) (x1 : Int32).toNatClampNeg (0 : Int32))) fun S12 =>
    bnd (x1 + (1 : Int32)) fun z13 =>
    k2 (S12, z13)
def fX8_walk_2 (N : Nat) : St × Int32 → Option (Int32 × St) := loopN (fun k x => fX8_walk_2s N k x.1 x.2) N
set_option maxHeartbeats 4000000 in
set_option maxRecDepth 100000 in
theorem lX8_walk_2 {p : Program} {l : Launch} {e : Env} {s : State} {m : MethodId} {args : Array Value} {below : List Frame} {meth : Method} {c : Code} {D : va_G} {cy : Nat → ClassId} {a r : Nat → Nat} {A : Nat → Prop} {Rr : Int32 × St} (C : Cx p s m args c cX8_walk 3 wsX8_walk RX8 D cy) (hr : meth.sig.returnType = some .int) (hlocks : meth.locks = false) (N : Nat) : ∀ (n : Nat) (S : St) (x1 : Int32), loopN (fun k x => fX8_walk_2s N k x.1 x.2) n (S, x1) = some Rr → ∀ (H : Heap) (locs : List Loc) (ls : Array Slot), WW D A s.heap (wM cy a r S) H locs → lv_has ls 3 [(0, .ref (a 99)), (1, .int x1)] → W p l e ({ frames := 5, cells := 0, slots := 0, locals := 114 } : Room) s m args below meth c H locs 0 0 (MQ below (QI D cy (wM cy a r) A Rr) args s 0 0 A) (F0 m 2 ls []) := by
  intro n
  induction n with
  | zero =>
    intro S x1 hf
    cases hf
  | succ n ih =>
    intro S x1 hf H locs ls hW hl
    have hf : fX8_walk_2s N (loopN (fun k x => fX8_walk_2s N k x.1 x.2) n) S x1 = some Rr := hf
    unfold fX8_walk_2s at hf
    refine lv_iload_n C.1 C.2.1 dX8_walk_2 rfl (lv_at hl 1 rfl) ?_
    refine lv_sipush (v := 512) C.1 C.2.1 dX8_walk_3 (by decide) ?_
    refine lv_icmp_ge (tgt := 22) C.1 C.2.1 dX8_walk_6 (by decide) (fun q1 => ?_) (fun q1 => ?_)
    · replace hf := (if_pos q1).symm.trans hf
      refine lv_aload_n C.1 C.2.1 dX8_walk_22 rfl (lv_at hl 0 rfl) ?_
      refine lv_iconst (v := 1) C.1 C.2.1 dX8_walk_23 (by decide) ?_
      obtain ⟨S2, eS2, hf⟩ := bnd_el hf
      refine fp_8_40 C kX8_walk_8 mX8_walk_257 hW dX8_walk_24 eS2 (fun H locs hW => ?_)
      refine lv_aload_n C.1 C.2.1 dX8_walk_27 rfl (lv_at hl 0 rfl) ?_
      refine lv_iconst (v := 1) C.1 C.2.1 dX8_walk_28 (by decide) ?_
      obtain ⟨S3, eS3, hf⟩ := bnd_el hf
      refine fp_8_43 C kX8_walk_8 mX8_walk_260 hW dX8_walk_29 eS3 (fun H locs hW => ?_)
      refine lv_aload_n C.1 C.2.1 dX8_walk_32 rfl (lv_at hl 0 rfl) ?_
      refine lv_iconst (v := 0) C.1 C.2.1 dX8_walk_33 (by decide) ?_
      obtain ⟨S4, eS4, hf⟩ := bnd_el hf
      refine fp_8_46 C kX8_walk_8 mX8_walk_272 hW dX8_walk_34 eS4 (fun H locs hW => ?_)
      refine lv_aload_n C.1 C.2.1 dX8_walk_37 rfl (lv_at hl 0 rfl) ?_
      refine lv_iconst (v := 0) C.1 C.2.1 dX8_walk_38 (by decide) ?_
      obtain ⟨S5, eS5, hf⟩ := bnd_el hf
      refine fp_8_54 C kX8_walk_8 mX8_walk_281 hW dX8_walk_39 eS5 (fun H locs hW => ?_)
      refine lv_aload_n C.1 C.2.1 dX8_walk_42 rfl (lv_at hl 0 rfl) ?_
      refine lv_iconst (v := 0) C.1 C.2.1 dX8_walk_43 (by decide) ?_
      obtain ⟨S6, eS6, hf⟩ := bnd_el hf
      refine fp_8_57 C kX8_walk_8 mX8_walk_278 hW dX8_walk_44 eS6 (fun H locs hW => ?_)
      refine lv_aload_n C.1 C.2.1 dX8_walk_47 rfl (lv_at hl 0 rfl) ?_
      refine lv_iconst (v := 0) C.1 C.2.1 dX8_walk_48 (by decide) ?_
      obtain ⟨S7, eS7, hf⟩ := bnd_el hf
      refine fp_8_48 C kX8_walk_8 mX8_walk_284 hW dX8_walk_49 eS7 (fun H locs hW => ?_)
      refine lv_aload_n C.1 C.2.1 dX8_walk_52 rfl (lv_at hl 0 rfl) ?_
      refine lv_iconst (v := 0) C.1 C.2.1 dX8_walk_53 (by decide) ?_
      obtain ⟨S8, eS8, hf⟩ := bnd_el hf
      refine fp_8_49 C kX8_walk_8 mX8_walk_287 hW dX8_walk_54 eS8 (fun H locs hW => ?_)
      refine lv_bipush (v := 6) C.1 C.2.1 dX8_walk_57 (by decide) ?_
      obtain ⟨z9, ez9, hf⟩ := bnd_el hf
      refine lv_as ez9 ?_
      refine lv_istore_n (lv' := [(1, .int z9), (0, .ref (a 99))]) C.1 C.2.1 dX8_walk_59 rfl hl (by decide) rfl (fun ls hl => ?_)
      refine lv_iconst (v := 0) C.1 C.2.1 dX8_walk_60 (by decide) ?_
      obtain ⟨z10, ez10, hf⟩ := bnd_el hf
      refine lv_as ez10 ?_
      refine lv_istore_n (lv' := [(2, .int z10), (1, .int z9), (0, .ref (a 99))]) C.1 C.2.1 dX8_walk_61 rfl hl (by decide) rfl (fun ls hl => ?_)
      exact lX8_walk_62 C hr hlocks N _ _ _ _ hf _ _ _ hW (lv_sub hl [2, 1, 0] rfl)
    · replace hf := (if_neg q1).symm.trans hf
      refine lv_aload_n C.1 C.2.1 dX8_walk_9 rfl (lv_at hl 0 rfl) ?_
      refine fg_8_39 C kX8_walk_8 mX8_walk_185 hW dX8_walk_10 ?_
      refine lv_iload_n C.1 C.2.1 dX8_walk_13 rfl (lv_at hl 1 rfl) ?_
      refine lv_iconst (v := 0) C.1 C.2.1 dX8_walk_14 (by decide) ?_
      obtain ⟨h11, hf⟩ := ckx_el hf
      obtain ⟨S12, eS12, hf⟩ := bnd_el hf
      refine as_8_39 C hW h11 dX8_walk_15 eS12 (fun H locs hW => ?_)
      obtain ⟨z13, ez13, hf⟩ := bnd_el hf
      refine lv_iinc (v := z13) (lv' := [(1, .int z13), (0, .ref (a 99))]) C.1 C.2.1 dX8_walk_16 hl (k := 1) rfl (by rw [ez13]; rfl) (by decide) rfl (fun ls hl => ?_)
      refine lv_goto (tgt := 2) C.1 C.2.1 dX8_walk_19 (by decide) ?_
      exact ih _ _ hf _ _ _ hW (lv_sub hl [1, 0] rfl)
def fX8_walk (N : Nat) (S : St) : Option (Int32 × St) :=
  bnd (0 : Int32) fun z1 =>
  fX8_walk_2 N (S, z1)
set_option maxHeartbeats 4000000 in
set_option maxRecDepth 100000 in
theorem cX8_walk_met (l : Launch) (D : va_G) (cy : Nat → ClassId) (a r : Nat → Nat) (sz N : Nat) (S : St) (Rr : Int32 × St) (hf : fX8_walk N S  = some Rr) : Met l yX8_walk wsX8_walk ({ frames := 5, cells := 0, slots := 0, locals := 114 } : Room) (va_Pc [.ref (a 99)] (preW D cy (wM cy a r S) sz)) (QI D cy (wM cy a r) (va_A (wM cy a r S) sz) Rr) 0 0 (va_A (wM cy a r S) sz) := by
  refine Met.ofW (cc := cX8_walk) (maxL := 3) (ret := (some .int)) (by decide) rfl ?_
  intro p e s m args below meth c s₁ B hml hv
  obtain ⟨rfl, rfl, hP, hK, hD0, hN⟩ := hv
  have hlocks := B.notSynchronized
  have hr := B.returns
  have C : Cx p s m _ c cX8_walk 3 wsX8_walk RX8 D cy := ⟨B.exec, B.bytes, hml, findClass_of_methodNamed B.named, atoms_spec (ws := wsX8_walk) B.pre, hK, hN⟩
  have hW := ww_start (w := wM cy a r) hP hD0
  generalize va_A (wM cy a r S) s.heap.size = A at hW ⊢
  have hl := lv_entry ([.ref (a 99)]) (n := 3) (Nat.le_of_ble_eq_true rfl)
  rw [lg_entry_eq]
  generalize (lg_sl ([.ref (a 99)]) ++ List.replicate (3 - (lg_sl ([.ref (a 99)])).length) Slot.unset).toArray = ls at hl ⊢
  have hl : lv_has ls 3 [(0, .ref (a 99))] := hl
  unfold fX8_walk at hf
  refine lv_iconst (v := 0) C.1 C.2.1 dX8_walk_0 (by decide) ?_
  obtain ⟨z1, ez1, hf⟩ := bnd_el hf
  refine lv_as ez1 ?_
  refine lv_istore_n (lv' := [(1, .int z1), (0, .ref (a 99))]) C.1 C.2.1 dX8_walk_1 rfl hl (by decide) rfl (fun ls hl => ?_)
  exact lX8_walk_2 C hr hlocks N _ _ _ hf _ _ _ hW (lv_sub hl [1, 0] rfl)
theorem mX8_run_315 : Cond.fieldLink RX8 315 "SharedLambdaModel" "one" "I" ∈ wsX8_run := by decide +kernel
theorem mX8_run_318 : Cond.fieldLink RX8 318 "SharedLambdaModel" "other" "I" ∈ wsX8_run := by decide +kernel
theorem mX8_run_156 : Cond.fieldLink RX8 156 "SharedLambdaModel" "letters" "I" ∈ wsX8_run := by decide +kernel
theorem mX8_run_272 : Cond.fieldLink RX8 272 "SharedLambdaModel" "tells" "I" ∈ wsX8_run := by decide +kernel
theorem mX8_run_1 : Cond.fieldLink RX8 1 "SharedLambdaModel" "thrown" "I" ∈ wsX8_run := by decide +kernel
theorem mX8_run_c336 : Cond.constant RX8 336 (100000) ∈ wsX8_run := by decide +kernel
theorem kX8_run_8 : ∀ w ∈ u_ws RX8 TX8 58, w ∈ wsX8_run := fun _ h => List.mem_cons_of_mem _ (List.mem_append_right _ h)
def fX8_run_129 (N : Nat) (k41 : St × Int32 × Int32 → Option (Int32 × St)) (S : St) (x2 : Int32) (x3 : Int32) : Option (Int32 × St) :=
  k41 (S, x2, x3)
set_option maxHeartbeats 4000000 in
set_option maxRecDepth 100000 in
theorem lX8_run_129 {p : Program} {l : Launch} {e : Env} {s : State} {m : MethodId} {args : Array Value} {below : List Frame} {meth : Method} {c : Code} {D : va_G} {cy : Nat → ClassId} {a r : Nat → Nat} {A : Nat → Prop} {Rr : Int32 × St} (C : Cx p s m args c cX8_run 5 wsX8_run RX8 D cy) (hr : meth.sig.returnType = some .int) (hlocks : meth.locks = false) (N : Nat) (k41 : St × Int32 × Int32 → Option (Int32 × St)) (hk41 : ∀ (S : St) (x2 : Int32) (x3 : Int32), k41 (S, x2, x3) = some Rr → ∀ (H : Heap) (locs : List Loc) (ls : Array Slot), WW D A s.heap (wM cy a r S) H locs → lv_has ls 5 [(0, .ref (a 99)), (2, .int x2), (3, .int x3)] → W p l e ({ frames := 6, cells := 0, slots := 0, locals := 139 } : Room) s m args below meth c H locs 0 0 (MQ below (QI D cy (wM cy a r) A Rr) args s 0 0 A) (F0 m 41 ls [])) (S : St) (x2 : Int32) (x3 : Int32) (hf : fX8_run_129 N k41 S x2 x3 = some Rr) : ∀ (H : Heap) (locs : List Loc) (ls : Array Slot), WW D A s.heap (wM cy a r S) H locs → lv_has ls 5 [(0, .ref (a 99)), (2, .int x2), (3, .int x3)] → W p l e ({ frames := 6, cells := 0, slots := 0, locals := 139 } : Room) s m args below meth c H locs 0 0 (MQ below (QI D cy (wM cy a r) A Rr) args s 0 0 A) (F0 m 129 ls []) := by
  intro H locs ls hW hl
  unfold fX8_run_129 at hf
  refine lv_goto (tgt := 41) C.1 C.2.1 dX8_run_129 (by decide) ?_
  exact hk41 _ _ _ hf _ _ _ hW (lv_sub hl [0, 1, 2] rfl)
def fX8_run_107 (N : Nat) (k41 : St × Int32 × Int32 → Option (Int32 × St)) (S : St) (x2 : Int32) (x4 : Int32) : Option (Int32 × St) :=
  bdo (fX8_meet N S x4 (S.1 50) (S.1 51)) fun S3 =>
  bnd (x2 + (-1 : Int32)) fun z4 =>
  bd2 (fX8_walk N S3) fun v5 S7 =>
  fX8_run_129 N k41 S7 z4 v5
set_option maxHeartbeats 4000000 in
set_option maxRecDepth 100000 in
theorem lX8_run_107 {p : Program} {l : Launch} {e : Env} {s : State} {m : MethodId} {args : Array Value} {below : List Frame} {meth : Method} {c : Code} {D : va_G} {cy : Nat → ClassId} {a r : Nat → Nat} {A : Nat → Prop} {Rr : Int32 × St} (C : Cx p s m args c cX8_run 5 wsX8_run RX8 D cy) (hr : meth.sig.returnType = some .int) (hlocks : meth.locks = false) (N : Nat) (k41 : St × Int32 × Int32 → Option (Int32 × St)) (hk41 : ∀ (S : St) (x2 : Int32) (x3 : Int32), k41 (S, x2, x3) = some Rr → ∀ (H : Heap) (locs : List Loc) (ls : Array Slot), WW D A s.heap (wM cy a r S) H locs → lv_has ls 5 [(0, .ref (a 99)), (2, .int x2), (3, .int x3)] → W p l e ({ frames := 6, cells := 0, slots := 0, locals := 139 } : Room) s m args below meth c H locs 0 0 (MQ below (QI D cy (wM cy a r) A Rr) args s 0 0 A) (F0 m 41 ls [])) (S : St) (x2 : Int32) (x4 : Int32) (hf : fX8_run_107 N k41 S x2 x4 = some Rr) : ∀ (H : Heap) (locs : List Loc) (ls : Array Slot), WW D A s.heap (wM cy a r S) H locs → lv_has ls 5 [(0, .ref (a 99)), (2, .int x2), (4, .int x4)] → W p l e ({ frames := 6, cells := 0, slots := 0, locals := 139 } : Room) s m args below meth c H locs 0 0 (MQ below (QI D cy (wM cy a r) A Rr) args s 0 0 A) (F0 m 107 ls []) := by
  intro H locs ls hW hl
  unfold fX8_run_107 at hf
  refine lv_aload_n C.1 C.2.1 dX8_run_107 rfl (lv_at hl 0 rfl) ?_
  refine lv_iload C.1 C.2.1 dX8_run_108 (lv_at hl 2 rfl) ?_
  refine lv_aload_n C.1 C.2.1 dX8_run_110 rfl (lv_at hl 0 rfl) ?_
  refine fg_8_50 C kX8_run_8 mX8_run_315 hW dX8_run_111 ?_
  refine lv_aload_n C.1 C.2.1 dX8_run_114 rfl (lv_at hl 0 rfl) ?_
  refine fg_8_51 C kX8_run_8 mX8_run_318 hW dX8_run_115 ?_
  obtain ⟨S3, h2, hf⟩ := bdo_el hf
  refine mcVv (w := wM cy a r) (S := S) (As := [.int x4, .int (S.1 50), .int (S.1 51)]) (rest := []) (q0 := 0) (ci := 8) C (cX8_meet_met l D cy a r _ N S x4 (S.1 50) (S.1 51) S3 h2) (cwV 3 C.2.2.2.2.1 gX8_run_X8_meet rfl rfl rfl (by decide +kernel) ⟨Nat.le_of_ble_eq_true rfl, Nat.le_of_ble_eq_true rfl⟩) rfl rfl rfl hl.1 (Nat.le_of_ble_eq_true rfl) hW dX8_run_118 ⟨Nat.zero_le _, Nat.zero_le _⟩ rfl (fun H locs hW => ?_)
  obtain ⟨z4, ez4, hf⟩ := bnd_el hf
  refine lv_iinc (v := z4) (lv' := [(2, .int z4), (0, .ref (a 99)), (4, .int x4)]) C.1 C.2.1 dX8_run_121 hl (k := 1) rfl (by rw [ez4]; rfl) (by decide) rfl (fun ls hl => ?_)
  refine lv_aload_n C.1 C.2.1 dX8_run_124 rfl (lv_at hl 1 rfl) ?_
  obtain ⟨v5, S7, h6, hf⟩ := bd2_el hf
  refine mcVi (w := wM cy a r) (S := S3) (As := []) (rest := []) (q0 := 0) (ci := 8) C (cX8_walk_met l D cy a r _ N S3  (v5, S7) h6) (cwV 0 C.2.2.2.2.1 gX8_run_X8_walk rfl rfl rfl (by decide +kernel) ⟨Nat.le_of_ble_eq_true rfl, Nat.le_of_ble_eq_true rfl⟩) rfl rfl rfl hl.1 (Nat.le_of_ble_eq_true rfl) hW dX8_run_125 ⟨Nat.zero_le _, Nat.zero_le _⟩ rfl (fun H locs hW => ?_)
  refine lv_istore_n (lv' := [(3, .int v5), (2, .int z4), (0, .ref (a 99)), (4, .int x4)]) C.1 C.2.1 dX8_run_128 rfl hl (by decide) rfl (fun ls hl => ?_)
  exact lX8_run_129 C hr hlocks N _ hk41 _ _ _ hf _ _ _ hW (lv_sub hl [2, 1, 0] rfl)
def fX8_run_66 (N : Nat) (k41 : St × Int32 × Int32 → Option (Int32 × St)) (S : St) (x2 : Int32) (y0 : Int32) : Option (Int32 × St) :=
  if 0 ≤ y0 then
    if y0 = (3 : Int32) then
      bnd (4 : Int32) fun z9 =>
      fX8_run_129 N k41 S x2 z9
    else
      if y0 = (2 : Int32) then
        bd2 (fX8_isTight N S) fun v4 S6 =>
        if v4 = 0 then
          fX8_run_107 N k41 S6 x2 y0
        else
          bnd (2 : Int32) fun z8 =>
          fX8_run_129 N k41 S6 x2 z8
      else
        fX8_run_107 N k41 S x2 y0
  else
    bnd (1 : Int32) fun z10 =>
    fX8_run_129 N k41 S x2 z10
set_option maxHeartbeats 4000000 in
set_option maxRecDepth 100000 in
theorem lX8_run_66 {p : Program} {l : Launch} {e : Env} {s : State} {m : MethodId} {args : Array Value} {below : List Frame} {meth : Method} {c : Code} {D : va_G} {cy : Nat → ClassId} {a r : Nat → Nat} {A : Nat → Prop} {Rr : Int32 × St} (C : Cx p s m args c cX8_run 5 wsX8_run RX8 D cy) (hr : meth.sig.returnType = some .int) (hlocks : meth.locks = false) (N : Nat) (k41 : St × Int32 × Int32 → Option (Int32 × St)) (hk41 : ∀ (S : St) (x2 : Int32) (x3 : Int32), k41 (S, x2, x3) = some Rr → ∀ (H : Heap) (locs : List Loc) (ls : Array Slot), WW D A s.heap (wM cy a r S) H locs → lv_has ls 5 [(0, .ref (a 99)), (2, .int x2), (3, .int x3)] → W p l e ({ frames := 6, cells := 0, slots := 0, locals := 139 } : Room) s m args below meth c H locs 0 0 (MQ below (QI D cy (wM cy a r) A Rr) args s 0 0 A) (F0 m 41 ls [])) (S : St) (x2 : Int32) (y0 : Int32) (hf : fX8_run_66 N k41 S x2 y0 = some Rr) : ∀ (H : Heap) (locs : List Loc) (ls : Array Slot), WW D A s.heap (wM cy a r S) H locs → lv_has ls 5 [(0, .ref (a 99)), (2, .int x2)] → W p l e ({ frames := 6, cells := 0, slots := 0, locals := 139 } : Room) s m args below meth c H locs 0 0 (MQ below (QI D cy (wM cy a r) A Rr) args s 0 0 A) (F0 m 66 ls [.int y0]) := by
  intro H locs ls hW hl
  unfold fX8_run_66 at hf
  refine lv_istore (lv' := [(4, .int y0), (0, .ref (a 99)), (2, .int x2)]) C.1 C.2.1 dX8_run_66 hl (by decide) rfl (fun ls hl => ?_)
  refine lv_iload C.1 C.2.1 dX8_run_68 (lv_at hl 0 rfl) ?_
  refine lv_if_ge (tgt := 78) C.1 C.2.1 dX8_run_70 (by decide) (fun q1 => ?_) (fun q1 => ?_)
  · replace hf := (if_pos q1).symm.trans hf
    refine lv_iload C.1 C.2.1 dX8_run_78 (lv_at hl 0 rfl) ?_
    refine lv_iconst (v := 3) C.1 C.2.1 dX8_run_80 (by decide) ?_
    refine lv_icmp_ne (tgt := 89) C.1 C.2.1 dX8_run_81 (by decide) (fun q2 => ?_) (fun q2 => ?_)
    · replace hf := (if_neg q2).symm.trans hf
      refine lv_iload C.1 C.2.1 dX8_run_89 (lv_at hl 0 rfl) ?_
      refine lv_iconst (v := 2) C.1 C.2.1 dX8_run_91 (by decide) ?_
      refine lv_icmp_ne (tgt := 107) C.1 C.2.1 dX8_run_92 (by decide) (fun q3 => ?_) (fun q3 => ?_)
      · replace hf := (if_neg q3).symm.trans hf
        exact lX8_run_107 C hr hlocks N _ hk41 _ _ _ hf _ _ _ hW (lv_sub hl [1, 2, 0] rfl)
      · replace hf := (if_pos q3).symm.trans hf
        refine lv_aload_n C.1 C.2.1 dX8_run_95 rfl (lv_at hl 1 rfl) ?_
        obtain ⟨v4, S6, h5, hf⟩ := bd2_el hf
        refine mcVi (w := wM cy a r) (S := S) (As := []) (rest := []) (q0 := 0) (ci := 8) C (cX8_isTight_met l D cy a r _ N S  (v4, S6) h5) (cwV 0 C.2.2.2.2.1 gX8_run_X8_isTight rfl rfl rfl (by decide +kernel) ⟨Nat.le_of_ble_eq_true rfl, Nat.le_of_ble_eq_true rfl⟩) rfl rfl rfl hl.1 (Nat.le_of_ble_eq_true rfl) hW dX8_run_96 ⟨Nat.zero_le _, Nat.zero_le _⟩ rfl (fun H locs hW => ?_)
        refine lv_if_eq (tgt := 107) C.1 C.2.1 dX8_run_99 (by decide) (fun q7 => ?_) (fun q7 => ?_)
        · replace hf := (if_pos q7).symm.trans hf
          exact lX8_run_107 C hr hlocks N _ hk41 _ _ _ hf _ _ _ hW (lv_sub hl [1, 2, 0] rfl)
        · replace hf := (if_neg q7).symm.trans hf
          refine lv_iconst (v := 2) C.1 C.2.1 dX8_run_102 (by decide) ?_
          obtain ⟨z8, ez8, hf⟩ := bnd_el hf
          refine lv_as ez8 ?_
          refine lv_istore_n (lv' := [(3, .int z8), (4, .int y0), (0, .ref (a 99)), (2, .int x2)]) C.1 C.2.1 dX8_run_103 rfl hl (by decide) rfl (fun ls hl => ?_)
          refine lv_goto (tgt := 129) C.1 C.2.1 dX8_run_104 (by decide) ?_
          exact lX8_run_129 C hr hlocks N _ hk41 _ _ _ hf _ _ _ hW (lv_sub hl [2, 3, 0] rfl)
    · replace hf := (if_pos q2).symm.trans hf
      refine lv_iconst (v := 4) C.1 C.2.1 dX8_run_84 (by decide) ?_
      obtain ⟨z9, ez9, hf⟩ := bnd_el hf
      refine lv_as ez9 ?_
      refine lv_istore_n (lv' := [(3, .int z9), (4, .int y0), (0, .ref (a 99)), (2, .int x2)]) C.1 C.2.1 dX8_run_85 rfl hl (by decide) rfl (fun ls hl => ?_)
      refine lv_goto (tgt := 129) C.1 C.2.1 dX8_run_86 (by decide) ?_
      exact lX8_run_129 C hr hlocks N _ hk41 _ _ _ hf _ _ _ hW (lv_sub hl [2, 3, 0] rfl)
  · replace hf := (if_neg q1).symm.trans hf
    refine lv_iconst (v := 1) C.1 C.2.1 dX8_run_73 (by decide) ?_
    obtain ⟨z10, ez10, hf⟩ := bnd_el hf
    refine lv_as ez10 ?_
    refine lv_istore_n (lv' := [(3, .int z10), (4, .int y0), (0, .ref (a 99)), (2, .int x2)]) C.1 C.2.1 dX8_run_74 rfl hl (by decide) rfl (fun ls hl => ?_)
    refine lv_goto (tgt := 129) C.1 C.2.1 dX8_run_75 (by decide) ?_
    exact lX8_run_129 C hr hlocks N _ hk41 _ _ _ hf _ _ _ hW (lv_sub hl [2, 3, 0] rfl)
def fX8_run_41s (N : Nat) (k41 : St × Int32 × Int32 → Option (Int32 × St)) (S : St) (x2 : Int32) (x3 : Int32) : Option (Int32 × St) :=
  if x3 = (5 : Int32) then
    if x2 ≤ 0 then
      fX8_run_66 N k41 S x2 (-1 : Int32)
    else
      bd2 (fX8_meetingOf N S (S.1 50) (S.1 51)) fun v6 S8 =>
      fX8_run_66 N k41 S8 x2 v6
  else
    if x3 = 0 then
      bnd (sI S 47 (S.1 46)) fun S4 =>
      some (x3, S4)
    else
      bnd (sI S 47 (0 : Int32)) fun S3 =>
      some (x3, S3)
def fX8_run_41 (N : Nat) : St × Int32 × Int32 → Option (Int32 × St) := loopN (fun k x => fX8_run_41s N k x.1 x.2.1 x.2.2) N
set_option maxHeartbeats 4000000 in
set_option maxRecDepth 100000 in
theorem lX8_run_41 {p : Program} {l : Launch} {e : Env} {s : State} {m : MethodId} {args : Array Value} {below : List Frame} {meth : Method} {c : Code} {D : va_G} {cy : Nat → ClassId} {a r : Nat → Nat} {A : Nat → Prop} {Rr : Int32 × St} (C : Cx p s m args c cX8_run 5 wsX8_run RX8 D cy) (hr : meth.sig.returnType = some .int) (hlocks : meth.locks = false) (N : Nat) : ∀ (n : Nat) (S : St) (x2 : Int32) (x3 : Int32), loopN (fun k x => fX8_run_41s N k x.1 x.2.1 x.2.2) n (S, x2, x3) = some Rr → ∀ (H : Heap) (locs : List Loc) (ls : Array Slot), WW D A s.heap (wM cy a r S) H locs → lv_has ls 5 [(0, .ref (a 99)), (2, .int x2), (3, .int x3)] → W p l e ({ frames := 6, cells := 0, slots := 0, locals := 139 } : Room) s m args below meth c H locs 0 0 (MQ below (QI D cy (wM cy a r) A Rr) args s 0 0 A) (F0 m 41 ls []) := by
  intro n
  induction n with
  | zero =>
    intro S x2 x3 hf
    cases hf
  | succ n ih =>
    intro S x2 x3 hf H locs ls hW hl
    have hf : fX8_run_41s N (loopN (fun k x => fX8_run_41s N k x.1 x.2.1 x.2.2) n) S x2 x3 = some Rr := hf
    unfold fX8_run_41s at hf
    refine lv_iload_n C.1 C.2.1 dX8_run_41 rfl (lv_at hl 2 rfl) ?_
    refine lv_iconst (v := 5) C.1 C.2.1 dX8_run_42 (by decide) ?_
    refine lv_icmp_ne (tgt := 132) C.1 C.2.1 dX8_run_43 (by decide) (fun q1 => ?_) (fun q1 => ?_)
    · replace hf := (if_neg q1).symm.trans hf
      refine lv_aload_n C.1 C.2.1 dX8_run_132 rfl (lv_at hl 0 rfl) ?_
      refine lv_iload_n C.1 C.2.1 dX8_run_133 rfl (lv_at hl 2 rfl) ?_
      refine lv_if_ne (tgt := 144) C.1 C.2.1 dX8_run_134 (by decide) (fun q2 => ?_) (fun q2 => ?_)
      · replace hf := (if_neg q2).symm.trans hf
        refine lv_iconst (v := 0) C.1 C.2.1 dX8_run_144 (by decide) ?_
        obtain ⟨S3, eS3, hf⟩ := bnd_el hf
        refine fp_8_47 C kX8_run_8 mX8_run_156 hW dX8_run_145 eS3 (fun H locs hW => ?_)
        refine lv_iload_n C.1 C.2.1 dX8_run_148 rfl (lv_at hl 2 rfl) ?_
        exact mrI C hr hlocks rfl hf hW dX8_run_149
      · replace hf := (if_pos q2).symm.trans hf
        refine lv_aload_n C.1 C.2.1 dX8_run_137 rfl (lv_at hl 0 rfl) ?_
        refine fg_8_46 C kX8_run_8 mX8_run_272 hW dX8_run_138 ?_
        refine lv_goto (tgt := 145) C.1 C.2.1 dX8_run_141 (by decide) ?_
        obtain ⟨S4, eS4, hf⟩ := bnd_el hf
        refine fp_8_47 C kX8_run_8 mX8_run_156 hW dX8_run_145 eS4 (fun H locs hW => ?_)
        refine lv_iload_n C.1 C.2.1 dX8_run_148 rfl (lv_at hl 2 rfl) ?_
        exact mrI C hr hlocks rfl hf hW dX8_run_149
    · replace hf := (if_pos q1).symm.trans hf
      refine lv_iload_n C.1 C.2.1 dX8_run_46 rfl (lv_at hl 1 rfl) ?_
      refine lv_if_le (tgt := 65) C.1 C.2.1 dX8_run_47 (by decide) (fun q5 => ?_) (fun q5 => ?_)
      · replace hf := (if_pos q5).symm.trans hf
        refine lv_iconst (v := -1) C.1 C.2.1 dX8_run_65 (by decide) ?_
        exact lX8_run_66 C hr hlocks N _ ih _ _ _ hf _ _ _ hW (lv_sub hl [0, 1] rfl)
      · replace hf := (if_neg q5).symm.trans hf
        refine lv_aload_n C.1 C.2.1 dX8_run_50 rfl (lv_at hl 0 rfl) ?_
        refine lv_aload_n C.1 C.2.1 dX8_run_51 rfl (lv_at hl 0 rfl) ?_
        refine fg_8_50 C kX8_run_8 mX8_run_315 hW dX8_run_52 ?_
        refine lv_aload_n C.1 C.2.1 dX8_run_55 rfl (lv_at hl 0 rfl) ?_
        refine fg_8_51 C kX8_run_8 mX8_run_318 hW dX8_run_56 ?_
        obtain ⟨v6, S8, h7, hf⟩ := bd2_el hf
        refine mcVi (w := wM cy a r) (S := S) (As := [.int (S.1 50), .int (S.1 51)]) (rest := []) (q0 := 0) (ci := 8) C (cX8_meetingOf_met l D cy a r _ N S (S.1 50) (S.1 51) (v6, S8) h7) (cwV 2 C.2.2.2.2.1 gX8_run_X8_meetingOf rfl rfl rfl (by decide +kernel) ⟨Nat.le_of_ble_eq_true rfl, Nat.le_of_ble_eq_true rfl⟩) rfl rfl rfl hl.1 (Nat.le_of_ble_eq_true rfl) hW dX8_run_59 ⟨Nat.zero_le _, Nat.zero_le _⟩ rfl (fun H locs hW => ?_)
        refine lv_goto (tgt := 66) C.1 C.2.1 dX8_run_62 (by decide) ?_
        exact lX8_run_66 C hr hlocks N _ ih _ _ _ hf _ _ _ hW (lv_sub hl [0, 1] rfl)
def fX8_run_17 (N : Nat) (S : St) (x1 : Int32) (y1 : Int32) : Option (Int32 × St) :=
  bnd (sI S 0 y1) fun S1 =>
  if S1.1 0 ≤ 0 then
    bnd (sI S1 47 (0 : Int32)) fun S3 =>
    bd2 (fX8_walk N S3) fun v4 S6 =>
    fX8_run_41 N (S6, x1, v4)
  else
    some ((0 : Int32), S1)
set_option maxHeartbeats 4000000 in
set_option maxRecDepth 100000 in
theorem lX8_run_17 {p : Program} {l : Launch} {e : Env} {s : State} {m : MethodId} {args : Array Value} {below : List Frame} {meth : Method} {c : Code} {D : va_G} {cy : Nat → ClassId} {a r : Nat → Nat} {A : Nat → Prop} {Rr : Int32 × St} (C : Cx p s m args c cX8_run 5 wsX8_run RX8 D cy) (hr : meth.sig.returnType = some .int) (hlocks : meth.locks = false) (N : Nat) (S : St) (x1 : Int32) (y1 : Int32) (hf : fX8_run_17 N S x1 y1 = some Rr) : ∀ (H : Heap) (locs : List Loc) (ls : Array Slot), WW D A s.heap (wM cy a r S) H locs → lv_has ls 5 [(0, .ref (a 99)), (1, .int x1)] → W p l e ({ frames := 6, cells := 0, slots := 0, locals := 139 } : Room) s m args below meth c H locs 0 0 (MQ below (QI D cy (wM cy a r) A Rr) args s 0 0 A) (F0 m 17 ls [.int y1, .ref (a 99)]) := by
  intro H locs ls hW hl
  unfold fX8_run_17 at hf
  obtain ⟨S1, eS1, hf⟩ := bnd_el hf
  refine fp_8_0 C kX8_run_8 mX8_run_1 hW dX8_run_17 eS1 (fun H locs hW => ?_)
  refine lv_aload_n C.1 C.2.1 dX8_run_20 rfl (lv_at hl 0 rfl) ?_
  refine fg_8_0 C kX8_run_8 mX8_run_1 hW dX8_run_21 ?_
  refine lv_if_le (tgt := 29) C.1 C.2.1 dX8_run_24 (by decide) (fun q2 => ?_) (fun q2 => ?_)
  · replace hf := (if_pos q2).symm.trans hf
    refine lv_aload_n C.1 C.2.1 dX8_run_29 rfl (lv_at hl 0 rfl) ?_
    refine lv_iconst (v := 0) C.1 C.2.1 dX8_run_30 (by decide) ?_
    obtain ⟨S3, eS3, hf⟩ := bnd_el hf
    refine fp_8_47 C kX8_run_8 mX8_run_156 hW dX8_run_31 eS3 (fun H locs hW => ?_)
    refine lv_iload_n C.1 C.2.1 dX8_run_34 rfl (lv_at hl 1 rfl) ?_
    refine lv_istore_n (lv' := [(2, .int x1), (0, .ref (a 99)), (1, .int x1)]) C.1 C.2.1 dX8_run_35 rfl hl (by decide) rfl (fun ls hl => ?_)
    refine lv_aload_n C.1 C.2.1 dX8_run_36 rfl (lv_at hl 1 rfl) ?_
    obtain ⟨v4, S6, h5, hf⟩ := bd2_el hf
    refine mcVi (w := wM cy a r) (S := S3) (As := []) (rest := []) (q0 := 0) (ci := 8) C (cX8_walk_met l D cy a r _ N S3  (v4, S6) h5) (cwV 0 C.2.2.2.2.1 gX8_run_X8_walk rfl rfl rfl (by decide +kernel) ⟨Nat.le_of_ble_eq_true rfl, Nat.le_of_ble_eq_true rfl⟩) rfl rfl rfl hl.1 (Nat.le_of_ble_eq_true rfl) hW dX8_run_37 ⟨Nat.zero_le _, Nat.zero_le _⟩ rfl (fun H locs hW => ?_)
    refine lv_istore_n (lv' := [(3, .int v4), (2, .int x1), (0, .ref (a 99)), (1, .int x1)]) C.1 C.2.1 dX8_run_40 rfl hl (by decide) rfl (fun ls hl => ?_)
    exact lX8_run_41 C hr hlocks N _ _ _ _ hf _ _ _ hW (lv_sub hl [2, 1, 0] rfl)
  · replace hf := (if_neg q2).symm.trans hf
    refine lv_iconst (v := 0) C.1 C.2.1 dX8_run_27 (by decide) ?_
    exact mrI C hr hlocks rfl hf hW dX8_run_28
def fX8_run_12 (N : Nat) (S : St) (x1 : Int32) : Option (Int32 × St) :=
  fX8_run_17 N S x1 (1 : Int32)
set_option maxHeartbeats 4000000 in
set_option maxRecDepth 100000 in
theorem lX8_run_12 {p : Program} {l : Launch} {e : Env} {s : State} {m : MethodId} {args : Array Value} {below : List Frame} {meth : Method} {c : Code} {D : va_G} {cy : Nat → ClassId} {a r : Nat → Nat} {A : Nat → Prop} {Rr : Int32 × St} (C : Cx p s m args c cX8_run 5 wsX8_run RX8 D cy) (hr : meth.sig.returnType = some .int) (hlocks : meth.locks = false) (N : Nat) (S : St) (x1 : Int32) (hf : fX8_run_12 N S x1 = some Rr) : ∀ (H : Heap) (locs : List Loc) (ls : Array Slot), WW D A s.heap (wM cy a r S) H locs → lv_has ls 5 [(0, .ref (a 99)), (1, .int x1)] → W p l e ({ frames := 6, cells := 0, slots := 0, locals := 139 } : Room) s m args below meth c H locs 0 0 (MQ below (QI D cy (wM cy a r) A Rr) args s 0 0 A) (F0 m 12 ls [.ref (a 99)]) := by
  intro H locs ls hW hl
  unfold fX8_run_12 at hf
  refine lv_iconst (v := 1) C.1 C.2.1 dX8_run_12 (by decide) ?_
  refine lv_goto (tgt := 17) C.1 C.2.1 dX8_run_13 (by decide) ?_
  exact lX8_run_17 C hr hlocks N _ _ _ hf _ _ _ hW (lv_sub hl [0, 1] rfl)
def fX8_run (N : Nat) (S : St) (p1 : Int32) : Option (Int32 × St) :=
  if p1 < 0 then
    fX8_run_12 N S p1
  else
    if p1 ≤ (100000 : Int32) then
      fX8_run_17 N S p1 (0 : Int32)
    else
      fX8_run_12 N S p1
set_option maxHeartbeats 4000000 in
set_option maxRecDepth 100000 in
theorem cX8_run_met (l : Launch) (D : va_G) (cy : Nat → ClassId) (a r : Nat → Nat) (sz N : Nat) (S : St) (p1 : Int32) (Rr : Int32 × St) (hf : fX8_run N S p1 = some Rr) : Met l yX8_run wsX8_run ({ frames := 6, cells := 0, slots := 0, locals := 139 } : Room) (va_Pc [.ref (a 99), .int p1] (preW D cy (wM cy a r S) sz)) (QI D cy (wM cy a r) (va_A (wM cy a r S) sz) Rr) 0 0 (va_A (wM cy a r S) sz) := by
  refine Met.ofW (cc := cX8_run) (maxL := 5) (ret := (some .int)) (by decide) rfl ?_
  intro p e s m args below meth c s₁ B hml hv
  obtain ⟨rfl, rfl, hP, hK, hD0, hN⟩ := hv
  have hlocks := B.notSynchronized
  have hr := B.returns
  have C : Cx p s m _ c cX8_run 5 wsX8_run RX8 D cy := ⟨B.exec, B.bytes, hml, findClass_of_methodNamed B.named, atoms_spec (ws := wsX8_run) B.pre, hK, hN⟩
  have hW := ww_start (w := wM cy a r) hP hD0
  generalize va_A (wM cy a r S) s.heap.size = A at hW ⊢
  have hl := lv_entry ([.ref (a 99), .int p1]) (n := 5) (Nat.le_of_ble_eq_true rfl)
  rw [lg_entry_eq]
  generalize (lg_sl ([.ref (a 99), .int p1]) ++ List.replicate (5 - (lg_sl ([.ref (a 99), .int p1])).length) Slot.unset).toArray = ls at hl ⊢
  have hl : lv_has ls 5 [(0, .ref (a 99)), (1, .int p1)] := hl
  unfold fX8_run at hf
  refine lv_aload_n C.1 C.2.1 dX8_run_0 rfl (lv_at hl 0 rfl) ?_
  refine lv_iload_n C.1 C.2.1 dX8_run_1 rfl (lv_at hl 1 rfl) ?_
  refine lv_if_lt (tgt := 12) C.1 C.2.1 dX8_run_2 (by decide) (fun q1 => ?_) (fun q1 => ?_)
  · replace hf := (if_pos q1).symm.trans hf
    exact lX8_run_12 C hr hlocks N _ _ hf _ _ _ hW (lv_sub hl [0, 1] rfl)
  · replace hf := (if_neg q1).symm.trans hf
    refine lv_iload_n C.1 C.2.1 dX8_run_5 rfl (lv_at hl 1 rfl) ?_
    refine lv_ldcw (v := 100000) C.1 C.2.1 C.2.2.2.1 (C.2.2.2.2.1 _ mX8_run_c336) dX8_run_6 ?_
    refine lv_icmp_le (tgt := 16) C.1 C.2.1 dX8_run_9 (by decide) (fun q2 => ?_) (fun q2 => ?_)
    · replace hf := (if_pos q2).symm.trans hf
      refine lv_iconst (v := 0) C.1 C.2.1 dX8_run_16 (by decide) ?_
      exact lX8_run_17 C hr hlocks N _ _ _ hf _ _ _ hW (lv_sub hl [0, 1] rfl)
    · replace hf := (if_neg q2).symm.trans hf
      exact lX8_run_12 C hr hlocks N _ _ hf _ _ _ hW (lv_sub hl [0, 1] rfl)
theorem mX8_count_1 : Cond.fieldLink RX8 1 "SharedLambdaModel" "thrown" "I" ∈ wsX8_count := by decide +kernel
theorem mX8_count_17 : Cond.fieldLink RX8 17 "SharedLambdaModel" "fault" "I" ∈ wsX8_count := by decide +kernel
theorem mX8_count_144 : Cond.fieldLink RX8 144 "SharedLambdaModel" "betas" "I" ∈ wsX8_count := by decide +kernel
theorem mX8_count_147 : Cond.fieldLink RX8 147 "SharedLambdaModel" "annihilations" "I" ∈ wsX8_count := by decide +kernel
theorem mX8_count_150 : Cond.fieldLink RX8 150 "SharedLambdaModel" "passings" "I" ∈ wsX8_count := by decide +kernel
theorem mX8_count_153 : Cond.fieldLink RX8 153 "SharedLambdaModel" "erased" "I" ∈ wsX8_count := by decide +kernel
theorem mX8_count_104 : Cond.fieldLink RX8 104 "SharedLambdaModel" "nodes" "I" ∈ wsX8_count := by decide +kernel
theorem mX8_count_156 : Cond.fieldLink RX8 156 "SharedLambdaModel" "letters" "I" ∈ wsX8_count := by decide +kernel
theorem mX8_count_7 : Cond.fieldLink RX8 7 "SharedLambdaModel" "size" "I" ∈ wsX8_count := by decide +kernel
theorem kX8_count_8 : ∀ w ∈ u_ws RX8 TX8 58, w ∈ wsX8_count := fun _ h => List.mem_cons_of_mem _ (List.mem_append_right _ h)
def fX8_count_16 (N : Nat) (S : St) (x1 : Int32) (y1 : Int32) : Option (Int32 × St) :=
  bnd (sI S 0 y1) fun S1 =>
  if x1 = 0 then
    some (S1.1 8, S1)
  else
    if x1 = 1 then
      some (S1.1 23, S1)
    else
      if x1 = 2 then
        some (S1.1 24, S1)
      else
        if x1 = 3 then
          some (S1.1 25, S1)
        else
          if x1 = 4 then
            some (S1.1 26, S1)
          else
            if x1 = 5 then
              some (S1.1 22, S1)
            else
              if x1 = 6 then
                some (S1.1 47, S1)
              else
                if x1 = 7 then
                  some (S1.1 2, S1)
                else
                  some ((0 : Int32), S1)
set_option maxHeartbeats 4000000 in
set_option maxRecDepth 100000 in
theorem lX8_count_16 {p : Program} {l : Launch} {e : Env} {s : State} {m : MethodId} {args : Array Value} {below : List Frame} {meth : Method} {c : Code} {D : va_G} {cy : Nat → ClassId} {a r : Nat → Nat} {A : Nat → Prop} {Rr : Int32 × St} (C : Cx p s m args c cX8_count 2 wsX8_count RX8 D cy) (hr : meth.sig.returnType = some .int) (hlocks : meth.locks = false) (N : Nat) (S : St) (x1 : Int32) (y1 : Int32) (hf : fX8_count_16 N S x1 y1 = some Rr) : ∀ (H : Heap) (locs : List Loc) (ls : Array Slot), WW D A s.heap (wM cy a r S) H locs → lv_has ls 2 [(0, .ref (a 99)), (1, .int x1)] → W p l e ({ frames := 0, cells := 0, slots := 0, locals := 0 } : Room) s m args below meth c H locs 0 0 (MQ below (QI D cy (wM cy a r) A Rr) args s 0 0 A) (F0 m 16 ls [.int y1, .ref (a 99)]) := by
  intro H locs ls hW hl
  unfold fX8_count_16 at hf
  obtain ⟨S1, eS1, hf⟩ := bnd_el hf
  refine fp_8_0 C kX8_count_8 mX8_count_1 hW dX8_count_16 eS1 (fun H locs hW => ?_)
  refine lv_iload_n C.1 C.2.1 dX8_count_19 rfl (lv_at hl 1 rfl) ?_
  by_cases q2 : x1 = 0
  · refine lv_tableIn (tgt := 68) C.1 C.2.1 dX8_count_20 (by rw [q2]; decide) (by rw [q2]; decide) (by rw [q2]; rfl) (by decide) ?_
    replace hf := (if_pos q2).symm.trans hf
    refine lv_aload_n C.1 C.2.1 dX8_count_68 rfl (lv_at hl 0 rfl) ?_
    refine fg_8_8 C kX8_count_8 mX8_count_17 hW dX8_count_69 ?_
    exact mrI C hr hlocks rfl hf hW dX8_count_72
  · replace hf := (if_neg q2).symm.trans hf
    by_cases q3 : x1 = 1
    · refine lv_tableIn (tgt := 73) C.1 C.2.1 dX8_count_20 (by rw [q3]; decide) (by rw [q3]; decide) (by rw [q3]; rfl) (by decide) ?_
      replace hf := (if_pos q3).symm.trans hf
      refine lv_aload_n C.1 C.2.1 dX8_count_73 rfl (lv_at hl 0 rfl) ?_
      refine fg_8_23 C kX8_count_8 mX8_count_144 hW dX8_count_74 ?_
      exact mrI C hr hlocks rfl hf hW dX8_count_77
    · replace hf := (if_neg q3).symm.trans hf
      by_cases q4 : x1 = 2
      · refine lv_tableIn (tgt := 78) C.1 C.2.1 dX8_count_20 (by rw [q4]; decide) (by rw [q4]; decide) (by rw [q4]; rfl) (by decide) ?_
        replace hf := (if_pos q4).symm.trans hf
        refine lv_aload_n C.1 C.2.1 dX8_count_78 rfl (lv_at hl 0 rfl) ?_
        refine fg_8_24 C kX8_count_8 mX8_count_147 hW dX8_count_79 ?_
        exact mrI C hr hlocks rfl hf hW dX8_count_82
      · replace hf := (if_neg q4).symm.trans hf
        by_cases q5 : x1 = 3
        · refine lv_tableIn (tgt := 83) C.1 C.2.1 dX8_count_20 (by rw [q5]; decide) (by rw [q5]; decide) (by rw [q5]; rfl) (by decide) ?_
          replace hf := (if_pos q5).symm.trans hf
          refine lv_aload_n C.1 C.2.1 dX8_count_83 rfl (lv_at hl 0 rfl) ?_
          refine fg_8_25 C kX8_count_8 mX8_count_150 hW dX8_count_84 ?_
          exact mrI C hr hlocks rfl hf hW dX8_count_87
        · replace hf := (if_neg q5).symm.trans hf
          by_cases q6 : x1 = 4
          · refine lv_tableIn (tgt := 88) C.1 C.2.1 dX8_count_20 (by rw [q6]; decide) (by rw [q6]; decide) (by rw [q6]; rfl) (by decide) ?_
            replace hf := (if_pos q6).symm.trans hf
            refine lv_aload_n C.1 C.2.1 dX8_count_88 rfl (lv_at hl 0 rfl) ?_
            refine fg_8_26 C kX8_count_8 mX8_count_153 hW dX8_count_89 ?_
            exact mrI C hr hlocks rfl hf hW dX8_count_92
          · replace hf := (if_neg q6).symm.trans hf
            by_cases q7 : x1 = 5
            · refine lv_tableIn (tgt := 93) C.1 C.2.1 dX8_count_20 (by rw [q7]; decide) (by rw [q7]; decide) (by rw [q7]; rfl) (by decide) ?_
              replace hf := (if_pos q7).symm.trans hf
              refine lv_aload_n C.1 C.2.1 dX8_count_93 rfl (lv_at hl 0 rfl) ?_
              refine fg_8_22 C kX8_count_8 mX8_count_104 hW dX8_count_94 ?_
              exact mrI C hr hlocks rfl hf hW dX8_count_97
            · replace hf := (if_neg q7).symm.trans hf
              by_cases q8 : x1 = 6
              · refine lv_tableIn (tgt := 98) C.1 C.2.1 dX8_count_20 (by rw [q8]; decide) (by rw [q8]; decide) (by rw [q8]; rfl) (by decide) ?_
                replace hf := (if_pos q8).symm.trans hf
                refine lv_aload_n C.1 C.2.1 dX8_count_98 rfl (lv_at hl 0 rfl) ?_
                refine fg_8_47 C kX8_count_8 mX8_count_156 hW dX8_count_99 ?_
                exact mrI C hr hlocks rfl hf hW dX8_count_102
              · replace hf := (if_neg q8).symm.trans hf
                by_cases q9 : x1 = 7
                · refine lv_tableIn (tgt := 103) C.1 C.2.1 dX8_count_20 (by rw [q9]; decide) (by rw [q9]; decide) (by rw [q9]; rfl) (by decide) ?_
                  replace hf := (if_pos q9).symm.trans hf
                  refine lv_aload_n C.1 C.2.1 dX8_count_103 rfl (lv_at hl 0 rfl) ?_
                  refine fg_8_2 C kX8_count_8 mX8_count_7 hW dX8_count_104 ?_
                  exact mrI C hr hlocks rfl hf hW dX8_count_107
                · replace hf := (if_neg q9).symm.trans hf
                  refine lv_tableOut (tgt := 108) C.1 C.2.1 dX8_count_20 (tb_out 8 (by decide) (fun j hj => ?_)) (by decide) ?_
                  · rcases (show j = 0 ∨ j = 1 ∨ j = 2 ∨ j = 3 ∨ j = 4 ∨ j = 5 ∨ j = 6 ∨ j = 7 by omega) with rfl | rfl | rfl | rfl | rfl | rfl | rfl | rfl
                    · exact q2
                    · exact q3
                    · exact q4
                    · exact q5
                    · exact q6
                    · exact q7
                    · exact q8
                    · exact q9
                  · skip
                    refine lv_iconst (v := 0) C.1 C.2.1 dX8_count_108 (by decide) ?_
                    exact mrI C hr hlocks rfl hf hW dX8_count_109
def fX8_count_11 (N : Nat) (S : St) (x1 : Int32) : Option (Int32 × St) :=
  fX8_count_16 N S x1 (1 : Int32)
set_option maxHeartbeats 4000000 in
set_option maxRecDepth 100000 in
theorem lX8_count_11 {p : Program} {l : Launch} {e : Env} {s : State} {m : MethodId} {args : Array Value} {below : List Frame} {meth : Method} {c : Code} {D : va_G} {cy : Nat → ClassId} {a r : Nat → Nat} {A : Nat → Prop} {Rr : Int32 × St} (C : Cx p s m args c cX8_count 2 wsX8_count RX8 D cy) (hr : meth.sig.returnType = some .int) (hlocks : meth.locks = false) (N : Nat) (S : St) (x1 : Int32) (hf : fX8_count_11 N S x1 = some Rr) : ∀ (H : Heap) (locs : List Loc) (ls : Array Slot), WW D A s.heap (wM cy a r S) H locs → lv_has ls 2 [(0, .ref (a 99)), (1, .int x1)] → W p l e ({ frames := 0, cells := 0, slots := 0, locals := 0 } : Room) s m args below meth c H locs 0 0 (MQ below (QI D cy (wM cy a r) A Rr) args s 0 0 A) (F0 m 11 ls [.ref (a 99)]) := by
  intro H locs ls hW hl
  unfold fX8_count_11 at hf
  refine lv_iconst (v := 1) C.1 C.2.1 dX8_count_11 (by decide) ?_
  refine lv_goto (tgt := 16) C.1 C.2.1 dX8_count_12 (by decide) ?_
  exact lX8_count_16 C hr hlocks N _ _ _ hf _ _ _ hW (lv_sub hl [0, 1] rfl)
def fX8_count (N : Nat) (S : St) (p1 : Int32) : Option (Int32 × St) :=
  if p1 < 0 then
    fX8_count_11 N S p1
  else
    if p1 ≤ (7 : Int32) then
      fX8_count_16 N S p1 (0 : Int32)
    else
      fX8_count_11 N S p1
set_option maxHeartbeats 4000000 in
set_option maxRecDepth 100000 in
theorem cX8_count_met (l : Launch) (D : va_G) (cy : Nat → ClassId) (a r : Nat → Nat) (sz N : Nat) (S : St) (p1 : Int32) (Rr : Int32 × St) (hf : fX8_count N S p1 = some Rr) : Met l yX8_count wsX8_count ({ frames := 0, cells := 0, slots := 0, locals := 0 } : Room) (va_Pc [.ref (a 99), .int p1] (preW D cy (wM cy a r S) sz)) (QI D cy (wM cy a r) (va_A (wM cy a r S) sz) Rr) 0 0 (va_A (wM cy a r S) sz) := by
  refine Met.ofW (cc := cX8_count) (maxL := 2) (ret := (some .int)) (by decide) rfl ?_
  intro p e s m args below meth c s₁ B hml hv
  obtain ⟨rfl, rfl, hP, hK, hD0, hN⟩ := hv
  have hlocks := B.notSynchronized
  have hr := B.returns
  have C : Cx p s m _ c cX8_count 2 wsX8_count RX8 D cy := ⟨B.exec, B.bytes, hml, findClass_of_methodNamed B.named, atoms_spec (ws := wsX8_count) B.pre, hK, hN⟩
  have hW := ww_start (w := wM cy a r) hP hD0
  generalize va_A (wM cy a r S) s.heap.size = A at hW ⊢
  have hl := lv_entry ([.ref (a 99), .int p1]) (n := 2) (Nat.le_of_ble_eq_true rfl)
  rw [lg_entry_eq]
  generalize (lg_sl ([.ref (a 99), .int p1]) ++ List.replicate (2 - (lg_sl ([.ref (a 99), .int p1])).length) Slot.unset).toArray = ls at hl ⊢
  have hl : lv_has ls 2 [(0, .ref (a 99)), (1, .int p1)] := hl
  unfold fX8_count at hf
  refine lv_aload_n C.1 C.2.1 dX8_count_0 rfl (lv_at hl 0 rfl) ?_
  refine lv_iload_n C.1 C.2.1 dX8_count_1 rfl (lv_at hl 1 rfl) ?_
  refine lv_if_lt (tgt := 11) C.1 C.2.1 dX8_count_2 (by decide) (fun q1 => ?_) (fun q1 => ?_)
  · replace hf := (if_pos q1).symm.trans hf
    exact lX8_count_11 C hr hlocks N _ _ hf _ _ _ hW (lv_sub hl [0, 1] rfl)
  · replace hf := (if_neg q1).symm.trans hf
    refine lv_iload_n C.1 C.2.1 dX8_count_5 rfl (lv_at hl 1 rfl) ?_
    refine lv_bipush (v := 7) C.1 C.2.1 dX8_count_6 (by decide) ?_
    refine lv_icmp_le (tgt := 15) C.1 C.2.1 dX8_count_8 (by decide) (fun q2 => ?_) (fun q2 => ?_)
    · replace hf := (if_pos q2).symm.trans hf
      refine lv_iconst (v := 0) C.1 C.2.1 dX8_count_15 (by decide) ?_
      exact lX8_count_16 C hr hlocks N _ _ _ hf _ _ _ hW (lv_sub hl [0, 1] rfl)
    · replace hf := (if_neg q2).symm.trans hf
      exact lX8_count_11 C hr hlocks N _ _ hf _ _ _ hW (lv_sub hl [0, 1] rfl)
theorem mX8_letter_1 : Cond.fieldLink RX8 1 "SharedLambdaModel" "thrown" "I" ∈ wsX8_letter := by decide +kernel
theorem mX8_letter_198 : Cond.fieldLink RX8 198 "SharedLambdaModel" "told" "[B" ∈ wsX8_letter := by decide +kernel
theorem mX8_letter_156 : Cond.fieldLink RX8 156 "SharedLambdaModel" "letters" "I" ∈ wsX8_letter := by decide +kernel
theorem kX8_letter_8 : ∀ w ∈ u_ws RX8 TX8 58, w ∈ wsX8_letter := fun _ h => List.mem_cons_of_mem _ (List.mem_append_right _ h)
def fX8_letter_18 (N : Nat) (S : St) (x1 : Int32) (y1 : Int32) : Option (Int32 × St) :=
  bnd (sI S 0 y1) fun S1 =>
  if S1.1 0 ≤ 0 then
    ckx x1 4000 <|
    some (S1.2.1 45 (x1 : Int32).toNatClampNeg, S1)
  else
    some ((0 : Int32), S1)
set_option maxHeartbeats 4000000 in
set_option maxRecDepth 100000 in
theorem lX8_letter_18 {p : Program} {l : Launch} {e : Env} {s : State} {m : MethodId} {args : Array Value} {below : List Frame} {meth : Method} {c : Code} {D : va_G} {cy : Nat → ClassId} {a r : Nat → Nat} {A : Nat → Prop} {Rr : Int32 × St} (C : Cx p s m args c cX8_letter 2 wsX8_letter RX8 D cy) (hr : meth.sig.returnType = some .int) (hlocks : meth.locks = false) (N : Nat) (S : St) (x1 : Int32) (y1 : Int32) (hf : fX8_letter_18 N S x1 y1 = some Rr) : ∀ (H : Heap) (locs : List Loc) (ls : Array Slot), WW D A s.heap (wM cy a r S) H locs → lv_has ls 2 [(0, .ref (a 99)), (1, .int x1)] → W p l e ({ frames := 0, cells := 0, slots := 0, locals := 0 } : Room) s m args below meth c H locs 0 0 (MQ below (QI D cy (wM cy a r) A Rr) args s 0 0 A) (F0 m 18 ls [.int y1, .ref (a 99)]) := by
  intro H locs ls hW hl
  unfold fX8_letter_18 at hf
  obtain ⟨S1, eS1, hf⟩ := bnd_el hf
  refine fp_8_0 C kX8_letter_8 mX8_letter_1 hW dX8_letter_18 eS1 (fun H locs hW => ?_)
  refine lv_aload_n C.1 C.2.1 dX8_letter_21 rfl (lv_at hl 0 rfl) ?_
  refine fg_8_0 C kX8_letter_8 mX8_letter_1 hW dX8_letter_22 ?_
  refine lv_if_le (tgt := 32) C.1 C.2.1 dX8_letter_25 (by decide) (fun q2 => ?_) (fun q2 => ?_)
  · replace hf := (if_pos q2).symm.trans hf
    refine lv_aload_n C.1 C.2.1 dX8_letter_32 rfl (lv_at hl 0 rfl) ?_
    refine fg_8_45 C kX8_letter_8 mX8_letter_198 hW dX8_letter_33 ?_
    refine lv_iload_n C.1 C.2.1 dX8_letter_36 rfl (lv_at hl 1 rfl) ?_
    obtain ⟨h3, hf⟩ := ckx_el hf
    refine al_8_45 C hW h3 dX8_letter_37 ?_
    exact mrI C hr hlocks rfl hf hW dX8_letter_38
  · replace hf := (if_neg q2).symm.trans hf
    refine lv_iconst (v := 0) C.1 C.2.1 dX8_letter_28 (by decide) ?_
    refine lv_goto (tgt := 38) C.1 C.2.1 dX8_letter_29 (by decide) ?_
    exact mrI C hr hlocks rfl hf hW dX8_letter_38
def fX8_letter_13 (N : Nat) (S : St) (x1 : Int32) : Option (Int32 × St) :=
  fX8_letter_18 N S x1 (1 : Int32)
set_option maxHeartbeats 4000000 in
set_option maxRecDepth 100000 in
theorem lX8_letter_13 {p : Program} {l : Launch} {e : Env} {s : State} {m : MethodId} {args : Array Value} {below : List Frame} {meth : Method} {c : Code} {D : va_G} {cy : Nat → ClassId} {a r : Nat → Nat} {A : Nat → Prop} {Rr : Int32 × St} (C : Cx p s m args c cX8_letter 2 wsX8_letter RX8 D cy) (hr : meth.sig.returnType = some .int) (hlocks : meth.locks = false) (N : Nat) (S : St) (x1 : Int32) (hf : fX8_letter_13 N S x1 = some Rr) : ∀ (H : Heap) (locs : List Loc) (ls : Array Slot), WW D A s.heap (wM cy a r S) H locs → lv_has ls 2 [(0, .ref (a 99)), (1, .int x1)] → W p l e ({ frames := 0, cells := 0, slots := 0, locals := 0 } : Room) s m args below meth c H locs 0 0 (MQ below (QI D cy (wM cy a r) A Rr) args s 0 0 A) (F0 m 13 ls [.ref (a 99)]) := by
  intro H locs ls hW hl
  unfold fX8_letter_13 at hf
  refine lv_iconst (v := 1) C.1 C.2.1 dX8_letter_13 (by decide) ?_
  refine lv_goto (tgt := 18) C.1 C.2.1 dX8_letter_14 (by decide) ?_
  exact lX8_letter_18 C hr hlocks N _ _ _ hf _ _ _ hW (lv_sub hl [0, 1] rfl)
def fX8_letter (N : Nat) (S : St) (p1 : Int32) : Option (Int32 × St) :=
  if p1 < 0 then
    fX8_letter_13 N S p1
  else
    if p1 < S.1 47 then
      fX8_letter_18 N S p1 (0 : Int32)
    else
      fX8_letter_13 N S p1
set_option maxHeartbeats 4000000 in
set_option maxRecDepth 100000 in
theorem cX8_letter_met (l : Launch) (D : va_G) (cy : Nat → ClassId) (a r : Nat → Nat) (sz N : Nat) (S : St) (p1 : Int32) (Rr : Int32 × St) (hf : fX8_letter N S p1 = some Rr) : Met l yX8_letter wsX8_letter ({ frames := 0, cells := 0, slots := 0, locals := 0 } : Room) (va_Pc [.ref (a 99), .int p1] (preW D cy (wM cy a r S) sz)) (QI D cy (wM cy a r) (va_A (wM cy a r S) sz) Rr) 0 0 (va_A (wM cy a r S) sz) := by
  refine Met.ofW (cc := cX8_letter) (maxL := 2) (ret := (some .int)) (by decide) rfl ?_
  intro p e s m args below meth c s₁ B hml hv
  obtain ⟨rfl, rfl, hP, hK, hD0, hN⟩ := hv
  have hlocks := B.notSynchronized
  have hr := B.returns
  have C : Cx p s m _ c cX8_letter 2 wsX8_letter RX8 D cy := ⟨B.exec, B.bytes, hml, findClass_of_methodNamed B.named, atoms_spec (ws := wsX8_letter) B.pre, hK, hN⟩
  have hW := ww_start (w := wM cy a r) hP hD0
  generalize va_A (wM cy a r S) s.heap.size = A at hW ⊢
  have hl := lv_entry ([.ref (a 99), .int p1]) (n := 2) (Nat.le_of_ble_eq_true rfl)
  rw [lg_entry_eq]
  generalize (lg_sl ([.ref (a 99), .int p1]) ++ List.replicate (2 - (lg_sl ([.ref (a 99), .int p1])).length) Slot.unset).toArray = ls at hl ⊢
  have hl : lv_has ls 2 [(0, .ref (a 99)), (1, .int p1)] := hl
  unfold fX8_letter at hf
  refine lv_aload_n C.1 C.2.1 dX8_letter_0 rfl (lv_at hl 0 rfl) ?_
  refine lv_iload_n C.1 C.2.1 dX8_letter_1 rfl (lv_at hl 1 rfl) ?_
  refine lv_if_lt (tgt := 13) C.1 C.2.1 dX8_letter_2 (by decide) (fun q1 => ?_) (fun q1 => ?_)
  · replace hf := (if_pos q1).symm.trans hf
    exact lX8_letter_13 C hr hlocks N _ _ hf _ _ _ hW (lv_sub hl [0, 1] rfl)
  · replace hf := (if_neg q1).symm.trans hf
    refine lv_iload_n C.1 C.2.1 dX8_letter_5 rfl (lv_at hl 1 rfl) ?_
    refine lv_aload_n C.1 C.2.1 dX8_letter_6 rfl (lv_at hl 0 rfl) ?_
    refine fg_8_47 C kX8_letter_8 mX8_letter_156 hW dX8_letter_7 ?_
    refine lv_icmp_lt (tgt := 17) C.1 C.2.1 dX8_letter_10 (by decide) (fun q2 => ?_) (fun q2 => ?_)
    · replace hf := (if_pos q2).symm.trans hf
      refine lv_iconst (v := 0) C.1 C.2.1 dX8_letter_17 (by decide) ?_
      exact lX8_letter_18 C hr hlocks N _ _ _ hf _ _ _ hW (lv_sub hl [0, 1] rfl)
    · replace hf := (if_neg q2).symm.trans hf
      exact lX8_letter_13 C hr hlocks N _ _ hf _ _ _ hW (lv_sub hl [0, 1] rfl)
theorem mX8_nodes_1 : Cond.fieldLink RX8 1 "SharedLambdaModel" "thrown" "I" ∈ wsX8_nodes := by decide +kernel
theorem mX8_nodes_98 : Cond.fieldLink RX8 98 "SharedLambdaModel" "kinds" "[I" ∈ wsX8_nodes := by decide +kernel
theorem kX8_nodes_8 : ∀ w ∈ u_ws RX8 TX8 58, w ∈ wsX8_nodes := fun _ h => List.mem_cons_of_mem _ (List.mem_append_right _ h)
def fX8_nodes_45 (N : Nat) (k22 : St × Int32 × Int32 × Int32 → Option (Int32 × St)) (S : St) (x1 : Int32) (x3 : Int32) (y0 : Int32) (y1 : Int32) : Option (Int32 × St) :=
  bnd (y0 + y1) fun z1 =>
  bnd (x3 + (1 : Int32)) fun z2 =>
  k22 (S, x1, z1, z2)
set_option maxHeartbeats 4000000 in
set_option maxRecDepth 100000 in
theorem lX8_nodes_45 {p : Program} {l : Launch} {e : Env} {s : State} {m : MethodId} {args : Array Value} {below : List Frame} {meth : Method} {c : Code} {D : va_G} {cy : Nat → ClassId} {a r : Nat → Nat} {A : Nat → Prop} {Rr : Int32 × St} (C : Cx p s m args c cX8_nodes 4 wsX8_nodes RX8 D cy) (hr : meth.sig.returnType = some .int) (hlocks : meth.locks = false) (N : Nat) (k22 : St × Int32 × Int32 × Int32 → Option (Int32 × St)) (hk22 : ∀ (S : St) (x1 : Int32) (x2 : Int32) (x3 : Int32), k22 (S, x1, x2, x3) = some Rr → ∀ (H : Heap) (locs : List Loc) (ls : Array Slot), WW D A s.heap (wM cy a r S) H locs → lv_has ls 4 [(0, .ref (a 99)), (1, .int x1), (2, .int x2), (3, .int x3)] → W p l e ({ frames := 0, cells := 0, slots := 0, locals := 0 } : Room) s m args below meth c H locs 0 0 (MQ below (QI D cy (wM cy a r) A Rr) args s 0 0 A) (F0 m 22 ls [])) (S : St) (x1 : Int32) (x3 : Int32) (y0 : Int32) (y1 : Int32) (hf : fX8_nodes_45 N k22 S x1 x3 y0 y1 = some Rr) : ∀ (H : Heap) (locs : List Loc) (ls : Array Slot), WW D A s.heap (wM cy a r S) H locs → lv_has ls 4 [(0, .ref (a 99)), (1, .int x1), (3, .int x3)] → W p l e ({ frames := 0, cells := 0, slots := 0, locals := 0 } : Room) s m args below meth c H locs 0 0 (MQ below (QI D cy (wM cy a r) A Rr) args s 0 0 A) (F0 m 45 ls [.int y1, .int y0]) := by
  intro H locs ls hW hl
  unfold fX8_nodes_45 at hf
  refine lv_iadd C.1 C.2.1 dX8_nodes_45 ?_
  obtain ⟨z1, ez1, hf⟩ := bnd_el hf
  refine lv_as ez1 ?_
  refine lv_istore_n (lv' := [(2, .int z1), (0, .ref (a 99)), (1, .int x1), (3, .int x3)]) C.1 C.2.1 dX8_nodes_46 rfl hl (by decide) rfl (fun ls hl => ?_)
  obtain ⟨z2, ez2, hf⟩ := bnd_el hf
  refine lv_iinc (v := z2) (lv' := [(3, .int z2), (2, .int z1), (0, .ref (a 99)), (1, .int x1)]) C.1 C.2.1 dX8_nodes_47 hl (k := 3) rfl (by rw [ez2]; rfl) (by decide) rfl (fun ls hl => ?_)
  refine lv_goto (tgt := 22) C.1 C.2.1 dX8_nodes_50 (by decide) ?_
  exact hk22 _ _ _ _ hf _ _ _ hW (lv_sub hl [2, 3, 1, 0] rfl)
def fX8_nodes_22s (N : Nat) (k22 : St × Int32 × Int32 × Int32 → Option (Int32 × St)) (S : St) (x1 : Int32) (x2 : Int32) (x3 : Int32) : Option (Int32 × St) :=
  if (3010 : Int32) ≤ x3 then
    if S.1 0 ≤ 0 then
      some (x2, S)
    else
      some ((0 : Int32), S)
  else
    ckx x3 3010 <|
    if S.2.1 17 (x3 : Int32).toNatClampNeg = x1 then
      fX8_nodes_45 N k22 S x1 x3 x2 (1 : Int32)
    else
      fX8_nodes_45 N k22 S x1 x3 x2 (0 : Int32)
def fX8_nodes_22 (N : Nat) : St × Int32 × Int32 × Int32 → Option (Int32 × St) := loopN (fun k x => fX8_nodes_22s N k x.1 x.2.1 x.2.2.1 x.2.2.2) N
set_option maxHeartbeats 4000000 in
set_option maxRecDepth 100000 in
theorem lX8_nodes_22 {p : Program} {l : Launch} {e : Env} {s : State} {m : MethodId} {args : Array Value} {below : List Frame} {meth : Method} {c : Code} {D : va_G} {cy : Nat → ClassId} {a r : Nat → Nat} {A : Nat → Prop} {Rr : Int32 × St} (C : Cx p s m args c cX8_nodes 4 wsX8_nodes RX8 D cy) (hr : meth.sig.returnType = some .int) (hlocks : meth.locks = false) (N : Nat) : ∀ (n : Nat) (S : St) (x1 : Int32) (x2 : Int32) (x3 : Int32), loopN (fun k x => fX8_nodes_22s N k x.1 x.2.1 x.2.2.1 x.2.2.2) n (S, x1, x2, x3) = some Rr → ∀ (H : Heap) (locs : List Loc) (ls : Array Slot), WW D A s.heap (wM cy a r S) H locs → lv_has ls 4 [(0, .ref (a 99)), (1, .int x1), (2, .int x2), (3, .int x3)] → W p l e ({ frames := 0, cells := 0, slots := 0, locals := 0 } : Room) s m args below meth c H locs 0 0 (MQ below (QI D cy (wM cy a r) A Rr) args s 0 0 A) (F0 m 22 ls []) := by
  intro n
  induction n with
  | zero =>
    intro S x1 x2 x3 hf
    cases hf
  | succ n ih =>
    intro S x1 x2 x3 hf H locs ls hW hl
    have hf : fX8_nodes_22s N (loopN (fun k x => fX8_nodes_22s N k x.1 x.2.1 x.2.2.1 x.2.2.2) n) S x1 x2 x3 = some Rr := hf
    unfold fX8_nodes_22s at hf
    refine lv_iload_n C.1 C.2.1 dX8_nodes_22 rfl (lv_at hl 3 rfl) ?_
    refine lv_sipush (v := 3010) C.1 C.2.1 dX8_nodes_23 (by decide) ?_
    refine lv_icmp_ge (tgt := 53) C.1 C.2.1 dX8_nodes_26 (by decide) (fun q1 => ?_) (fun q1 => ?_)
    · replace hf := (if_pos q1).symm.trans hf
      refine lv_aload_n C.1 C.2.1 dX8_nodes_53 rfl (lv_at hl 0 rfl) ?_
      refine fg_8_0 C kX8_nodes_8 mX8_nodes_1 hW dX8_nodes_54 ?_
      refine lv_if_le (tgt := 64) C.1 C.2.1 dX8_nodes_57 (by decide) (fun q2 => ?_) (fun q2 => ?_)
      · replace hf := (if_pos q2).symm.trans hf
        refine lv_iload_n C.1 C.2.1 dX8_nodes_64 rfl (lv_at hl 2 rfl) ?_
        exact mrI C hr hlocks rfl hf hW dX8_nodes_65
      · replace hf := (if_neg q2).symm.trans hf
        refine lv_iconst (v := 0) C.1 C.2.1 dX8_nodes_60 (by decide) ?_
        refine lv_goto (tgt := 65) C.1 C.2.1 dX8_nodes_61 (by decide) ?_
        exact mrI C hr hlocks rfl hf hW dX8_nodes_65
    · replace hf := (if_neg q1).symm.trans hf
      refine lv_iload_n C.1 C.2.1 dX8_nodes_29 rfl (lv_at hl 2 rfl) ?_
      refine lv_aload_n C.1 C.2.1 dX8_nodes_30 rfl (lv_at hl 0 rfl) ?_
      refine fg_8_17 C kX8_nodes_8 mX8_nodes_98 hW dX8_nodes_31 ?_
      refine lv_iload_n C.1 C.2.1 dX8_nodes_34 rfl (lv_at hl 3 rfl) ?_
      obtain ⟨h3, hf⟩ := ckx_el hf
      refine al_8_17 C hW h3 dX8_nodes_35 ?_
      refine lv_iload_n C.1 C.2.1 dX8_nodes_36 rfl (lv_at hl 1 rfl) ?_
      refine lv_icmp_ne (tgt := 44) C.1 C.2.1 dX8_nodes_37 (by decide) (fun q4 => ?_) (fun q4 => ?_)
      · replace hf := (if_neg q4).symm.trans hf
        refine lv_iconst (v := 0) C.1 C.2.1 dX8_nodes_44 (by decide) ?_
        exact lX8_nodes_45 C hr hlocks N _ ih _ _ _ _ _ hf _ _ _ hW (lv_sub hl [0, 1, 3] rfl)
      · replace hf := (if_pos q4).symm.trans hf
        refine lv_iconst (v := 1) C.1 C.2.1 dX8_nodes_40 (by decide) ?_
        refine lv_goto (tgt := 45) C.1 C.2.1 dX8_nodes_41 (by decide) ?_
        exact lX8_nodes_45 C hr hlocks N _ ih _ _ _ _ _ hf _ _ _ hW (lv_sub hl [0, 1, 3] rfl)
def fX8_nodes_15 (N : Nat) (S : St) (x1 : Int32) (y1 : Int32) : Option (Int32 × St) :=
  bnd (sI S 0 y1) fun S1 =>
  bnd (0 : Int32) fun z2 =>
  bnd (0 : Int32) fun z3 =>
  fX8_nodes_22 N (S1, x1, z2, z3)
set_option maxHeartbeats 4000000 in
set_option maxRecDepth 100000 in
theorem lX8_nodes_15 {p : Program} {l : Launch} {e : Env} {s : State} {m : MethodId} {args : Array Value} {below : List Frame} {meth : Method} {c : Code} {D : va_G} {cy : Nat → ClassId} {a r : Nat → Nat} {A : Nat → Prop} {Rr : Int32 × St} (C : Cx p s m args c cX8_nodes 4 wsX8_nodes RX8 D cy) (hr : meth.sig.returnType = some .int) (hlocks : meth.locks = false) (N : Nat) (S : St) (x1 : Int32) (y1 : Int32) (hf : fX8_nodes_15 N S x1 y1 = some Rr) : ∀ (H : Heap) (locs : List Loc) (ls : Array Slot), WW D A s.heap (wM cy a r S) H locs → lv_has ls 4 [(0, .ref (a 99)), (1, .int x1)] → W p l e ({ frames := 0, cells := 0, slots := 0, locals := 0 } : Room) s m args below meth c H locs 0 0 (MQ below (QI D cy (wM cy a r) A Rr) args s 0 0 A) (F0 m 15 ls [.int y1, .ref (a 99)]) := by
  intro H locs ls hW hl
  unfold fX8_nodes_15 at hf
  obtain ⟨S1, eS1, hf⟩ := bnd_el hf
  refine fp_8_0 C kX8_nodes_8 mX8_nodes_1 hW dX8_nodes_15 eS1 (fun H locs hW => ?_)
  refine lv_iconst (v := 0) C.1 C.2.1 dX8_nodes_18 (by decide) ?_
  obtain ⟨z2, ez2, hf⟩ := bnd_el hf
  refine lv_as ez2 ?_
  refine lv_istore_n (lv' := [(2, .int z2), (0, .ref (a 99)), (1, .int x1)]) C.1 C.2.1 dX8_nodes_19 rfl hl (by decide) rfl (fun ls hl => ?_)
  refine lv_iconst (v := 0) C.1 C.2.1 dX8_nodes_20 (by decide) ?_
  obtain ⟨z3, ez3, hf⟩ := bnd_el hf
  refine lv_as ez3 ?_
  refine lv_istore_n (lv' := [(3, .int z3), (2, .int z2), (0, .ref (a 99)), (1, .int x1)]) C.1 C.2.1 dX8_nodes_21 rfl hl (by decide) rfl (fun ls hl => ?_)
  exact lX8_nodes_22 C hr hlocks N _ _ _ _ _ hf _ _ _ hW (lv_sub hl [2, 3, 1, 0] rfl)
def fX8_nodes_10 (N : Nat) (S : St) (x1 : Int32) : Option (Int32 × St) :=
  fX8_nodes_15 N S x1 (1 : Int32)
set_option maxHeartbeats 4000000 in
set_option maxRecDepth 100000 in
theorem lX8_nodes_10 {p : Program} {l : Launch} {e : Env} {s : State} {m : MethodId} {args : Array Value} {below : List Frame} {meth : Method} {c : Code} {D : va_G} {cy : Nat → ClassId} {a r : Nat → Nat} {A : Nat → Prop} {Rr : Int32 × St} (C : Cx p s m args c cX8_nodes 4 wsX8_nodes RX8 D cy) (hr : meth.sig.returnType = some .int) (hlocks : meth.locks = false) (N : Nat) (S : St) (x1 : Int32) (hf : fX8_nodes_10 N S x1 = some Rr) : ∀ (H : Heap) (locs : List Loc) (ls : Array Slot), WW D A s.heap (wM cy a r S) H locs → lv_has ls 4 [(0, .ref (a 99)), (1, .int x1)] → W p l e ({ frames := 0, cells := 0, slots := 0, locals := 0 } : Room) s m args below meth c H locs 0 0 (MQ below (QI D cy (wM cy a r) A Rr) args s 0 0 A) (F0 m 10 ls [.ref (a 99)]) := by
  intro H locs ls hW hl
  unfold fX8_nodes_10 at hf
  refine lv_iconst (v := 1) C.1 C.2.1 dX8_nodes_10 (by decide) ?_
  refine lv_goto (tgt := 15) C.1 C.2.1 dX8_nodes_11 (by decide) ?_
  exact lX8_nodes_15 C hr hlocks N _ _ _ hf _ _ _ hW (lv_sub hl [0, 1] rfl)
def fX8_nodes (N : Nat) (S : St) (p1 : Int32) : Option (Int32 × St) :=
  if p1 < 0 then
    fX8_nodes_10 N S p1
  else
    if p1 ≤ (5 : Int32) then
      fX8_nodes_15 N S p1 (0 : Int32)
    else
      fX8_nodes_10 N S p1
set_option maxHeartbeats 4000000 in
set_option maxRecDepth 100000 in
theorem cX8_nodes_met (l : Launch) (D : va_G) (cy : Nat → ClassId) (a r : Nat → Nat) (sz N : Nat) (S : St) (p1 : Int32) (Rr : Int32 × St) (hf : fX8_nodes N S p1 = some Rr) : Met l yX8_nodes wsX8_nodes ({ frames := 0, cells := 0, slots := 0, locals := 0 } : Room) (va_Pc [.ref (a 99), .int p1] (preW D cy (wM cy a r S) sz)) (QI D cy (wM cy a r) (va_A (wM cy a r S) sz) Rr) 0 0 (va_A (wM cy a r S) sz) := by
  refine Met.ofW (cc := cX8_nodes) (maxL := 4) (ret := (some .int)) (by decide) rfl ?_
  intro p e s m args below meth c s₁ B hml hv
  obtain ⟨rfl, rfl, hP, hK, hD0, hN⟩ := hv
  have hlocks := B.notSynchronized
  have hr := B.returns
  have C : Cx p s m _ c cX8_nodes 4 wsX8_nodes RX8 D cy := ⟨B.exec, B.bytes, hml, findClass_of_methodNamed B.named, atoms_spec (ws := wsX8_nodes) B.pre, hK, hN⟩
  have hW := ww_start (w := wM cy a r) hP hD0
  generalize va_A (wM cy a r S) s.heap.size = A at hW ⊢
  have hl := lv_entry ([.ref (a 99), .int p1]) (n := 4) (Nat.le_of_ble_eq_true rfl)
  rw [lg_entry_eq]
  generalize (lg_sl ([.ref (a 99), .int p1]) ++ List.replicate (4 - (lg_sl ([.ref (a 99), .int p1])).length) Slot.unset).toArray = ls at hl ⊢
  have hl : lv_has ls 4 [(0, .ref (a 99)), (1, .int p1)] := hl
  unfold fX8_nodes at hf
  refine lv_aload_n C.1 C.2.1 dX8_nodes_0 rfl (lv_at hl 0 rfl) ?_
  refine lv_iload_n C.1 C.2.1 dX8_nodes_1 rfl (lv_at hl 1 rfl) ?_
  refine lv_if_lt (tgt := 10) C.1 C.2.1 dX8_nodes_2 (by decide) (fun q1 => ?_) (fun q1 => ?_)
  · replace hf := (if_pos q1).symm.trans hf
    exact lX8_nodes_10 C hr hlocks N _ _ hf _ _ _ hW (lv_sub hl [0, 1] rfl)
  · replace hf := (if_neg q1).symm.trans hf
    refine lv_iload_n C.1 C.2.1 dX8_nodes_5 rfl (lv_at hl 1 rfl) ?_
    refine lv_iconst (v := 5) C.1 C.2.1 dX8_nodes_6 (by decide) ?_
    refine lv_icmp_le (tgt := 14) C.1 C.2.1 dX8_nodes_7 (by decide) (fun q2 => ?_) (fun q2 => ?_)
    · replace hf := (if_pos q2).symm.trans hf
      refine lv_iconst (v := 0) C.1 C.2.1 dX8_nodes_14 (by decide) ?_
      exact lX8_nodes_15 C hr hlocks N _ _ _ hf _ _ _ hW (lv_sub hl [0, 1] rfl)
    · replace hf := (if_neg q2).symm.trans hf
      exact lX8_nodes_10 C hr hlocks N _ _ hf _ _ _ hW (lv_sub hl [0, 1] rfl)
