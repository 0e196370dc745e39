def fX6_keepLevels_12s (N : Nat) (k12 : St × Int32 × Int32 → Option (St)) (S : St) (x1 : Int32) (x2 : Int32) : Option (St) :=
  if x1 ≤ x2 then
    some S
  else
    if (Int32.ofNat S.2.2.2.2.1) ≤ S.1 135 then
      some S
    else
      bd2 (fX1_level N S x2) fun v3 S5 =>
      ckx (S.1 135) S5.2.2.2.2.1 <|
      bnd (sA S5 134 (upd (S5.2.1 134) (S.1 135 : Int32).toNatClampNeg v3)) fun S7 =>
      bnd (sI S7 135 ((S7.1 135 + (1 : Int32)))) fun S8 =>
      bnd (x2 + (1 : Int32)) fun z9 =>
      k12 (S8, x1, z9)
def fX6_keepLevels_12 (N : Nat) : St × Int32 × Int32 → Option (St) := loopN (fun k x => fX6_keepLevels_12s N k x.1 x.2.1 x.2.2) N
def fX6_keepLevels (N : Nat) (S : St) (p1 : Int32) : Option (St) :=
  bdo (fX6_growLevels N S (S.1 135 + p1)) fun S3 =>
  bnd (0 : Int32) fun z4 =>
  fX6_keepLevels_12 N (S3, p1, z4)
theorem nX6_keepLevels_12s (N : Nat) (k12 : St × Int32 × Int32 → Option (St)) (hk12 : ∀ x, Kp (fun R => Ge R x.1) (k12 x)) (S : St) (x1 : Int32) (x2 : Int32) : Kp (fun R => Ge R S) (fX6_keepLevels_12s N k12 S x1 x2) := by
  unfold fX6_keepLevels_12s
  refine kp_ite (fun q1 => ?_) (fun q1 => ?_)
  · skip
    exact kp_some Ge.rf
  · skip
    refine kp_ite (fun q2 => ?_) (fun q2 => ?_)
    · skip
      exact kp_some Ge.rf
    · skip
      refine kp_bd2 (fun v3 S5 h4 => ?_)
      have tS5 : Ge S5 S := Ge.of (tX1_level N S x2 (v3, S5) h4)
      refine kp_ckx (fun h6 => ?_)
      refine kp_bnd (fun S7 eS7 => ?_)
      have tS7 : Ge S7 S5 := Ge.of (by rw [eS7]; rfl)
      refine kp_bnd (fun S8 eS8 => ?_)
      have tS8 : Ge S8 S7 := Ge.of (by rw [eS8]; rfl)
      refine kp_bnd (fun z9 ez9 => ?_)
      exact fun R h => (hk12 (S8, x1, z9) R h).trans (tS8.trans (tS7.trans tS5))
theorem nX6_keepLevels_12 (N : Nat) (x : St × Int32 × Int32) : Kp (fun R => Ge R x.1) (fX6_keepLevels_12 N x) := kp_loop (P := fun x R => Ge R x.1) (fun k hk x => nX6_keepLevels_12s N k hk x.1 x.2.1 x.2.2) N x
theorem nX6_keepLevels (N : Nat) (S : St) (p1 : Int32) : Kp (fun R => Ge R S) (fX6_keepLevels N S p1) := by
  unfold fX6_keepLevels
  refine kp_bdo (fun S3 h2 => ?_)
  have tS3 : Ge S3 S := nX6_growLevels N S (S.1 135 + p1) S3 h2
  refine kp_bnd (fun z4 ez4 => ?_)
  exact fun R h => (nX6_keepLevels_12 N (S3, p1, z4) R h).trans tS3
theorem mX6_keepLevels_64 : Cond.fieldLink RX6 64 "SharedLambda$Walk" "binderLevelCount" "I" ∈ wsX6_keepLevels := by decide +kernel
theorem mX6_keepLevels_41 : Cond.fieldLink RX6 41 "SharedLambda$Walk" "binderLevels" "[I" ∈ wsX6_keepLevels := by decide +kernel
theorem mX6_keepLevels_12 : Cond.fieldLink RX6 12 "SharedLambda$Walk" "context" "LSharedLambda$Context;" ∈ wsX6_keepLevels := by decide +kernel
theorem kX6_keepLevels_6 : ∀ w ∈ u_ws RX6 TX6 16, w ∈ wsX6_keepLevels := fun _ h => List.mem_cons_of_mem _ (List.mem_append_left _ (List.mem_append_right _ h))
set_option maxHeartbeats 4000000 in
set_option maxRecDepth 100000 in
theorem lX6_keepLevels_12 {p : Program} {l : Launch} {e : Env} {s : State} {m : MethodId} {args : Array Value} {below : List Frame} {meth : Method} {c : Code} {D : va_G} {cy : Nat → ClassId} {a : Nat → Nat} {A : Nat → Prop} {Rr : St} (C : Cx p s m args c cX6_keepLevels 3 wsX6_keepLevels RX6 D cy) (hr : meth.sig.returnType = none) (hlocks : meth.locks = false) {c0 s0 : Nat} (N : Nat) : ∀ (n : Nat) (S : St) (x1 : Int32) (x2 : Int32), loopN (fun k x => fX6_keepLevels_12s N k x.1 x.2.1 x.2.2) n (S, x1, x2) = some Rr → ∀ (r : Nat → Nat) (H : Heap) (locs : List Loc) (ls : Array Slot) (cells slots : Nat), Acc cells slots c0 s0 S → WW D A s.heap (wC cy a r S) H locs → lv_has ls 3 [(0, .ref (a 139)), (1, .int x1), (2, .int x2)] → W p l e ({ frames := 2, cells := gc Rr - c0, slots := gs Rr - s0, locals := 62 } : Room) s m args below meth c H locs cells slots (MQ below (QVx D cy a A Rr) args s (gc Rr - c0) (gs Rr - s0) A) (F0 m 12 ls []) := by
  intro n
  induction n with
  | zero =>
    intro S x1 x2 hf
    cases hf
  | succ n ih =>
    intro S x1 x2 hf r H locs ls cells slots hg hW hl
    have hf : fX6_keepLevels_12s N (loopN (fun k x => fX6_keepLevels_12s N k x.1 x.2.1 x.2.2) n) S x1 x2 = some Rr := hf
    have hm12 : ∀ x, Kp (fun R => Ge R x.1) (loopN (fun k x => fX6_keepLevels_12s N k x.1 x.2.1 x.2.2) n x) := kp_loop (P := fun x R => Ge R x.1) (fun k hk x => nX6_keepLevels_12s N k hk x.1 x.2.1 x.2.2) n
    have hm := nX6_keepLevels_12s N _ hm12 S x1 x2 Rr hf
    have hcap := hg.cap hm
    unfold fX6_keepLevels_12s at hf
    refine lv_iload_n C.1 C.2.1 dX6_keepLevels_12 rfl (lv_at hl 2 rfl) ?_
    refine lv_iload_n C.1 C.2.1 dX6_keepLevels_13 rfl (lv_at hl 1 rfl) ?_
    refine lv_icmp_ge (tgt := 62) C.1 C.2.1 dX6_keepLevels_14 (by decide) (fun q1 => ?_) (fun q1 => ?_)
    · replace hf := (if_pos q1).symm.trans hf
      exact mrVG C hr hlocks hf (hg.of rfl) hW dX6_keepLevels_62
    · replace hf := (if_neg q1).symm.trans hf
      refine lv_aload_n C.1 C.2.1 dX6_keepLevels_17 rfl (lv_at hl 0 rfl) ?_
      refine fg_6_15 C kX6_keepLevels_6 mX6_keepLevels_64 hW dX6_keepLevels_18 ?_
      refine lv_aload_n C.1 C.2.1 dX6_keepLevels_21 rfl (lv_at hl 0 rfl) ?_
      refine fg_6_14 C kX6_keepLevels_6 mX6_keepLevels_41 hW dX6_keepLevels_22 ?_
      refine an_6_14 C hW dX6_keepLevels_25 ?_
      refine lv_icmp_ge (tgt := 62) C.1 C.2.1 dX6_keepLevels_26 (by decide) (fun q2 => ?_) (fun q2 => ?_)
      · replace hf := (if_pos q2).symm.trans hf
        exact mrVG C hr hlocks hf (hg.of rfl) hW dX6_keepLevels_62
      · replace hf := (if_neg q2).symm.trans hf
        refine lv_aload_n C.1 C.2.1 dX6_keepLevels_29 rfl (lv_at hl 0 rfl) ?_
        refine fg_6_14 C kX6_keepLevels_6 mX6_keepLevels_41 hW dX6_keepLevels_30 ?_
        refine lv_aload_n C.1 C.2.1 dX6_keepLevels_33 rfl (lv_at hl 0 rfl) ?_
        refine fg_6_15 C kX6_keepLevels_6 mX6_keepLevels_64 hW dX6_keepLevels_34 ?_
        refine lv_aload_n C.1 C.2.1 dX6_keepLevels_37 rfl (lv_at hl 0 rfl) ?_
        refine fg_6_1 C kX6_keepLevels_6 mX6_keepLevels_12 hW dX6_keepLevels_38 ?_
        refine lv_iload_n C.1 C.2.1 dX6_keepLevels_41 rfl (lv_at hl 2 rfl) ?_
        obtain ⟨v3, S5, h4, hf⟩ := bd2_el hf
        have tS5 : tl S5 = tl S := tX1_level N S x2 (v3, S5) h4
        refine mcVi (w := wC cy a r) (S := S) (As := [.int x2]) (rest := [.int (S.1 135), .ref (r 99)]) (q0 := 1) (ci := 1) C (cX1_level_met l D cy a r _ N S x2 (v3, S5) h4) (cwV 1 C.2.2.2.2.1 gX6_keepLevels_X1_level rfl rfl rfl (by decide +kernel) ⟨Nat.le_of_ble_eq_true rfl, Nat.le_of_ble_eq_true rfl⟩) rfl rfl rfl hl.1 (Nat.le_of_ble_eq_true rfl) hW dX6_keepLevels_42 hcap rfl (fun H locs hW => ?_)
        obtain ⟨h6, hf⟩ := ckx_el hf
        obtain ⟨S7, eS7, hf⟩ := bnd_el hf
        have tS7 : tl S7 = tl S5 := by rw [eS7]; rfl
        refine as_6_14 C hW h6 dX6_keepLevels_45 eS7 (fun H locs hW => ?_)
        refine lv_aload_n C.1 C.2.1 dX6_keepLevels_46 rfl (lv_at hl 0 rfl) ?_
        refine lv_dup C.1 C.2.1 dX6_keepLevels_47 rfl ?_
        refine fg_6_15 C kX6_keepLevels_6 mX6_keepLevels_64 hW dX6_keepLevels_48 ?_
        refine lv_iconst (v := 1) C.1 C.2.1 dX6_keepLevels_51 (by decide) ?_
        refine lv_iadd C.1 C.2.1 dX6_keepLevels_52 ?_
        obtain ⟨S8, eS8, hf⟩ := bnd_el hf
        have tS8 : tl S8 = tl S7 := by rw [eS8]; rfl
        refine fp_6_15 C kX6_keepLevels_6 mX6_keepLevels_64 hW dX6_keepLevels_53 eS8 (fun H locs hW => ?_)
        obtain ⟨z9, ez9, hf⟩ := bnd_el hf
        refine lv_iinc (v := z9) (lv' := [(2, .int z9), (0, .ref (a 139)), (1, .int x1)]) C.1 C.2.1 dX6_keepLevels_56 hl (k := 2) rfl (by rw [ez9]; rfl) (by decide) rfl (fun ls hl => ?_)
        refine lv_goto (tgt := 12) C.1 C.2.1 dX6_keepLevels_59 (by decide) ?_
        exact ih _ _ _ hf _ _ _ _ _ _ (hg.of (tS8.trans (tS7.trans tS5))) hW (lv_sub hl [1, 2, 0] rfl)
set_option maxHeartbeats 4000000 in
set_option maxRecDepth 100000 in
theorem cX6_keepLevels_met (l : Launch) (D : va_G) (cy : Nat → ClassId) (a r : Nat → Nat) (sz N : Nat) (S : St) (p1 : Int32) (Rr : St) (hf : fX6_keepLevels N S p1 = some Rr) : Met l yX6_keepLevels wsX6_keepLevels ({ frames := 2, cells := gc Rr - gc S, slots := gs Rr - gs S, locals := 62 } : Room) (va_Pc [.ref (a 139), .int p1] (preW D cy (wC cy a r S) sz)) (QVx D cy a (va_A (wC cy a r S) sz) Rr) (gc Rr - gc S) (gs Rr - gs S) (va_A (wC cy a r S) sz) := by
  refine Met.ofW (cc := cX6_keepLevels) (maxL := 3) (ret := none) (by decide) rfl ?_
  intro p e s m args below meth c s₁ B hml hv
  obtain ⟨rfl, rfl, hP, hK, hD0, hN⟩ := hv
  have hlocks := B.notSynchronized
  have hr := B.returns
  have C : Cx p s m _ c cX6_keepLevels 3 wsX6_keepLevels RX6 D cy := ⟨B.exec, B.bytes, hml, findClass_of_methodNamed B.named, atoms_spec (ws := wsX6_keepLevels) B.pre, hK, hN⟩
  have hW := ww_start (w := wC cy a r) hP hD0
  generalize va_A (wC cy a r S) s.heap.size = A at hW ⊢
  have hl := lv_entry ([.ref (a 139), .int p1]) (n := 3) (Nat.le_of_ble_eq_true rfl)
  rw [lg_entry_eq]
  generalize (lg_sl ([.ref (a 139), .int p1]) ++ List.replicate (3 - (lg_sl ([.ref (a 139), .int p1])).length) Slot.unset).toArray = ls at hl ⊢
  have hl : lv_has ls 3 [(0, .ref (a 139)), (1, .int p1)] := hl
  have hm := nX6_keepLevels N S p1 Rr hf
  have hg : Acc 0 0 (gc S) (gs S) S := ⟨Nat.zero_add _, Nat.zero_add _⟩
  have hcap := hg.cap hm
  unfold fX6_keepLevels at hf
  refine lv_aload_n C.1 C.2.1 dX6_keepLevels_0 rfl (lv_at hl 0 rfl) ?_
  refine lv_aload_n C.1 C.2.1 dX6_keepLevels_1 rfl (lv_at hl 0 rfl) ?_
  refine fg_6_15 C kX6_keepLevels_6 mX6_keepLevels_64 hW dX6_keepLevels_2 ?_
  refine lv_iload_n C.1 C.2.1 dX6_keepLevels_5 rfl (lv_at hl 1 rfl) ?_
  refine lv_iadd C.1 C.2.1 dX6_keepLevels_6 ?_
  obtain ⟨S3, h2, hf⟩ := bdo_el hf
  have hmS3 : Ge Rr S3 := by
    revert hf
    refine (?_ : Kp (fun R => Ge R S3) _) Rr
    refine kp_bnd (fun z4 ez4 => ?_)
    exact fun R h => (nX6_keepLevels_12 N (S3, p1, z4) R h).trans Ge.rf
  have hqS3 : Ge S3 S := nX6_growLevels N S (S.1 135 + p1) S3 h2
  have hgn := (hg.of rfl).call hqS3
  refine mcVvG (S := S) (As := [.int (S.1 135 + p1)]) (rest := []) (q0 := 6) (ci := 6) C (cX6_growLevels_met l D cy a r _ N S (S.1 135 + p1) S3 h2) (cwV 1 C.2.2.2.2.1 gX6_keepLevels_X6_growLevels rfl rfl rfl (by decide +kernel) ⟨Nat.le_of_ble_eq_true rfl, Nat.le_of_ble_eq_true rfl⟩) rfl rfl rfl hl.1 (Nat.le_of_ble_eq_true rfl) hW dX6_keepLevels_7 ((hg.of rfl).callcap hqS3 hmS3) rfl (fun r H locs hW => ?_)
  replace hg := hgn
  have hcap := hg.cap hmS3
  refine lv_iconst (v := 0) C.1 C.2.1 dX6_keepLevels_10 (by decide) ?_
  obtain ⟨z4, ez4, hf⟩ := bnd_el hf
  refine lv_as ez4 ?_
  refine lv_istore_n (lv' := [(2, .int z4), (0, .ref (a 139)), (1, .int p1)]) C.1 C.2.1 dX6_keepLevels_11 rfl hl (by decide) rfl (fun ls hl => ?_)
  exact lX6_keepLevels_12 C hr hlocks N _ _ _ _ hf _ _ _ _ _ _ (hg.of rfl) hW (lv_sub hl [1, 2, 0] rfl)
def fX6_readAbstraction (N : Nat) (S : St) (p1 : Int32) : Option (Int32 × St) :=
  bd2 (fX6_tell N S (92 : Int32)) fun v1 S3 =>
  if v1 = 0 then
    some ((3 : Int32), S3)
  else
    if S3.1 133 < (4000 : Int32) then
      ckx (S3.1 133) 4000 <|
      bnd (sA S3 131 (upd (S3.2.1 131) (S3.1 133 : Int32).toNatClampNeg p1)) fun S7 =>
      ckx (S7.1 133) 4000 <|
      bnd (sA S7 132 (upd (S7.2.1 132) (S7.1 133 : Int32).toNatClampNeg (S7.1 135))) fun S9 =>
      bnd (sI S9 133 ((S9.1 133 + (1 : Int32)))) fun S10 =>
      bd2 (fX2_indexOf N S10 p1) fun v11 S13 =>
      bdo (fX6_keepLevels N S13 v11) fun S16 =>
      bdo (fX6_push N S16 (0 : Int32) p1) fun S19 =>
      bd2 (fX6_leaveBy N S19 p1 (1 : Int32)) fun v20 S22 =>
      some (v20, S22)
    else
      some ((3 : Int32), S3)
theorem nX6_readAbstraction (N : Nat) (S : St) (p1 : Int32) : Kp (fun R => Ge R.2 S) (fX6_readAbstraction N S p1) := by
  unfold fX6_readAbstraction
  refine kp_bd2 (fun v1 S3 h2 => ?_)
  have tS3 : Ge S3 S := Ge.of (tX6_tell N S (92 : Int32) (v1, S3) h2)
  refine kp_ite (fun q4 => ?_) (fun q4 => ?_)
  · skip
    exact kp_some tS3
  · skip
    refine kp_ite (fun q5 => ?_) (fun q5 => ?_)
    · skip
      refine kp_ckx (fun h6 => ?_)
      refine kp_bnd (fun S7 eS7 => ?_)
      have tS7 : Ge S7 S3 := Ge.of (by rw [eS7]; rfl)
      refine kp_ckx (fun h8 => ?_)
      refine kp_bnd (fun S9 eS9 => ?_)
      have tS9 : Ge S9 S7 := Ge.of (by rw [eS9]; rfl)
      refine kp_bnd (fun S10 eS10 => ?_)
      have tS10 : Ge S10 S9 := Ge.of (by rw [eS10]; rfl)
      refine kp_bd2 (fun v11 S13 h12 => ?_)
      have tS13 : Ge S13 S10 := Ge.of (tX2_indexOf N S10 p1 (v11, S13) h12)
      refine kp_bdo (fun S16 h15 => ?_)
      have tS16 : Ge S16 S13 := nX6_keepLevels N S13 v11 S16 h15
      refine kp_bdo (fun S19 h18 => ?_)
      have tS19 : Ge S19 S16 := Ge.of (tX6_push N S16 (0 : Int32) p1 S19 h18)
      refine kp_bd2 (fun v20 S22 h21 => ?_)
      have tS22 : Ge S22 S19 := Ge.of (tX6_leaveBy N S19 p1 (1 : Int32) (v20, S22) h21)
      exact kp_some (tS22.trans (tS19.trans (tS16.trans (tS13.trans (tS10.trans (tS9.trans (tS7.trans tS3)))))))
    · skip
      exact kp_some tS3
theorem mX6_readAbstraction_61 : Cond.fieldLink RX6 61 "SharedLambda$Walk" "binderCount" "I" ∈ wsX6_readAbstraction := by decide +kernel
theorem mX6_readAbstraction_35 : Cond.fieldLink RX6 35 "SharedLambda$Walk" "binders" "[I" ∈ wsX6_readAbstraction := by decide +kernel
theorem mX6_readAbstraction_38 : Cond.fieldLink RX6 38 "SharedLambda$Walk" "binderStarts" "[I" ∈ wsX6_readAbstraction := by decide +kernel
theorem mX6_readAbstraction_64 : Cond.fieldLink RX6 64 "SharedLambda$Walk" "binderLevelCount" "I" ∈ wsX6_readAbstraction := by decide +kernel
theorem mX6_readAbstraction_44 : Cond.fieldLink RX6 44 "SharedLambda$Walk" "graph" "LSharedLambda$Graph;" ∈ wsX6_readAbstraction := by decide +kernel
theorem kX6_readAbstraction_6 : ∀ w ∈ u_ws RX6 TX6 16, w ∈ wsX6_readAbstraction := fun _ h => List.mem_cons_of_mem _ (List.mem_append_left _ (List.mem_append_left _ (List.mem_append_right _ h)))
set_option maxHeartbeats 4000000 in
set_option maxRecDepth 100000 in
theorem cX6_readAbstraction_met (l : Launch) (D : va_G) (cy : Nat → ClassId) (a r : Nat → Nat) (sz N : Nat) (S : St) (p1 : Int32) (Rr : Int32 × St) (hf : fX6_readAbstraction N S p1 = some Rr) : Met l yX6_readAbstraction wsX6_readAbstraction ({ frames := 3, cells := gc Rr.2 - gc S, slots := gs Rr.2 - gs S, locals := 84 } : Room) (va_Pc [.ref (a 139), .int p1] (preW D cy (wC cy a r S) sz)) (QIx D cy a (va_A (wC cy a r S) sz) Rr) (gc Rr.2 - gc S) (gs Rr.2 - gs S) (va_A (wC cy a r S) sz) := by
  refine Met.ofW (cc := cX6_readAbstraction) (maxL := 2) (ret := (some .int)) (by decide) rfl ?_
  intro p e s m args below meth c s₁ B hml hv
  obtain ⟨rfl, rfl, hP, hK, hD0, hN⟩ := hv
  have hlocks := B.notSynchronized
  have hr := B.returns
  have C : Cx p s m _ c cX6_readAbstraction 2 wsX6_readAbstraction RX6 D cy := ⟨B.exec, B.bytes, hml, findClass_of_methodNamed B.named, atoms_spec (ws := wsX6_readAbstraction) B.pre, hK, hN⟩
  have hW := ww_start (w := wC cy a r) hP hD0
  generalize va_A (wC cy a r S) s.heap.size = A at hW ⊢
  have hl := lv_entry ([.ref (a 139), .int p1]) (n := 2) (Nat.le_of_ble_eq_true rfl)
  rw [lg_entry_eq]
  generalize (lg_sl ([.ref (a 139), .int p1]) ++ List.replicate (2 - (lg_sl ([.ref (a 139), .int p1])).length) Slot.unset).toArray = ls at hl ⊢
  have hl : lv_has ls 2 [(0, .ref (a 139)), (1, .int p1)] := hl
  have hm := nX6_readAbstraction N S p1 Rr hf
  have hg : Acc 0 0 (gc S) (gs S) S := ⟨Nat.zero_add _, Nat.zero_add _⟩
  have hcap := hg.cap hm
  unfold fX6_readAbstraction at hf
  refine lv_aload_n C.1 C.2.1 dX6_readAbstraction_0 rfl (lv_at hl 0 rfl) ?_
  refine lv_bipush (v := 92) C.1 C.2.1 dX6_readAbstraction_1 (by decide) ?_
  obtain ⟨v1, S3, h2, hf⟩ := bd2_el hf
  have tS3 : tl S3 = tl S := tX6_tell N S (92 : Int32) (v1, S3) h2
  refine mcVi (w := wC cy a r) (S := S) (As := [.int (92 : Int32)]) (rest := []) (q0 := 6) (ci := 6) C (cX6_tell_met l D cy a r _ N S (92 : Int32) (v1, S3) h2) (cwV 1 C.2.2.2.2.1 gX6_readAbstraction_X6_tell rfl rfl rfl (by decide +kernel) ⟨Nat.le_of_ble_eq_true rfl, Nat.le_of_ble_eq_true rfl⟩) rfl rfl rfl hl.1 (Nat.le_of_ble_eq_true rfl) hW dX6_readAbstraction_3 hcap rfl (fun H locs hW => ?_)
  refine lv_if_eq (tgt := 19) C.1 C.2.1 dX6_readAbstraction_6 (by decide) (fun q4 => ?_) (fun q4 => ?_)
  · replace hf := (if_pos q4).symm.trans hf
    refine lv_iconst (v := 3) C.1 C.2.1 dX6_readAbstraction_19 (by decide) ?_
    exact mrIG C hr hlocks rfl hf (hg.of tS3) hW dX6_readAbstraction_20
  · replace hf := (if_neg q4).symm.trans hf
    refine lv_aload_n C.1 C.2.1 dX6_readAbstraction_9 rfl (lv_at hl 0 rfl) ?_
    refine fg_6_13 C kX6_readAbstraction_6 mX6_readAbstraction_61 hW dX6_readAbstraction_10 ?_
    refine lv_sipush (v := 4000) C.1 C.2.1 dX6_readAbstraction_13 (by decide) ?_
    refine lv_icmp_lt (tgt := 21) C.1 C.2.1 dX6_readAbstraction_16 (by decide) (fun q5 => ?_) (fun q5 => ?_)
    · replace hf := (if_pos q5).symm.trans hf
      refine lv_aload_n C.1 C.2.1 dX6_readAbstraction_21 rfl (lv_at hl 0 rfl) ?_
      refine fg_6_11 C kX6_readAbstraction_6 mX6_readAbstraction_35 hW dX6_readAbstraction_22 ?_
      refine lv_aload_n C.1 C.2.1 dX6_readAbstraction_25 rfl (lv_at hl 0 rfl) ?_
      refine fg_6_13 C kX6_readAbstraction_6 mX6_readAbstraction_61 hW dX6_readAbstraction_26 ?_
      refine lv_iload_n C.1 C.2.1 dX6_readAbstraction_29 rfl (lv_at hl 1 rfl) ?_
      obtain ⟨h6, hf⟩ := ckx_el hf
      obtain ⟨S7, eS7, hf⟩ := bnd_el hf
      have tS7 : tl S7 = tl S3 := by rw [eS7]; rfl
      refine as_6_11 C hW h6 dX6_readAbstraction_30 eS7 (fun H locs hW => ?_)
      refine lv_aload_n C.1 C.2.1 dX6_readAbstraction_31 rfl (lv_at hl 0 rfl) ?_
      refine fg_6_12 C kX6_readAbstraction_6 mX6_readAbstraction_38 hW dX6_readAbstraction_32 ?_
      refine lv_aload_n C.1 C.2.1 dX6_readAbstraction_35 rfl (lv_at hl 0 rfl) ?_
      refine fg_6_13 C kX6_readAbstraction_6 mX6_readAbstraction_61 hW dX6_readAbstraction_36 ?_
      refine lv_aload_n C.1 C.2.1 dX6_readAbstraction_39 rfl (lv_at hl 0 rfl) ?_
      refine fg_6_15 C kX6_readAbstraction_6 mX6_readAbstraction_64 hW dX6_readAbstraction_40 ?_
      obtain ⟨h8, hf⟩ := ckx_el hf
      obtain ⟨S9, eS9, hf⟩ := bnd_el hf
      have tS9 : tl S9 = tl S7 := by rw [eS9]; rfl
      refine as_6_12 C hW h8 dX6_readAbstraction_43 eS9 (fun H locs hW => ?_)
      refine lv_aload_n C.1 C.2.1 dX6_readAbstraction_44 rfl (lv_at hl 0 rfl) ?_
      refine lv_dup C.1 C.2.1 dX6_readAbstraction_45 rfl ?_
      refine fg_6_13 C kX6_readAbstraction_6 mX6_readAbstraction_61 hW dX6_readAbstraction_46 ?_
      refine lv_iconst (v := 1) C.1 C.2.1 dX6_readAbstraction_49 (by decide) ?_
      refine lv_iadd C.1 C.2.1 dX6_readAbstraction_50 ?_
      obtain ⟨S10, eS10, hf⟩ := bnd_el hf
      have tS10 : tl S10 = tl S9 := by rw [eS10]; rfl
      refine fp_6_13 C kX6_readAbstraction_6 mX6_readAbstraction_61 hW dX6_readAbstraction_51 eS10 (fun H locs hW => ?_)
      refine lv_aload_n C.1 C.2.1 dX6_readAbstraction_54 rfl (lv_at hl 0 rfl) ?_
      refine lv_aload_n C.1 C.2.1 dX6_readAbstraction_55 rfl (lv_at hl 0 rfl) ?_
      refine fg_6_0 C kX6_readAbstraction_6 mX6_readAbstraction_44 hW dX6_readAbstraction_56 ?_
      refine lv_iload_n C.1 C.2.1 dX6_readAbstraction_59 rfl (lv_at hl 1 rfl) ?_
      obtain ⟨v11, S13, h12, hf⟩ := bd2_el hf
      have tS13 : tl S13 = tl S10 := tX2_indexOf N S10 p1 (v11, S13) h12
      refine mcVi (w := wC cy a r) (S := S10) (As := [.int p1]) (rest := [.ref (a 139)]) (q0 := 2) (ci := 2) C (cX2_indexOf_met l D cy a r _ N S10 p1 (v11, S13) h12) (cwV 1 C.2.2.2.2.1 gX6_readAbstraction_X2_indexOf rfl rfl rfl (by decide +kernel) ⟨Nat.le_of_ble_eq_true rfl, Nat.le_of_ble_eq_true rfl⟩) rfl rfl rfl hl.1 (Nat.le_of_ble_eq_true rfl) hW dX6_readAbstraction_60 hcap rfl (fun H locs hW => ?_)
      obtain ⟨S16, h15, hf⟩ := bdo_el hf
      have hmS16 : Ge Rr.2 S16 := by
        revert hf
        refine (?_ : Kp (fun R => Ge R.2 S16) _) Rr
        refine kp_bdo (fun S19 h18 => ?_)
        have tS19 : Ge S19 S16 := Ge.of (tX6_push N S16 (0 : Int32) p1 S19 h18)
        refine kp_bd2 (fun v20 S22 h21 => ?_)
        have tS22 : Ge S22 S19 := Ge.of (tX6_leaveBy N S19 p1 (1 : Int32) (v20, S22) h21)
        exact kp_some (tS22.trans tS19)
      have hqS16 : Ge S16 S13 := nX6_keepLevels N S13 v11 S16 h15
      have hgn := (hg.of (tS13.trans (tS10.trans (tS9.trans (tS7.trans tS3))))).call hqS16
      refine mcVvG (S := S13) (As := [.int v11]) (rest := []) (q0 := 6) (ci := 6) C (cX6_keepLevels_met l D cy a r _ N S13 v11 S16 h15) (cwV 1 C.2.2.2.2.1 gX6_readAbstraction_X6_keepLevels rfl rfl rfl (by decide +kernel) ⟨Nat.le_of_ble_eq_true rfl, Nat.le_of_ble_eq_true rfl⟩) rfl rfl rfl hl.1 (Nat.le_of_ble_eq_true rfl) hW dX6_readAbstraction_63 ((hg.of (tS13.trans (tS10.trans (tS9.trans (tS7.trans tS3))))).callcap hqS16 hmS16) rfl (fun r H locs hW => ?_)
      replace hg := hgn
      have hcap := hg.cap hmS16
      refine lv_aload_n C.1 C.2.1 dX6_readAbstraction_66 rfl (lv_at hl 0 rfl) ?_
      refine lv_iconst (v := 0) C.1 C.2.1 dX6_readAbstraction_67 (by decide) ?_
      refine lv_iload_n C.1 C.2.1 dX6_readAbstraction_68 rfl (lv_at hl 1 rfl) ?_
      obtain ⟨S19, h18, hf⟩ := bdo_el hf
      have tS19 : tl S19 = tl S16 := tX6_push N S16 (0 : Int32) p1 S19 h18
      refine mcVv (w := wC cy a r) (S := S16) (As := [.int (0 : Int32), .int p1]) (rest := []) (q0 := 6) (ci := 6) C (cX6_push_met l D cy a r _ N S16 (0 : Int32) p1 S19 h18) (cwV 2 C.2.2.2.2.1 gX6_readAbstraction_X6_push rfl rfl rfl (by decide +kernel) ⟨Nat.le_of_ble_eq_true rfl, Nat.le_of_ble_eq_true rfl⟩) rfl rfl rfl hl.1 (Nat.le_of_ble_eq_true rfl) hW dX6_readAbstraction_69 hcap rfl (fun H locs hW => ?_)
      refine lv_aload_n C.1 C.2.1 dX6_readAbstraction_72 rfl (lv_at hl 0 rfl) ?_
      refine lv_iload_n C.1 C.2.1 dX6_readAbstraction_73 rfl (lv_at hl 1 rfl) ?_
      refine lv_iconst (v := 1) C.1 C.2.1 dX6_readAbstraction_74 (by decide) ?_
      obtain ⟨v20, S22, h21, hf⟩ := bd2_el hf
      have tS22 : tl S22 = tl S19 := tX6_leaveBy N S19 p1 (1 : Int32) (v20, S22) h21
      refine mcVi (w := wC cy a r) (S := S19) (As := [.int p1, .int (1 : Int32)]) (rest := []) (q0 := 6) (ci := 6) C (cX6_leaveBy_met l D cy a r _ N S19 p1 (1 : Int32) (v20, S22) h21) (cwV 2 C.2.2.2.2.1 gX6_readAbstraction_X6_leaveBy rfl rfl rfl (by decide +kernel) ⟨Nat.le_of_ble_eq_true rfl, Nat.le_of_ble_eq_true rfl⟩) rfl rfl rfl hl.1 (Nat.le_of_ble_eq_true rfl) hW dX6_readAbstraction_75 hcap rfl (fun H locs hW => ?_)
      exact mrIG C hr hlocks rfl hf (hg.of (tS22.trans tS19)) hW dX6_readAbstraction_78
    · replace hf := (if_neg q5).symm.trans hf
      refine lv_iconst (v := 3) C.1 C.2.1 dX6_readAbstraction_19 (by decide) ?_
      exact mrIG C hr hlocks rfl hf (hg.of tS3) hW dX6_readAbstraction_20
def fX6_atLambda (N : Nat) (S : St) (p1 : Int32) (p2 : Int32) : Option (Int32 × St) :=
  if p2 = 0 then
    bd2 (fX6_readAbstraction N S p1) fun v2 S4 =>
    some (v2, S4)
  else
    if p2 = 2 then
      bd2 (fX6_readVariable N S p1) fun v6 S8 =>
      some (v6, S8)
    else
      some ((4 : Int32), S)
theorem nX6_atLambda (N : Nat) (S : St) (p1 : Int32) (p2 : Int32) : Kp (fun R => Ge R.2 S) (fX6_atLambda N S p1 p2) := by
  unfold fX6_atLambda
  refine kp_ite (fun q1 => ?_) (fun q1 => ?_)
  · skip
    refine kp_bd2 (fun v2 S4 h3 => ?_)
    have tS4 : Ge S4 S := nX6_readAbstraction N S p1 (v2, S4) h3
    exact kp_some tS4
  · skip
    refine kp_ite (fun q5 => ?_) (fun q5 => ?_)
    · skip
      refine kp_bd2 (fun v6 S8 h7 => ?_)
      have tS8 : Ge S8 S := Ge.of (tX6_readVariable N S p1 (v6, S8) h7)
      exact kp_some tS8
    · skip
      exact kp_some Ge.rf
set_option maxHeartbeats 4000000 in
set_option maxRecDepth 100000 in
theorem cX6_atLambda_met (l : Launch) (D : va_G) (cy : Nat → ClassId) (a r : Nat → Nat) (sz N : Nat) (S : St) (p1 : Int32) (p2 : Int32) (Rr : Int32 × St) (hf : fX6_atLambda N S p1 p2 = some Rr) : Met l yX6_atLambda wsX6_atLambda ({ frames := 4, cells := gc Rr.2 - gc S, slots := gs Rr.2 - gs S, locals := 105 } : Room) (va_Pc [.ref (a 139), .int p1, .int p2] (preW D cy (wC cy a r S) sz)) (QIx D cy a (va_A (wC cy a r S) sz) Rr) (gc Rr.2 - gc S) (gs Rr.2 - gs S) (va_A (wC cy a r S) sz) := by
  refine Met.ofW (cc := cX6_atLambda) (maxL := 3) (ret := (some .int)) (by decide) rfl ?_
  intro p e s m args below meth c s₁ B hml hv
  obtain ⟨rfl, rfl, hP, hK, hD0, hN⟩ := hv
  have hlocks := B.notSynchronized
  have hr := B.returns
  have C : Cx p s m _ c cX6_atLambda 3 wsX6_atLambda RX6 D cy := ⟨B.exec, B.bytes, hml, findClass_of_methodNamed B.named, atoms_spec (ws := wsX6_atLambda) B.pre, hK, hN⟩
  have hW := ww_start (w := wC cy a r) hP hD0
  generalize va_A (wC cy a r S) s.heap.size = A at hW ⊢
  have hl := lv_entry ([.ref (a 139), .int p1, .int p2]) (n := 3) (Nat.le_of_ble_eq_true rfl)
  rw [lg_entry_eq]
  generalize (lg_sl ([.ref (a 139), .int p1, .int p2]) ++ List.replicate (3 - (lg_sl ([.ref (a 139), .int p1, .int p2])).length) Slot.unset).toArray = ls at hl ⊢
  have hl : lv_has ls 3 [(0, .ref (a 139)), (1, .int p1), (2, .int p2)] := hl
  have hm := nX6_atLambda N S p1 p2 Rr hf
  have hg : Acc 0 0 (gc S) (gs S) S := ⟨Nat.zero_add _, Nat.zero_add _⟩
  have hcap := hg.cap hm
  unfold fX6_atLambda at hf
  refine lv_iload_n C.1 C.2.1 dX6_atLambda_0 rfl (lv_at hl 2 rfl) ?_
  by_cases q1 : p2 = 0
  · refine lv_lookup (tgt := 28) (off := 27) C.1 C.2.1 dX6_atLambda_1 (by decide) (by rw [q1]; try decide) (by decide) ?_
    replace hf := (if_pos q1).symm.trans hf
    refine lv_aload_n C.1 C.2.1 dX6_atLambda_28 rfl (lv_at hl 0 rfl) ?_
    refine lv_iload_n C.1 C.2.1 dX6_atLambda_29 rfl (lv_at hl 1 rfl) ?_
    obtain ⟨v2, S4, h3, hf⟩ := bd2_el hf
    have hmS4 : Ge Rr.2 S4 := by
      revert hf
      refine (?_ : Kp (fun R => Ge R.2 S4) _) Rr
      exact kp_some Ge.rf
    have hqS4 : Ge S4 S := nX6_readAbstraction N S p1 (v2, S4) h3
    have hgn := (hg.of rfl).call hqS4
    refine mcViG (S := S) (As := [.int p1]) (rest := []) (q0 := 6) (ci := 6) C (cX6_readAbstraction_met l D cy a r _ N S p1 (v2, S4) h3) (cwV 1 C.2.2.2.2.1 gX6_atLambda_X6_readAbstraction rfl rfl rfl (by decide +kernel) ⟨Nat.le_of_ble_eq_true rfl, Nat.le_of_ble_eq_true rfl⟩) rfl rfl rfl hl.1 (Nat.le_of_ble_eq_true rfl) hW dX6_atLambda_30 ((hg.of rfl).callcap hqS4 hmS4) rfl (fun r H locs hW => ?_)
    replace hg := hgn
    have hcap := hg.cap hmS4
    exact mrIG C hr hlocks rfl hf (hg.of rfl) hW dX6_atLambda_33
  · replace hf := (if_neg q1).symm.trans hf
    by_cases q5 : p2 = 2
    · refine lv_lookup (tgt := 34) (off := 33) C.1 C.2.1 dX6_atLambda_1 (by decide) (by rw [q5]; try decide) (by decide) ?_
      replace hf := (if_pos q5).symm.trans hf
      refine lv_aload_n C.1 C.2.1 dX6_atLambda_34 rfl (lv_at hl 0 rfl) ?_
      refine lv_iload_n C.1 C.2.1 dX6_atLambda_35 rfl (lv_at hl 1 rfl) ?_
      obtain ⟨v6, S8, h7, hf⟩ := bd2_el hf
      have tS8 : tl S8 = tl S := tX6_readVariable N S p1 (v6, S8) h7
      refine mcVi (w := wC cy a r) (S := S) (As := [.int p1]) (rest := []) (q0 := 6) (ci := 6) C (cX6_readVariable_met l D cy a r _ N S p1 (v6, S8) h7) (cwV 1 C.2.2.2.2.1 gX6_atLambda_X6_readVariable rfl rfl rfl (by decide +kernel) ⟨Nat.le_of_ble_eq_true rfl, Nat.le_of_ble_eq_true rfl⟩) rfl rfl rfl hl.1 (Nat.le_of_ble_eq_true rfl) hW dX6_atLambda_36 hcap rfl (fun H locs hW => ?_)
      exact mrIG C hr hlocks rfl hf (hg.of tS8) hW dX6_atLambda_39
    · replace hf := (if_neg q5).symm.trans hf
      refine lv_lookup (tgt := 40) (off := 39) C.1 C.2.1 dX6_atLambda_1 (by decide) (by simp [Op.lookupswitch.offset_cons, Op.lookupswitch.offset_nil, lk_ne (k := 0) (by decide) (by decide) q1, lk_ne (k := 2) (by decide) (by decide) q5]) (by decide) ?_
      refine lv_iconst (v := 4) C.1 C.2.1 dX6_atLambda_40 (by decide) ?_
      exact mrIG C hr hlocks rfl hf (hg.of rfl) hW dX6_atLambda_41
def fX6_arrive_97 (N : Nat) (S : St) (x1 : Int32) (x2 : Int32) : Option (Int32 × St) :=
  bd2 (fX6_leaveBy N S x1 (((1 : Int32) - x2))) fun v1 S3 =>
  some (v1, S3)
def fX6_arrive (N : Nat) (S : St) (p1 : Int32) (p2 : Int32) : Option (Int32 × St) :=
  bd2 (fX2_indexOf N S p1) fun v1 S3 =>
  bd2 (fX2_kindOf N S3 p1) fun v4 S6 =>
  if v4 = 0 then
    bd2 (fX6_atLambda N S6 p1 p2) fun v8 S10 =>
    some (v8, S10)
  else
    if v4 = 1 then
      if p2 = (1 : Int32) then
        bd2 (fX6_readApplication N S6 p1) fun v13 S15 =>
        some (v13, S15)
      else
        some ((4 : Int32), S6)
    else
      if v4 = 2 then
        bd2 (fX6_atFan N S6 p1 v1 p2) fun v17 S19 =>
        some (v17, S19)
      else
        if v4 = 3 then
          if p2 = 0 then
            bdo (fX1_drop N S6 v1) fun S27 =>
            fX6_arrive_97 N S27 p1 p2
          else
            bdo (fX1_addBox N S6 v1) fun S24 =>
            fX6_arrive_97 N S24 p1 p2
        else
          if v4 = 4 then
            bd2 (fX6_atBracket N S6 p1 v1 p2) fun v29 S31 =>
            some (v29, S31)
          else
            some ((4 : Int32), S6)
theorem nX6_arrive_97 (N : Nat) (S : St) (x1 : Int32) (x2 : Int32) : Kp (fun R => Ge R.2 S) (fX6_arrive_97 N S x1 x2) := by
  unfold fX6_arrive_97
  refine kp_bd2 (fun v1 S3 h2 => ?_)
  have tS3 : Ge S3 S := Ge.of (tX6_leaveBy N S x1 (((1 : Int32) - x2)) (v1, S3) h2)
  exact kp_some tS3
theorem nX6_arrive (N : Nat) (S : St) (p1 : Int32) (p2 : Int32) : Kp (fun R => Ge R.2 S) (fX6_arrive N S p1 p2) := by
  unfold fX6_arrive
  refine kp_bd2 (fun v1 S3 h2 => ?_)
  have tS3 : Ge S3 S := Ge.of (tX2_indexOf N S p1 (v1, S3) h2)
  refine kp_bd2 (fun v4 S6 h5 => ?_)
  have tS6 : Ge S6 S3 := Ge.of (tX2_kindOf N S3 p1 (v4, S6) h5)
  refine kp_ite (fun q7 => ?_) (fun q7 => ?_)
  · skip
    refine kp_bd2 (fun v8 S10 h9 => ?_)
    have tS10 : Ge S10 S6 := nX6_atLambda N S6 p1 p2 (v8, S10) h9
    exact kp_some (tS10.trans (tS6.trans tS3))
  · skip
    refine kp_ite (fun q11 => ?_) (fun q11 => ?_)
    · skip
      refine kp_ite (fun q12 => ?_) (fun q12 => ?_)
      · skip
        refine kp_bd2 (fun v13 S15 h14 => ?_)
        have tS15 : Ge S15 S6 := Ge.of (tX6_readApplication N S6 p1 (v13, S15) h14)
        exact kp_some (tS15.trans (tS6.trans tS3))
      · skip
        exact kp_some (tS6.trans tS3)
    · skip
      refine kp_ite (fun q16 => ?_) (fun q16 => ?_)
      · skip
        refine kp_bd2 (fun v17 S19 h18 => ?_)
        have tS19 : Ge S19 S6 := Ge.of (tX6_atFan N S6 p1 v1 p2 (v17, S19) h18)
        exact kp_some (tS19.trans (tS6.trans tS3))
      · skip
        refine kp_ite (fun q20 => ?_) (fun q20 => ?_)
        · skip
          refine kp_ite (fun q21 => ?_) (fun q21 => ?_)
          · skip
            refine kp_bdo (fun S27 h26 => ?_)
            have tS27 : Ge S27 S6 := Ge.of (tX1_drop N S6 v1 S27 h26)
            exact fun R h => (nX6_arrive_97 N S27 p1 p2 R h).trans (tS27.trans (tS6.trans tS3))
          · skip
            refine kp_bdo (fun S24 h23 => ?_)
            have tS24 : Ge S24 S6 := Ge.of (tX1_addBox N S6 v1 S24 h23)
            exact fun R h => (nX6_arrive_97 N S24 p1 p2 R h).trans (tS24.trans (tS6.trans tS3))
        · skip
          refine kp_ite (fun q28 => ?_) (fun q28 => ?_)
          · skip
            refine kp_bd2 (fun v29 S31 h30 => ?_)
            have tS31 : Ge S31 S6 := Ge.of (tX6_atBracket N S6 p1 v1 p2 (v29, S31) h30)
            exact kp_some (tS31.trans (tS6.trans tS3))
          · skip
            exact kp_some (tS6.trans tS3)
theorem mX6_arrive_44 : Cond.fieldLink RX6 44 "SharedLambda$Walk" "graph" "LSharedLambda$Graph;" ∈ wsX6_arrive := by decide +kernel
theorem mX6_arrive_12 : Cond.fieldLink RX6 12 "SharedLambda$Walk" "context" "LSharedLambda$Context;" ∈ wsX6_arrive := by decide +kernel
theorem kX6_arrive_6 : ∀ w ∈ u_ws RX6 TX6 16, w ∈ wsX6_arrive := fun _ h => List.mem_cons_of_mem _ (List.mem_append_left _ (List.mem_append_left _ (List.mem_append_left _ (List.mem_append_right _ h))))
set_option maxHeartbeats 4000000 in
set_option maxRecDepth 100000 in
theorem lX6_arrive_97 {p : Program} {l : Launch} {e : Env} {s : State} {m : MethodId} {args : Array Value} {below : List Frame} {meth : Method} {c : Code} {D : va_G} {cy : Nat → ClassId} {a : Nat → Nat} {A : Nat → Prop} {Rr : Int32 × St} (C : Cx p s m args c cX6_arrive 4 wsX6_arrive RX6 D cy) (hr : meth.sig.returnType = some .int) (hlocks : meth.locks = false) {c0 s0 : Nat} (N : Nat) (S : St) (x1 : Int32) (x2 : Int32) (hf : fX6_arrive_97 N S x1 x2 = some Rr) : ∀ (r : Nat → Nat) (H : Heap) (locs : List Loc) (ls : Array Slot) (cells slots : Nat), Acc cells slots c0 s0 S → WW D A s.heap (wC cy a r S) H locs → lv_has ls 4 [(0, .ref (a 139)), (1, .int x1), (2, .int x2)] → W p l e ({ frames := 5, cells := gc Rr.2 - c0, slots := gs Rr.2 - s0, locals := 127 } : Room) s m args below meth c H locs cells slots (MQ below (QIx D cy a A Rr) args s (gc Rr.2 - c0) (gs Rr.2 - s0) A) (F0 m 97 ls []) := by
  intro r H locs ls cells slots hg hW hl
  have hm := nX6_arrive_97 N S x1 x2 Rr hf
  have hcap := hg.cap hm
  unfold fX6_arrive_97 at hf
  refine lv_aload_n C.1 C.2.1 dX6_arrive_97 rfl (lv_at hl 0 rfl) ?_
  refine lv_iload_n C.1 C.2.1 dX6_arrive_98 rfl (lv_at hl 1 rfl) ?_
  refine lv_iconst (v := 1) C.1 C.2.1 dX6_arrive_99 (by decide) ?_
  refine lv_iload_n C.1 C.2.1 dX6_arrive_100 rfl (lv_at hl 2 rfl) ?_
  refine lv_isub C.1 C.2.1 dX6_arrive_101 ?_
  obtain ⟨v1, S3, h2, hf⟩ := bd2_el hf
  have tS3 : tl S3 = tl S := tX6_leaveBy N S x1 (((1 : Int32) - x2)) (v1, S3) h2
  refine mcVi (w := wC cy a r) (S := S) (As := [.int x1, .int (((1 : Int32) - x2))]) (rest := []) (q0 := 6) (ci := 6) C (cX6_leaveBy_met l D cy a r _ N S x1 (((1 : Int32) - x2)) (v1, S3) h2) (cwV 2 C.2.2.2.2.1 gX6_arrive_X6_leaveBy rfl rfl rfl (by decide +kernel) ⟨Nat.le_of_ble_eq_true rfl, Nat.le_of_ble_eq_true rfl⟩) rfl rfl rfl hl.1 (Nat.le_of_ble_eq_true rfl) hW dX6_arrive_102 hcap rfl (fun H locs hW => ?_)
  exact mrIG C hr hlocks rfl hf (hg.of tS3) hW dX6_arrive_105
set_option maxHeartbeats 4000000 in
set_option maxRecDepth 100000 in
theorem cX6_arrive_met (l : Launch) (D : va_G) (cy : Nat → ClassId) (a r : Nat → Nat) (sz N : Nat) (S : St) (p1 : Int32) (p2 : Int32) (Rr : Int32 × St) (hf : fX6_arrive N S p1 p2 = some Rr) : Met l yX6_arrive wsX6_arrive ({ frames := 5, cells := gc Rr.2 - gc S, slots := gs Rr.2 - gs S, locals := 127 } : Room) (va_Pc [.ref (a 139), .int p1, .int p2] (preW D cy (wC cy a r S) sz)) (QIx D cy a (va_A (wC cy a r S) sz) Rr) (gc Rr.2 - gc S) (gs Rr.2 - gs S) (va_A (wC cy a r S) sz) := by
  refine Met.ofW (cc := cX6_arrive) (maxL := 4) (ret := (some .int)) (by decide) rfl ?_
  intro p e s m args below meth c s₁ B hml hv
  obtain ⟨rfl, rfl, hP, hK, hD0, hN⟩ := hv
  have hlocks := B.notSynchronized
  have hr := B.returns
  have C : Cx p s m _ c cX6_arrive 4 wsX6_arrive RX6 D cy := ⟨B.exec, B.bytes, hml, findClass_of_methodNamed B.named, atoms_spec (ws := wsX6_arrive) B.pre, hK, hN⟩
  have hW := ww_start (w := wC cy a r) hP hD0
  generalize va_A (wC cy a r S) s.heap.size = A at hW ⊢
  have hl := lv_entry ([.ref (a 139), .int p1, .int p2]) (n := 4) (Nat.le_of_ble_eq_true rfl)
  rw [lg_entry_eq]
  generalize (lg_sl ([.ref (a 139), .int p1, .int p2]) ++ List.replicate (4 - (lg_sl ([.ref (a 139), .int p1, .int p2])).length) Slot.unset).toArray = ls at hl ⊢
  have hl : lv_has ls 4 [(0, .ref (a 139)), (1, .int p1), (2, .int p2)] := hl
  have hm := nX6_arrive N S p1 p2 Rr hf
  have hg : Acc 0 0 (gc S) (gs S) S := ⟨Nat.zero_add _, Nat.zero_add _⟩
  have hcap := hg.cap hm
  unfold fX6_arrive at hf
  refine lv_aload_n C.1 C.2.1 dX6_arrive_0 rfl (lv_at hl 0 rfl) ?_
  refine fg_6_0 C kX6_arrive_6 mX6_arrive_44 hW dX6_arrive_1 ?_
  refine lv_iload_n C.1 C.2.1 dX6_arrive_4 rfl (lv_at hl 1 rfl) ?_
  obtain ⟨v1, S3, h2, hf⟩ := bd2_el hf
  have tS3 : tl S3 = tl S := tX2_indexOf N S p1 (v1, S3) h2
  refine mcVi (w := wC cy a r) (S := S) (As := [.int p1]) (rest := []) (q0 := 2) (ci := 2) C (cX2_indexOf_met l D cy a r _ N S p1 (v1, S3) h2) (cwV 1 C.2.2.2.2.1 gX6_arrive_X2_indexOf rfl rfl rfl (by decide +kernel) ⟨Nat.le_of_ble_eq_true rfl, Nat.le_of_ble_eq_true rfl⟩) rfl rfl rfl hl.1 (Nat.le_of_ble_eq_true rfl) hW dX6_arrive_5 hcap rfl (fun H locs hW => ?_)
  refine lv_istore_n (lv' := [(3, .int v1), (0, .ref (a 139)), (1, .int p1), (2, .int p2)]) C.1 C.2.1 dX6_arrive_8 rfl hl (by decide) rfl (fun ls hl => ?_)
  refine lv_aload_n C.1 C.2.1 dX6_arrive_9 rfl (lv_at hl 1 rfl) ?_
  refine fg_6_0 C kX6_arrive_6 mX6_arrive_44 hW dX6_arrive_10 ?_
  refine lv_iload_n C.1 C.2.1 dX6_arrive_13 rfl (lv_at hl 2 rfl) ?_
  obtain ⟨v4, S6, h5, hf⟩ := bd2_el hf
  have tS6 : tl S6 = tl S3 := tX2_kindOf N S3 p1 (v4, S6) h5
  refine mcVi (w := wC cy a r) (S := S3) (As := [.int p1]) (rest := []) (q0 := 2) (ci := 2) C (cX2_kindOf_met l D cy a r _ N S3 p1 (v4, S6) h5) (cwV 1 C.2.2.2.2.1 gX6_arrive_X2_kindOf rfl rfl rfl (by decide +kernel) ⟨Nat.le_of_ble_eq_true rfl, Nat.le_of_ble_eq_true rfl⟩) rfl rfl rfl hl.1 (Nat.le_of_ble_eq_true rfl) hW dX6_arrive_14 hcap rfl (fun H locs hW => ?_)
  by_cases q7 : v4 = 0
  · refine lv_tableIn (tgt := 52) C.1 C.2.1 dX6_arrive_17 (by rw [q7]; decide) (by rw [q7]; decide) (by rw [q7]; rfl) (by decide) ?_
    replace hf := (if_pos q7).symm.trans hf
    refine lv_aload_n C.1 C.2.1 dX6_arrive_52 rfl (lv_at hl 1 rfl) ?_
    refine lv_iload_n C.1 C.2.1 dX6_arrive_53 rfl (lv_at hl 2 rfl) ?_
    refine lv_iload_n C.1 C.2.1 dX6_arrive_54 rfl (lv_at hl 3 rfl) ?_
    obtain ⟨v8, S10, h9, hf⟩ := bd2_el hf
    have hmS10 : Ge Rr.2 S10 := by
      revert hf
      refine (?_ : Kp (fun R => Ge R.2 S10) _) Rr
      exact kp_some Ge.rf
    have hqS10 : Ge S10 S6 := nX6_atLambda N S6 p1 p2 (v8, S10) h9
    have hgn := (hg.of (tS6.trans tS3)).call hqS10
    refine mcViG (S := S6) (As := [.int p1, .int p2]) (rest := []) (q0 := 6) (ci := 6) C (cX6_atLambda_met l D cy a r _ N S6 p1 p2 (v8, S10) h9) (cwV 2 C.2.2.2.2.1 gX6_arrive_X6_atLambda rfl rfl rfl (by decide +kernel) ⟨Nat.le_of_ble_eq_true rfl, Nat.le_of_ble_eq_true rfl⟩) rfl rfl rfl hl.1 (Nat.le_of_ble_eq_true rfl) hW dX6_arrive_55 ((hg.of (tS6.trans tS3)).callcap hqS10 hmS10) rfl (fun r H locs hW => ?_)
    replace hg := hgn
    have hcap := hg.cap hmS10
    exact mrIG C hr hlocks rfl hf (hg.of rfl) hW dX6_arrive_58
  · replace hf := (if_neg q7).symm.trans hf
    by_cases q11 : v4 = 1
    · refine lv_tableIn (tgt := 59) C.1 C.2.1 dX6_arrive_17 (by rw [q11]; decide) (by rw [q11]; decide) (by rw [q11]; rfl) (by decide) ?_
      replace hf := (if_pos q11).symm.trans hf
      refine lv_iload_n C.1 C.2.1 dX6_arrive_59 rfl (lv_at hl 3 rfl) ?_
      refine lv_iconst (v := 1) C.1 C.2.1 dX6_arrive_60 (by decide) ?_
      refine lv_icmp_ne (tgt := 72) C.1 C.2.1 dX6_arrive_61 (by decide) (fun q12 => ?_) (fun q12 => ?_)
      · replace hf := (if_neg q12).symm.trans hf
        refine lv_iconst (v := 4) C.1 C.2.1 dX6_arrive_72 (by decide) ?_
        exact mrIG C hr hlocks rfl hf (hg.of (tS6.trans tS3)) hW dX6_arrive_73
      · replace hf := (if_pos q12).symm.trans hf
        refine lv_aload_n C.1 C.2.1 dX6_arrive_64 rfl (lv_at hl 1 rfl) ?_
        refine lv_iload_n C.1 C.2.1 dX6_arrive_65 rfl (lv_at hl 2 rfl) ?_
        obtain ⟨v13, S15, h14, hf⟩ := bd2_el hf
        have tS15 : tl S15 = tl S6 := tX6_readApplication N S6 p1 (v13, S15) h14
        refine mcVi (w := wC cy a r) (S := S6) (As := [.int p1]) (rest := []) (q0 := 6) (ci := 6) C (cX6_readApplication_met l D cy a r _ N S6 p1 (v13, S15) h14) (cwV 1 C.2.2.2.2.1 gX6_arrive_X6_readApplication rfl rfl rfl (by decide +kernel) ⟨Nat.le_of_ble_eq_true rfl, Nat.le_of_ble_eq_true rfl⟩) rfl rfl rfl hl.1 (Nat.le_of_ble_eq_true rfl) hW dX6_arrive_66 hcap rfl (fun H locs hW => ?_)
        refine lv_goto (tgt := 73) C.1 C.2.1 dX6_arrive_69 (by decide) ?_
        exact mrIG C hr hlocks rfl hf (hg.of (tS15.trans (tS6.trans tS3))) hW dX6_arrive_73
    · replace hf := (if_neg q11).symm.trans hf
      by_cases q16 : v4 = 2
      · refine lv_tableIn (tgt := 114) C.1 C.2.1 dX6_arrive_17 (by rw [q16]; decide) (by rw [q16]; decide) (by rw [q16]; rfl) (by decide) ?_
        replace hf := (if_pos q16).symm.trans hf
        refine lv_aload_n C.1 C.2.1 dX6_arrive_114 rfl (lv_at hl 1 rfl) ?_
        refine lv_iload_n C.1 C.2.1 dX6_arrive_115 rfl (lv_at hl 2 rfl) ?_
        refine lv_iload_n C.1 C.2.1 dX6_arrive_116 rfl (lv_at hl 0 rfl) ?_
        refine lv_iload_n C.1 C.2.1 dX6_arrive_117 rfl (lv_at hl 3 rfl) ?_
        obtain ⟨v17, S19, h18, hf⟩ := bd2_el hf
        have tS19 : tl S19 = tl S6 := tX6_atFan N S6 p1 v1 p2 (v17, S19) h18
        refine mcVi (w := wC cy a r) (S := S6) (As := [.int p1, .int v1, .int p2]) (rest := []) (q0 := 6) (ci := 6) C (cX6_atFan_met l D cy a r _ N S6 p1 v1 p2 (v17, S19) h18) (cwV 3 C.2.2.2.2.1 gX6_arrive_X6_atFan rfl rfl rfl (by decide +kernel) ⟨Nat.le_of_ble_eq_true rfl, Nat.le_of_ble_eq_true rfl⟩) rfl rfl rfl hl.1 (Nat.le_of_ble_eq_true rfl) hW dX6_arrive_118 hcap rfl (fun H locs hW => ?_)
        exact mrIG C hr hlocks rfl hf (hg.of (tS19.trans (tS6.trans tS3))) hW dX6_arrive_121
      · replace hf := (if_neg q16).symm.trans hf
        by_cases q20 : v4 = 3
        · refine lv_tableIn (tgt := 74) C.1 C.2.1 dX6_arrive_17 (by rw [q20]; decide) (by rw [q20]; decide) (by rw [q20]; rfl) (by decide) ?_
          replace hf := (if_pos q20).symm.trans hf
          refine lv_iload_n C.1 C.2.1 dX6_arrive_74 rfl (lv_at hl 3 rfl) ?_
          refine lv_if_ne (tgt := 89) C.1 C.2.1 dX6_arrive_75 (by decide) (fun q21 => ?_) (fun q21 => ?_)
          · replace hf := (if_neg q21).symm.trans hf
            refine lv_aload_n C.1 C.2.1 dX6_arrive_89 rfl (lv_at hl 1 rfl) ?_
            refine fg_6_1 C kX6_arrive_6 mX6_arrive_12 hW dX6_arrive_90 ?_
            refine lv_iload_n C.1 C.2.1 dX6_arrive_93 rfl (lv_at hl 0 rfl) ?_
            obtain ⟨S24, h23, hf⟩ := bdo_el hf
            have tS24 : tl S24 = tl S6 := tX1_addBox N S6 v1 S24 h23
            refine mcVv (w := wC cy a r) (S := S6) (As := [.int v1]) (rest := []) (q0 := 1) (ci := 1) C (cX1_addBox_met l D cy a r _ N S6 v1 S24 h23) (cwV 1 C.2.2.2.2.1 gX6_arrive_X1_addBox rfl rfl rfl (by decide +kernel) ⟨Nat.le_of_ble_eq_true rfl, Nat.le_of_ble_eq_true rfl⟩) rfl rfl rfl hl.1 (Nat.le_of_ble_eq_true rfl) hW dX6_arrive_94 hcap rfl (fun H locs hW => ?_)
            exact lX6_arrive_97 C hr hlocks N _ _ _ hf _ _ _ _ _ _ (hg.of (tS24.trans (tS6.trans tS3))) hW (lv_sub hl [1, 2, 3] rfl)
          · replace hf := (if_pos q21).symm.trans hf
            refine lv_aload_n C.1 C.2.1 dX6_arrive_78 rfl (lv_at hl 1 rfl) ?_
            refine fg_6_1 C kX6_arrive_6 mX6_arrive_12 hW dX6_arrive_79 ?_
            refine lv_iload_n C.1 C.2.1 dX6_arrive_82 rfl (lv_at hl 0 rfl) ?_
            obtain ⟨S27, h26, hf⟩ := bdo_el hf
            have tS27 : tl S27 = tl S6 := tX1_drop N S6 v1 S27 h26
            refine mcVv (w := wC cy a r) (S := S6) (As := [.int v1]) (rest := []) (q0 := 1) (ci := 1) C (cX1_drop_met l D cy a r _ N S6 v1 S27 h26) (cwV 1 C.2.2.2.2.1 gX6_arrive_X1_drop rfl rfl rfl (by decide +kernel) ⟨Nat.le_of_ble_eq_true rfl, Nat.le_of_ble_eq_true rfl⟩) rfl rfl rfl hl.1 (Nat.le_of_ble_eq_true rfl) hW dX6_arrive_83 hcap rfl (fun H locs hW => ?_)
            refine lv_goto (tgt := 97) C.1 C.2.1 dX6_arrive_86 (by decide) ?_
            exact lX6_arrive_97 C hr hlocks N _ _ _ hf _ _ _ _ _ _ (hg.of (tS27.trans (tS6.trans tS3))) hW (lv_sub hl [1, 2, 3] rfl)
        · replace hf := (if_neg q20).symm.trans hf
          by_cases q28 : v4 = 4
          · refine lv_tableIn (tgt := 106) C.1 C.2.1 dX6_arrive_17 (by rw [q28]; decide) (by rw [q28]; decide) (by rw [q28]; rfl) (by decide) ?_
            replace hf := (if_pos q28).symm.trans hf
            refine lv_aload_n C.1 C.2.1 dX6_arrive_106 rfl (lv_at hl 1 rfl) ?_
            refine lv_iload_n C.1 C.2.1 dX6_arrive_107 rfl (lv_at hl 2 rfl) ?_
            refine lv_iload_n C.1 C.2.1 dX6_arrive_108 rfl (lv_at hl 0 rfl) ?_
            refine lv_iload_n C.1 C.2.1 dX6_arrive_109 rfl (lv_at hl 3 rfl) ?_
            obtain ⟨v29, S31, h30, hf⟩ := bd2_el hf
            have tS31 : tl S31 = tl S6 := tX6_atBracket N S6 p1 v1 p2 (v29, S31) h30
            refine mcVi (w := wC cy a r) (S := S6) (As := [.int p1, .int v1, .int p2]) (rest := []) (q0 := 6) (ci := 6) C (cX6_atBracket_met l D cy a r _ N S6 p1 v1 p2 (v29, S31) h30) (cwV 3 C.2.2.2.2.1 gX6_arrive_X6_atBracket rfl rfl rfl (by decide +kernel) ⟨Nat.le_of_ble_eq_true rfl, Nat.le_of_ble_eq_true rfl⟩) rfl rfl rfl hl.1 (Nat.le_of_ble_eq_true rfl) hW dX6_arrive_110 hcap rfl (fun H locs hW => ?_)
            exact mrIG C hr hlocks rfl hf (hg.of (tS31.trans (tS6.trans tS3))) hW dX6_arrive_113
          · replace hf := (if_neg q28).symm.trans hf
            refine lv_tableOut (tgt := 122) C.1 C.2.1 dX6_arrive_17 (tb_out 5 (by decide) (fun j hj => ?_)) (by decide) ?_
            · rcases (show j = 0 ∨ j = 1 ∨ j = 2 ∨ j = 3 ∨ j = 4 by omega) with rfl | rfl | rfl | rfl | rfl
              · exact q7
              · exact q11
              · exact q16
              · exact q20
              · exact q28
            · skip
              refine lv_iconst (v := 4) C.1 C.2.1 dX6_arrive_122 (by decide) ?_
              exact mrIG C hr hlocks rfl hf (hg.of (tS6.trans tS3)) hW dX6_arrive_123
def fX6_advance_79 (N : Nat) (k0 : St → Option (Int32 × St)) (S : St) (x2 : Int32) : Option (Int32 × St) :=
  if x2 = (6 : Int32) then
    k0 (S)
  else
    some (x2, S)
def fX6_advance_0s (N : Nat) (k0 : St → Option (Int32 × St)) (S : St) : Option (Int32 × St) :=
  if (4000 : Int32) ≤ S.1 126 then
    some ((3 : Int32), S)
  else
    bd2 (fX2_across N S (S.1 124)) fun v2 S4 =>
    bd2 (fX6_isMeeting N S4 v2) fun v5 S7 =>
    if v5 = 0 then
      ckx (S7.1 126) 4000 <|
      bnd (sA S7 125 (upd (S7.2.1 125) (S7.1 126 : Int32).toNatClampNeg (S7.1 124))) fun S10 =>
      bnd (sI S10 126 ((S10.1 126 + (1 : Int32)))) fun S11 =>
      bdo (fX7_nodeAt v2) fun v12 =>
      bdo (fX7_whichAt v2) fun v14 =>
      bd2 (fX6_arrive N S11 v12 v14) fun v16 S18 =>
      if v16 = (7 : Int32) then
        bd2 (fX6_endTerm N S18) fun v20 S22 =>
        fX6_advance_79 N k0 S22 v20
      else
        fX6_advance_79 N k0 S18 v16
    else
      some ((5 : Int32), S7)
def fX6_advance_0 (N : Nat) : St → Option (Int32 × St) := loopN (fun k x => fX6_advance_0s N k x) N
def fX6_advance (N : Nat) (S : St) : Option (Int32 × St) :=
  fX6_advance_0 N (S)
theorem nX6_advance_79 (N : Nat) (k0 : St → Option (Int32 × St)) (hk0 : ∀ x, Kp (fun R => Ge R.2 x) (k0 x)) (S : St) (x2 : Int32) : Kp (fun R => Ge R.2 S) (fX6_advance_79 N k0 S x2) := by
  unfold fX6_advance_79
  refine kp_ite (fun q1 => ?_) (fun q1 => ?_)
  · skip
    exact fun R h => (hk0 (S) R h).trans Ge.rf
  · skip
    exact kp_some Ge.rf
theorem nX6_advance_0s (N : Nat) (k0 : St → Option (Int32 × St)) (hk0 : ∀ x, Kp (fun R => Ge R.2 x) (k0 x)) (S : St) : Kp (fun R => Ge R.2 S) (fX6_advance_0s N k0 S ) := by
  unfold fX6_advance_0s
  refine kp_ite (fun q1 => ?_) (fun q1 => ?_)
  · skip
    exact kp_some Ge.rf
  · skip
    refine kp_bd2 (fun v2 S4 h3 => ?_)
    have tS4 : Ge S4 S := Ge.of (tX2_across N S (S.1 124) (v2, S4) h3)
    refine kp_bd2 (fun v5 S7 h6 => ?_)
    have tS7 : Ge S7 S4 := Ge.of (tX6_isMeeting N S4 v2 (v5, S7) h6)
    refine kp_ite (fun q8 => ?_) (fun q8 => ?_)
    · skip
      refine kp_ckx (fun h9 => ?_)
      refine kp_bnd (fun S10 eS10 => ?_)
      have tS10 : Ge S10 S7 := Ge.of (by rw [eS10]; rfl)
      refine kp_bnd (fun S11 eS11 => ?_)
      have tS11 : Ge S11 S10 := Ge.of (by rw [eS11]; rfl)
      refine kp_bdo (fun v12 h13 => ?_)
      refine kp_bdo (fun v14 h15 => ?_)
      refine kp_bd2 (fun v16 S18 h17 => ?_)
      have tS18 : Ge S18 S11 := nX6_arrive N S11 v12 v14 (v16, S18) h17
      refine kp_ite (fun q19 => ?_) (fun q19 => ?_)
      · skip
        refine kp_bd2 (fun v20 S22 h21 => ?_)
        have tS22 : Ge S22 S18 := Ge.of (tX6_endTerm N S18  (v20, S22) h21)
        exact fun R h => (nX6_advance_79 N _ hk0 S22 v20 R h).trans (tS22.trans (tS18.trans (tS11.trans (tS10.trans (tS7.trans tS4)))))
      · skip
        exact fun R h => (nX6_advance_79 N _ hk0 S18 v16 R h).trans (tS18.trans (tS11.trans (tS10.trans (tS7.trans tS4))))
    · skip
      exact kp_some (tS7.trans tS4)
theorem nX6_advance_0 (N : Nat) (x : St) : Kp (fun R => Ge R.2 x) (fX6_advance_0 N x) := kp_loop (P := fun x R => Ge R.2 x) (fun k hk x => nX6_advance_0s N k hk x) N x
theorem nX6_advance (N : Nat) (S : St) : Kp (fun R => Ge R.2 S) (fX6_advance N S ) := by
  unfold fX6_advance
  exact fun R h => (nX6_advance_0 N (S) R h).trans Ge.rf
theorem mX6_advance_55 : Cond.fieldLink RX6 55 "SharedLambda$Walk" "steps" "I" ∈ wsX6_advance := by decide +kernel
theorem mX6_advance_44 : Cond.fieldLink RX6 44 "SharedLambda$Walk" "graph" "LSharedLambda$Graph;" ∈ wsX6_advance := by decide +kernel
theorem mX6_advance_71 : Cond.fieldLink RX6 71 "SharedLambda$Walk" "leaving" "I" ∈ wsX6_advance := by decide +kernel
theorem mX6_advance_22 : Cond.fieldLink RX6 22 "SharedLambda$Walk" "leftBefore" "[I" ∈ wsX6_advance := by decide +kernel
theorem mX6_advance_i7 : Cond.initialized RX7 ∈ wsX6_advance := by decide +kernel
theorem mX6_advance_s_nodeAt : Cond.static yX7_nodeAt ∈ wsX6_advance := by decide +kernel
theorem mX6_advance_s_whichAt : Cond.static yX7_whichAt ∈ wsX6_advance := by decide +kernel
theorem kX6_advance_6 : ∀ w ∈ u_ws RX6 TX6 16, w ∈ wsX6_advance := fun _ h => List.mem_cons_of_mem _ (List.mem_append_left _ (List.mem_append_left _ (List.mem_append_left _ (List.mem_append_right _ h))))
set_option maxHeartbeats 4000000 in
set_option maxRecDepth 100000 in
theorem lX6_advance_79 {p : Program} {l : Launch} {e : Env} {s : State} {m : MethodId} {args : Array Value} {below : List Frame} {meth : Method} {c : Code} {D : va_G} {cy : Nat → ClassId} {a : Nat → Nat} {A : Nat → Prop} {Rr : Int32 × St} (C : Cx p s m args c cX6_advance 3 wsX6_advance RX6 D cy) (hr : meth.sig.returnType = some .int) (hlocks : meth.locks = false) {c0 s0 : Nat} (N : Nat) (k0 : St → Option (Int32 × St)) (hk0 : ∀ (S : St), k0 (S) = some Rr → ∀ (r : Nat → Nat) (H : Heap) (locs : List Loc) (ls : Array Slot) (cells slots : Nat), Acc cells slots c0 s0 S → WW D A s.heap (wC cy a r S) H locs → lv_has ls 3 [(0, .ref (a 139))] → W p l e ({ frames := 6, cells := gc Rr.2 - c0, slots := gs Rr.2 - s0, locals := 150 } : Room) s m args below meth c H locs cells slots (MQ below (QIx D cy a A Rr) args s (gc Rr.2 - c0) (gs Rr.2 - s0) A) (F0 m 0 ls [])) (hm0 : ∀ x, Kp (fun R => Ge R.2 x) (k0 x)) (S : St) (x2 : Int32) (hf : fX6_advance_79 N k0 S x2 = some Rr) : ∀ (r : Nat → Nat) (H : Heap) (locs : List Loc) (ls : Array Slot) (cells slots : Nat), Acc cells slots c0 s0 S → WW D A s.heap (wC cy a r S) H locs → lv_has ls 3 [(0, .ref (a 139)), (2, .int x2)] → W p l e ({ frames := 6, cells := gc Rr.2 - c0, slots := gs Rr.2 - s0, locals := 150 } : Room) s m args below meth c H locs cells slots (MQ below (QIx D cy a A Rr) args s (gc Rr.2 - c0) (gs Rr.2 - s0) A) (F0 m 79 ls []) := by
  intro r H locs ls cells slots hg hW hl
  have hm := nX6_advance_79 N _ hm0 S x2 Rr hf
  have hcap := hg.cap hm
  unfold fX6_advance_79 at hf
  refine lv_iload_n C.1 C.2.1 dX6_advance_79 rfl (lv_at hl 1 rfl) ?_
  refine lv_bipush (v := 6) C.1 C.2.1 dX6_advance_80 (by decide) ?_
  refine lv_icmp_eq (tgt := 87) C.1 C.2.1 dX6_advance_82 (by decide) (fun q1 => ?_) (fun q1 => ?_)
  · replace hf := (if_pos q1).symm.trans hf
    refine lv_goto (tgt := 0) C.1 C.2.1 dX6_advance_87 (by decide) ?_
    exact hk0 _ hf _ _ _ _ _ _ (hg.of rfl) hW (lv_sub hl [0] rfl)
  · replace hf := (if_neg q1).symm.trans hf
    refine lv_iload_n C.1 C.2.1 dX6_advance_85 rfl (lv_at hl 1 rfl) ?_
    exact mrIG C hr hlocks rfl hf (hg.of rfl) hW dX6_advance_86
set_option maxHeartbeats 4000000 in
set_option maxRecDepth 100000 in
theorem lX6_advance_0 {p : Program} {l : Launch} {e : Env} {s : State} {m : MethodId} {args : Array Value} {below : List Frame} {meth : Method} {c : Code} {D : va_G} {cy : Nat → ClassId} {a : Nat → Nat} {A : Nat → Prop} {Rr : Int32 × St} (C : Cx p s m args c cX6_advance 3 wsX6_advance RX6 D cy) (hr : meth.sig.returnType = some .int) (hlocks : meth.locks = false) {c0 s0 : Nat} (N : Nat) : ∀ (n : Nat) (S : St), loopN (fun k x => fX6_advance_0s N k x) n (S) = some Rr → ∀ (r : Nat → Nat) (H : Heap) (locs : List Loc) (ls : Array Slot) (cells slots : Nat), Acc cells slots c0 s0 S → WW D A s.heap (wC cy a r S) H locs → lv_has ls 3 [(0, .ref (a 139))] → W p l e ({ frames := 6, cells := gc Rr.2 - c0, slots := gs Rr.2 - s0, locals := 150 } : Room) s m args below meth c H locs cells slots (MQ below (QIx D cy a A Rr) args s (gc Rr.2 - c0) (gs Rr.2 - s0) A) (F0 m 0 ls []) := by
  intro n
  induction n with
  | zero =>
    intro S hf
    cases hf
  | succ n ih =>
    intro S hf r H locs ls cells slots hg hW hl
    have hf : fX6_advance_0s N (loopN (fun k x => fX6_advance_0s N k x) n) S = some Rr := hf
    have hm0 : ∀ x, Kp (fun R => Ge R.2 x) (loopN (fun k x => fX6_advance_0s N k x) n x) := kp_loop (P := fun x R => Ge R.2 x) (fun k hk x => nX6_advance_0s N k hk x) n
    have hm := nX6_advance_0s N _ hm0 S Rr hf
    have hcap := hg.cap hm
    unfold fX6_advance_0s at hf
    refine lv_aload_n C.1 C.2.1 dX6_advance_0 rfl (lv_at hl 0 rfl) ?_
    refine fg_6_6 C kX6_advance_6 mX6_advance_55 hW dX6_advance_1 ?_
    refine lv_sipush (v := 4000) C.1 C.2.1 dX6_advance_4 (by decide) ?_
    refine lv_icmp_ge (tgt := 90) C.1 C.2.1 dX6_advance_7 (by decide) (fun q1 => ?_) (fun q1 => ?_)
    · replace hf := (if_pos q1).symm.trans hf
      refine lv_iconst (v := 3) C.1 C.2.1 dX6_advance_90 (by decide) ?_
      exact mrIG C hr hlocks rfl hf (hg.of rfl) hW dX6_advance_91
    · replace hf := (if_neg q1).symm.trans hf
      refine lv_aload_n C.1 C.2.1 dX6_advance_10 rfl (lv_at hl 0 rfl) ?_
      refine fg_6_0 C kX6_advance_6 mX6_advance_44 hW dX6_advance_11 ?_
      refine lv_aload_n C.1 C.2.1 dX6_advance_14 rfl (lv_at hl 0 rfl) ?_
      refine fg_6_4 C kX6_advance_6 mX6_advance_71 hW dX6_advance_15 ?_
      obtain ⟨v2, S4, h3, hf⟩ := bd2_el hf
      have tS4 : tl S4 = tl S := tX2_across N S (S.1 124) (v2, S4) h3
      refine mcVi (w := wC cy a r) (S := S) (As := [.int (S.1 124)]) (rest := []) (q0 := 2) (ci := 2) C (cX2_across_met l D cy a r _ N S (S.1 124) (v2, S4) h3) (cwV 1 C.2.2.2.2.1 gX6_advance_X2_across rfl rfl rfl (by decide +kernel) ⟨Nat.le_of_ble_eq_true rfl, Nat.le_of_ble_eq_true rfl⟩) rfl rfl rfl hl.1 (Nat.le_of_ble_eq_true rfl) hW dX6_advance_18 hcap rfl (fun H locs hW => ?_)
      refine lv_istore_n (lv' := [(1, .int v2), (0, .ref (a 139))]) C.1 C.2.1 dX6_advance_21 rfl hl (by decide) rfl (fun ls hl => ?_)
      refine lv_aload_n C.1 C.2.1 dX6_advance_22 rfl (lv_at hl 1 rfl) ?_
      refine lv_iload_n C.1 C.2.1 dX6_advance_23 rfl (lv_at hl 0 rfl) ?_
      obtain ⟨v5, S7, h6, hf⟩ := bd2_el hf
      have tS7 : tl S7 = tl S4 := tX6_isMeeting N S4 v2 (v5, S7) h6
      refine mcVi (w := wC cy a r) (S := S4) (As := [.int v2]) (rest := []) (q0 := 6) (ci := 6) C (cX6_isMeeting_met l D cy a r _ N S4 v2 (v5, S7) h6) (cwV 1 C.2.2.2.2.1 gX6_advance_X6_isMeeting rfl rfl rfl (by decide +kernel) ⟨Nat.le_of_ble_eq_true rfl, Nat.le_of_ble_eq_true rfl⟩) rfl rfl rfl hl.1 (Nat.le_of_ble_eq_true rfl) hW dX6_advance_24 hcap rfl (fun H locs hW => ?_)
      refine lv_if_eq (tgt := 32) C.1 C.2.1 dX6_advance_27 (by decide) (fun q8 => ?_) (fun q8 => ?_)
      · replace hf := (if_pos q8).symm.trans hf
        refine lv_aload_n C.1 C.2.1 dX6_advance_32 rfl (lv_at hl 1 rfl) ?_
        refine fg_6_5 C kX6_advance_6 mX6_advance_22 hW dX6_advance_33 ?_
        refine lv_aload_n C.1 C.2.1 dX6_advance_36 rfl (lv_at hl 1 rfl) ?_
        refine fg_6_6 C kX6_advance_6 mX6_advance_55 hW dX6_advance_37 ?_
        refine lv_aload_n C.1 C.2.1 dX6_advance_40 rfl (lv_at hl 1 rfl) ?_
        refine fg_6_4 C kX6_advance_6 mX6_advance_71 hW dX6_advance_41 ?_
        obtain ⟨h9, hf⟩ := ckx_el hf
        obtain ⟨S10, eS10, hf⟩ := bnd_el hf
        have tS10 : tl S10 = tl S7 := by rw [eS10]; rfl
        refine as_6_5 C hW h9 dX6_advance_44 eS10 (fun H locs hW => ?_)
        refine lv_aload_n C.1 C.2.1 dX6_advance_45 rfl (lv_at hl 1 rfl) ?_
        refine lv_dup C.1 C.2.1 dX6_advance_46 rfl ?_
        refine fg_6_6 C kX6_advance_6 mX6_advance_55 hW dX6_advance_47 ?_
        refine lv_iconst (v := 1) C.1 C.2.1 dX6_advance_50 (by decide) ?_
        refine lv_iadd C.1 C.2.1 dX6_advance_51 ?_
        obtain ⟨S11, eS11, hf⟩ := bnd_el hf
        have tS11 : tl S11 = tl S10 := by rw [eS11]; rfl
        refine fp_6_6 C kX6_advance_6 mX6_advance_55 hW dX6_advance_52 eS11 (fun H locs hW => ?_)
        refine lv_aload_n C.1 C.2.1 dX6_advance_55 rfl (lv_at hl 1 rfl) ?_
        refine lv_iload_n C.1 C.2.1 dX6_advance_56 rfl (lv_at hl 0 rfl) ?_
        obtain ⟨v12, h13, hf⟩ := bdo_el hf
        refine mcSN (As := [.int v2]) (rest := [.ref (a 139)]) C (cX7_nodeAt_met l v2 v12 h13) ⟨va_cnB 1 C.2.2.2.2.1 gX6_advance_X7_nodeAt_n74 rfl rfl rfl (C.2.2.2.2.2.2 (RX6, 74, yX7_nodeAt) (by decide +kernel)) (C.2.2.2.2.1 _ mX6_advance_i7) (by decide +kernel) ⟨Nat.le_of_ble_eq_true rfl, Nat.le_of_ble_eq_true rfl⟩, C.2.2.2.2.1 _ mX6_advance_s_nodeAt, trivial⟩ rfl hl.1 (Nat.le_of_ble_eq_true rfl) dX6_advance_57 hcap rfl ?_
        refine lv_iload_n C.1 C.2.1 dX6_advance_60 rfl (lv_at hl 0 rfl) ?_
        obtain ⟨v14, h15, hf⟩ := bdo_el hf
        refine mcSN (As := [.int v2]) (rest := [.int v12, .ref (a 139)]) C (cX7_whichAt_met l v2 v14 h15) ⟨va_cnB 1 C.2.2.2.2.1 gX6_advance_X7_whichAt_n87 rfl rfl rfl (C.2.2.2.2.2.2 (RX6, 87, yX7_whichAt) (by decide +kernel)) (C.2.2.2.2.1 _ mX6_advance_i7) (by decide +kernel) ⟨Nat.le_of_ble_eq_true rfl, Nat.le_of_ble_eq_true rfl⟩, C.2.2.2.2.1 _ mX6_advance_s_whichAt, trivial⟩ rfl hl.1 (Nat.le_of_ble_eq_true rfl) dX6_advance_61 hcap rfl ?_
        obtain ⟨v16, S18, h17, hf⟩ := bd2_el hf
        have hmS18 : Ge Rr.2 S18 := by
          revert hf
          refine (?_ : Kp (fun R => Ge R.2 S18) _) Rr
          refine kp_ite (fun q19 => ?_) (fun q19 => ?_)
          · skip
            refine kp_bd2 (fun v20 S22 h21 => ?_)
            have tS22 : Ge S22 S18 := Ge.of (tX6_endTerm N S18  (v20, S22) h21)
            exact fun R h => (nX6_advance_79 N _ hm0 S22 v20 R h).trans tS22
          · skip
            exact fun R h => (nX6_advance_79 N _ hm0 S18 v16 R h).trans Ge.rf
        have hqS18 : Ge S18 S11 := nX6_arrive N S11 v12 v14 (v16, S18) h17
        have hgn := (hg.of (tS11.trans (tS10.trans (tS7.trans tS4)))).call hqS18
        refine mcViG (S := S11) (As := [.int v12, .int v14]) (rest := []) (q0 := 6) (ci := 6) C (cX6_arrive_met l D cy a r _ N S11 v12 v14 (v16, S18) h17) (cwV 2 C.2.2.2.2.1 gX6_advance_X6_arrive rfl rfl rfl (by decide +kernel) ⟨Nat.le_of_ble_eq_true rfl, Nat.le_of_ble_eq_true rfl⟩) rfl rfl rfl hl.1 (Nat.le_of_ble_eq_true rfl) hW dX6_advance_64 ((hg.of (tS11.trans (tS10.trans (tS7.trans tS4)))).callcap hqS18 hmS18) rfl (fun r H locs hW => ?_)
        replace hg := hgn
        have hcap := hg.cap hmS18
        refine lv_istore_n (lv' := [(2, .int v16), (1, .int v2), (0, .ref (a 139))]) C.1 C.2.1 dX6_advance_67 rfl hl (by decide) rfl (fun ls hl => ?_)
        refine lv_iload_n C.1 C.2.1 dX6_advance_68 rfl (lv_at hl 0 rfl) ?_
        refine lv_bipush (v := 7) C.1 C.2.1 dX6_advance_69 (by decide) ?_
        refine lv_icmp_ne (tgt := 79) C.1 C.2.1 dX6_advance_71 (by decide) (fun q19 => ?_) (fun q19 => ?_)
        · replace hf := (if_neg q19).symm.trans hf
          exact lX6_advance_79 C hr hlocks N _ ih hm0 _ _ hf _ _ _ _ _ _ (hg.of rfl) hW (lv_sub hl [2, 0] rfl)
        · replace hf := (if_pos q19).symm.trans hf
          refine lv_aload_n C.1 C.2.1 dX6_advance_74 rfl (lv_at hl 2 rfl) ?_
          obtain ⟨v20, S22, h21, hf⟩ := bd2_el hf
          have tS22 : tl S22 = tl S18 := tX6_endTerm N S18  (v20, S22) h21
          refine mcVi (w := wC cy a r) (S := S18) (As := []) (rest := []) (q0 := 6) (ci := 6) C (cX6_endTerm_met l D cy a r _ N S18  (v20, S22) h21) (cwV 0 C.2.2.2.2.1 gX6_advance_X6_endTerm rfl rfl rfl (by decide +kernel) ⟨Nat.le_of_ble_eq_true rfl, Nat.le_of_ble_eq_true rfl⟩) rfl rfl rfl hl.1 (Nat.le_of_ble_eq_true rfl) hW dX6_advance_75 hcap rfl (fun H locs hW => ?_)
          refine lv_istore_n (lv' := [(2, .int v20), (1, .int v2), (0, .ref (a 139))]) C.1 C.2.1 dX6_advance_78 rfl hl (by decide) rfl (fun ls hl => ?_)
          exact lX6_advance_79 C hr hlocks N _ ih hm0 _ _ hf _ _ _ _ _ _ (hg.of tS22) hW (lv_sub hl [2, 0] rfl)
      · replace hf := (if_neg q8).symm.trans hf
        refine lv_iconst (v := 5) C.1 C.2.1 dX6_advance_30 (by decide) ?_
        exact mrIG C hr hlocks rfl hf (hg.of (tS7.trans tS4)) hW dX6_advance_31
set_option maxHeartbeats 4000000 in
set_option maxRecDepth 100000 in
theorem cX6_advance_met (l : Launch) (D : va_G) (cy : Nat → ClassId) (a r : Nat → Nat) (sz N : Nat) (S : St) (Rr : Int32 × St) (hf : fX6_advance N S  = some Rr) : Met l yX6_advance wsX6_advance ({ frames := 6, cells := gc Rr.2 - gc S, slots := gs Rr.2 - gs S, locals := 150 } : Room) (va_Pc [.ref (a 139)] (preW D cy (wC cy a r S) sz)) (QIx D cy a (va_A (wC cy a r S) sz) Rr) (gc Rr.2 - gc S) (gs Rr.2 - gs S) (va_A (wC cy a r S) sz) := by
  refine Met.ofW (cc := cX6_advance) (maxL := 3) (ret := (some .int)) (by decide) rfl ?_
  intro p e s m args below meth c s₁ B hml hv
  obtain ⟨rfl, rfl, hP, hK, hD0, hN⟩ := hv
  have hlocks := B.notSynchronized
  have hr := B.returns
  have C : Cx p s m _ c cX6_advance 3 wsX6_advance RX6 D cy := ⟨B.exec, B.bytes, hml, findClass_of_methodNamed B.named, atoms_spec (ws := wsX6_advance) B.pre, hK, hN⟩
  have hW := ww_start (w := wC cy a r) hP hD0
  generalize va_A (wC cy a r S) s.heap.size = A at hW ⊢
  have hl := lv_entry ([.ref (a 139)]) (n := 3) (Nat.le_of_ble_eq_true rfl)
  rw [lg_entry_eq]
  generalize (lg_sl ([.ref (a 139)]) ++ List.replicate (3 - (lg_sl ([.ref (a 139)])).length) Slot.unset).toArray = ls at hl ⊢
  have hl : lv_has ls 3 [(0, .ref (a 139))] := hl
  have hm := nX6_advance N S  Rr hf
  have hg : Acc 0 0 (gc S) (gs S) S := ⟨Nat.zero_add _, Nat.zero_add _⟩
  have hcap := hg.cap hm
  unfold fX6_advance at hf
  exact lX6_advance_0 C hr hlocks N _ _ hf _ _ _ _ _ _ (hg.of rfl) hW (lv_sub hl [0] rfl)
def fX7_reduce_9s (N : Nat) (k9 : St × Int32 → Option (Int32 × St)) (S : St) (x2 : Int32) : Option (Int32 × St) :=
  if x2 < 0 then
    some ((1 : Int32), S)
  else
    bd2 (fX6_advance N S) fun v2 S4 =>
    if v2 = (5 : Int32) then
      if x2 = 0 then
        some ((1 : Int32), S4)
      else
        bd2 (fX6_nodeLeft N S4) fun v7 S9 =>
        bd2 (fX6_nodeAhead N S9) fun v10 S12 =>
        bd2 (fX3_refusal N S12 v7 v10) fun v13 S15 =>
        if v13 = (5 : Int32) then
          bdo (fX6_stepBack N S15) fun S19 =>
          bdo (fX3_act N S19 v7 v10) fun S22 =>
          bdo (fX2_eraseAll N S22) fun S25 =>
          bnd (x2 + (-1 : Int32)) fun z26 =>
          k9 (S25, z26)
        else
          some (v13, S15)
    else
      some (v2, S4)
def fX7_reduce_9 (N : Nat) : St × Int32 → Option (Int32 × St) := loopN (fun k x => fX7_reduce_9s N k x.1 x.2) N
def fX7_reduce (N : Nat) (S : St) (p1 : Int32) : Option (Int32 × St) :=
  bdo (fX6_begin N S) fun S3 =>
  fX7_reduce_9 N (S3, p1)
theorem nX7_reduce_9s (N : Nat) (k9 : St × Int32 → Option (Int32 × St)) (hk9 : ∀ x, Kp (fun R => Ge R.2 x.1) (k9 x)) (S : St) (x2 : Int32) : Kp (fun R => Ge R.2 S) (fX7_reduce_9s N k9 S x2) := by
  unfold fX7_reduce_9s
  refine kp_ite (fun q1 => ?_) (fun q1 => ?_)
  · skip
    exact kp_some Ge.rf
  · skip
    refine kp_bd2 (fun v2 S4 h3 => ?_)
    have tS4 : Ge S4 S := nX6_advance N S  (v2, S4) h3
    refine kp_ite (fun q5 => ?_) (fun q5 => ?_)
    · skip
      refine kp_ite (fun q6 => ?_) (fun q6 => ?_)
      · skip
        exact kp_some tS4
      · skip
        refine kp_bd2 (fun v7 S9 h8 => ?_)
        have tS9 : Ge S9 S4 := Ge.of (tX6_nodeLeft N S4  (v7, S9) h8)
        refine kp_bd2 (fun v10 S12 h11 => ?_)
        have tS12 : Ge S12 S9 := Ge.of (tX6_nodeAhead N S9  (v10, S12) h11)
        refine kp_bd2 (fun v13 S15 h14 => ?_)
        have tS15 : Ge S15 S12 := Ge.of (tX3_refusal N S12 v7 v10 (v13, S15) h14)
        refine kp_ite (fun q16 => ?_) (fun q16 => ?_)
        · skip
          refine kp_bdo (fun S19 h18 => ?_)
          have tS19 : Ge S19 S15 := Ge.of (tX6_stepBack N S15  S19 h18)
          refine kp_bdo (fun S22 h21 => ?_)
          have tS22 : Ge S22 S19 := Ge.of (tX3_act N S19 v7 v10 S22 h21)
          refine kp_bdo (fun S25 h24 => ?_)
          have tS25 : Ge S25 S22 := Ge.of (tX2_eraseAll N S22  S25 h24)
          refine kp_bnd (fun z26 ez26 => ?_)
          exact fun R h => (hk9 (S25, z26) R h).trans (tS25.trans (tS22.trans (tS19.trans (tS15.trans (tS12.trans (tS9.trans tS4))))))
        · skip
          exact kp_some (tS15.trans (tS12.trans (tS9.trans tS4)))
    · skip
      exact kp_some tS4
theorem nX7_reduce_9 (N : Nat) (x : St × Int32) : Kp (fun R => Ge R.2 x.1) (fX7_reduce_9 N x) := kp_loop (P := fun x R => Ge R.2 x.1) (fun k hk x => nX7_reduce_9s N k hk x.1 x.2) N x
theorem nX7_reduce (N : Nat) (S : St) (p1 : Int32) : Kp (fun R => Ge R.2 S) (fX7_reduce N S p1) := by
  unfold fX7_reduce
  refine kp_bdo (fun S3 h2 => ?_)
  have tS3 : Ge S3 S := Ge.of (tX6_begin N S  S3 h2)
  exact fun R h => (nX7_reduce_9 N (S3, p1) R h).trans tS3
theorem mX7_reduce_46 : Cond.fieldLink RX7 46 "SharedLambda" "walk" "LSharedLambda$Walk;" ∈ wsX7_reduce := by decide +kernel
theorem mX7_reduce_39 : Cond.fieldLink RX7 39 "SharedLambda" "meetings" "LSharedLambda$Meetings;" ∈ wsX7_reduce := by decide +kernel
theorem mX7_reduce_23 : Cond.fieldLink RX7 23 "SharedLambda" "graph" "LSharedLambda$Graph;" ∈ wsX7_reduce := by decide +kernel
theorem kX7_reduce_7 : ∀ w ∈ u_ws RX7 TX7 9, w ∈ wsX7_reduce := fun _ h => List.mem_cons_of_mem _ (List.mem_append_left _ (List.mem_append_left _ (List.mem_append_left _ (List.mem_append_left _ (List.mem_append_left _ (List.mem_append_right _ h))))))
set_option maxHeartbeats 4000000 in
set_option maxRecDepth 100000 in
theorem lX7_reduce_9 {p : Program} {l : Launch} {e : Env} {s : State} {m : MethodId} {args : Array Value} {below : List Frame} {meth : Method} {c : Code} {D : va_G} {cy : Nat → ClassId} {a : Nat → Nat} {A : Nat → Prop} {Rr : Int32 × St} (C : Cx p s m args c cX7_reduce 7 wsX7_reduce RX7 D cy) (hr : meth.sig.returnType = some .int) (hlocks : meth.locks = false) {c0 s0 : Nat} (N : Nat) : ∀ (n : Nat) (S : St) (x2 : Int32), loopN (fun k x => fX7_reduce_9s N k x.1 x.2) n (S, x2) = some Rr → ∀ (r : Nat → Nat) (H : Heap) (locs : List Loc) (ls : Array Slot) (cells slots : Nat), Acc cells slots c0 s0 S → WW D A s.heap (wC cy a r S) H locs → lv_has ls 7 [(0, .ref (a 159)), (2, .int x2)] → W p l e ({ frames := 7, cells := gc Rr.2 - c0, slots := gs Rr.2 - s0, locals := 172 } : Room) s m args below meth c H locs cells slots (MQ below (QIx D cy a A Rr) args s (gc Rr.2 - c0) (gs Rr.2 - s0) A) (F0 m 9 ls []) := by
  intro n
  induction n with
  | zero =>
    intro S x2 hf
    cases hf
  | succ n ih =>
    intro S x2 hf r H locs ls cells slots hg hW hl
    have hf : fX7_reduce_9s N (loopN (fun k x => fX7_reduce_9s N k x.1 x.2) n) S x2 = some Rr := hf
    have hm9 : ∀ x, Kp (fun R => Ge R.2 x.1) (loopN (fun k x => fX7_reduce_9s N k x.1 x.2) n x) := kp_loop (P := fun x R => Ge R.2 x.1) (fun k hk x => nX7_reduce_9s N k hk x.1 x.2) n
    have hm := nX7_reduce_9s N _ hm9 S x2 Rr hf
    have hcap := hg.cap hm
    unfold fX7_reduce_9s at hf
    refine lv_iload_n C.1 C.2.1 dX7_reduce_9 rfl (lv_at hl 1 rfl) ?_
    refine lv_if_lt (tgt := 105) C.1 C.2.1 dX7_reduce_10 (by decide) (fun q1 => ?_) (fun q1 => ?_)
    · replace hf := (if_pos q1).symm.trans hf
      refine lv_iconst (v := 1) C.1 C.2.1 dX7_reduce_105 (by decide) ?_
      exact mrIG C hr hlocks rfl hf (hg.of rfl) hW dX7_reduce_106
    · replace hf := (if_neg q1).symm.trans hf
      refine lv_aload_n C.1 C.2.1 dX7_reduce_13 rfl (lv_at hl 0 rfl) ?_
      refine fg_7_8 C kX7_reduce_7 mX7_reduce_46 hW dX7_reduce_14 ?_
      obtain ⟨v2, S4, h3, hf⟩ := bd2_el hf
      have hmS4 : Ge Rr.2 S4 := by
        revert hf
        refine (?_ : Kp (fun R => Ge R.2 S4) _) Rr
        refine kp_ite (fun q5 => ?_) (fun q5 => ?_)
        · skip
          refine kp_ite (fun q6 => ?_) (fun q6 => ?_)
          · skip
            exact kp_some Ge.rf
          · skip
            refine kp_bd2 (fun v7 S9 h8 => ?_)
            have tS9 : Ge S9 S4 := Ge.of (tX6_nodeLeft N S4  (v7, S9) h8)
            refine kp_bd2 (fun v10 S12 h11 => ?_)
            have tS12 : Ge S12 S9 := Ge.of (tX6_nodeAhead N S9  (v10, S12) h11)
            refine kp_bd2 (fun v13 S15 h14 => ?_)
            have tS15 : Ge S15 S12 := Ge.of (tX3_refusal N S12 v7 v10 (v13, S15) h14)
            refine kp_ite (fun q16 => ?_) (fun q16 => ?_)
            · skip
              refine kp_bdo (fun S19 h18 => ?_)
              have tS19 : Ge S19 S15 := Ge.of (tX6_stepBack N S15  S19 h18)
              refine kp_bdo (fun S22 h21 => ?_)
              have tS22 : Ge S22 S19 := Ge.of (tX3_act N S19 v7 v10 S22 h21)
              refine kp_bdo (fun S25 h24 => ?_)
              have tS25 : Ge S25 S22 := Ge.of (tX2_eraseAll N S22  S25 h24)
              refine kp_bnd (fun z26 ez26 => ?_)
              exact fun R h => (hm9 (S25, z26) R h).trans (tS25.trans (tS22.trans (tS19.trans (tS15.trans (tS12.trans tS9)))))
            · skip
              exact kp_some (tS15.trans (tS12.trans tS9))
        · skip
          exact kp_some Ge.rf
      have hqS4 : Ge S4 S := nX6_advance N S  (v2, S4) h3
      have hgn := (hg.of rfl).call hqS4
      refine mcViG (S := S) (As := []) (rest := []) (q0 := 6) (ci := 6) C (cX6_advance_met l D cy a r _ N S  (v2, S4) h3) (cwV 0 C.2.2.2.2.1 gX7_reduce_X6_advance rfl rfl rfl (by decide +kernel) ⟨Nat.le_of_ble_eq_true rfl, Nat.le_of_ble_eq_true rfl⟩) rfl rfl rfl hl.1 (Nat.le_of_ble_eq_true rfl) hW dX7_reduce_17 ((hg.of rfl).callcap hqS4 hmS4) rfl (fun r H locs hW => ?_)
      replace hg := hgn
      have hcap := hg.cap hmS4
      refine lv_istore_n (lv' := [(3, .int v2), (0, .ref (a 159)), (2, .int x2)]) C.1 C.2.1 dX7_reduce_20 rfl hl (by decide) rfl (fun ls hl => ?_)
      refine lv_iload_n C.1 C.2.1 dX7_reduce_21 rfl (lv_at hl 0 rfl) ?_
      refine lv_iconst (v := 5) C.1 C.2.1 dX7_reduce_22 (by decide) ?_
      refine lv_icmp_eq (tgt := 28) C.1 C.2.1 dX7_reduce_23 (by decide) (fun q5 => ?_) (fun q5 => ?_)
      · replace hf := (if_pos q5).symm.trans hf
        refine lv_iload_n C.1 C.2.1 dX7_reduce_28 rfl (lv_at hl 2 rfl) ?_
        refine lv_if_ne (tgt := 34) C.1 C.2.1 dX7_reduce_29 (by decide) (fun q6 => ?_) (fun q6 => ?_)
        · replace hf := (if_neg q6).symm.trans hf
          refine lv_aload_n C.1 C.2.1 dX7_reduce_34 rfl (lv_at hl 1 rfl) ?_
          refine fg_7_8 C kX7_reduce_7 mX7_reduce_46 hW dX7_reduce_35 ?_
          obtain ⟨v7, S9, h8, hf⟩ := bd2_el hf
          have tS9 : tl S9 = tl S4 := tX6_nodeLeft N S4  (v7, S9) h8
          refine mcVi (w := wC cy a r) (S := S4) (As := []) (rest := []) (q0 := 6) (ci := 6) C (cX6_nodeLeft_met l D cy a r _ N S4  (v7, S9) h8) (cwV 0 C.2.2.2.2.1 gX7_reduce_X6_nodeLeft rfl rfl rfl (by decide +kernel) ⟨Nat.le_of_ble_eq_true rfl, Nat.le_of_ble_eq_true rfl⟩) rfl rfl rfl hl.1 (Nat.le_of_ble_eq_true rfl) hW dX7_reduce_38 hcap rfl (fun H locs hW => ?_)
          refine lv_istore (lv' := [(4, .int v7), (3, .int v2), (0, .ref (a 159)), (2, .int x2)]) C.1 C.2.1 dX7_reduce_41 hl (by decide) rfl (fun ls hl => ?_)
          refine lv_aload_n C.1 C.2.1 dX7_reduce_43 rfl (lv_at hl 2 rfl) ?_
          refine fg_7_8 C kX7_reduce_7 mX7_reduce_46 hW dX7_reduce_44 ?_
          obtain ⟨v10, S12, h11, hf⟩ := bd2_el hf
          have tS12 : tl S12 = tl S9 := tX6_nodeAhead N S9  (v10, S12) h11
          refine mcVi (w := wC cy a r) (S := S9) (As := []) (rest := []) (q0 := 6) (ci := 6) C (cX6_nodeAhead_met l D cy a r _ N S9  (v10, S12) h11) (cwV 0 C.2.2.2.2.1 gX7_reduce_X6_nodeAhead rfl rfl rfl (by decide +kernel) ⟨Nat.le_of_ble_eq_true rfl, Nat.le_of_ble_eq_true rfl⟩) rfl rfl rfl hl.1 (Nat.le_of_ble_eq_true rfl) hW dX7_reduce_47 hcap rfl (fun H locs hW => ?_)
          refine lv_istore (lv' := [(5, .int v10), (4, .int v7), (3, .int v2), (0, .ref (a 159)), (2, .int x2)]) C.1 C.2.1 dX7_reduce_50 hl (by decide) rfl (fun ls hl => ?_)
          refine lv_aload_n C.1 C.2.1 dX7_reduce_52 rfl (lv_at hl 3 rfl) ?_
          refine fg_7_7 C kX7_reduce_7 mX7_reduce_39 hW dX7_reduce_53 ?_
          refine lv_iload C.1 C.2.1 dX7_reduce_56 (lv_at hl 1 rfl) ?_
          refine lv_iload C.1 C.2.1 dX7_reduce_58 (lv_at hl 0 rfl) ?_
          obtain ⟨v13, S15, h14, hf⟩ := bd2_el hf
          have tS15 : tl S15 = tl S12 := tX3_refusal N S12 v7 v10 (v13, S15) h14
          refine mcVi (w := wC cy a r) (S := S12) (As := [.int v7, .int v10]) (rest := []) (q0 := 3) (ci := 3) C (cX3_refusal_met l D cy a r _ N S12 v7 v10 (v13, S15) h14) (cwV 2 C.2.2.2.2.1 gX7_reduce_X3_refusal rfl rfl rfl (by decide +kernel) ⟨Nat.le_of_ble_eq_true rfl, Nat.le_of_ble_eq_true rfl⟩) rfl rfl rfl hl.1 (Nat.le_of_ble_eq_true rfl) hW dX7_reduce_60 hcap rfl (fun H locs hW => ?_)
          refine lv_istore (lv' := [(6, .int v13), (5, .int v10), (4, .int v7), (3, .int v2), (0, .ref (a 159)), (2, .int x2)]) C.1 C.2.1 dX7_reduce_63 hl (by decide) rfl (fun ls hl => ?_)
          refine lv_iload C.1 C.2.1 dX7_reduce_65 (lv_at hl 0 rfl) ?_
          refine lv_iconst (v := 5) C.1 C.2.1 dX7_reduce_67 (by decide) ?_
          refine lv_icmp_eq (tgt := 74) C.1 C.2.1 dX7_reduce_68 (by decide) (fun q16 => ?_) (fun q16 => ?_)
          · replace hf := (if_pos q16).symm.trans hf
            refine lv_aload_n C.1 C.2.1 dX7_reduce_74 rfl (lv_at hl 4 rfl) ?_
            refine fg_7_8 C kX7_reduce_7 mX7_reduce_46 hW dX7_reduce_75 ?_
            obtain ⟨S19, h18, hf⟩ := bdo_el hf
            have tS19 : tl S19 = tl S15 := tX6_stepBack N S15  S19 h18
            refine mcVv (w := wC cy a r) (S := S15) (As := []) (rest := []) (q0 := 6) (ci := 6) C (cX6_stepBack_met l D cy a r _ N S15  S19 h18) (cwV 0 C.2.2.2.2.1 gX7_reduce_X6_stepBack rfl rfl rfl (by decide +kernel) ⟨Nat.le_of_ble_eq_true rfl, Nat.le_of_ble_eq_true rfl⟩) rfl rfl rfl hl.1 (Nat.le_of_ble_eq_true rfl) hW dX7_reduce_78 hcap rfl (fun H locs hW => ?_)
            refine lv_aload_n C.1 C.2.1 dX7_reduce_81 rfl (lv_at hl 4 rfl) ?_
            refine fg_7_7 C kX7_reduce_7 mX7_reduce_39 hW dX7_reduce_82 ?_
            refine lv_iload C.1 C.2.1 dX7_reduce_85 (lv_at hl 2 rfl) ?_
            refine lv_iload C.1 C.2.1 dX7_reduce_87 (lv_at hl 1 rfl) ?_
            obtain ⟨S22, h21, hf⟩ := bdo_el hf
            have tS22 : tl S22 = tl S19 := tX3_act N S19 v7 v10 S22 h21
            refine mcVv (w := wC cy a r) (S := S19) (As := [.int v7, .int v10]) (rest := []) (q0 := 3) (ci := 3) C (cX3_act_met l D cy a r _ N S19 v7 v10 S22 h21) (cwV 2 C.2.2.2.2.1 gX7_reduce_X3_act rfl rfl rfl (by decide +kernel) ⟨Nat.le_of_ble_eq_true rfl, Nat.le_of_ble_eq_true rfl⟩) rfl rfl rfl hl.1 (Nat.le_of_ble_eq_true rfl) hW dX7_reduce_89 hcap rfl (fun H locs hW => ?_)
            refine lv_aload_n C.1 C.2.1 dX7_reduce_92 rfl (lv_at hl 4 rfl) ?_
            refine fg_7_5 C kX7_reduce_7 mX7_reduce_23 hW dX7_reduce_93 ?_
            obtain ⟨S25, h24, hf⟩ := bdo_el hf
            have tS25 : tl S25 = tl S22 := tX2_eraseAll N S22  S25 h24
            refine mcVv (w := wC cy a r) (S := S22) (As := []) (rest := []) (q0 := 2) (ci := 2) C (cX2_eraseAll_met l D cy a r _ N S22  S25 h24) (cwV 0 C.2.2.2.2.1 gX7_reduce_X2_eraseAll rfl rfl rfl (by decide +kernel) ⟨Nat.le_of_ble_eq_true rfl, Nat.le_of_ble_eq_true rfl⟩) rfl rfl rfl hl.1 (Nat.le_of_ble_eq_true rfl) hW dX7_reduce_96 hcap rfl (fun H locs hW => ?_)
            obtain ⟨z26, ez26, hf⟩ := bnd_el hf
            refine lv_iinc (v := z26) (lv' := [(2, .int z26), (6, .int v13), (5, .int v10), (4, .int v7), (3, .int v2), (0, .ref (a 159))]) C.1 C.2.1 dX7_reduce_99 hl (k := 5) rfl (by rw [ez26]; rfl) (by decide) rfl (fun ls hl => ?_)
            refine lv_goto (tgt := 9) C.1 C.2.1 dX7_reduce_102 (by decide) ?_
            exact ih _ _ hf _ _ _ _ _ _ (hg.of (tS25.trans (tS22.trans (tS19.trans (tS15.trans (tS12.trans tS9)))))) hW (lv_sub hl [5, 0] rfl)
          · replace hf := (if_neg q16).symm.trans hf
            refine lv_iload C.1 C.2.1 dX7_reduce_71 (lv_at hl 0 rfl) ?_
            exact mrIG C hr hlocks rfl hf (hg.of (tS15.trans (tS12.trans tS9))) hW dX7_reduce_73
        · replace hf := (if_pos q6).symm.trans hf
          refine lv_iconst (v := 1) C.1 C.2.1 dX7_reduce_32 (by decide) ?_
          exact mrIG C hr hlocks rfl hf (hg.of rfl) hW dX7_reduce_33
      · replace hf := (if_neg q5).symm.trans hf
        refine lv_iload_n C.1 C.2.1 dX7_reduce_26 rfl (lv_at hl 0 rfl) ?_
        exact mrIG C hr hlocks rfl hf (hg.of rfl) hW dX7_reduce_27
set_option maxHeartbeats 4000000 in
set_option maxRecDepth 100000 in
theorem cX7_reduce_met (l : Launch) (D : va_G) (cy : Nat → ClassId) (a r : Nat → Nat) (sz N : Nat) (S : St) (p1 : Int32) (Rr : Int32 × St) (hf : fX7_reduce N S p1 = some Rr) : Met l yX7_reduce wsX7_reduce ({ frames := 7, cells := gc Rr.2 - gc S, slots := gs Rr.2 - gs S, locals := 172 } : Room) (va_Pc [.ref (a 159), .int p1] (preW D cy (wC cy a r S) sz)) (QIx D cy a (va_A (wC cy a r S) sz) Rr) (gc Rr.2 - gc S) (gs Rr.2 - gs S) (va_A (wC cy a r S) sz) := by
  refine Met.ofW (cc := cX7_reduce) (maxL := 7) (ret := (some .int)) (by decide) rfl ?_
  intro p e s m args below meth c s₁ B hml hv
  obtain ⟨rfl, rfl, hP, hK, hD0, hN⟩ := hv
  have hlocks := B.notSynchronized
  have hr := B.returns
  have C : Cx p s m _ c cX7_reduce 7 wsX7_reduce RX7 D cy := ⟨B.exec, B.bytes, hml, findClass_of_methodNamed B.named, atoms_spec (ws := wsX7_reduce) B.pre, hK, hN⟩
  have hW := ww_start (w := wC cy a r) hP hD0
  generalize va_A (wC cy a r S) s.heap.size = A at hW ⊢
  have hl := lv_entry ([.ref (a 159), .int p1]) (n := 7) (Nat.le_of_ble_eq_true rfl)
  rw [lg_entry_eq]
  generalize (lg_sl ([.ref (a 159), .int p1]) ++ List.replicate (7 - (lg_sl ([.ref (a 159), .int p1])).length) Slot.unset).toArray = ls at hl ⊢
  have hl : lv_has ls 7 [(0, .ref (a 159)), (1, .int p1)] := hl
  have hm := nX7_reduce N S p1 Rr hf
  have hg : Acc 0 0 (gc S) (gs S) S := ⟨Nat.zero_add _, Nat.zero_add _⟩
  have hcap := hg.cap hm
  unfold fX7_reduce at hf
  refine lv_aload_n C.1 C.2.1 dX7_reduce_0 rfl (lv_at hl 0 rfl) ?_
  refine fg_7_8 C kX7_reduce_7 mX7_reduce_46 hW dX7_reduce_1 ?_
  obtain ⟨S3, h2, hf⟩ := bdo_el hf
  have tS3 : tl S3 = tl S := tX6_begin N S  S3 h2
  refine mcVv (w := wC cy a r) (S := S) (As := []) (rest := []) (q0 := 6) (ci := 6) C (cX6_begin_met l D cy a r _ N S  S3 h2) (cwV 0 C.2.2.2.2.1 gX7_reduce_X6_begin rfl rfl rfl (by decide +kernel) ⟨Nat.le_of_ble_eq_true rfl, Nat.le_of_ble_eq_true rfl⟩) rfl rfl rfl hl.1 (Nat.le_of_ble_eq_true rfl) hW dX7_reduce_4 hcap rfl (fun H locs hW => ?_)
  refine lv_iload_n C.1 C.2.1 dX7_reduce_7 rfl (lv_at hl 1 rfl) ?_
  refine lv_istore_n (lv' := [(2, .int p1), (0, .ref (a 159)), (1, .int p1)]) C.1 C.2.1 dX7_reduce_8 rfl hl (by decide) rfl (fun ls hl => ?_)
  exact lX7_reduce_9 C hr hlocks N _ _ _ hf _ _ _ _ _ _ (hg.of tS3) hW (lv_sub hl [1, 0] rfl)
