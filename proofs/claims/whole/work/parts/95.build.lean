/-! the constructor of Builder: a row of rows -/
def preA (D : va_G) (cy : Nat → ClassId) (ws : va_W) (sz : Nat) (U : State) : Prop := preW D cy ws sz U ∧ va_AOA .int U
theorem mX0_init_ol : Cond.methodLink RX0 3 objectInit ∈ wsX0_init := by decide +kernel
theorem mX0_init_oi : Cond.instanceMethod objectInit ∈ wsX0_init := by decide +kernel
theorem mX0_init_oc : Cond.code objectInit ⟨#[0xb1]⟩ 1 none ∈ wsX0_init := by decide +kernel
theorem mX0_init_acint : Cond.arrayClass .int ∈ wsX0_init := by decide +kernel
theorem mX0_init_11 : Cond.fieldLink RX0 11 "SharedLambda$Builder" "rootPorts" "[I" ∈ wsX0_init := by decide +kernel
theorem mX0_init_17 : Cond.fieldLink RX0 17 "SharedLambda$Builder" "freePorts" "[[I" ∈ wsX0_init := by decide +kernel
theorem mX0_init_20 : Cond.fieldLink RX0 20 "SharedLambda$Builder" "graph" "LSharedLambda$Graph;" ∈ wsX0_init := by decide +kernel
theorem mX0_init_cl : Cond.classLink RX0 15 ("[" ++ (FieldType.array .int).toString) ∈ wsX0_init := by decide +kernel
theorem kX0_init_0 : ∀ w ∈ u_ws RX0 TX0 4, w ∈ wsX0_init := fun _ h => List.mem_cons_of_mem _ (List.mem_append_right _ h)
def wI0 (cy : Nat → ClassId) (h0 p1 : Nat) (q r : Nat → Nat) : va_W := [(h0, .inr (0, [.ref p1, .ref (q 1), .ref (q 2), .int 0])), (q 1, .inl (cy 0, 43, .inl (fun _ => 0))), (q 2, .inl (cy 4, 43, .inr (.inr (.inr (.inr (fun i => if i < 43 then some (r i) else none))))))] ++ (List.range 43).map (fun i => (r i, .inl (cy 0, 40, .inl (fun _ => 0))))
theorem rows_eq (r : Nat → Nat) (f : Nat → va_E) (e : va_E) : va_pl ([] ++ (List.range 43).map r) (vr_up f ((List.range 43).map r) e) = (List.range 43).map (fun i => (r i, e)) := by
  unfold va_pl
  rw [List.nil_append, List.map_map]
  refine List.map_congr_left (fun i hi => ?_)
  show (r i, vr_up f ((List.range 43).map r) e (r i)) = (r i, e)
  rw [vr_up_in (List.mem_map.mpr ⟨i, hi, rfl⟩)]
set_option maxHeartbeats 4000000 in
set_option maxRecDepth 100000 in
theorem cX0_init_met (l : Launch) (D : va_G) (cy : Nat → ClassId) (h0 p1 sz : Nat) : Met l yX0_init wsX0_init ({ frames := 1, cells := 45, slots := 1806, locals := 12 } : Room) (va_Pc [.ref h0, .ref p1] (preA D cy [(h0, .inr (0, [.null, .null, .null, .int 0]))] sz)) (va_Qv (fun _ : (Nat → Nat) × (Nat → Nat) => True) (fun q => posI D cy (wI0 cy h0 p1 q.1 q.2) (va_A [(h0, .inr (0, [.null, .null, .null, .int 0]))] sz)) (va_A [(h0, .inr (0, [.null, .null, .null, .int 0]))] sz)) 45 1806 (va_A [(h0, .inr (0, [.null, .null, .null, .int 0]))] sz) := by
  refine Met.ofW (cc := cX0_init) (maxL := 2) (ret := none) (by decide) rfl ?_
  intro p e s m args below meth c s₁ B hml hv
  obtain ⟨rfl, ⟨rfl, hP, hK, hD0, hN⟩, hao⟩ := hv
  have hlocks := B.notSynchronized
  have hr := B.returns
  have hin : meth.name = "<init>" := (name_of_methodNamed B.named B.method).1
  have C : Cx p s m _ c cX0_init 2 wsX0_init RX0 D cy := ⟨B.exec, B.bytes, hml, findClass_of_methodNamed B.named, atoms_spec (ws := wsX0_init) B.pre, hK, hN⟩
  have hts := C.2.2.2.2.1
  have hD := hD0.self (sz := s.heap.size)
  have hA : ∀ q : Nat, s.heap.size ≤ q → va_A [(h0, .inr (0, [.null, .null, .null, .int 0]))] s.heap.size q := fun q h => Or.inr h
  generalize va_A [(h0, .inr (0, [.null, .null, .null, .int 0]))] s.heap.size = A at hD hA ⊢
  have hS : va_S A s.heap s.heap [] := va_S.rf
  have hl := lv_entry ([.ref h0, .ref p1]) (n := 2) (Nat.le_of_ble_eq_true rfl)
  rw [lg_entry_eq]
  generalize (lg_sl ([.ref h0, .ref p1]) ++ List.replicate (2 - (lg_sl ([.ref h0, .ref p1])).length) Slot.unset).toArray = ls at hl ⊢
  have hl : lv_has ls 2 [(0, .ref h0), (1, .ref p1)] := hl
  refine lv_aload_n C.1 C.2.1 dX0_init_0 rfl (lv_at hl 0 rfl) ?_
  refine W.objInit C.1 C.2.1 C.2.2.2.1 (hts _ mX0_init_ol) (hts _ mX0_init_oi) (hts _ mX0_init_oc) rfl (by rw [hml]; exact hl.1) rfl dX0_init_1 (Nat.le_of_ble_eq_true rfl) (Nat.le_of_ble_eq_true rfl) ?_
  refine W.eq (g2 := F0 m 4 ls []) rfl ?_
  refine lv_aload_n C.1 C.2.1 dX0_init_4 rfl (lv_at hl 0 rfl) ?_
  refine lv_bipush (v := 43) C.1 C.2.1 dX0_init_5 (by decide) ?_
  refine va_newa (atype := .int) (ty := .int) (n := 43) (N' := 43) (a0 := (43, .inl (fun _ => 0))) C.1 C.2.1 (hts _ mX0_init_acint) rfl C.2.2.2.2.2.1 hP hD hS hA (fun cA => by rw [vp_cell_i]; rfl) (by decide) (by decide) (by decide) (Nat.le_of_ble_eq_true rfl) (Nat.le_of_ble_eq_true rfl) dX0_init_7 (fun q7 cA H hK2 hP hD hS => ?_)
  have ec := kc_same 0 (fun C h => by cases h) rfl hK2
  subst ec
  have hP : va_P D vwCl [(h0, .inr (0, [.null, .null, .null, .int 0])), (q7, .inl (cy 0, 43, .inl (fun _ => 0)))] H := hP
  have hD : va_D A [(h0, .inr (0, [.null, .null, .null, .int 0])), (q7, .inl (cy 0, 43, .inl (fun _ => 0)))] := hD
  refine W.widen (k := 1) (n := 43) (Nat.le_of_ble_eq_true rfl) (Nat.le_of_ble_eq_true rfl) ?_
  refine va_putF (D := D) (ci := 0) (v := .ref q7) (ty := .array .int) (C := RX0) (T := TX0) (N := 4) C.1 C.2.1 hts kX0_init_0 tyX0 tyX0_ok nmX0 C.2.2.2.1 C.2.2.2.2.2.1 hP hD hS 0 rfl rfl 1 (by decide) (hts _ mX0_init_11) (fun _ h9 => h9) rfl hin rfl (by decide +kernel) rfl rfl (Nat.le_of_ble_eq_true rfl) dX0_init_9 (fun H locs hP hD hS => ?_)
  have hP : va_P D vwCl ([(h0, .inr (0, [.null, .ref q7, .null, .int 0])), (q7, .inl (cy 0, 43, .inl (fun _ => 0)))] ++ va_pl [] (fun _ => .inl (cy 0, 0, .inl (fun _ => 0)))) H := hP
  have hD : va_D A ([(h0, .inr (0, [.null, .ref q7, .null, .int 0])), (q7, .inl (cy 0, 43, .inl (fun _ => 0)))] ++ va_pl [] (fun _ => .inl (cy 0, 0, .inl (fun _ => 0)))) := hD
  refine lv_aload_n C.1 C.2.1 dX0_init_12 rfl (lv_at hl 0 rfl) ?_
  refine lv_bipush (v := 43) C.1 C.2.1 dX0_init_13 (by decide) ?_
  refine lv_bipush (v := 40) C.1 C.2.1 dX0_init_15 (by decide) ?_
  refine va_mna (ty := .int) (cy := cy 0) (n := 43) (k := 40) (N' := 43) (K' := 40) (z := (40, .inl (fun _ => 0))) C.1 C.2.1 C.2.2.2.1 (hts _ mX0_init_cl) hao (hts _ mX0_init_acint) (C.2.2.2.2.2.1.2 0 (cy 0, .int) rfl).2 C.2.2.2.2.2.1 hP hD hS hA (by decide) (by decide) (by decide) (by decide) (by decide) (by decide) (by decide) rfl rfl (Nat.le_of_ble_eq_true rfl) (Nat.le_of_ble_eq_true rfl) (fun cA => by rw [vp_cell_i]; rfl) dX0_init_17 (fun q17 r cA H hr1 hr2 hK2 hP hD hS => ?_)
  have ec := kc_same 4 (fun C h => by cases h) rfl hK2
  subst ec
  rw [rows_eq] at hP hD
  refine W.widen (k := 45) (n := 1806) (Nat.le_of_ble_eq_true rfl) (Nat.le_of_ble_eq_true rfl) ?_
  refine va_putF (D := D) (ci := 0) (v := .ref q17) (ty := .array (.array .int)) (C := RX0) (T := TX0) (N := 4) C.1 C.2.1 hts kX0_init_0 tyX0 tyX0_ok nmX0 C.2.2.2.1 C.2.2.2.2.2.1 hP hD hS 0 rfl rfl 2 (by decide) (hts _ mX0_init_17) (fun _ h9 => h9) rfl hin rfl (by decide +kernel) rfl rfl (Nat.le_of_ble_eq_true rfl) dX0_init_21 (fun H locs hP hD hS => ?_)
  refine lv_aload_n C.1 C.2.1 dX0_init_24 rfl (lv_at hl 0 rfl) ?_
  refine lv_aload_n C.1 C.2.1 dX0_init_25 rfl (lv_at hl 1 rfl) ?_
  refine va_putF (D := D) (ci := 0) (v := .ref p1) (ty := .object "SharedLambda$Graph") (C := RX0) (T := TX0) (N := 4) C.1 C.2.1 hts kX0_init_0 tyX0 tyX0_ok nmX0 C.2.2.2.1 C.2.2.2.2.2.1 hP hD hS 0 rfl rfl 0 (by decide) (hts _ mX0_init_20) (fun _ h9 => h9) rfl hin rfl (by decide +kernel) rfl rfl (Nat.le_of_ble_eq_true rfl) dX0_init_26 (fun H locs hP hD hS => ?_)
  have hP9 : va_P D vwCl (wI0 cy h0 p1 (fun n => if n = 1 then q7 else q17) r) H := hP
  have hD9 : va_D A (wI0 cy h0 p1 (fun n => if n = 1 then q7 else q17) r) := hD
  exact W.vret C.1 C.2.1 hr (fun t ht hw => ⟨⟨(_, _), rfl, trivial, by rw [ht]; exact hP9, va_K.moved hw.alike C.2.2.2.2.2.1, hD9, NW.warm hw C.2.2.2.2.2.2⟩, hS.F ht⟩) hS.2.2 dX0_init_29 hlocks
