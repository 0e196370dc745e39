def fX7_portOf (p0 : Int32) (p1 : Int32) : Option Int32 :=
  some (((p0 * (4 : Int32)) + p1))
set_option maxHeartbeats 4000000 in
set_option maxRecDepth 100000 in
theorem cX7_portOf_met (l : Launch) (p0 : Int32) (p1 : Int32) (v1 : Int32) (hf : fX7_portOf p0 p1 = some v1) : MetS l yX7_portOf wsX7_portOf ({ frames := 0, cells := 0, slots := 0, locals := 0 } : Room) [.int p0, .int p1] v1 := by
  refine Met.ofW (cc := cX7_portOf) (maxL := 2) (ret := (some .int)) (by decide) rfl ?_
  intro p e s m args below meth c s₁ B hml hv
  obtain ⟨rfl, -⟩ := hv
  have hlocks := B.notSynchronized
  have hr := B.returns
  have C : p.tables.exec = Jvm.exec ∧ c.code = cX7_portOf ∧ True := ⟨B.exec, B.bytes, trivial⟩
  have hl := lv_entry ([.int p0, .int p1]) (n := 2) (Nat.le_of_ble_eq_true rfl)
  rw [lg_entry_eq]
  generalize (lg_sl ([.int p0, .int p1]) ++ List.replicate (2 - (lg_sl ([.int p0, .int p1])).length) Slot.unset).toArray = ls at hl ⊢
  have hl : lv_has ls 2 [(0, .int p0), (1, .int p1)] := hl
  unfold fX7_portOf at hf
  refine lv_iload_n C.1 C.2.1 dX7_portOf_0 rfl (lv_at hl 0 rfl) ?_
  refine lv_iconst (v := 4) C.1 C.2.1 dX7_portOf_1 (by decide) ?_
  refine lv_imul C.1 C.2.1 dX7_portOf_2 ?_
  refine lv_iload_n C.1 C.2.1 dX7_portOf_3 rfl (lv_at hl 1 rfl) ?_
  refine lv_iadd C.1 C.2.1 dX7_portOf_4 ?_
  exact mrS C.1 C.2.1 hr hlocks rfl hf rfl dX7_portOf_5
def fX7_nodeAt (p0 : Int32) : Option Int32 :=
  some ((p0 >>> ((2 : Int32) &&& 31)))
set_option maxHeartbeats 4000000 in
set_option maxRecDepth 100000 in
theorem cX7_nodeAt_met (l : Launch) (p0 : Int32) (v1 : Int32) (hf : fX7_nodeAt p0 = some v1) : MetS l yX7_nodeAt wsX7_nodeAt ({ frames := 0, cells := 0, slots := 0, locals := 0 } : Room) [.int p0] v1 := by
  refine Met.ofW (cc := cX7_nodeAt) (maxL := 1) (ret := (some .int)) (by decide) rfl ?_
  intro p e s m args below meth c s₁ B hml hv
  obtain ⟨rfl, -⟩ := hv
  have hlocks := B.notSynchronized
  have hr := B.returns
  have C : p.tables.exec = Jvm.exec ∧ c.code = cX7_nodeAt ∧ True := ⟨B.exec, B.bytes, trivial⟩
  have hl := lv_entry ([.int p0]) (n := 1) (Nat.le_of_ble_eq_true rfl)
  rw [lg_entry_eq]
  generalize (lg_sl ([.int p0]) ++ List.replicate (1 - (lg_sl ([.int p0])).length) Slot.unset).toArray = ls at hl ⊢
  have hl : lv_has ls 1 [(0, .int p0)] := hl
  unfold fX7_nodeAt at hf
  refine lv_iload_n C.1 C.2.1 dX7_nodeAt_0 rfl (lv_at hl 0 rfl) ?_
  refine lv_iconst (v := 2) C.1 C.2.1 dX7_nodeAt_1 (by decide) ?_
  refine lv_ishr C.1 C.2.1 dX7_nodeAt_2 ?_
  exact mrS C.1 C.2.1 hr hlocks rfl hf rfl dX7_nodeAt_3
def fX7_whichAt (p0 : Int32) : Option Int32 :=
  some ((p0 &&& (3 : Int32)))
set_option maxHeartbeats 4000000 in
set_option maxRecDepth 100000 in
theorem cX7_whichAt_met (l : Launch) (p0 : Int32) (v1 : Int32) (hf : fX7_whichAt p0 = some v1) : MetS l yX7_whichAt wsX7_whichAt ({ frames := 0, cells := 0, slots := 0, locals := 0 } : Room) [.int p0] v1 := by
  refine Met.ofW (cc := cX7_whichAt) (maxL := 1) (ret := (some .int)) (by decide) rfl ?_
  intro p e s m args below meth c s₁ B hml hv
  obtain ⟨rfl, -⟩ := hv
  have hlocks := B.notSynchronized
  have hr := B.returns
  have C : p.tables.exec = Jvm.exec ∧ c.code = cX7_whichAt ∧ True := ⟨B.exec, B.bytes, trivial⟩
  have hl := lv_entry ([.int p0]) (n := 1) (Nat.le_of_ble_eq_true rfl)
  rw [lg_entry_eq]
  generalize (lg_sl ([.int p0]) ++ List.replicate (1 - (lg_sl ([.int p0])).length) Slot.unset).toArray = ls at hl ⊢
  have hl : lv_has ls 1 [(0, .int p0)] := hl
  unfold fX7_whichAt at hf
  refine lv_iload_n C.1 C.2.1 dX7_whichAt_0 rfl (lv_at hl 0 rfl) ?_
  refine lv_iconst (v := 3) C.1 C.2.1 dX7_whichAt_1 (by decide) ?_
  refine lv_iand C.1 C.2.1 dX7_whichAt_2 ?_
  exact mrS C.1 C.2.1 hr hlocks rfl hf rfl dX7_whichAt_3
def fX7_isControl (p0 : Int32) : Option Int32 :=
  if p0 = (2 : Int32) then
    some (1 : Int32)
  else
    if p0 = (3 : Int32) then
      some (1 : Int32)
    else
      if p0 = (4 : Int32) then
        some (1 : Int32)
      else
        some (0 : Int32)
set_option maxHeartbeats 4000000 in
set_option maxRecDepth 100000 in
theorem cX7_isControl_met (l : Launch) (p0 : Int32) (v1 : Int32) (hf : fX7_isControl p0 = some v1) : MetS l yX7_isControl wsX7_isControl ({ frames := 0, cells := 0, slots := 0, locals := 0 } : Room) [.int p0] v1 := by
  refine Met.ofW (cc := cX7_isControl) (maxL := 1) (ret := (some .boolean)) (by decide) rfl ?_
  intro p e s m args below meth c s₁ B hml hv
  obtain ⟨rfl, -⟩ := hv
  have hlocks := B.notSynchronized
  have hr := B.returns
  have C : p.tables.exec = Jvm.exec ∧ c.code = cX7_isControl ∧ True := ⟨B.exec, B.bytes, trivial⟩
  have hl := lv_entry ([.int p0]) (n := 1) (Nat.le_of_ble_eq_true rfl)
  rw [lg_entry_eq]
  generalize (lg_sl ([.int p0]) ++ List.replicate (1 - (lg_sl ([.int p0])).length) Slot.unset).toArray = ls at hl ⊢
  have hl : lv_has ls 1 [(0, .int p0)] := hl
  unfold fX7_isControl at hf
  refine lv_iload_n C.1 C.2.1 dX7_isControl_0 rfl (lv_at hl 0 rfl) ?_
  refine lv_iconst (v := 2) C.1 C.2.1 dX7_isControl_1 (by decide) ?_
  refine lv_icmp_eq (tgt := 15) C.1 C.2.1 dX7_isControl_2 (by decide) (fun q1 => ?_) (fun q1 => ?_)
  · replace hf := (if_pos q1).symm.trans hf
    refine lv_iconst (v := 1) C.1 C.2.1 dX7_isControl_15 (by decide) ?_
    refine lv_goto (tgt := 20) C.1 C.2.1 dX7_isControl_16 (by decide) ?_
    exact mrS C.1 C.2.1 hr hlocks rfl hf rfl dX7_isControl_20
  · replace hf := (if_neg q1).symm.trans hf
    refine lv_iload_n C.1 C.2.1 dX7_isControl_5 rfl (lv_at hl 0 rfl) ?_
    refine lv_iconst (v := 3) C.1 C.2.1 dX7_isControl_6 (by decide) ?_
    refine lv_icmp_eq (tgt := 15) C.1 C.2.1 dX7_isControl_7 (by decide) (fun q2 => ?_) (fun q2 => ?_)
    · replace hf := (if_pos q2).symm.trans hf
      refine lv_iconst (v := 1) C.1 C.2.1 dX7_isControl_15 (by decide) ?_
      refine lv_goto (tgt := 20) C.1 C.2.1 dX7_isControl_16 (by decide) ?_
      exact mrS C.1 C.2.1 hr hlocks rfl hf rfl dX7_isControl_20
    · replace hf := (if_neg q2).symm.trans hf
      refine lv_iload_n C.1 C.2.1 dX7_isControl_10 rfl (lv_at hl 0 rfl) ?_
      refine lv_iconst (v := 4) C.1 C.2.1 dX7_isControl_11 (by decide) ?_
      refine lv_icmp_ne (tgt := 19) C.1 C.2.1 dX7_isControl_12 (by decide) (fun q3 => ?_) (fun q3 => ?_)
      · replace hf := (if_neg q3).symm.trans hf
        refine lv_iconst (v := 0) C.1 C.2.1 dX7_isControl_19 (by decide) ?_
        exact mrS C.1 C.2.1 hr hlocks rfl hf rfl dX7_isControl_20
      · replace hf := (if_pos q3).symm.trans hf
        refine lv_iconst (v := 1) C.1 C.2.1 dX7_isControl_15 (by decide) ?_
        refine lv_goto (tgt := 20) C.1 C.2.1 dX7_isControl_16 (by decide) ?_
        exact mrS C.1 C.2.1 hr hlocks rfl hf rfl dX7_isControl_20
def fX7_otherPorts (p0 : Int32) : Option Int32 :=
  if p0 = 0 then
    some (2 : Int32)
  else
    if p0 = 1 then
      some (2 : Int32)
    else
      if p0 = 2 then
        some (2 : Int32)
      else
        if p0 = 3 then
          some (1 : Int32)
        else
          if p0 = 4 then
            some (1 : Int32)
          else
            some (0 : Int32)
set_option maxHeartbeats 4000000 in
set_option maxRecDepth 100000 in
theorem cX7_otherPorts_met (l : Launch) (p0 : Int32) (v1 : Int32) (hf : fX7_otherPorts p0 = some v1) : MetS l yX7_otherPorts wsX7_otherPorts ({ frames := 0, cells := 0, slots := 0, locals := 0 } : Room) [.int p0] v1 := by
  refine Met.ofW (cc := cX7_otherPorts) (maxL := 1) (ret := (some .int)) (by decide) rfl ?_
  intro p e s m args below meth c s₁ B hml hv
  obtain ⟨rfl, -⟩ := hv
  have hlocks := B.notSynchronized
  have hr := B.returns
  have C : p.tables.exec = Jvm.exec ∧ c.code = cX7_otherPorts ∧ True := ⟨B.exec, B.bytes, trivial⟩
  have hl := lv_entry ([.int p0]) (n := 1) (Nat.le_of_ble_eq_true rfl)
  rw [lg_entry_eq]
  generalize (lg_sl ([.int p0]) ++ List.replicate (1 - (lg_sl ([.int p0])).length) Slot.unset).toArray = ls at hl ⊢
  have hl : lv_has ls 1 [(0, .int p0)] := hl
  unfold fX7_otherPorts at hf
  refine lv_iload_n C.1 C.2.1 dX7_otherPorts_0 rfl (lv_at hl 0 rfl) ?_
  by_cases q1 : p0 = 0
  · refine lv_tableIn (tgt := 36) C.1 C.2.1 dX7_otherPorts_1 (by rw [q1]; decide) (by rw [q1]; decide) (by rw [q1]; rfl) (by decide) ?_
    replace hf := (if_pos q1).symm.trans hf
    refine lv_iconst (v := 2) C.1 C.2.1 dX7_otherPorts_36 (by decide) ?_
    exact mrS C.1 C.2.1 hr hlocks rfl hf rfl dX7_otherPorts_37
  · replace hf := (if_neg q1).symm.trans hf
    by_cases q2 : p0 = 1
    · refine lv_tableIn (tgt := 36) C.1 C.2.1 dX7_otherPorts_1 (by rw [q2]; decide) (by rw [q2]; decide) (by rw [q2]; rfl) (by decide) ?_
      replace hf := (if_pos q2).symm.trans hf
      refine lv_iconst (v := 2) C.1 C.2.1 dX7_otherPorts_36 (by decide) ?_
      exact mrS C.1 C.2.1 hr hlocks rfl hf rfl dX7_otherPorts_37
    · replace hf := (if_neg q2).symm.trans hf
      by_cases q3 : p0 = 2
      · refine lv_tableIn (tgt := 36) C.1 C.2.1 dX7_otherPorts_1 (by rw [q3]; decide) (by rw [q3]; decide) (by rw [q3]; rfl) (by decide) ?_
        replace hf := (if_pos q3).symm.trans hf
        refine lv_iconst (v := 2) C.1 C.2.1 dX7_otherPorts_36 (by decide) ?_
        exact mrS C.1 C.2.1 hr hlocks rfl hf rfl dX7_otherPorts_37
      · replace hf := (if_neg q3).symm.trans hf
        by_cases q4 : p0 = 3
        · refine lv_tableIn (tgt := 38) C.1 C.2.1 dX7_otherPorts_1 (by rw [q4]; decide) (by rw [q4]; decide) (by rw [q4]; rfl) (by decide) ?_
          replace hf := (if_pos q4).symm.trans hf
          refine lv_iconst (v := 1) C.1 C.2.1 dX7_otherPorts_38 (by decide) ?_
          exact mrS C.1 C.2.1 hr hlocks rfl hf rfl dX7_otherPorts_39
        · replace hf := (if_neg q4).symm.trans hf
          by_cases q5 : p0 = 4
          · refine lv_tableIn (tgt := 38) C.1 C.2.1 dX7_otherPorts_1 (by rw [q5]; decide) (by rw [q5]; decide) (by rw [q5]; rfl) (by decide) ?_
            replace hf := (if_pos q5).symm.trans hf
            refine lv_iconst (v := 1) C.1 C.2.1 dX7_otherPorts_38 (by decide) ?_
            exact mrS C.1 C.2.1 hr hlocks rfl hf rfl dX7_otherPorts_39
          · replace hf := (if_neg q5).symm.trans hf
            refine lv_tableOut (tgt := 40) C.1 C.2.1 dX7_otherPorts_1 (tb_out 5 (by decide) (fun j hj => ?_)) (by decide) ?_
            · rcases (show j = 0 ∨ j = 1 ∨ j = 2 ∨ j = 3 ∨ j = 4 by omega) with rfl | rfl | rfl | rfl | rfl
              · exact q1
              · exact q2
              · exact q3
              · exact q4
              · exact q5
            · skip
              refine lv_iconst (v := 0) C.1 C.2.1 dX7_otherPorts_40 (by decide) ?_
              exact mrS C.1 C.2.1 hr hlocks rfl hf rfl dX7_otherPorts_41
theorem mX2_size_34 : Cond.fieldLink RX2 34 "SharedLambda$Graph" "spares" "I" ∈ wsX2_size := by decide +kernel
theorem kX2_size_2 : ∀ w ∈ u_ws RX2 TX2 10, w ∈ wsX2_size := fun _ h => List.mem_cons_of_mem _ (List.mem_append_right _ h)
def fX2_size (N : Nat) (S : St) : Option (Int32 × St) :=
  some (((3002 : Int32) - S.1 44), S)
set_option maxHeartbeats 4000000 in
set_option maxRecDepth 100000 in
theorem cX2_size_met (l : Launch) (D : va_G) (cy : Nat → ClassId) (a r : Nat → Nat) (sz N : Nat) (S : St) (Rr : Int32 × St) (hf : fX2_size N S  = some Rr) : Met l yX2_size wsX2_size ({ frames := 0, cells := 0, slots := 0, locals := 0 } : Room) (va_Pc [.ref (a 59)] (preW D cy (wC cy a r S) sz)) (QI D cy (wC cy a r) (va_A (wC cy a r S) sz) Rr) 0 0 (va_A (wC cy a r S) sz) := by
  refine Met.ofW (cc := cX2_size) (maxL := 1) (ret := (some .int)) (by decide) rfl ?_
  intro p e s m args below meth c s₁ B hml hv
  obtain ⟨rfl, rfl, hP, hK, hD0, hN⟩ := hv
  have hlocks := B.notSynchronized
  have hr := B.returns
  have C : Cx p s m _ c cX2_size 1 wsX2_size RX2 D cy := ⟨B.exec, B.bytes, hml, findClass_of_methodNamed B.named, atoms_spec (ws := wsX2_size) B.pre, hK, hN⟩
  have hW := ww_start (w := wC cy a r) hP hD0
  generalize va_A (wC cy a r S) s.heap.size = A at hW ⊢
  have hl := lv_entry ([.ref (a 59)]) (n := 1) (Nat.le_of_ble_eq_true rfl)
  rw [lg_entry_eq]
  generalize (lg_sl ([.ref (a 59)]) ++ List.replicate (1 - (lg_sl ([.ref (a 59)])).length) Slot.unset).toArray = ls at hl ⊢
  have hl : lv_has ls 1 [(0, .ref (a 59))] := hl
  unfold fX2_size at hf
  refine lv_sipush (v := 3002) C.1 C.2.1 dX2_size_0 (by decide) ?_
  refine lv_aload_n C.1 C.2.1 dX2_size_3 rfl (lv_at hl 0 rfl) ?_
  refine fg_2_4 C kX2_size_2 mX2_size_34 hW dX2_size_4 ?_
  refine lv_isub C.1 C.2.1 dX2_size_7 ?_
  exact mrI C hr hlocks rfl hf hW dX2_size_8
theorem mX2_erasedNodes_41 : Cond.fieldLink RX2 41 "SharedLambda$Graph" "erased" "I" ∈ wsX2_erasedNodes := by decide +kernel
theorem kX2_erasedNodes_2 : ∀ w ∈ u_ws RX2 TX2 10, w ∈ wsX2_erasedNodes := fun _ h => List.mem_cons_of_mem _ (List.mem_append_right _ h)
def fX2_erasedNodes (N : Nat) (S : St) : Option (Int32 × St) :=
  some (S.1 49, S)
set_option maxHeartbeats 4000000 in
set_option maxRecDepth 100000 in
theorem cX2_erasedNodes_met (l : Launch) (D : va_G) (cy : Nat → ClassId) (a r : Nat → Nat) (sz N : Nat) (S : St) (Rr : Int32 × St) (hf : fX2_erasedNodes N S  = some Rr) : Met l yX2_erasedNodes wsX2_erasedNodes ({ frames := 0, cells := 0, slots := 0, locals := 0 } : Room) (va_Pc [.ref (a 59)] (preW D cy (wC cy a r S) sz)) (QI D cy (wC cy a r) (va_A (wC cy a r S) sz) Rr) 0 0 (va_A (wC cy a r S) sz) := by
  refine Met.ofW (cc := cX2_erasedNodes) (maxL := 1) (ret := (some .int)) (by decide) rfl ?_
  intro p e s m args below meth c s₁ B hml hv
  obtain ⟨rfl, rfl, hP, hK, hD0, hN⟩ := hv
  have hlocks := B.notSynchronized
  have hr := B.returns
  have C : Cx p s m _ c cX2_erasedNodes 1 wsX2_erasedNodes RX2 D cy := ⟨B.exec, B.bytes, hml, findClass_of_methodNamed B.named, atoms_spec (ws := wsX2_erasedNodes) B.pre, hK, hN⟩
  have hW := ww_start (w := wC cy a r) hP hD0
  generalize va_A (wC cy a r S) s.heap.size = A at hW ⊢
  have hl := lv_entry ([.ref (a 59)]) (n := 1) (Nat.le_of_ble_eq_true rfl)
  rw [lg_entry_eq]
  generalize (lg_sl ([.ref (a 59)]) ++ List.replicate (1 - (lg_sl ([.ref (a 59)])).length) Slot.unset).toArray = ls at hl ⊢
  have hl : lv_has ls 1 [(0, .ref (a 59))] := hl
  unfold fX2_erasedNodes at hf
  refine lv_aload_n C.1 C.2.1 dX2_erasedNodes_0 rfl (lv_at hl 0 rfl) ?_
  refine fg_2_9 C kX2_erasedNodes_2 mX2_erasedNodes_41 hW dX2_erasedNodes_1 ?_
  exact mrI C hr hlocks rfl hf hW dX2_erasedNodes_4
theorem mX2_population_24 : Cond.fieldLink RX2 24 "SharedLambda$Graph" "populations" "[I" ∈ wsX2_population := by decide +kernel
theorem kX2_population_2 : ∀ w ∈ u_ws RX2 TX2 10, w ∈ wsX2_population := fun _ h => List.mem_cons_of_mem _ (List.mem_append_right _ h)
def fX2_population (N : Nat) (S : St) (p1 : Int32) : Option (Int32 × St) :=
  if p1 < 0 then
    some ((0 : Int32), S)
  else
    if (7 : Int32) ≤ p1 then
      some ((0 : Int32), S)
    else
      ckx p1 7 <|
      some (S.2.1 45 (p1 : Int32).toNatClampNeg, S)
set_option maxHeartbeats 4000000 in
set_option maxRecDepth 100000 in
theorem cX2_population_met (l : Launch) (D : va_G) (cy : Nat → ClassId) (a r : Nat → Nat) (sz N : Nat) (S : St) (p1 : Int32) (Rr : Int32 × St) (hf : fX2_population N S p1 = some Rr) : Met l yX2_population wsX2_population ({ frames := 0, cells := 0, slots := 0, locals := 0 } : Room) (va_Pc [.ref (a 59), .int p1] (preW D cy (wC cy a r S) sz)) (QI D cy (wC cy a r) (va_A (wC cy a r S) sz) Rr) 0 0 (va_A (wC cy a r S) sz) := by
  refine Met.ofW (cc := cX2_population) (maxL := 2) (ret := (some .int)) (by decide) rfl ?_
  intro p e s m args below meth c s₁ B hml hv
  obtain ⟨rfl, rfl, hP, hK, hD0, hN⟩ := hv
  have hlocks := B.notSynchronized
  have hr := B.returns
  have C : Cx p s m _ c cX2_population 2 wsX2_population RX2 D cy := ⟨B.exec, B.bytes, hml, findClass_of_methodNamed B.named, atoms_spec (ws := wsX2_population) B.pre, hK, hN⟩
  have hW := ww_start (w := wC cy a r) hP hD0
  generalize va_A (wC cy a r S) s.heap.size = A at hW ⊢
  have hl := lv_entry ([.ref (a 59), .int p1]) (n := 2) (Nat.le_of_ble_eq_true rfl)
  rw [lg_entry_eq]
  generalize (lg_sl ([.ref (a 59), .int p1]) ++ List.replicate (2 - (lg_sl ([.ref (a 59), .int p1])).length) Slot.unset).toArray = ls at hl ⊢
  have hl : lv_has ls 2 [(0, .ref (a 59)), (1, .int p1)] := hl
  unfold fX2_population at hf
  refine lv_iload_n C.1 C.2.1 dX2_population_0 rfl (lv_at hl 1 rfl) ?_
  refine lv_if_lt (tgt := 19) C.1 C.2.1 dX2_population_1 (by decide) (fun q1 => ?_) (fun q1 => ?_)
  · replace hf := (if_pos q1).symm.trans hf
    refine lv_iconst (v := 0) C.1 C.2.1 dX2_population_19 (by decide) ?_
    exact mrI C hr hlocks rfl hf hW dX2_population_20
  · replace hf := (if_neg q1).symm.trans hf
    refine lv_iload_n C.1 C.2.1 dX2_population_4 rfl (lv_at hl 1 rfl) ?_
    refine lv_bipush (v := 7) C.1 C.2.1 dX2_population_5 (by decide) ?_
    refine lv_icmp_ge (tgt := 19) C.1 C.2.1 dX2_population_7 (by decide) (fun q2 => ?_) (fun q2 => ?_)
    · replace hf := (if_pos q2).symm.trans hf
      refine lv_iconst (v := 0) C.1 C.2.1 dX2_population_19 (by decide) ?_
      exact mrI C hr hlocks rfl hf hW dX2_population_20
    · replace hf := (if_neg q2).symm.trans hf
      refine lv_aload_n C.1 C.2.1 dX2_population_10 rfl (lv_at hl 0 rfl) ?_
      refine fg_2_5 C kX2_population_2 mX2_population_24 hW dX2_population_11 ?_
      refine lv_iload_n C.1 C.2.1 dX2_population_14 rfl (lv_at hl 1 rfl) ?_
      obtain ⟨h3, hf⟩ := ckx_el hf
      refine al_2_5 C hW h3 dX2_population_15 ?_
      refine lv_goto (tgt := 20) C.1 C.2.1 dX2_population_16 (by decide) ?_
      exact mrI C hr hlocks rfl hf hW dX2_population_20
theorem mX2_kindOf_11 : Cond.fieldLink RX2 11 "SharedLambda$Graph" "kinds" "[I" ∈ wsX2_kindOf := by decide +kernel
theorem kX2_kindOf_2 : ∀ w ∈ u_ws RX2 TX2 10, w ∈ wsX2_kindOf := fun _ h => List.mem_cons_of_mem _ (List.mem_append_right _ h)
def fX2_kindOf (N : Nat) (S : St) (p1 : Int32) : Option (Int32 × St) :=
  if p1 < 0 then
    some ((-1 : Int32), S)
  else
    if (3002 : Int32) ≤ p1 then
      some ((-1 : Int32), S)
    else
      ckx p1 3002 <|
      some (S.2.1 40 (p1 : Int32).toNatClampNeg, S)
set_option maxHeartbeats 4000000 in
set_option maxRecDepth 100000 in
theorem cX2_kindOf_met (l : Launch) (D : va_G) (cy : Nat → ClassId) (a r : Nat → Nat) (sz N : Nat) (S : St) (p1 : Int32) (Rr : Int32 × St) (hf : fX2_kindOf N S p1 = some Rr) : Met l yX2_kindOf wsX2_kindOf ({ frames := 0, cells := 0, slots := 0, locals := 0 } : Room) (va_Pc [.ref (a 59), .int p1] (preW D cy (wC cy a r S) sz)) (QI D cy (wC cy a r) (va_A (wC cy a r S) sz) Rr) 0 0 (va_A (wC cy a r S) sz) := by
  refine Met.ofW (cc := cX2_kindOf) (maxL := 2) (ret := (some .int)) (by decide) rfl ?_
  intro p e s m args below meth c s₁ B hml hv
  obtain ⟨rfl, rfl, hP, hK, hD0, hN⟩ := hv
  have hlocks := B.notSynchronized
  have hr := B.returns
  have C : Cx p s m _ c cX2_kindOf 2 wsX2_kindOf RX2 D cy := ⟨B.exec, B.bytes, hml, findClass_of_methodNamed B.named, atoms_spec (ws := wsX2_kindOf) B.pre, hK, hN⟩
  have hW := ww_start (w := wC cy a r) hP hD0
  generalize va_A (wC cy a r S) s.heap.size = A at hW ⊢
  have hl := lv_entry ([.ref (a 59), .int p1]) (n := 2) (Nat.le_of_ble_eq_true rfl)
  rw [lg_entry_eq]
  generalize (lg_sl ([.ref (a 59), .int p1]) ++ List.replicate (2 - (lg_sl ([.ref (a 59), .int p1])).length) Slot.unset).toArray = ls at hl ⊢
  have hl : lv_has ls 2 [(0, .ref (a 59)), (1, .int p1)] := hl
  unfold fX2_kindOf at hf
  refine lv_iload_n C.1 C.2.1 dX2_kindOf_0 rfl (lv_at hl 1 rfl) ?_
  refine lv_if_lt (tgt := 20) C.1 C.2.1 dX2_kindOf_1 (by decide) (fun q1 => ?_) (fun q1 => ?_)
  · replace hf := (if_pos q1).symm.trans hf
    refine lv_iconst (v := -1) C.1 C.2.1 dX2_kindOf_20 (by decide) ?_
    exact mrI C hr hlocks rfl hf hW dX2_kindOf_21
  · replace hf := (if_neg q1).symm.trans hf
    refine lv_iload_n C.1 C.2.1 dX2_kindOf_4 rfl (lv_at hl 1 rfl) ?_
    refine lv_sipush (v := 3002) C.1 C.2.1 dX2_kindOf_5 (by decide) ?_
    refine lv_icmp_ge (tgt := 20) C.1 C.2.1 dX2_kindOf_8 (by decide) (fun q2 => ?_) (fun q2 => ?_)
    · replace hf := (if_pos q2).symm.trans hf
      refine lv_iconst (v := -1) C.1 C.2.1 dX2_kindOf_20 (by decide) ?_
      exact mrI C hr hlocks rfl hf hW dX2_kindOf_21
    · replace hf := (if_neg q2).symm.trans hf
      refine lv_aload_n C.1 C.2.1 dX2_kindOf_11 rfl (lv_at hl 0 rfl) ?_
      refine fg_2_0 C kX2_kindOf_2 mX2_kindOf_11 hW dX2_kindOf_12 ?_
      refine lv_iload_n C.1 C.2.1 dX2_kindOf_15 rfl (lv_at hl 1 rfl) ?_
      obtain ⟨h3, hf⟩ := ckx_el hf
      refine al_2_0 C hW h3 dX2_kindOf_16 ?_
      refine lv_goto (tgt := 21) C.1 C.2.1 dX2_kindOf_17 (by decide) ?_
      exact mrI C hr hlocks rfl hf hW dX2_kindOf_21
theorem mX2_indexOf_15 : Cond.fieldLink RX2 15 "SharedLambda$Graph" "indexes" "[I" ∈ wsX2_indexOf := by decide +kernel
theorem kX2_indexOf_2 : ∀ w ∈ u_ws RX2 TX2 10, w ∈ wsX2_indexOf := fun _ h => List.mem_cons_of_mem _ (List.mem_append_right _ h)
def fX2_indexOf (N : Nat) (S : St) (p1 : Int32) : Option (Int32 × St) :=
  if p1 < 0 then
    some ((-1 : Int32), S)
  else
    if (3002 : Int32) ≤ p1 then
      some ((-1 : Int32), S)
    else
      ckx p1 3002 <|
      some (S.2.1 41 (p1 : Int32).toNatClampNeg, S)
set_option maxHeartbeats 4000000 in
set_option maxRecDepth 100000 in
theorem cX2_indexOf_met (l : Launch) (D : va_G) (cy : Nat → ClassId) (a r : Nat → Nat) (sz N : Nat) (S : St) (p1 : Int32) (Rr : Int32 × St) (hf : fX2_indexOf N S p1 = some Rr) : Met l yX2_indexOf wsX2_indexOf ({ frames := 0, cells := 0, slots := 0, locals := 0 } : Room) (va_Pc [.ref (a 59), .int p1] (preW D cy (wC cy a r S) sz)) (QI D cy (wC cy a r) (va_A (wC cy a r S) sz) Rr) 0 0 (va_A (wC cy a r S) sz) := by
  refine Met.ofW (cc := cX2_indexOf) (maxL := 2) (ret := (some .int)) (by decide) rfl ?_
  intro p e s m args below meth c s₁ B hml hv
  obtain ⟨rfl, rfl, hP, hK, hD0, hN⟩ := hv
  have hlocks := B.notSynchronized
  have hr := B.returns
  have C : Cx p s m _ c cX2_indexOf 2 wsX2_indexOf RX2 D cy := ⟨B.exec, B.bytes, hml, findClass_of_methodNamed B.named, atoms_spec (ws := wsX2_indexOf) B.pre, hK, hN⟩
  have hW := ww_start (w := wC cy a r) hP hD0
  generalize va_A (wC cy a r S) s.heap.size = A at hW ⊢
  have hl := lv_entry ([.ref (a 59), .int p1]) (n := 2) (Nat.le_of_ble_eq_true rfl)
  rw [lg_entry_eq]
  generalize (lg_sl ([.ref (a 59), .int p1]) ++ List.replicate (2 - (lg_sl ([.ref (a 59), .int p1])).length) Slot.unset).toArray = ls at hl ⊢
  have hl : lv_has ls 2 [(0, .ref (a 59)), (1, .int p1)] := hl
  unfold fX2_indexOf at hf
  refine lv_iload_n C.1 C.2.1 dX2_indexOf_0 rfl (lv_at hl 1 rfl) ?_
  refine lv_if_lt (tgt := 20) C.1 C.2.1 dX2_indexOf_1 (by decide) (fun q1 => ?_) (fun q1 => ?_)
  · replace hf := (if_pos q1).symm.trans hf
    refine lv_iconst (v := -1) C.1 C.2.1 dX2_indexOf_20 (by decide) ?_
    exact mrI C hr hlocks rfl hf hW dX2_indexOf_21
  · replace hf := (if_neg q1).symm.trans hf
    refine lv_iload_n C.1 C.2.1 dX2_indexOf_4 rfl (lv_at hl 1 rfl) ?_
    refine lv_sipush (v := 3002) C.1 C.2.1 dX2_indexOf_5 (by decide) ?_
    refine lv_icmp_ge (tgt := 20) C.1 C.2.1 dX2_indexOf_8 (by decide) (fun q2 => ?_) (fun q2 => ?_)
    · replace hf := (if_pos q2).symm.trans hf
      refine lv_iconst (v := -1) C.1 C.2.1 dX2_indexOf_20 (by decide) ?_
      exact mrI C hr hlocks rfl hf hW dX2_indexOf_21
    · replace hf := (if_neg q2).symm.trans hf
      refine lv_aload_n C.1 C.2.1 dX2_indexOf_11 rfl (lv_at hl 0 rfl) ?_
      refine fg_2_1 C kX2_indexOf_2 mX2_indexOf_15 hW dX2_indexOf_12 ?_
      refine lv_iload_n C.1 C.2.1 dX2_indexOf_15 rfl (lv_at hl 1 rfl) ?_
      obtain ⟨h3, hf⟩ := ckx_el hf
      refine al_2_1 C hW h3 dX2_indexOf_16 ?_
      refine lv_goto (tgt := 21) C.1 C.2.1 dX2_indexOf_17 (by decide) ?_
      exact mrI C hr hlocks rfl hf hW dX2_indexOf_21
theorem mX2_across_18 : Cond.fieldLink RX2 18 "SharedLambda$Graph" "wires" "[I" ∈ wsX2_across := by decide +kernel
theorem kX2_across_2 : ∀ w ∈ u_ws RX2 TX2 10, w ∈ wsX2_across := fun _ h => List.mem_cons_of_mem _ (List.mem_append_right _ h)
def fX2_across (N : Nat) (S : St) (p1 : Int32) : Option (Int32 × St) :=
  if p1 < 0 then
    some ((-1 : Int32), S)
  else
    if (Int32.ofNat 12008) ≤ p1 then
      some ((-1 : Int32), S)
    else
      ckx p1 12008 <|
      some (S.2.1 42 (p1 : Int32).toNatClampNeg, S)
set_option maxHeartbeats 4000000 in
set_option maxRecDepth 100000 in
theorem cX2_across_met (l : Launch) (D : va_G) (cy : Nat → ClassId) (a r : Nat → Nat) (sz N : Nat) (S : St) (p1 : Int32) (Rr : Int32 × St) (hf : fX2_across N S p1 = some Rr) : Met l yX2_across wsX2_across ({ frames := 0, cells := 0, slots := 0, locals := 0 } : Room) (va_Pc [.ref (a 59), .int p1] (preW D cy (wC cy a r S) sz)) (QI D cy (wC cy a r) (va_A (wC cy a r S) sz) Rr) 0 0 (va_A (wC cy a r S) sz) := by
  refine Met.ofW (cc := cX2_across) (maxL := 2) (ret := (some .int)) (by decide) rfl ?_
  intro p e s m args below meth c s₁ B hml hv
  obtain ⟨rfl, rfl, hP, hK, hD0, hN⟩ := hv
  have hlocks := B.notSynchronized
  have hr := B.returns
  have C : Cx p s m _ c cX2_across 2 wsX2_across RX2 D cy := ⟨B.exec, B.bytes, hml, findClass_of_methodNamed B.named, atoms_spec (ws := wsX2_across) B.pre, hK, hN⟩
  have hW := ww_start (w := wC cy a r) hP hD0
  generalize va_A (wC cy a r S) s.heap.size = A at hW ⊢
  have hl := lv_entry ([.ref (a 59), .int p1]) (n := 2) (Nat.le_of_ble_eq_true rfl)
  rw [lg_entry_eq]
  generalize (lg_sl ([.ref (a 59), .int p1]) ++ List.replicate (2 - (lg_sl ([.ref (a 59), .int p1])).length) Slot.unset).toArray = ls at hl ⊢
  have hl : lv_has ls 2 [(0, .ref (a 59)), (1, .int p1)] := hl
  unfold fX2_across at hf
  refine lv_iload_n C.1 C.2.1 dX2_across_0 rfl (lv_at hl 1 rfl) ?_
  refine lv_if_lt (tgt := 22) C.1 C.2.1 dX2_across_1 (by decide) (fun q1 => ?_) (fun q1 => ?_)
  · replace hf := (if_pos q1).symm.trans hf
    refine lv_iconst (v := -1) C.1 C.2.1 dX2_across_22 (by decide) ?_
    exact mrI C hr hlocks rfl hf hW dX2_across_23
  · replace hf := (if_neg q1).symm.trans hf
    refine lv_iload_n C.1 C.2.1 dX2_across_4 rfl (lv_at hl 1 rfl) ?_
    refine lv_aload_n C.1 C.2.1 dX2_across_5 rfl (lv_at hl 0 rfl) ?_
    refine fg_2_2 C kX2_across_2 mX2_across_18 hW dX2_across_6 ?_
    refine an_2_2 C hW dX2_across_9 ?_
    refine lv_icmp_ge (tgt := 22) C.1 C.2.1 dX2_across_10 (by decide) (fun q2 => ?_) (fun q2 => ?_)
    · replace hf := (if_pos q2).symm.trans hf
      refine lv_iconst (v := -1) C.1 C.2.1 dX2_across_22 (by decide) ?_
      exact mrI C hr hlocks rfl hf hW dX2_across_23
    · replace hf := (if_neg q2).symm.trans hf
      refine lv_aload_n C.1 C.2.1 dX2_across_13 rfl (lv_at hl 0 rfl) ?_
      refine fg_2_2 C kX2_across_2 mX2_across_18 hW dX2_across_14 ?_
      refine lv_iload_n C.1 C.2.1 dX2_across_17 rfl (lv_at hl 1 rfl) ?_
      obtain ⟨h3, hf⟩ := ckx_el hf
      refine al_2_2 C hW h3 dX2_across_18 ?_
      refine lv_goto (tgt := 23) C.1 C.2.1 dX2_across_19 (by decide) ?_
      exact mrI C hr hlocks rfl hf hW dX2_across_23
theorem mX2_make_34 : Cond.fieldLink RX2 34 "SharedLambda$Graph" "spares" "I" ∈ wsX2_make := by decide +kernel
theorem mX2_make_21 : Cond.fieldLink RX2 21 "SharedLambda$Graph" "spare" "[I" ∈ wsX2_make := by decide +kernel
theorem mX2_make_11 : Cond.fieldLink RX2 11 "SharedLambda$Graph" "kinds" "[I" ∈ wsX2_make := by decide +kernel
theorem mX2_make_15 : Cond.fieldLink RX2 15 "SharedLambda$Graph" "indexes" "[I" ∈ wsX2_make := by decide +kernel
theorem mX2_make_24 : Cond.fieldLink RX2 24 "SharedLambda$Graph" "populations" "[I" ∈ wsX2_make := by decide +kernel
theorem kX2_make_2 : ∀ w ∈ u_ws RX2 TX2 10, w ∈ wsX2_make := fun _ h => List.mem_cons_of_mem _ (List.mem_append_right _ h)
def fX2_make (N : Nat) (S : St) (p1 : Int32) (p2 : Int32) : Option (Int32 × St) :=
  if S.1 44 < (1 : Int32) then
    some ((-1 : Int32), S)
  else
    if (3002 : Int32) < S.1 44 then
      some ((-1 : Int32), S)
    else
      if p1 < 0 then
        some ((-1 : Int32), S)
      else
        if p1 < (7 : Int32) then
          ckx ((S.1 44 - (1 : Int32))) 3002 <|
          bnd (S.2.1 43 ((S.1 44 - (1 : Int32)) : Int32).toNatClampNeg) fun z6 =>
          if z6 < 0 then
            some ((-1 : Int32), S)
          else
            if z6 < (3002 : Int32) then
              bnd (sI S 44 ((S.1 44 - (1 : Int32)))) fun S9 =>
              ckx z6 3002 <|
              bnd (sA S9 40 (upd (S9.2.1 40) (z6 : Int32).toNatClampNeg p1)) fun S11 =>
              ckx z6 3002 <|
              bnd (sA S11 41 (upd (S11.2.1 41) (z6 : Int32).toNatClampNeg p2)) fun S13 =>
              ckx p1 7 <|
              ckx p1 7 <|
              bnd (sA S13 45 (upd (S13.2.1 45) (p1 : Int32).toNatClampNeg ((S13.2.1 45 (p1 : Int32).toNatClampNeg + (1 : Int32))))) fun S16 =>
              some (z6, S16)
            else
              some ((-1 : Int32), S)
        else
          some ((-1 : Int32), S)
set_option maxHeartbeats 4000000 in
set_option maxRecDepth 100000 in
theorem cX2_make_met (l : Launch) (D : va_G) (cy : Nat → ClassId) (a r : Nat → Nat) (sz N : Nat) (S : St) (p1 : Int32) (p2 : Int32) (Rr : Int32 × St) (hf : fX2_make N S p1 p2 = some Rr) : Met l yX2_make wsX2_make ({ frames := 0, cells := 0, slots := 0, locals := 0 } : Room) (va_Pc [.ref (a 59), .int p1, .int p2] (preW D cy (wC cy a r S) sz)) (QI D cy (wC cy a r) (va_A (wC cy a r S) sz) Rr) 0 0 (va_A (wC cy a r S) sz) := by
  refine Met.ofW (cc := cX2_make) (maxL := 4) (ret := (some .int)) (by decide) rfl ?_
  intro p e s m args below meth c s₁ B hml hv
  obtain ⟨rfl, rfl, hP, hK, hD0, hN⟩ := hv
  have hlocks := B.notSynchronized
  have hr := B.returns
  have C : Cx p s m _ c cX2_make 4 wsX2_make RX2 D cy := ⟨B.exec, B.bytes, hml, findClass_of_methodNamed B.named, atoms_spec (ws := wsX2_make) B.pre, hK, hN⟩
  have hW := ww_start (w := wC cy a r) hP hD0
  generalize va_A (wC cy a r S) s.heap.size = A at hW ⊢
  have hl := lv_entry ([.ref (a 59), .int p1, .int p2]) (n := 4) (Nat.le_of_ble_eq_true rfl)
  rw [lg_entry_eq]
  generalize (lg_sl ([.ref (a 59), .int p1, .int p2]) ++ List.replicate (4 - (lg_sl ([.ref (a 59), .int p1, .int p2])).length) Slot.unset).toArray = ls at hl ⊢
  have hl : lv_has ls 4 [(0, .ref (a 59)), (1, .int p1), (2, .int p2)] := hl
  unfold fX2_make at hf
  refine lv_aload_n C.1 C.2.1 dX2_make_0 rfl (lv_at hl 0 rfl) ?_
  refine fg_2_4 C kX2_make_2 mX2_make_34 hW dX2_make_1 ?_
  refine lv_iconst (v := 1) C.1 C.2.1 dX2_make_4 (by decide) ?_
  refine lv_icmp_lt (tgt := 28) C.1 C.2.1 dX2_make_5 (by decide) (fun q1 => ?_) (fun q1 => ?_)
  · replace hf := (if_pos q1).symm.trans hf
    refine lv_iconst (v := -1) C.1 C.2.1 dX2_make_28 (by decide) ?_
    exact mrI C hr hlocks rfl hf hW dX2_make_29
  · replace hf := (if_neg q1).symm.trans hf
    refine lv_aload_n C.1 C.2.1 dX2_make_8 rfl (lv_at hl 0 rfl) ?_
    refine fg_2_4 C kX2_make_2 mX2_make_34 hW dX2_make_9 ?_
    refine lv_sipush (v := 3002) C.1 C.2.1 dX2_make_12 (by decide) ?_
    refine lv_icmp_gt (tgt := 28) C.1 C.2.1 dX2_make_15 (by decide) (fun q2 => ?_) (fun q2 => ?_)
    · replace hf := (if_pos q2).symm.trans hf
      refine lv_iconst (v := -1) C.1 C.2.1 dX2_make_28 (by decide) ?_
      exact mrI C hr hlocks rfl hf hW dX2_make_29
    · replace hf := (if_neg q2).symm.trans hf
      refine lv_iload_n C.1 C.2.1 dX2_make_18 rfl (lv_at hl 1 rfl) ?_
      refine lv_if_lt (tgt := 28) C.1 C.2.1 dX2_make_19 (by decide) (fun q3 => ?_) (fun q3 => ?_)
      · replace hf := (if_pos q3).symm.trans hf
        refine lv_iconst (v := -1) C.1 C.2.1 dX2_make_28 (by decide) ?_
        exact mrI C hr hlocks rfl hf hW dX2_make_29
      · replace hf := (if_neg q3).symm.trans hf
        refine lv_iload_n C.1 C.2.1 dX2_make_22 rfl (lv_at hl 1 rfl) ?_
        refine lv_bipush (v := 7) C.1 C.2.1 dX2_make_23 (by decide) ?_
        refine lv_icmp_lt (tgt := 30) C.1 C.2.1 dX2_make_25 (by decide) (fun q4 => ?_) (fun q4 => ?_)
        · replace hf := (if_pos q4).symm.trans hf
          refine lv_aload_n C.1 C.2.1 dX2_make_30 rfl (lv_at hl 0 rfl) ?_
          refine fg_2_3 C kX2_make_2 mX2_make_21 hW dX2_make_31 ?_
          refine lv_aload_n C.1 C.2.1 dX2_make_34 rfl (lv_at hl 0 rfl) ?_
          refine fg_2_4 C kX2_make_2 mX2_make_34 hW dX2_make_35 ?_
          refine lv_iconst (v := 1) C.1 C.2.1 dX2_make_38 (by decide) ?_
          refine lv_isub C.1 C.2.1 dX2_make_39 ?_
          obtain ⟨h5, hf⟩ := ckx_el hf
          refine al_2_3 C hW h5 dX2_make_40 ?_
          obtain ⟨z6, ez6, hf⟩ := bnd_el hf
          refine lv_as ez6 ?_
          refine lv_istore_n (lv' := [(3, .int z6), (0, .ref (a 59)), (1, .int p1), (2, .int p2)]) C.1 C.2.1 dX2_make_41 rfl hl (by decide) rfl (fun ls hl => ?_)
          refine lv_iload_n C.1 C.2.1 dX2_make_42 rfl (lv_at hl 0 rfl) ?_
          refine lv_if_lt (tgt := 53) C.1 C.2.1 dX2_make_43 (by decide) (fun q7 => ?_) (fun q7 => ?_)
          · replace hf := (if_pos q7).symm.trans hf
            refine lv_iconst (v := -1) C.1 C.2.1 dX2_make_53 (by decide) ?_
            exact mrI C hr hlocks rfl hf hW dX2_make_54
          · replace hf := (if_neg q7).symm.trans hf
            refine lv_iload_n C.1 C.2.1 dX2_make_46 rfl (lv_at hl 0 rfl) ?_
            refine lv_sipush (v := 3002) C.1 C.2.1 dX2_make_47 (by decide) ?_
            refine lv_icmp_lt (tgt := 55) C.1 C.2.1 dX2_make_50 (by decide) (fun q8 => ?_) (fun q8 => ?_)
            · replace hf := (if_pos q8).symm.trans hf
              refine lv_aload_n C.1 C.2.1 dX2_make_55 rfl (lv_at hl 1 rfl) ?_
              refine lv_dup C.1 C.2.1 dX2_make_56 rfl ?_
              refine fg_2_4 C kX2_make_2 mX2_make_34 hW dX2_make_57 ?_
              refine lv_iconst (v := 1) C.1 C.2.1 dX2_make_60 (by decide) ?_
              refine lv_isub C.1 C.2.1 dX2_make_61 ?_
              obtain ⟨S9, eS9, hf⟩ := bnd_el hf
              refine fp_2_4 C kX2_make_2 mX2_make_34 hW dX2_make_62 eS9 (fun H locs hW => ?_)
              refine lv_aload_n C.1 C.2.1 dX2_make_65 rfl (lv_at hl 1 rfl) ?_
              refine fg_2_0 C kX2_make_2 mX2_make_11 hW dX2_make_66 ?_
              refine lv_iload_n C.1 C.2.1 dX2_make_69 rfl (lv_at hl 0 rfl) ?_
              refine lv_iload_n C.1 C.2.1 dX2_make_70 rfl (lv_at hl 2 rfl) ?_
              obtain ⟨h10, hf⟩ := ckx_el hf
              obtain ⟨S11, eS11, hf⟩ := bnd_el hf
              refine as_2_0 C hW h10 dX2_make_71 eS11 (fun H locs hW => ?_)
              refine lv_aload_n C.1 C.2.1 dX2_make_72 rfl (lv_at hl 1 rfl) ?_
              refine fg_2_1 C kX2_make_2 mX2_make_15 hW dX2_make_73 ?_
              refine lv_iload_n C.1 C.2.1 dX2_make_76 rfl (lv_at hl 0 rfl) ?_
              refine lv_iload_n C.1 C.2.1 dX2_make_77 rfl (lv_at hl 3 rfl) ?_
              obtain ⟨h12, hf⟩ := ckx_el hf
              obtain ⟨S13, eS13, hf⟩ := bnd_el hf
              refine as_2_1 C hW h12 dX2_make_78 eS13 (fun H locs hW => ?_)
              refine lv_aload_n C.1 C.2.1 dX2_make_79 rfl (lv_at hl 1 rfl) ?_
              refine fg_2_5 C kX2_make_2 mX2_make_24 hW dX2_make_80 ?_
              refine lv_iload_n C.1 C.2.1 dX2_make_83 rfl (lv_at hl 2 rfl) ?_
              refine lv_dup2_11 C.1 C.2.1 dX2_make_84 rfl rfl ?_
              obtain ⟨h14, hf⟩ := ckx_el hf
              refine al_2_5 C hW h14 dX2_make_85 ?_
              refine lv_iconst (v := 1) C.1 C.2.1 dX2_make_86 (by decide) ?_
              refine lv_iadd C.1 C.2.1 dX2_make_87 ?_
              obtain ⟨h15, hf⟩ := ckx_el hf
              obtain ⟨S16, eS16, hf⟩ := bnd_el hf
              refine as_2_5 C hW h15 dX2_make_88 eS16 (fun H locs hW => ?_)
              refine lv_iload_n C.1 C.2.1 dX2_make_89 rfl (lv_at hl 0 rfl) ?_
              exact mrI C hr hlocks rfl hf hW dX2_make_90
            · replace hf := (if_neg q8).symm.trans hf
              refine lv_iconst (v := -1) C.1 C.2.1 dX2_make_53 (by decide) ?_
              exact mrI C hr hlocks rfl hf hW dX2_make_54
        · replace hf := (if_neg q4).symm.trans hf
          refine lv_iconst (v := -1) C.1 C.2.1 dX2_make_28 (by decide) ?_
          exact mrI C hr hlocks rfl hf hW dX2_make_29
theorem mX2_discard_34 : Cond.fieldLink RX2 34 "SharedLambda$Graph" "spares" "I" ∈ wsX2_discard := by decide +kernel
theorem mX2_discard_24 : Cond.fieldLink RX2 24 "SharedLambda$Graph" "populations" "[I" ∈ wsX2_discard := by decide +kernel
theorem mX2_discard_11 : Cond.fieldLink RX2 11 "SharedLambda$Graph" "kinds" "[I" ∈ wsX2_discard := by decide +kernel
theorem mX2_discard_21 : Cond.fieldLink RX2 21 "SharedLambda$Graph" "spare" "[I" ∈ wsX2_discard := by decide +kernel
theorem kX2_discard_2 : ∀ w ∈ u_ws RX2 TX2 10, w ∈ wsX2_discard := fun _ h => List.mem_cons_of_mem _ (List.mem_append_right _ h)
def fX2_discard (N : Nat) (S : St) (p1 : Int32) : Option (St) :=
  bd2 (fX2_kindOf N S p1) fun v1 S3 =>
  if v1 < 0 then
    some S3
  else
    if (7 : Int32) ≤ v1 then
      some S3
    else
      if S3.1 44 < (3002 : Int32) then
        ckx v1 7 <|
        ckx v1 7 <|
        bnd (sA S3 45 (upd (S3.2.1 45) (v1 : Int32).toNatClampNeg ((S3.2.1 45 (v1 : Int32).toNatClampNeg - (1 : Int32))))) fun S9 =>
        ckx p1 3002 <|
        bnd (sA S9 40 (upd (S9.2.1 40) (p1 : Int32).toNatClampNeg (-1 : Int32))) fun S11 =>
        ckx (S11.1 44) 3002 <|
        bnd (sA S11 43 (upd (S11.2.1 43) (S11.1 44 : Int32).toNatClampNeg p1)) fun S13 =>
        bnd (sI S13 44 ((S13.1 44 + (1 : Int32)))) fun S14 =>
        some S14
      else
        some S3
set_option maxHeartbeats 4000000 in
set_option maxRecDepth 100000 in
theorem cX2_discard_met (l : Launch) (D : va_G) (cy : Nat → ClassId) (a r : Nat → Nat) (sz N : Nat) (S : St) (p1 : Int32) (Rr : St) (hf : fX2_discard N S p1 = some Rr) : Met l yX2_discard wsX2_discard ({ frames := 1, cells := 0, slots := 0, locals := 21 } : Room) (va_Pc [.ref (a 59), .int p1] (preW D cy (wC cy a r S) sz)) (QV D cy (wC cy a r) (va_A (wC cy a r S) sz) Rr) 0 0 (va_A (wC cy a r S) sz) := by
  refine Met.ofW (cc := cX2_discard) (maxL := 3) (ret := none) (by decide) rfl ?_
  intro p e s m args below meth c s₁ B hml hv
  obtain ⟨rfl, rfl, hP, hK, hD0, hN⟩ := hv
  have hlocks := B.notSynchronized
  have hr := B.returns
  have C : Cx p s m _ c cX2_discard 3 wsX2_discard RX2 D cy := ⟨B.exec, B.bytes, hml, findClass_of_methodNamed B.named, atoms_spec (ws := wsX2_discard) B.pre, hK, hN⟩
  have hW := ww_start (w := wC cy a r) hP hD0
  generalize va_A (wC cy a r S) s.heap.size = A at hW ⊢
  have hl := lv_entry ([.ref (a 59), .int p1]) (n := 3) (Nat.le_of_ble_eq_true rfl)
  rw [lg_entry_eq]
  generalize (lg_sl ([.ref (a 59), .int p1]) ++ List.replicate (3 - (lg_sl ([.ref (a 59), .int p1])).length) Slot.unset).toArray = ls at hl ⊢
  have hl : lv_has ls 3 [(0, .ref (a 59)), (1, .int p1)] := hl
  unfold fX2_discard at hf
  refine lv_aload_n C.1 C.2.1 dX2_discard_0 rfl (lv_at hl 0 rfl) ?_
  refine lv_iload_n C.1 C.2.1 dX2_discard_1 rfl (lv_at hl 1 rfl) ?_
  obtain ⟨v1, S3, h2, hf⟩ := bd2_el hf
  refine mcVi (w := wC cy a r) (S := S) (As := [.int p1]) (rest := []) (q0 := 2) (ci := 2) C (cX2_kindOf_met l D cy a r _ N S p1 (v1, S3) h2) (cwV 1 C.2.2.2.2.1 gX2_discard_X2_kindOf rfl rfl rfl (by decide +kernel) ⟨Nat.le_of_ble_eq_true rfl, Nat.le_of_ble_eq_true rfl⟩) rfl rfl rfl hl.1 (Nat.le_of_ble_eq_true rfl) hW dX2_discard_2 ⟨Nat.zero_le _, Nat.zero_le _⟩ rfl (fun H locs hW => ?_)
  refine lv_istore_n (lv' := [(2, .int v1), (0, .ref (a 59)), (1, .int p1)]) C.1 C.2.1 dX2_discard_5 rfl hl (by decide) rfl (fun ls hl => ?_)
  refine lv_iload_n C.1 C.2.1 dX2_discard_6 rfl (lv_at hl 0 rfl) ?_
  refine lv_if_lt (tgt := 26) C.1 C.2.1 dX2_discard_7 (by decide) (fun q4 => ?_) (fun q4 => ?_)
  · replace hf := (if_pos q4).symm.trans hf
    exact mrV C hr hlocks hf hW dX2_discard_26
  · replace hf := (if_neg q4).symm.trans hf
    refine lv_iload_n C.1 C.2.1 dX2_discard_10 rfl (lv_at hl 0 rfl) ?_
    refine lv_bipush (v := 7) C.1 C.2.1 dX2_discard_11 (by decide) ?_
    refine lv_icmp_ge (tgt := 26) C.1 C.2.1 dX2_discard_13 (by decide) (fun q5 => ?_) (fun q5 => ?_)
    · replace hf := (if_pos q5).symm.trans hf
      exact mrV C hr hlocks hf hW dX2_discard_26
    · replace hf := (if_neg q5).symm.trans hf
      refine lv_aload_n C.1 C.2.1 dX2_discard_16 rfl (lv_at hl 1 rfl) ?_
      refine fg_2_4 C kX2_discard_2 mX2_discard_34 hW dX2_discard_17 ?_
      refine lv_sipush (v := 3002) C.1 C.2.1 dX2_discard_20 (by decide) ?_
      refine lv_icmp_lt (tgt := 27) C.1 C.2.1 dX2_discard_23 (by decide) (fun q6 => ?_) (fun q6 => ?_)
      · replace hf := (if_pos q6).symm.trans hf
        refine lv_aload_n C.1 C.2.1 dX2_discard_27 rfl (lv_at hl 1 rfl) ?_
        refine fg_2_5 C kX2_discard_2 mX2_discard_24 hW dX2_discard_28 ?_
        refine lv_iload_n C.1 C.2.1 dX2_discard_31 rfl (lv_at hl 0 rfl) ?_
        refine lv_dup2_11 C.1 C.2.1 dX2_discard_32 rfl rfl ?_
        obtain ⟨h7, hf⟩ := ckx_el hf
        refine al_2_5 C hW h7 dX2_discard_33 ?_
        refine lv_iconst (v := 1) C.1 C.2.1 dX2_discard_34 (by decide) ?_
        refine lv_isub C.1 C.2.1 dX2_discard_35 ?_
        obtain ⟨h8, hf⟩ := ckx_el hf
        obtain ⟨S9, eS9, hf⟩ := bnd_el hf
        refine as_2_5 C hW h8 dX2_discard_36 eS9 (fun H locs hW => ?_)
        refine lv_aload_n C.1 C.2.1 dX2_discard_37 rfl (lv_at hl 1 rfl) ?_
        refine fg_2_0 C kX2_discard_2 mX2_discard_11 hW dX2_discard_38 ?_
        refine lv_iload_n C.1 C.2.1 dX2_discard_41 rfl (lv_at hl 2 rfl) ?_
        refine lv_iconst (v := -1) C.1 C.2.1 dX2_discard_42 (by decide) ?_
        obtain ⟨h10, hf⟩ := ckx_el hf
        obtain ⟨S11, eS11, hf⟩ := bnd_el hf
        refine as_2_0 C hW h10 dX2_discard_43 eS11 (fun H locs hW => ?_)
        refine lv_aload_n C.1 C.2.1 dX2_discard_44 rfl (lv_at hl 1 rfl) ?_
        refine fg_2_3 C kX2_discard_2 mX2_discard_21 hW dX2_discard_45 ?_
        refine lv_aload_n C.1 C.2.1 dX2_discard_48 rfl (lv_at hl 1 rfl) ?_
        refine fg_2_4 C kX2_discard_2 mX2_discard_34 hW dX2_discard_49 ?_
        refine lv_iload_n C.1 C.2.1 dX2_discard_52 rfl (lv_at hl 2 rfl) ?_
        obtain ⟨h12, hf⟩ := ckx_el hf
        obtain ⟨S13, eS13, hf⟩ := bnd_el hf
        refine as_2_3 C hW h12 dX2_discard_53 eS13 (fun H locs hW => ?_)
        refine lv_aload_n C.1 C.2.1 dX2_discard_54 rfl (lv_at hl 1 rfl) ?_
        refine lv_dup C.1 C.2.1 dX2_discard_55 rfl ?_
        refine fg_2_4 C kX2_discard_2 mX2_discard_34 hW dX2_discard_56 ?_
        refine lv_iconst (v := 1) C.1 C.2.1 dX2_discard_59 (by decide) ?_
        refine lv_iadd C.1 C.2.1 dX2_discard_60 ?_
        obtain ⟨S14, eS14, hf⟩ := bnd_el hf
        refine fp_2_4 C kX2_discard_2 mX2_discard_34 hW dX2_discard_61 eS14 (fun H locs hW => ?_)
        exact mrV C hr hlocks hf hW dX2_discard_64
      · replace hf := (if_neg q6).symm.trans hf
        exact mrV C hr hlocks hf hW dX2_discard_26
theorem mX2_rouse_38 : Cond.fieldLink RX2 38 "SharedLambda$Graph" "restlessCount" "I" ∈ wsX2_rouse := by decide +kernel
theorem mX2_rouse_11 : Cond.fieldLink RX2 11 "SharedLambda$Graph" "kinds" "[I" ∈ wsX2_rouse := by decide +kernel
theorem mX2_rouse_30 : Cond.fieldLink RX2 30 "SharedLambda$Graph" "isRestless" "[Z" ∈ wsX2_rouse := by decide +kernel
theorem mX2_rouse_27 : Cond.fieldLink RX2 27 "SharedLambda$Graph" "restless" "[I" ∈ wsX2_rouse := by decide +kernel
theorem kX2_rouse_2 : ∀ w ∈ u_ws RX2 TX2 10, w ∈ wsX2_rouse := fun _ h => List.mem_cons_of_mem _ (List.mem_append_right _ h)
def fX2_rouse (N : Nat) (S : St) (p1 : Int32) : Option (St) :=
  if p1 < 0 then
    some S
  else
    if (3002 : Int32) ≤ p1 then
      some S
    else
      if S.1 48 < (3002 : Int32) then
        ckx p1 3002 <|
        if S.2.1 40 (p1 : Int32).toNatClampNeg = (5 : Int32) then
          ckx p1 3002 <|
          if S.2.1 47 (p1 : Int32).toNatClampNeg = 0 then
            ckx p1 3002 <|
            bnd (sA S 47 (upd (S.2.1 47) (p1 : Int32).toNatClampNeg (vp_nar .boolean (1 : Int32)))) fun S9 =>
            ckx (S9.1 48) 3002 <|
            bnd (sA S9 46 (upd (S9.2.1 46) (S9.1 48 : Int32).toNatClampNeg p1)) fun S11 =>
            bnd (sI S11 48 ((S11.1 48 + (1 : Int32)))) fun S12 =>
            some S12
          else
            some S
        else
          some S
      else
        some S
set_option maxHeartbeats 4000000 in
set_option maxRecDepth 100000 in
theorem cX2_rouse_met (l : Launch) (D : va_G) (cy : Nat → ClassId) (a r : Nat → Nat) (sz N : Nat) (S : St) (p1 : Int32) (Rr : St) (hf : fX2_rouse N S p1 = some Rr) : Met l yX2_rouse wsX2_rouse ({ frames := 0, cells := 0, slots := 0, locals := 0 } : Room) (va_Pc [.ref (a 59), .int p1] (preW D cy (wC cy a r S) sz)) (QV D cy (wC cy a r) (va_A (wC cy a r S) sz) Rr) 0 0 (va_A (wC cy a r S) sz) := by
  refine Met.ofW (cc := cX2_rouse) (maxL := 2) (ret := none) (by decide) rfl ?_
  intro p e s m args below meth c s₁ B hml hv
  obtain ⟨rfl, rfl, hP, hK, hD0, hN⟩ := hv
  have hlocks := B.notSynchronized
  have hr := B.returns
  have C : Cx p s m _ c cX2_rouse 2 wsX2_rouse RX2 D cy := ⟨B.exec, B.bytes, hml, findClass_of_methodNamed B.named, atoms_spec (ws := wsX2_rouse) B.pre, hK, hN⟩
  have hW := ww_start (w := wC cy a r) hP hD0
  generalize va_A (wC cy a r S) s.heap.size = A at hW ⊢
  have hl := lv_entry ([.ref (a 59), .int p1]) (n := 2) (Nat.le_of_ble_eq_true rfl)
  rw [lg_entry_eq]
  generalize (lg_sl ([.ref (a 59), .int p1]) ++ List.replicate (2 - (lg_sl ([.ref (a 59), .int p1])).length) Slot.unset).toArray = ls at hl ⊢
  have hl : lv_has ls 2 [(0, .ref (a 59)), (1, .int p1)] := hl
  unfold fX2_rouse at hf
  refine lv_iload_n C.1 C.2.1 dX2_rouse_0 rfl (lv_at hl 1 rfl) ?_
  refine lv_if_lt (tgt := 21) C.1 C.2.1 dX2_rouse_1 (by decide) (fun q1 => ?_) (fun q1 => ?_)
  · replace hf := (if_pos q1).symm.trans hf
    exact mrV C hr hlocks hf hW dX2_rouse_21
  · replace hf := (if_neg q1).symm.trans hf
    refine lv_iload_n C.1 C.2.1 dX2_rouse_4 rfl (lv_at hl 1 rfl) ?_
    refine lv_sipush (v := 3002) C.1 C.2.1 dX2_rouse_5 (by decide) ?_
    refine lv_icmp_ge (tgt := 21) C.1 C.2.1 dX2_rouse_8 (by decide) (fun q2 => ?_) (fun q2 => ?_)
    · replace hf := (if_pos q2).symm.trans hf
      exact mrV C hr hlocks hf hW dX2_rouse_21
    · replace hf := (if_neg q2).symm.trans hf
      refine lv_aload_n C.1 C.2.1 dX2_rouse_11 rfl (lv_at hl 0 rfl) ?_
      refine fg_2_8 C kX2_rouse_2 mX2_rouse_38 hW dX2_rouse_12 ?_
      refine lv_sipush (v := 3002) C.1 C.2.1 dX2_rouse_15 (by decide) ?_
      refine lv_icmp_lt (tgt := 22) C.1 C.2.1 dX2_rouse_18 (by decide) (fun q3 => ?_) (fun q3 => ?_)
      · replace hf := (if_pos q3).symm.trans hf
        refine lv_aload_n C.1 C.2.1 dX2_rouse_22 rfl (lv_at hl 0 rfl) ?_
        refine fg_2_0 C kX2_rouse_2 mX2_rouse_11 hW dX2_rouse_23 ?_
        refine lv_iload_n C.1 C.2.1 dX2_rouse_26 rfl (lv_at hl 1 rfl) ?_
        obtain ⟨h4, hf⟩ := ckx_el hf
        refine al_2_0 C hW h4 dX2_rouse_27 ?_
        refine lv_iconst (v := 5) C.1 C.2.1 dX2_rouse_28 (by decide) ?_
        refine lv_icmp_ne (tgt := 68) C.1 C.2.1 dX2_rouse_29 (by decide) (fun q5 => ?_) (fun q5 => ?_)
        · replace hf := (if_neg q5).symm.trans hf
          exact mrV C hr hlocks hf hW dX2_rouse_68
        · replace hf := (if_pos q5).symm.trans hf
          refine lv_aload_n C.1 C.2.1 dX2_rouse_32 rfl (lv_at hl 0 rfl) ?_
          refine fg_2_7 C kX2_rouse_2 mX2_rouse_30 hW dX2_rouse_33 ?_
          refine lv_iload_n C.1 C.2.1 dX2_rouse_36 rfl (lv_at hl 1 rfl) ?_
          obtain ⟨h6, hf⟩ := ckx_el hf
          refine al_2_7 C hW h6 dX2_rouse_37 ?_
          refine lv_if_ne (tgt := 68) C.1 C.2.1 dX2_rouse_38 (by decide) (fun q7 => ?_) (fun q7 => ?_)
          · replace hf := (if_neg q7).symm.trans hf
            exact mrV C hr hlocks hf hW dX2_rouse_68
          · replace hf := (if_pos q7).symm.trans hf
            refine lv_aload_n C.1 C.2.1 dX2_rouse_41 rfl (lv_at hl 0 rfl) ?_
            refine fg_2_7 C kX2_rouse_2 mX2_rouse_30 hW dX2_rouse_42 ?_
            refine lv_iload_n C.1 C.2.1 dX2_rouse_45 rfl (lv_at hl 1 rfl) ?_
            refine lv_iconst (v := 1) C.1 C.2.1 dX2_rouse_46 (by decide) ?_
            obtain ⟨h8, hf⟩ := ckx_el hf
            obtain ⟨S9, eS9, hf⟩ := bnd_el hf
            refine as_2_7 C hW h8 dX2_rouse_47 eS9 (fun H locs hW => ?_)
            refine lv_aload_n C.1 C.2.1 dX2_rouse_48 rfl (lv_at hl 0 rfl) ?_
            refine fg_2_6 C kX2_rouse_2 mX2_rouse_27 hW dX2_rouse_49 ?_
            refine lv_aload_n C.1 C.2.1 dX2_rouse_52 rfl (lv_at hl 0 rfl) ?_
            refine fg_2_8 C kX2_rouse_2 mX2_rouse_38 hW dX2_rouse_53 ?_
            refine lv_iload_n C.1 C.2.1 dX2_rouse_56 rfl (lv_at hl 1 rfl) ?_
            obtain ⟨h10, hf⟩ := ckx_el hf
            obtain ⟨S11, eS11, hf⟩ := bnd_el hf
            refine as_2_6 C hW h10 dX2_rouse_57 eS11 (fun H locs hW => ?_)
            refine lv_aload_n C.1 C.2.1 dX2_rouse_58 rfl (lv_at hl 0 rfl) ?_
            refine lv_dup C.1 C.2.1 dX2_rouse_59 rfl ?_
            refine fg_2_8 C kX2_rouse_2 mX2_rouse_38 hW dX2_rouse_60 ?_
            refine lv_iconst (v := 1) C.1 C.2.1 dX2_rouse_63 (by decide) ?_
            refine lv_iadd C.1 C.2.1 dX2_rouse_64 ?_
            obtain ⟨S12, eS12, hf⟩ := bnd_el hf
            refine fp_2_8 C kX2_rouse_2 mX2_rouse_38 hW dX2_rouse_65 eS12 (fun H locs hW => ?_)
            exact mrV C hr hlocks hf hW dX2_rouse_68
      · replace hf := (if_neg q3).symm.trans hf
        exact mrV C hr hlocks hf hW dX2_rouse_21
theorem mX2_link_18 : Cond.fieldLink RX2 18 "SharedLambda$Graph" "wires" "[I" ∈ wsX2_link := by decide +kernel
theorem mX2_link_i7 : Cond.initialized RX7 ∈ wsX2_link := by decide +kernel
theorem mX2_link_s_nodeAt : Cond.static yX7_nodeAt ∈ wsX2_link := by decide +kernel
theorem kX2_link_2 : ∀ w ∈ u_ws RX2 TX2 10, w ∈ wsX2_link := fun _ h => List.mem_cons_of_mem _ (List.mem_append_right _ h)
def fX2_link (N : Nat) (S : St) (p1 : Int32) (p2 : Int32) : Option (St) :=
  if p1 < 0 then
    some S
  else
    if (Int32.ofNat 12008) ≤ p1 then
      some S
    else
      if p2 < 0 then
        some S
      else
        if p2 < (Int32.ofNat 12008) then
          ckx p1 12008 <|
          bnd (sA S 42 (upd (S.2.1 42) (p1 : Int32).toNatClampNeg p2)) fun S6 =>
          ckx p2 12008 <|
          bnd (sA S6 42 (upd (S6.2.1 42) (p2 : Int32).toNatClampNeg p1)) fun S8 =>
          bdo (fX7_nodeAt p1) fun v9 =>
          bdo (fX2_rouse N S8 v9) fun S13 =>
          bdo (fX7_nodeAt p2) fun v14 =>
          bdo (fX2_rouse N S13 v14) fun S18 =>
          some S18
        else
          some S
set_option maxHeartbeats 4000000 in
set_option maxRecDepth 100000 in
theorem cX2_link_met (l : Launch) (D : va_G) (cy : Nat → ClassId) (a r : Nat → Nat) (sz N : Nat) (S : St) (p1 : Int32) (p2 : Int32) (Rr : St) (hf : fX2_link N S p1 p2 = some Rr) : Met l yX2_link wsX2_link ({ frames := 1, cells := 0, slots := 0, locals := 21 } : Room) (va_Pc [.ref (a 59), .int p1, .int p2] (preW D cy (wC cy a r S) sz)) (QV D cy (wC cy a r) (va_A (wC cy a r S) sz) Rr) 0 0 (va_A (wC cy a r S) sz) := by
  refine Met.ofW (cc := cX2_link) (maxL := 3) (ret := none) (by decide) rfl ?_
  intro p e s m args below meth c s₁ B hml hv
  obtain ⟨rfl, rfl, hP, hK, hD0, hN⟩ := hv
  have hlocks := B.notSynchronized
  have hr := B.returns
  have C : Cx p s m _ c cX2_link 3 wsX2_link RX2 D cy := ⟨B.exec, B.bytes, hml, findClass_of_methodNamed B.named, atoms_spec (ws := wsX2_link) B.pre, hK, hN⟩
  have hW := ww_start (w := wC cy a r) hP hD0
  generalize va_A (wC cy a r S) s.heap.size = A at hW ⊢
  have hl := lv_entry ([.ref (a 59), .int p1, .int p2]) (n := 3) (Nat.le_of_ble_eq_true rfl)
  rw [lg_entry_eq]
  generalize (lg_sl ([.ref (a 59), .int p1, .int p2]) ++ List.replicate (3 - (lg_sl ([.ref (a 59), .int p1, .int p2])).length) Slot.unset).toArray = ls at hl ⊢
  have hl : lv_has ls 3 [(0, .ref (a 59)), (1, .int p1), (2, .int p2)] := hl
  unfold fX2_link at hf
  refine lv_iload_n C.1 C.2.1 dX2_link_0 rfl (lv_at hl 1 rfl) ?_
  refine lv_if_lt (tgt := 26) C.1 C.2.1 dX2_link_1 (by decide) (fun q1 => ?_) (fun q1 => ?_)
  · replace hf := (if_pos q1).symm.trans hf
    exact mrV C hr hlocks hf hW dX2_link_26
  · replace hf := (if_neg q1).symm.trans hf
    refine lv_iload_n C.1 C.2.1 dX2_link_4 rfl (lv_at hl 1 rfl) ?_
    refine lv_aload_n C.1 C.2.1 dX2_link_5 rfl (lv_at hl 0 rfl) ?_
    refine fg_2_2 C kX2_link_2 mX2_link_18 hW dX2_link_6 ?_
    refine an_2_2 C hW dX2_link_9 ?_
    refine lv_icmp_ge (tgt := 26) C.1 C.2.1 dX2_link_10 (by decide) (fun q2 => ?_) (fun q2 => ?_)
    · replace hf := (if_pos q2).symm.trans hf
      exact mrV C hr hlocks hf hW dX2_link_26
    · replace hf := (if_neg q2).symm.trans hf
      refine lv_iload_n C.1 C.2.1 dX2_link_13 rfl (lv_at hl 2 rfl) ?_
      refine lv_if_lt (tgt := 26) C.1 C.2.1 dX2_link_14 (by decide) (fun q3 => ?_) (fun q3 => ?_)
      · replace hf := (if_pos q3).symm.trans hf
        exact mrV C hr hlocks hf hW dX2_link_26
      · replace hf := (if_neg q3).symm.trans hf
        refine lv_iload_n C.1 C.2.1 dX2_link_17 rfl (lv_at hl 2 rfl) ?_
        refine lv_aload_n C.1 C.2.1 dX2_link_18 rfl (lv_at hl 0 rfl) ?_
        refine fg_2_2 C kX2_link_2 mX2_link_18 hW dX2_link_19 ?_
        refine an_2_2 C hW dX2_link_22 ?_
        refine lv_icmp_lt (tgt := 27) C.1 C.2.1 dX2_link_23 (by decide) (fun q4 => ?_) (fun q4 => ?_)
        · replace hf := (if_pos q4).symm.trans hf
          refine lv_aload_n C.1 C.2.1 dX2_link_27 rfl (lv_at hl 0 rfl) ?_
          refine fg_2_2 C kX2_link_2 mX2_link_18 hW dX2_link_28 ?_
          refine lv_iload_n C.1 C.2.1 dX2_link_31 rfl (lv_at hl 1 rfl) ?_
          refine lv_iload_n C.1 C.2.1 dX2_link_32 rfl (lv_at hl 2 rfl) ?_
          obtain ⟨h5, hf⟩ := ckx_el hf
          obtain ⟨S6, eS6, hf⟩ := bnd_el hf
          refine as_2_2 C hW h5 dX2_link_33 eS6 (fun H locs hW => ?_)
          refine lv_aload_n C.1 C.2.1 dX2_link_34 rfl (lv_at hl 0 rfl) ?_
          refine fg_2_2 C kX2_link_2 mX2_link_18 hW dX2_link_35 ?_
          refine lv_iload_n C.1 C.2.1 dX2_link_38 rfl (lv_at hl 2 rfl) ?_
          refine lv_iload_n C.1 C.2.1 dX2_link_39 rfl (lv_at hl 1 rfl) ?_
          obtain ⟨h7, hf⟩ := ckx_el hf
          obtain ⟨S8, eS8, hf⟩ := bnd_el hf
          refine as_2_2 C hW h7 dX2_link_40 eS8 (fun H locs hW => ?_)
          refine lv_aload_n C.1 C.2.1 dX2_link_41 rfl (lv_at hl 0 rfl) ?_
          refine lv_iload_n C.1 C.2.1 dX2_link_42 rfl (lv_at hl 1 rfl) ?_
          obtain ⟨v9, h10, hf⟩ := bdo_el hf
          refine mcSN (As := [.int p1]) (rest := [.ref (a 59)]) C (cX7_nodeAt_met l p1 v9 h10) ⟨va_cnB 1 C.2.2.2.2.1 gX2_link_X7_nodeAt_n48 rfl rfl rfl (C.2.2.2.2.2.2 (RX2, 48, yX7_nodeAt) (by decide +kernel)) (C.2.2.2.2.1 _ mX2_link_i7) (by decide +kernel) ⟨Nat.le_of_ble_eq_true rfl, Nat.le_of_ble_eq_true rfl⟩, C.2.2.2.2.1 _ mX2_link_s_nodeAt, trivial⟩ rfl hl.1 (Nat.le_of_ble_eq_true rfl) dX2_link_43 ⟨Nat.zero_le _, Nat.zero_le _⟩ rfl ?_
          obtain ⟨S13, h12, hf⟩ := bdo_el hf
          refine mcVv (w := wC cy a r) (S := S8) (As := [.int v9]) (rest := []) (q0 := 2) (ci := 2) C (cX2_rouse_met l D cy a r _ N S8 v9 S13 h12) (cwV 1 C.2.2.2.2.1 gX2_link_X2_rouse rfl rfl rfl (by decide +kernel) ⟨Nat.le_of_ble_eq_true rfl, Nat.le_of_ble_eq_true rfl⟩) rfl rfl rfl hl.1 (Nat.le_of_ble_eq_true rfl) hW dX2_link_46 ⟨Nat.zero_le _, Nat.zero_le _⟩ rfl (fun H locs hW => ?_)
          refine lv_aload_n C.1 C.2.1 dX2_link_49 rfl (lv_at hl 0 rfl) ?_
          refine lv_iload_n C.1 C.2.1 dX2_link_50 rfl (lv_at hl 2 rfl) ?_
          obtain ⟨v14, h15, hf⟩ := bdo_el hf
          refine mcSN (As := [.int p2]) (rest := [.ref (a 59)]) C (cX7_nodeAt_met l p2 v14 h15) ⟨va_cnB 1 C.2.2.2.2.1 gX2_link_X7_nodeAt_n48 rfl rfl rfl (C.2.2.2.2.2.2 (RX2, 48, yX7_nodeAt) (by decide +kernel)) (C.2.2.2.2.1 _ mX2_link_i7) (by decide +kernel) ⟨Nat.le_of_ble_eq_true rfl, Nat.le_of_ble_eq_true rfl⟩, C.2.2.2.2.1 _ mX2_link_s_nodeAt, trivial⟩ rfl hl.1 (Nat.le_of_ble_eq_true rfl) dX2_link_51 ⟨Nat.zero_le _, Nat.zero_le _⟩ rfl ?_
          obtain ⟨S18, h17, hf⟩ := bdo_el hf
          refine mcVv (w := wC cy a r) (S := S13) (As := [.int v14]) (rest := []) (q0 := 2) (ci := 2) C (cX2_rouse_met l D cy a r _ N S13 v14 S18 h17) (cwV 1 C.2.2.2.2.1 gX2_link_X2_rouse rfl rfl rfl (by decide +kernel) ⟨Nat.le_of_ble_eq_true rfl, Nat.le_of_ble_eq_true rfl⟩) rfl rfl rfl hl.1 (Nat.le_of_ble_eq_true rfl) hW dX2_link_54 ⟨Nat.zero_le _, Nat.zero_le _⟩ rfl (fun H locs hW => ?_)
          exact mrV C hr hlocks hf hW dX2_link_57
        · replace hf := (if_neg q4).symm.trans hf
          exact mrV C hr hlocks hf hW dX2_link_26
def fX2_replace (N : Nat) (S : St) (p1 : Int32) (p2 : Int32) : Option (St) :=
  bd2 (fX2_across N S p1) fun v1 S3 =>
  bdo (fX2_link N S3 p2 v1) fun S6 =>
  some S6
set_option maxHeartbeats 4000000 in
set_option maxRecDepth 100000 in
theorem cX2_replace_met (l : Launch) (D : va_G) (cy : Nat → ClassId) (a r : Nat → Nat) (sz N : Nat) (S : St) (p1 : Int32) (p2 : Int32) (Rr : St) (hf : fX2_replace N S p1 p2 = some Rr) : Met l yX2_replace wsX2_replace ({ frames := 2, cells := 0, slots := 0, locals := 43 } : Room) (va_Pc [.ref (a 59), .int p1, .int p2] (preW D cy (wC cy a r S) sz)) (QV D cy (wC cy a r) (va_A (wC cy a r S) sz) Rr) 0 0 (va_A (wC cy a r S) sz) := by
  refine Met.ofW (cc := cX2_replace) (maxL := 3) (ret := none) (by decide) rfl ?_
  intro p e s m args below meth c s₁ B hml hv
  obtain ⟨rfl, rfl, hP, hK, hD0, hN⟩ := hv
  have hlocks := B.notSynchronized
  have hr := B.returns
  have C : Cx p s m _ c cX2_replace 3 wsX2_replace RX2 D cy := ⟨B.exec, B.bytes, hml, findClass_of_methodNamed B.named, atoms_spec (ws := wsX2_replace) B.pre, hK, hN⟩
  have hW := ww_start (w := wC cy a r) hP hD0
  generalize va_A (wC cy a r S) s.heap.size = A at hW ⊢
  have hl := lv_entry ([.ref (a 59), .int p1, .int p2]) (n := 3) (Nat.le_of_ble_eq_true rfl)
  rw [lg_entry_eq]
  generalize (lg_sl ([.ref (a 59), .int p1, .int p2]) ++ List.replicate (3 - (lg_sl ([.ref (a 59), .int p1, .int p2])).length) Slot.unset).toArray = ls at hl ⊢
  have hl : lv_has ls 3 [(0, .ref (a 59)), (1, .int p1), (2, .int p2)] := hl
  unfold fX2_replace at hf
  refine lv_aload_n C.1 C.2.1 dX2_replace_0 rfl (lv_at hl 0 rfl) ?_
  refine lv_iload_n C.1 C.2.1 dX2_replace_1 rfl (lv_at hl 2 rfl) ?_
  refine lv_aload_n C.1 C.2.1 dX2_replace_2 rfl (lv_at hl 0 rfl) ?_
  refine lv_iload_n C.1 C.2.1 dX2_replace_3 rfl (lv_at hl 1 rfl) ?_
  obtain ⟨v1, S3, h2, hf⟩ := bd2_el hf
  refine mcVi (w := wC cy a r) (S := S) (As := [.int p1]) (rest := [.int p2, .ref (a 59)]) (q0 := 2) (ci := 2) C (cX2_across_met l D cy a r _ N S p1 (v1, S3) h2) (cwV 1 C.2.2.2.2.1 gX2_replace_X2_across rfl rfl rfl (by decide +kernel) ⟨Nat.le_of_ble_eq_true rfl, Nat.le_of_ble_eq_true rfl⟩) rfl rfl rfl hl.1 (Nat.le_of_ble_eq_true rfl) hW dX2_replace_4 ⟨Nat.zero_le _, Nat.zero_le _⟩ rfl (fun H locs hW => ?_)
  obtain ⟨S6, h5, hf⟩ := bdo_el hf
  refine mcVv (w := wC cy a r) (S := S3) (As := [.int p2, .int v1]) (rest := []) (q0 := 2) (ci := 2) C (cX2_link_met l D cy a r _ N S3 p2 v1 S6 h5) (cwV 2 C.2.2.2.2.1 gX2_replace_X2_link rfl rfl rfl (by decide +kernel) ⟨Nat.le_of_ble_eq_true rfl, Nat.le_of_ble_eq_true rfl⟩) rfl rfl rfl hl.1 (Nat.le_of_ble_eq_true rfl) hW dX2_replace_7 ⟨Nat.zero_le _, Nat.zero_le _⟩ rfl (fun H locs hW => ?_)
  exact mrV C hr hlocks hf hW dX2_replace_10
def fX2_join (N : Nat) (S : St) (p1 : Int32) (p2 : Int32) : Option (St) :=
  bd2 (fX2_across N S p1) fun v1 S3 =>
  bd2 (fX2_across N S3 p2) fun v4 S6 =>
  bdo (fX2_link N S6 v1 v4) fun S9 =>
  some S9
set_option maxHeartbeats 4000000 in
set_option maxRecDepth 100000 in
theorem cX2_join_met (l : Launch) (D : va_G) (cy : Nat → ClassId) (a r : Nat → Nat) (sz N : Nat) (S : St) (p1 : Int32) (p2 : Int32) (Rr : St) (hf : fX2_join N S p1 p2 = some Rr) : Met l yX2_join wsX2_join ({ frames := 2, cells := 0, slots := 0, locals := 43 } : Room) (va_Pc [.ref (a 59), .int p1, .int p2] (preW D cy (wC cy a r S) sz)) (QV D cy (wC cy a r) (va_A (wC cy a r S) sz) Rr) 0 0 (va_A (wC cy a r S) sz) := by
  refine Met.ofW (cc := cX2_join) (maxL := 3) (ret := none) (by decide) rfl ?_
  intro p e s m args below meth c s₁ B hml hv
  obtain ⟨rfl, rfl, hP, hK, hD0, hN⟩ := hv
  have hlocks := B.notSynchronized
  have hr := B.returns
  have C : Cx p s m _ c cX2_join 3 wsX2_join RX2 D cy := ⟨B.exec, B.bytes, hml, findClass_of_methodNamed B.named, atoms_spec (ws := wsX2_join) B.pre, hK, hN⟩
  have hW := ww_start (w := wC cy a r) hP hD0
  generalize va_A (wC cy a r S) s.heap.size = A at hW ⊢
  have hl := lv_entry ([.ref (a 59), .int p1, .int p2]) (n := 3) (Nat.le_of_ble_eq_true rfl)
  rw [lg_entry_eq]
  generalize (lg_sl ([.ref (a 59), .int p1, .int p2]) ++ List.replicate (3 - (lg_sl ([.ref (a 59), .int p1, .int p2])).length) Slot.unset).toArray = ls at hl ⊢
  have hl : lv_has ls 3 [(0, .ref (a 59)), (1, .int p1), (2, .int p2)] := hl
  unfold fX2_join at hf
  refine lv_aload_n C.1 C.2.1 dX2_join_0 rfl (lv_at hl 0 rfl) ?_
  refine lv_aload_n C.1 C.2.1 dX2_join_1 rfl (lv_at hl 0 rfl) ?_
  refine lv_iload_n C.1 C.2.1 dX2_join_2 rfl (lv_at hl 1 rfl) ?_
  obtain ⟨v1, S3, h2, hf⟩ := bd2_el hf
  refine mcVi (w := wC cy a r) (S := S) (As := [.int p1]) (rest := [.ref (a 59)]) (q0 := 2) (ci := 2) C (cX2_across_met l D cy a r _ N S p1 (v1, S3) h2) (cwV 1 C.2.2.2.2.1 gX2_join_X2_across rfl rfl rfl (by decide +kernel) ⟨Nat.le_of_ble_eq_true rfl, Nat.le_of_ble_eq_true rfl⟩) rfl rfl rfl hl.1 (Nat.le_of_ble_eq_true rfl) hW dX2_join_3 ⟨Nat.zero_le _, Nat.zero_le _⟩ rfl (fun H locs hW => ?_)
  refine lv_aload_n C.1 C.2.1 dX2_join_6 rfl (lv_at hl 0 rfl) ?_
  refine lv_iload_n C.1 C.2.1 dX2_join_7 rfl (lv_at hl 2 rfl) ?_
  obtain ⟨v4, S6, h5, hf⟩ := bd2_el hf
  refine mcVi (w := wC cy a r) (S := S3) (As := [.int p2]) (rest := [.int v1, .ref (a 59)]) (q0 := 2) (ci := 2) C (cX2_across_met l D cy a r _ N S3 p2 (v4, S6) h5) (cwV 1 C.2.2.2.2.1 gX2_join_X2_across rfl rfl rfl (by decide +kernel) ⟨Nat.le_of_ble_eq_true rfl, Nat.le_of_ble_eq_true rfl⟩) rfl rfl rfl hl.1 (Nat.le_of_ble_eq_true rfl) hW dX2_join_8 ⟨Nat.zero_le _, Nat.zero_le _⟩ rfl (fun H locs hW => ?_)
  obtain ⟨S9, h8, hf⟩ := bdo_el hf
  refine mcVv (w := wC cy a r) (S := S6) (As := [.int v1, .int v4]) (rest := []) (q0 := 2) (ci := 2) C (cX2_link_met l D cy a r _ N S6 v1 v4 S9 h8) (cwV 2 C.2.2.2.2.1 gX2_join_X2_link rfl rfl rfl (by decide +kernel) ⟨Nat.le_of_ble_eq_true rfl, Nat.le_of_ble_eq_true rfl⟩) rfl rfl rfl hl.1 (Nat.le_of_ble_eq_true rfl) hW dX2_join_11 ⟨Nat.zero_le _, Nat.zero_le _⟩ rfl (fun H locs hW => ?_)
  exact mrV C hr hlocks hf hW dX2_join_14
theorem mX2_isErased_i7 : Cond.initialized RX7 ∈ wsX2_isErased := by decide +kernel
theorem mX2_isErased_s_nodeAt : Cond.static yX7_nodeAt ∈ wsX2_isErased := by decide +kernel
def fX2_isErased (N : Nat) (S : St) (p1 : Int32) : Option (Int32 × St) :=
  bd2 (fX2_across N S p1) fun v1 S3 =>
  bdo (fX7_nodeAt v1) fun v4 =>
  bd2 (fX2_kindOf N S3 v4) fun v6 S8 =>
  if v6 = (5 : Int32) then
    some ((1 : Int32), S8)
  else
    some ((0 : Int32), S8)
set_option maxHeartbeats 4000000 in
set_option maxRecDepth 100000 in
theorem cX2_isErased_met (l : Launch) (D : va_G) (cy : Nat → ClassId) (a r : Nat → Nat) (sz N : Nat) (S : St) (p1 : Int32) (Rr : Int32 × St) (hf : fX2_isErased N S p1 = some Rr) : Met l yX2_isErased wsX2_isErased ({ frames := 1, cells := 0, slots := 0, locals := 21 } : Room) (va_Pc [.ref (a 59), .int p1] (preW D cy (wC cy a r S) sz)) (QI D cy (wC cy a r) (va_A (wC cy a r S) sz) Rr) 0 0 (va_A (wC cy a r S) sz) := by
  refine Met.ofW (cc := cX2_isErased) (maxL := 2) (ret := (some .boolean)) (by decide) rfl ?_
  intro p e s m args below meth c s₁ B hml hv
  obtain ⟨rfl, rfl, hP, hK, hD0, hN⟩ := hv
  have hlocks := B.notSynchronized
  have hr := B.returns
  have C : Cx p s m _ c cX2_isErased 2 wsX2_isErased RX2 D cy := ⟨B.exec, B.bytes, hml, findClass_of_methodNamed B.named, atoms_spec (ws := wsX2_isErased) B.pre, hK, hN⟩
  have hW := ww_start (w := wC cy a r) hP hD0
  generalize va_A (wC cy a r S) s.heap.size = A at hW ⊢
  have hl := lv_entry ([.ref (a 59), .int p1]) (n := 2) (Nat.le_of_ble_eq_true rfl)
  rw [lg_entry_eq]
  generalize (lg_sl ([.ref (a 59), .int p1]) ++ List.replicate (2 - (lg_sl ([.ref (a 59), .int p1])).length) Slot.unset).toArray = ls at hl ⊢
  have hl : lv_has ls 2 [(0, .ref (a 59)), (1, .int p1)] := hl
  unfold fX2_isErased at hf
  refine lv_aload_n C.1 C.2.1 dX2_isErased_0 rfl (lv_at hl 0 rfl) ?_
  refine lv_aload_n C.1 C.2.1 dX2_isErased_1 rfl (lv_at hl 0 rfl) ?_
  refine lv_iload_n C.1 C.2.1 dX2_isErased_2 rfl (lv_at hl 1 rfl) ?_
  obtain ⟨v1, S3, h2, hf⟩ := bd2_el hf
  refine mcVi (w := wC cy a r) (S := S) (As := [.int p1]) (rest := [.ref (a 59)]) (q0 := 2) (ci := 2) C (cX2_across_met l D cy a r _ N S p1 (v1, S3) h2) (cwV 1 C.2.2.2.2.1 gX2_isErased_X2_across rfl rfl rfl (by decide +kernel) ⟨Nat.le_of_ble_eq_true rfl, Nat.le_of_ble_eq_true rfl⟩) rfl rfl rfl hl.1 (Nat.le_of_ble_eq_true rfl) hW dX2_isErased_3 ⟨Nat.zero_le _, Nat.zero_le _⟩ rfl (fun H locs hW => ?_)
  obtain ⟨v4, h5, hf⟩ := bdo_el hf
  refine mcSN (As := [.int v1]) (rest := [.ref (a 59)]) C (cX7_nodeAt_met l v1 v4 h5) ⟨va_cnB 1 C.2.2.2.2.1 gX2_isErased_X7_nodeAt_n48 rfl rfl rfl (C.2.2.2.2.2.2 (RX2, 48, yX7_nodeAt) (by decide +kernel)) (C.2.2.2.2.1 _ mX2_isErased_i7) (by decide +kernel) ⟨Nat.le_of_ble_eq_true rfl, Nat.le_of_ble_eq_true rfl⟩, C.2.2.2.2.1 _ mX2_isErased_s_nodeAt, trivial⟩ rfl hl.1 (Nat.le_of_ble_eq_true rfl) dX2_isErased_6 ⟨Nat.zero_le _, Nat.zero_le _⟩ rfl ?_
  obtain ⟨v6, S8, h7, hf⟩ := bd2_el hf
  refine mcVi (w := wC cy a r) (S := S3) (As := [.int v4]) (rest := []) (q0 := 2) (ci := 2) C (cX2_kindOf_met l D cy a r _ N S3 v4 (v6, S8) h7) (cwV 1 C.2.2.2.2.1 gX2_isErased_X2_kindOf rfl rfl rfl (by decide +kernel) ⟨Nat.le_of_ble_eq_true rfl, Nat.le_of_ble_eq_true rfl⟩) rfl rfl rfl hl.1 (Nat.le_of_ble_eq_true rfl) hW dX2_isErased_9 ⟨Nat.zero_le _, Nat.zero_le _⟩ rfl (fun H locs hW => ?_)
  refine lv_iconst (v := 5) C.1 C.2.1 dX2_isErased_12 (by decide) ?_
  refine lv_icmp_ne (tgt := 20) C.1 C.2.1 dX2_isErased_13 (by decide) (fun q9 => ?_) (fun q9 => ?_)
  · replace hf := (if_neg q9).symm.trans hf
    refine lv_iconst (v := 0) C.1 C.2.1 dX2_isErased_20 (by decide) ?_
    exact mrI C hr hlocks rfl hf hW dX2_isErased_21
  · replace hf := (if_pos q9).symm.trans hf
    refine lv_iconst (v := 1) C.1 C.2.1 dX2_isErased_16 (by decide) ?_
    refine lv_goto (tgt := 21) C.1 C.2.1 dX2_isErased_17 (by decide) ?_
    exact mrI C hr hlocks rfl hf hW dX2_isErased_21
theorem mX2_yields_i7 : Cond.initialized RX7 ∈ wsX2_yields := by decide +kernel
theorem mX2_yields_s_portOf : Cond.static yX7_portOf ∈ wsX2_yields := by decide +kernel
def fX2_yields (N : Nat) (S : St) (p1 : Int32) (p2 : Int32) : Option (Int32 × St) :=
  bd2 (fX2_kindOf N S p1) fun v1 S3 =>
  if v1 = (-1 : Int32) then
    some ((0 : Int32), S3)
  else
    if v1 = (6 : Int32) then
      some ((0 : Int32), S3)
    else
      if p2 = 0 then
        some ((1 : Int32), S3)
      else
        if v1 = (2 : Int32) then
          bdo (fX7_portOf p1 (1 : Int32)) fun v12 =>
          bd2 (fX2_isErased N S3 v12) fun v14 S16 =>
          if v14 = 0 then
            some ((0 : Int32), S16)
          else
            bdo (fX7_portOf p1 (2 : Int32)) fun v18 =>
            bd2 (fX2_isErased N S16 v18) fun v20 S22 =>
            if v20 = 0 then
              some ((0 : Int32), S22)
            else
              some ((1 : Int32), S22)
        else
          if p2 = (1 : Int32) then
            if v1 = (3 : Int32) then
              some ((1 : Int32), S3)
            else
              if v1 = (4 : Int32) then
                some ((1 : Int32), S3)
              else
                if v1 = (1 : Int32) then
                  some ((1 : Int32), S3)
                else
                  some ((0 : Int32), S3)
          else
            some ((0 : Int32), S3)
set_option maxHeartbeats 4000000 in
set_option maxRecDepth 100000 in
theorem cX2_yields_met (l : Launch) (D : va_G) (cy : Nat → ClassId) (a r : Nat → Nat) (sz N : Nat) (S : St) (p1 : Int32) (p2 : Int32) (Rr : Int32 × St) (hf : fX2_yields N S p1 p2 = some Rr) : Met l yX2_yields wsX2_yields ({ frames := 2, cells := 0, slots := 0, locals := 42 } : Room) (va_Pc [.ref (a 59), .int p1, .int p2] (preW D cy (wC cy a r S) sz)) (QI D cy (wC cy a r) (va_A (wC cy a r S) sz) Rr) 0 0 (va_A (wC cy a r S) sz) := by
  refine Met.ofW (cc := cX2_yields) (maxL := 4) (ret := (some .boolean)) (by decide) rfl ?_
  intro p e s m args below meth c s₁ B hml hv
  obtain ⟨rfl, rfl, hP, hK, hD0, hN⟩ := hv
  have hlocks := B.notSynchronized
  have hr := B.returns
  have C : Cx p s m _ c cX2_yields 4 wsX2_yields RX2 D cy := ⟨B.exec, B.bytes, hml, findClass_of_methodNamed B.named, atoms_spec (ws := wsX2_yields) B.pre, hK, hN⟩
  have hW := ww_start (w := wC cy a r) hP hD0
  generalize va_A (wC cy a r S) s.heap.size = A at hW ⊢
  have hl := lv_entry ([.ref (a 59), .int p1, .int p2]) (n := 4) (Nat.le_of_ble_eq_true rfl)
  rw [lg_entry_eq]
  generalize (lg_sl ([.ref (a 59), .int p1, .int p2]) ++ List.replicate (4 - (lg_sl ([.ref (a 59), .int p1, .int p2])).length) Slot.unset).toArray = ls at hl ⊢
  have hl : lv_has ls 4 [(0, .ref (a 59)), (1, .int p1), (2, .int p2)] := hl
  unfold fX2_yields at hf
  refine lv_aload_n C.1 C.2.1 dX2_yields_0 rfl (lv_at hl 0 rfl) ?_
  refine lv_iload_n C.1 C.2.1 dX2_yields_1 rfl (lv_at hl 1 rfl) ?_
  obtain ⟨v1, S3, h2, hf⟩ := bd2_el hf
  refine mcVi (w := wC cy a r) (S := S) (As := [.int p1]) (rest := []) (q0 := 2) (ci := 2) C (cX2_kindOf_met l D cy a r _ N S p1 (v1, S3) h2) (cwV 1 C.2.2.2.2.1 gX2_yields_X2_kindOf rfl rfl rfl (by decide +kernel) ⟨Nat.le_of_ble_eq_true rfl, Nat.le_of_ble_eq_true rfl⟩) rfl rfl rfl hl.1 (Nat.le_of_ble_eq_true rfl) hW dX2_yields_2 ⟨Nat.zero_le _, Nat.zero_le _⟩ rfl (fun H locs hW => ?_)
  refine lv_istore_n (lv' := [(3, .int v1), (0, .ref (a 59)), (1, .int p1), (2, .int p2)]) C.1 C.2.1 dX2_yields_5 rfl hl (by decide) rfl (fun ls hl => ?_)
  refine lv_iload_n C.1 C.2.1 dX2_yields_6 rfl (lv_at hl 0 rfl) ?_
  refine lv_iconst (v := -1) C.1 C.2.1 dX2_yields_7 (by decide) ?_
  refine lv_icmp_eq (tgt := 17) C.1 C.2.1 dX2_yields_8 (by decide) (fun q4 => ?_) (fun q4 => ?_)
  · replace hf := (if_pos q4).symm.trans hf
    refine lv_iconst (v := 0) C.1 C.2.1 dX2_yields_17 (by decide) ?_
    exact mrI C hr hlocks rfl hf hW dX2_yields_18
  · replace hf := (if_neg q4).symm.trans hf
    refine lv_iload_n C.1 C.2.1 dX2_yields_11 rfl (lv_at hl 0 rfl) ?_
    refine lv_bipush (v := 6) C.1 C.2.1 dX2_yields_12 (by decide) ?_
    refine lv_icmp_ne (tgt := 19) C.1 C.2.1 dX2_yields_14 (by decide) (fun q5 => ?_) (fun q5 => ?_)
    · replace hf := (if_neg q5).symm.trans hf
      refine lv_iload_n C.1 C.2.1 dX2_yields_19 rfl (lv_at hl 3 rfl) ?_
      refine lv_if_ne (tgt := 25) C.1 C.2.1 dX2_yields_20 (by decide) (fun q6 => ?_) (fun q6 => ?_)
      · replace hf := (if_neg q6).symm.trans hf
        refine lv_iload_n C.1 C.2.1 dX2_yields_25 rfl (lv_at hl 0 rfl) ?_
        refine lv_iconst (v := 2) C.1 C.2.1 dX2_yields_26 (by decide) ?_
        refine lv_icmp_ne (tgt := 60) C.1 C.2.1 dX2_yields_27 (by decide) (fun q7 => ?_) (fun q7 => ?_)
        · replace hf := (if_neg q7).symm.trans hf
          refine lv_iload_n C.1 C.2.1 dX2_yields_60 rfl (lv_at hl 3 rfl) ?_
          refine lv_iconst (v := 1) C.1 C.2.1 dX2_yields_61 (by decide) ?_
          refine lv_icmp_ne (tgt := 84) C.1 C.2.1 dX2_yields_62 (by decide) (fun q8 => ?_) (fun q8 => ?_)
          · replace hf := (if_neg q8).symm.trans hf
            refine lv_iconst (v := 0) C.1 C.2.1 dX2_yields_84 (by decide) ?_
            exact mrI C hr hlocks rfl hf hW dX2_yields_85
          · replace hf := (if_pos q8).symm.trans hf
            refine lv_iload_n C.1 C.2.1 dX2_yields_65 rfl (lv_at hl 0 rfl) ?_
            refine lv_iconst (v := 3) C.1 C.2.1 dX2_yields_66 (by decide) ?_
            refine lv_icmp_eq (tgt := 80) C.1 C.2.1 dX2_yields_67 (by decide) (fun q9 => ?_) (fun q9 => ?_)
            · replace hf := (if_pos q9).symm.trans hf
              refine lv_iconst (v := 1) C.1 C.2.1 dX2_yields_80 (by decide) ?_
              refine lv_goto (tgt := 85) C.1 C.2.1 dX2_yields_81 (by decide) ?_
              exact mrI C hr hlocks rfl hf hW dX2_yields_85
            · replace hf := (if_neg q9).symm.trans hf
              refine lv_iload_n C.1 C.2.1 dX2_yields_70 rfl (lv_at hl 0 rfl) ?_
              refine lv_iconst (v := 4) C.1 C.2.1 dX2_yields_71 (by decide) ?_
              refine lv_icmp_eq (tgt := 80) C.1 C.2.1 dX2_yields_72 (by decide) (fun q10 => ?_) (fun q10 => ?_)
              · replace hf := (if_pos q10).symm.trans hf
                refine lv_iconst (v := 1) C.1 C.2.1 dX2_yields_80 (by decide) ?_
                refine lv_goto (tgt := 85) C.1 C.2.1 dX2_yields_81 (by decide) ?_
                exact mrI C hr hlocks rfl hf hW dX2_yields_85
              · replace hf := (if_neg q10).symm.trans hf
                refine lv_iload_n C.1 C.2.1 dX2_yields_75 rfl (lv_at hl 0 rfl) ?_
                refine lv_iconst (v := 1) C.1 C.2.1 dX2_yields_76 (by decide) ?_
                refine lv_icmp_ne (tgt := 84) C.1 C.2.1 dX2_yields_77 (by decide) (fun q11 => ?_) (fun q11 => ?_)
                · replace hf := (if_neg q11).symm.trans hf
                  refine lv_iconst (v := 0) C.1 C.2.1 dX2_yields_84 (by decide) ?_
                  exact mrI C hr hlocks rfl hf hW dX2_yields_85
                · replace hf := (if_pos q11).symm.trans hf
                  refine lv_iconst (v := 1) C.1 C.2.1 dX2_yields_80 (by decide) ?_
                  refine lv_goto (tgt := 85) C.1 C.2.1 dX2_yields_81 (by decide) ?_
                  exact mrI C hr hlocks rfl hf hW dX2_yields_85
        · replace hf := (if_pos q7).symm.trans hf
          refine lv_aload_n C.1 C.2.1 dX2_yields_30 rfl (lv_at hl 1 rfl) ?_
          refine lv_iload_n C.1 C.2.1 dX2_yields_31 rfl (lv_at hl 2 rfl) ?_
          refine lv_iconst (v := 1) C.1 C.2.1 dX2_yields_32 (by decide) ?_
          obtain ⟨v12, h13, hf⟩ := bdo_el hf
          refine mcSN (As := [.int p1, .int (1 : Int32)]) (rest := [.ref (a 59)]) C (cX7_portOf_met l p1 (1 : Int32) v12 h13) ⟨va_cnB 2 C.2.2.2.2.1 gX2_yields_X7_portOf_n66 rfl rfl rfl (C.2.2.2.2.2.2 (RX2, 66, yX7_portOf) (by decide +kernel)) (C.2.2.2.2.1 _ mX2_yields_i7) (by decide +kernel) ⟨Nat.le_of_ble_eq_true rfl, Nat.le_of_ble_eq_true rfl⟩, C.2.2.2.2.1 _ mX2_yields_s_portOf, trivial⟩ rfl hl.1 (Nat.le_of_ble_eq_true rfl) dX2_yields_33 ⟨Nat.zero_le _, Nat.zero_le _⟩ rfl ?_
          obtain ⟨v14, S16, h15, hf⟩ := bd2_el hf
          refine mcVi (w := wC cy a r) (S := S3) (As := [.int v12]) (rest := []) (q0 := 2) (ci := 2) C (cX2_isErased_met l D cy a r _ N S3 v12 (v14, S16) h15) (cwV 1 C.2.2.2.2.1 gX2_yields_X2_isErased rfl rfl rfl (by decide +kernel) ⟨Nat.le_of_ble_eq_true rfl, Nat.le_of_ble_eq_true rfl⟩) rfl rfl rfl hl.1 (Nat.le_of_ble_eq_true rfl) hW dX2_yields_36 ⟨Nat.zero_le _, Nat.zero_le _⟩ rfl (fun H locs hW => ?_)
          refine lv_if_eq (tgt := 58) C.1 C.2.1 dX2_yields_39 (by decide) (fun q17 => ?_) (fun q17 => ?_)
          · replace hf := (if_pos q17).symm.trans hf
            refine lv_iconst (v := 0) C.1 C.2.1 dX2_yields_58 (by decide) ?_
            exact mrI C hr hlocks rfl hf hW dX2_yields_59
          · replace hf := (if_neg q17).symm.trans hf
            refine lv_aload_n C.1 C.2.1 dX2_yields_42 rfl (lv_at hl 1 rfl) ?_
            refine lv_iload_n C.1 C.2.1 dX2_yields_43 rfl (lv_at hl 2 rfl) ?_
            refine lv_iconst (v := 2) C.1 C.2.1 dX2_yields_44 (by decide) ?_
            obtain ⟨v18, h19, hf⟩ := bdo_el hf
            refine mcSN (As := [.int p1, .int (2 : Int32)]) (rest := [.ref (a 59)]) C (cX7_portOf_met l p1 (2 : Int32) v18 h19) ⟨va_cnB 2 C.2.2.2.2.1 gX2_yields_X7_portOf_n66 rfl rfl rfl (C.2.2.2.2.2.2 (RX2, 66, yX7_portOf) (by decide +kernel)) (C.2.2.2.2.1 _ mX2_yields_i7) (by decide +kernel) ⟨Nat.le_of_ble_eq_true rfl, Nat.le_of_ble_eq_true rfl⟩, C.2.2.2.2.1 _ mX2_yields_s_portOf, trivial⟩ rfl hl.1 (Nat.le_of_ble_eq_true rfl) dX2_yields_45 ⟨Nat.zero_le _, Nat.zero_le _⟩ rfl ?_
            obtain ⟨v20, S22, h21, hf⟩ := bd2_el hf
            refine mcVi (w := wC cy a r) (S := S16) (As := [.int v18]) (rest := []) (q0 := 2) (ci := 2) C (cX2_isErased_met l D cy a r _ N S16 v18 (v20, S22) h21) (cwV 1 C.2.2.2.2.1 gX2_yields_X2_isErased rfl rfl rfl (by decide +kernel) ⟨Nat.le_of_ble_eq_true rfl, Nat.le_of_ble_eq_true rfl⟩) rfl rfl rfl hl.1 (Nat.le_of_ble_eq_true rfl) hW dX2_yields_48 ⟨Nat.zero_le _, Nat.zero_le _⟩ rfl (fun H locs hW => ?_)
            refine lv_if_eq (tgt := 58) C.1 C.2.1 dX2_yields_51 (by decide) (fun q23 => ?_) (fun q23 => ?_)
            · replace hf := (if_pos q23).symm.trans hf
              refine lv_iconst (v := 0) C.1 C.2.1 dX2_yields_58 (by decide) ?_
              exact mrI C hr hlocks rfl hf hW dX2_yields_59
            · replace hf := (if_neg q23).symm.trans hf
              refine lv_iconst (v := 1) C.1 C.2.1 dX2_yields_54 (by decide) ?_
              refine lv_goto (tgt := 59) C.1 C.2.1 dX2_yields_55 (by decide) ?_
              exact mrI C hr hlocks rfl hf hW dX2_yields_59
      · replace hf := (if_pos q6).symm.trans hf
        refine lv_iconst (v := 1) C.1 C.2.1 dX2_yields_23 (by decide) ?_
        exact mrI C hr hlocks rfl hf hW dX2_yields_24
    · replace hf := (if_pos q5).symm.trans hf
      refine lv_iconst (v := 0) C.1 C.2.1 dX2_yields_17 (by decide) ?_
      exact mrI C hr hlocks rfl hf hW dX2_yields_18
theorem mX2_erase_41 : Cond.fieldLink RX2 41 "SharedLambda$Graph" "erased" "I" ∈ wsX2_erase := by decide +kernel
theorem mX2_erase_i7 : Cond.initialized RX7 ∈ wsX2_erase := by decide +kernel
theorem mX2_erase_s_portOf : Cond.static yX7_portOf ∈ wsX2_erase := by decide +kernel
theorem mX2_erase_s_nodeAt : Cond.static yX7_nodeAt ∈ wsX2_erase := by decide +kernel
theorem mX2_erase_s_otherPorts : Cond.static yX7_otherPorts ∈ wsX2_erase := by decide +kernel
theorem kX2_erase_2 : ∀ w ∈ u_ws RX2 TX2 10, w ∈ wsX2_erase := fun _ h => List.mem_cons_of_mem _ (List.mem_append_right _ h)
def fX2_erase_64 (N : Nat) (k11 : St × Int32 × Int32 × Int32 → Option (St)) (S : St) (x1 : Int32) (x2 : Int32) (x3 : Int32) : Option (St) :=
  bnd (x3 + (1 : Int32)) fun z1 =>
  k11 (S, x1, x2, z1)
set_option maxHeartbeats 4000000 in
set_option maxRecDepth 100000 in
theorem lX2_erase_64 {p : Program} {l : Launch} {e : Env} {s : State} {m : MethodId} {args : Array Value} {below : List Frame} {meth : Method} {c : Code} {D : va_G} {cy : Nat → ClassId} {a r : Nat → Nat} {A : Nat → Prop} {Rr : St} (C : Cx p s m args c cX2_erase 5 wsX2_erase RX2 D cy) (hr : meth.sig.returnType = none) (hlocks : meth.locks = false) (N : Nat) (k11 : St × Int32 × Int32 × Int32 → Option (St)) (hk11 : ∀ (S : St) (x1 : Int32) (x2 : Int32) (x3 : Int32), k11 (S, x1, x2, x3) = some Rr → ∀ (H : Heap) (locs : List Loc) (ls : Array Slot), WW D A s.heap (wC cy a r S) H locs → lv_has ls 5 [(0, .ref (a 59)), (1, .int x1), (2, .int x2), (3, .int x3)] → W p l e ({ frames := 3, cells := 0, slots := 0, locals := 65 } : Room) s m args below meth c H locs 0 0 (MQ below (QV D cy (wC cy a r) A Rr) args s 0 0 A) (F0 m 11 ls [])) (S : St) (x1 : Int32) (x2 : Int32) (x3 : Int32) (hf : fX2_erase_64 N k11 S x1 x2 x3 = some Rr) : ∀ (H : Heap) (locs : List Loc) (ls : Array Slot), WW D A s.heap (wC cy a r S) H locs → lv_has ls 5 [(0, .ref (a 59)), (1, .int x1), (2, .int x2), (3, .int x3)] → W p l e ({ frames := 3, cells := 0, slots := 0, locals := 65 } : Room) s m args below meth c H locs 0 0 (MQ below (QV D cy (wC cy a r) A Rr) args s 0 0 A) (F0 m 64 ls []) := by
  intro H locs ls hW hl
  unfold fX2_erase_64 at hf
  obtain ⟨z1, ez1, hf⟩ := bnd_el hf
  refine lv_iinc (v := z1) (lv' := [(3, .int z1), (0, .ref (a 59)), (1, .int x1), (2, .int x2)]) C.1 C.2.1 dX2_erase_64 hl (k := 3) rfl (by rw [ez1]; rfl) (by decide) rfl (fun ls hl => ?_)
  refine lv_goto (tgt := 11) C.1 C.2.1 dX2_erase_67 (by decide) ?_
  exact hk11 _ _ _ _ hf _ _ _ hW (lv_sub hl [1, 2, 3, 0] rfl)
def fX2_erase_11s (N : Nat) (k11 : St × Int32 × Int32 × Int32 → Option (St)) (S : St) (x1 : Int32) (x2 : Int32) (x3 : Int32) : Option (St) :=
  if x2 < x3 then
    bdo (fX2_discard N S x1) fun S4 =>
    bnd (sI S4 49 ((S4.1 49 + (1 : Int32)))) fun S5 =>
    some S5
  else
    bdo (fX7_portOf x1 x3) fun v6 =>
    bd2 (fX2_isErased N S v6) fun v8 S10 =>
    if v8 = 0 then
      bd2 (fX2_make N S10 (5 : Int32) (-1 : Int32)) fun v12 S14 =>
      bdo (fX7_portOf v12 (0 : Int32)) fun v15 =>
      bdo (fX2_replace N S14 v6 v15) fun S19 =>
      fX2_erase_64 N k11 S19 x1 x2 x3
    else
      bd2 (fX2_across N S10 v6) fun v20 S22 =>
      bdo (fX7_nodeAt v20) fun v23 =>
      bdo (fX2_discard N S22 v23) fun S27 =>
      fX2_erase_64 N k11 S27 x1 x2 x3
def fX2_erase_11 (N : Nat) : St × Int32 × Int32 × Int32 → Option (St) := loopN (fun k x => fX2_erase_11s N k x.1 x.2.1 x.2.2.1 x.2.2.2) N
set_option maxHeartbeats 4000000 in
set_option maxRecDepth 100000 in
theorem lX2_erase_11 {p : Program} {l : Launch} {e : Env} {s : State} {m : MethodId} {args : Array Value} {below : List Frame} {meth : Method} {c : Code} {D : va_G} {cy : Nat → ClassId} {a r : Nat → Nat} {A : Nat → Prop} {Rr : St} (C : Cx p s m args c cX2_erase 5 wsX2_erase RX2 D cy) (hr : meth.sig.returnType = none) (hlocks : meth.locks = false) (N : Nat) : ∀ (n : Nat) (S : St) (x1 : Int32) (x2 : Int32) (x3 : Int32), loopN (fun k x => fX2_erase_11s N k x.1 x.2.1 x.2.2.1 x.2.2.2) n (S, x1, x2, x3) = some Rr → ∀ (H : Heap) (locs : List Loc) (ls : Array Slot), WW D A s.heap (wC cy a r S) H locs → lv_has ls 5 [(0, .ref (a 59)), (1, .int x1), (2, .int x2), (3, .int x3)] → W p l e ({ frames := 3, cells := 0, slots := 0, locals := 65 } : Room) s m args below meth c H locs 0 0 (MQ below (QV D cy (wC cy a r) A Rr) args s 0 0 A) (F0 m 11 ls []) := by
  intro n
  induction n with
  | zero =>
    intro S x1 x2 x3 hf
    cases hf
  | succ n ih =>
    intro S x1 x2 x3 hf H locs ls hW hl
    have hf : fX2_erase_11s N (loopN (fun k x => fX2_erase_11s N k x.1 x.2.1 x.2.2.1 x.2.2.2) n) S x1 x2 x3 = some Rr := hf
    unfold fX2_erase_11s at hf
    refine lv_iload_n C.1 C.2.1 dX2_erase_11 rfl (lv_at hl 3 rfl) ?_
    refine lv_iload_n C.1 C.2.1 dX2_erase_12 rfl (lv_at hl 2 rfl) ?_
    refine lv_icmp_gt (tgt := 70) C.1 C.2.1 dX2_erase_13 (by decide) (fun q1 => ?_) (fun q1 => ?_)
    · replace hf := (if_pos q1).symm.trans hf
      refine lv_aload_n C.1 C.2.1 dX2_erase_70 rfl (lv_at hl 0 rfl) ?_
      refine lv_iload_n C.1 C.2.1 dX2_erase_71 rfl (lv_at hl 1 rfl) ?_
      obtain ⟨S4, h3, hf⟩ := bdo_el hf
      refine mcVv (w := wC cy a r) (S := S) (As := [.int x1]) (rest := []) (q0 := 2) (ci := 2) C (cX2_discard_met l D cy a r _ N S x1 S4 h3) (cwV 1 C.2.2.2.2.1 gX2_erase_X2_discard rfl rfl rfl (by decide +kernel) ⟨Nat.le_of_ble_eq_true rfl, Nat.le_of_ble_eq_true rfl⟩) rfl rfl rfl hl.1 (Nat.le_of_ble_eq_true rfl) hW dX2_erase_72 ⟨Nat.zero_le _, Nat.zero_le _⟩ rfl (fun H locs hW => ?_)
      refine lv_aload_n C.1 C.2.1 dX2_erase_75 rfl (lv_at hl 0 rfl) ?_
      refine lv_dup C.1 C.2.1 dX2_erase_76 rfl ?_
      refine fg_2_9 C kX2_erase_2 mX2_erase_41 hW dX2_erase_77 ?_
      refine lv_iconst (v := 1) C.1 C.2.1 dX2_erase_80 (by decide) ?_
      refine lv_iadd C.1 C.2.1 dX2_erase_81 ?_
      obtain ⟨S5, eS5, hf⟩ := bnd_el hf
      refine fp_2_9 C kX2_erase_2 mX2_erase_41 hW dX2_erase_82 eS5 (fun H locs hW => ?_)
      exact mrV C hr hlocks hf hW dX2_erase_85
    · replace hf := (if_neg q1).symm.trans hf
      refine lv_iload_n C.1 C.2.1 dX2_erase_16 rfl (lv_at hl 1 rfl) ?_
      refine lv_iload_n C.1 C.2.1 dX2_erase_17 rfl (lv_at hl 3 rfl) ?_
      obtain ⟨v6, h7, hf⟩ := bdo_el hf
      refine mcSN (As := [.int x1, .int x3]) (rest := []) C (cX7_portOf_met l x1 x3 v6 h7) ⟨va_cnB 2 C.2.2.2.2.1 gX2_erase_X7_portOf_n66 rfl rfl rfl (C.2.2.2.2.2.2 (RX2, 66, yX7_portOf) (by decide +kernel)) (C.2.2.2.2.1 _ mX2_erase_i7) (by decide +kernel) ⟨Nat.le_of_ble_eq_true rfl, Nat.le_of_ble_eq_true rfl⟩, C.2.2.2.2.1 _ mX2_erase_s_portOf, trivial⟩ rfl hl.1 (Nat.le_of_ble_eq_true rfl) dX2_erase_18 ⟨Nat.zero_le _, Nat.zero_le _⟩ rfl ?_
      refine lv_istore (lv' := [(4, .int v6), (0, .ref (a 59)), (1, .int x1), (2, .int x2), (3, .int x3)]) C.1 C.2.1 dX2_erase_21 hl (by decide) rfl (fun ls hl => ?_)
      refine lv_aload_n C.1 C.2.1 dX2_erase_23 rfl (lv_at hl 1 rfl) ?_
      refine lv_iload C.1 C.2.1 dX2_erase_24 (lv_at hl 0 rfl) ?_
      obtain ⟨v8, S10, h9, hf⟩ := bd2_el hf
      refine mcVi (w := wC cy a r) (S := S) (As := [.int v6]) (rest := []) (q0 := 2) (ci := 2) C (cX2_isErased_met l D cy a r _ N S v6 (v8, S10) h9) (cwV 1 C.2.2.2.2.1 gX2_erase_X2_isErased rfl rfl rfl (by decide +kernel) ⟨Nat.le_of_ble_eq_true rfl, Nat.le_of_ble_eq_true rfl⟩) rfl rfl rfl hl.1 (Nat.le_of_ble_eq_true rfl) hW dX2_erase_26 ⟨Nat.zero_le _, Nat.zero_le _⟩ rfl (fun H locs hW => ?_)
      refine lv_if_eq (tgt := 48) C.1 C.2.1 dX2_erase_29 (by decide) (fun q11 => ?_) (fun q11 => ?_)
      · replace hf := (if_pos q11).symm.trans hf
        refine lv_aload_n C.1 C.2.1 dX2_erase_48 rfl (lv_at hl 1 rfl) ?_
        refine lv_iload C.1 C.2.1 dX2_erase_49 (lv_at hl 0 rfl) ?_
        refine lv_aload_n C.1 C.2.1 dX2_erase_51 rfl (lv_at hl 1 rfl) ?_
        refine lv_iconst (v := 5) C.1 C.2.1 dX2_erase_52 (by decide) ?_
        refine lv_iconst (v := -1) C.1 C.2.1 dX2_erase_53 (by decide) ?_
        obtain ⟨v12, S14, h13, hf⟩ := bd2_el hf
        refine mcVi (w := wC cy a r) (S := S10) (As := [.int (5 : Int32), .int (-1 : Int32)]) (rest := [.int v6, .ref (a 59)]) (q0 := 2) (ci := 2) C (cX2_make_met l D cy a r _ N S10 (5 : Int32) (-1 : Int32) (v12, S14) h13) (cwV 2 C.2.2.2.2.1 gX2_erase_X2_make rfl rfl rfl (by decide +kernel) ⟨Nat.le_of_ble_eq_true rfl, Nat.le_of_ble_eq_true rfl⟩) rfl rfl rfl hl.1 (Nat.le_of_ble_eq_true rfl) hW dX2_erase_54 ⟨Nat.zero_le _, Nat.zero_le _⟩ rfl (fun H locs hW => ?_)
        refine lv_iconst (v := 0) C.1 C.2.1 dX2_erase_57 (by decide) ?_
        obtain ⟨v15, h16, hf⟩ := bdo_el hf
        refine mcSN (As := [.int v12, .int (0 : Int32)]) (rest := [.int v6, .ref (a 59)]) C (cX7_portOf_met l v12 (0 : Int32) v15 h16) ⟨va_cnB 2 C.2.2.2.2.1 gX2_erase_X7_portOf_n66 rfl rfl rfl (C.2.2.2.2.2.2 (RX2, 66, yX7_portOf) (by decide +kernel)) (C.2.2.2.2.1 _ mX2_erase_i7) (by decide +kernel) ⟨Nat.le_of_ble_eq_true rfl, Nat.le_of_ble_eq_true rfl⟩, C.2.2.2.2.1 _ mX2_erase_s_portOf, trivial⟩ rfl hl.1 (Nat.le_of_ble_eq_true rfl) dX2_erase_58 ⟨Nat.zero_le _, Nat.zero_le _⟩ rfl ?_
        obtain ⟨S19, h18, hf⟩ := bdo_el hf
        refine mcVv (w := wC cy a r) (S := S14) (As := [.int v6, .int v15]) (rest := []) (q0 := 2) (ci := 2) C (cX2_replace_met l D cy a r _ N S14 v6 v15 S19 h18) (cwV 2 C.2.2.2.2.1 gX2_erase_X2_replace rfl rfl rfl (by decide +kernel) ⟨Nat.le_of_ble_eq_true rfl, Nat.le_of_ble_eq_true rfl⟩) rfl rfl rfl hl.1 (Nat.le_of_ble_eq_true rfl) hW dX2_erase_61 ⟨Nat.zero_le _, Nat.zero_le _⟩ rfl (fun H locs hW => ?_)
        exact lX2_erase_64 C hr hlocks N _ ih _ _ _ _ hf _ _ _ hW (lv_sub hl [1, 2, 3, 4] rfl)
      · replace hf := (if_neg q11).symm.trans hf
        refine lv_aload_n C.1 C.2.1 dX2_erase_32 rfl (lv_at hl 1 rfl) ?_
        refine lv_aload_n C.1 C.2.1 dX2_erase_33 rfl (lv_at hl 1 rfl) ?_
        refine lv_iload C.1 C.2.1 dX2_erase_34 (lv_at hl 0 rfl) ?_
        obtain ⟨v20, S22, h21, hf⟩ := bd2_el hf
        refine mcVi (w := wC cy a r) (S := S10) (As := [.int v6]) (rest := [.ref (a 59)]) (q0 := 2) (ci := 2) C (cX2_across_met l D cy a r _ N S10 v6 (v20, S22) h21) (cwV 1 C.2.2.2.2.1 gX2_erase_X2_across rfl rfl rfl (by decide +kernel) ⟨Nat.le_of_ble_eq_true rfl, Nat.le_of_ble_eq_true rfl⟩) rfl rfl rfl hl.1 (Nat.le_of_ble_eq_true rfl) hW dX2_erase_36 ⟨Nat.zero_le _, Nat.zero_le _⟩ rfl (fun H locs hW => ?_)
        obtain ⟨v23, h24, hf⟩ := bdo_el hf
        refine mcSN (As := [.int v20]) (rest := [.ref (a 59)]) C (cX7_nodeAt_met l v20 v23 h24) ⟨va_cnB 1 C.2.2.2.2.1 gX2_erase_X7_nodeAt_n48 rfl rfl rfl (C.2.2.2.2.2.2 (RX2, 48, yX7_nodeAt) (by decide +kernel)) (C.2.2.2.2.1 _ mX2_erase_i7) (by decide +kernel) ⟨Nat.le_of_ble_eq_true rfl, Nat.le_of_ble_eq_true rfl⟩, C.2.2.2.2.1 _ mX2_erase_s_nodeAt, trivial⟩ rfl hl.1 (Nat.le_of_ble_eq_true rfl) dX2_erase_39 ⟨Nat.zero_le _, Nat.zero_le _⟩ rfl ?_
        obtain ⟨S27, h26, hf⟩ := bdo_el hf
        refine mcVv (w := wC cy a r) (S := S22) (As := [.int v23]) (rest := []) (q0 := 2) (ci := 2) C (cX2_discard_met l D cy a r _ N S22 v23 S27 h26) (cwV 1 C.2.2.2.2.1 gX2_erase_X2_discard rfl rfl rfl (by decide +kernel) ⟨Nat.le_of_ble_eq_true rfl, Nat.le_of_ble_eq_true rfl⟩) rfl rfl rfl hl.1 (Nat.le_of_ble_eq_true rfl) hW dX2_erase_42 ⟨Nat.zero_le _, Nat.zero_le _⟩ rfl (fun H locs hW => ?_)
        refine lv_goto (tgt := 64) C.1 C.2.1 dX2_erase_45 (by decide) ?_
        exact lX2_erase_64 C hr hlocks N _ ih _ _ _ _ hf _ _ _ hW (lv_sub hl [1, 2, 3, 4] rfl)
def fX2_erase (N : Nat) (S : St) (p1 : Int32) : Option (St) :=
  bd2 (fX2_kindOf N S p1) fun v1 S3 =>
  bdo (fX7_otherPorts v1) fun v4 =>
  bnd (0 : Int32) fun z6 =>
  fX2_erase_11 N (S3, p1, v4, z6)
set_option maxHeartbeats 4000000 in
set_option maxRecDepth 100000 in
theorem cX2_erase_met (l : Launch) (D : va_G) (cy : Nat → ClassId) (a r : Nat → Nat) (sz N : Nat) (S : St) (p1 : Int32) (Rr : St) (hf : fX2_erase N S p1 = some Rr) : Met l yX2_erase wsX2_erase ({ frames := 3, cells := 0, slots := 0, locals := 65 } : Room) (va_Pc [.ref (a 59), .int p1] (preW D cy (wC cy a r S) sz)) (QV D cy (wC cy a r) (va_A (wC cy a r S) sz) Rr) 0 0 (va_A (wC cy a r S) sz) := by
  refine Met.ofW (cc := cX2_erase) (maxL := 5) (ret := none) (by decide) rfl ?_
  intro p e s m args below meth c s₁ B hml hv
  obtain ⟨rfl, rfl, hP, hK, hD0, hN⟩ := hv
  have hlocks := B.notSynchronized
  have hr := B.returns
  have C : Cx p s m _ c cX2_erase 5 wsX2_erase RX2 D cy := ⟨B.exec, B.bytes, hml, findClass_of_methodNamed B.named, atoms_spec (ws := wsX2_erase) B.pre, hK, hN⟩
  have hW := ww_start (w := wC cy a r) hP hD0
  generalize va_A (wC cy a r S) s.heap.size = A at hW ⊢
  have hl := lv_entry ([.ref (a 59), .int p1]) (n := 5) (Nat.le_of_ble_eq_true rfl)
  rw [lg_entry_eq]
  generalize (lg_sl ([.ref (a 59), .int p1]) ++ List.replicate (5 - (lg_sl ([.ref (a 59), .int p1])).length) Slot.unset).toArray = ls at hl ⊢
  have hl : lv_has ls 5 [(0, .ref (a 59)), (1, .int p1)] := hl
  unfold fX2_erase at hf
  refine lv_aload_n C.1 C.2.1 dX2_erase_0 rfl (lv_at hl 0 rfl) ?_
  refine lv_iload_n C.1 C.2.1 dX2_erase_1 rfl (lv_at hl 1 rfl) ?_
  obtain ⟨v1, S3, h2, hf⟩ := bd2_el hf
  refine mcVi (w := wC cy a r) (S := S) (As := [.int p1]) (rest := []) (q0 := 2) (ci := 2) C (cX2_kindOf_met l D cy a r _ N S p1 (v1, S3) h2) (cwV 1 C.2.2.2.2.1 gX2_erase_X2_kindOf rfl rfl rfl (by decide +kernel) ⟨Nat.le_of_ble_eq_true rfl, Nat.le_of_ble_eq_true rfl⟩) rfl rfl rfl hl.1 (Nat.le_of_ble_eq_true rfl) hW dX2_erase_2 ⟨Nat.zero_le _, Nat.zero_le _⟩ rfl (fun H locs hW => ?_)
  obtain ⟨v4, h5, hf⟩ := bdo_el hf
  refine mcSN (As := [.int v1]) (rest := []) C (cX7_otherPorts_met l v1 v4 h5) ⟨va_cnB 1 C.2.2.2.2.1 gX2_erase_X7_otherPorts_n87 rfl rfl rfl (C.2.2.2.2.2.2 (RX2, 87, yX7_otherPorts) (by decide +kernel)) (C.2.2.2.2.1 _ mX2_erase_i7) (by decide +kernel) ⟨Nat.le_of_ble_eq_true rfl, Nat.le_of_ble_eq_true rfl⟩, C.2.2.2.2.1 _ mX2_erase_s_otherPorts, trivial⟩ rfl hl.1 (Nat.le_of_ble_eq_true rfl) dX2_erase_5 ⟨Nat.zero_le _, Nat.zero_le _⟩ rfl ?_
  refine lv_istore_n (lv' := [(2, .int v4), (0, .ref (a 59)), (1, .int p1)]) C.1 C.2.1 dX2_erase_8 rfl hl (by decide) rfl (fun ls hl => ?_)
  refine lv_iconst (v := 0) C.1 C.2.1 dX2_erase_9 (by decide) ?_
  obtain ⟨z6, ez6, hf⟩ := bnd_el hf
  refine lv_as ez6 ?_
  refine lv_istore_n (lv' := [(3, .int z6), (2, .int v4), (0, .ref (a 59)), (1, .int p1)]) C.1 C.2.1 dX2_erase_10 rfl hl (by decide) rfl (fun ls hl => ?_)
  exact lX2_erase_11 C hr hlocks N _ _ _ _ _ hf _ _ _ hW (lv_sub hl [2, 3, 1, 0] rfl)
theorem mX2_calm_30 : Cond.fieldLink RX2 30 "SharedLambda$Graph" "isRestless" "[Z" ∈ wsX2_calm := by decide +kernel
theorem mX2_calm_11 : Cond.fieldLink RX2 11 "SharedLambda$Graph" "kinds" "[I" ∈ wsX2_calm := by decide +kernel
theorem mX2_calm_i7 : Cond.initialized RX7 ∈ wsX2_calm := by decide +kernel
theorem mX2_calm_s_portOf : Cond.static yX7_portOf ∈ wsX2_calm := by decide +kernel
theorem mX2_calm_s_nodeAt : Cond.static yX7_nodeAt ∈ wsX2_calm := by decide +kernel
theorem mX2_calm_s_whichAt : Cond.static yX7_whichAt ∈ wsX2_calm := by decide +kernel
theorem kX2_calm_2 : ∀ w ∈ u_ws RX2 TX2 10, w ∈ wsX2_calm := fun _ h => List.mem_cons_of_mem _ (List.mem_append_right _ h)
def fX2_calm (N : Nat) (S : St) (p1 : Int32) : Option (St) :=
  if p1 < 0 then
    some S
  else
    if p1 < (3002 : Int32) then
      ckx p1 3002 <|
      bnd (sA S 47 (upd (S.2.1 47) (p1 : Int32).toNatClampNeg (vp_nar .boolean (0 : Int32)))) fun S4 =>
      ckx p1 3002 <|
      if S4.2.1 40 (p1 : Int32).toNatClampNeg = (5 : Int32) then
        bdo (fX7_portOf p1 (0 : Int32)) fun v7 =>
        bd2 (fX2_across N S4 v7) fun v9 S11 =>
        bdo (fX7_nodeAt v9) fun v12 =>
        bd2 (fX2_kindOf N S11 v12) fun v14 S16 =>
        if v14 = (5 : Int32) then
          bdo (fX2_discard N S16 p1) fun S29 =>
          bdo (fX2_discard N S29 v12) fun S32 =>
          some S32
        else
          bdo (fX7_whichAt v9) fun v18 =>
          bd2 (fX2_yields N S16 v12 v18) fun v20 S22 =>
          if v20 = 0 then
            some S22
          else
            bdo (fX2_erase N S22 v12) fun S26 =>
            some S26
      else
        some S4
    else
      some S
set_option maxHeartbeats 4000000 in
set_option maxRecDepth 100000 in
theorem cX2_calm_met (l : Launch) (D : va_G) (cy : Nat → ClassId) (a r : Nat → Nat) (sz N : Nat) (S : St) (p1 : Int32) (Rr : St) (hf : fX2_calm N S p1 = some Rr) : Met l yX2_calm wsX2_calm ({ frames := 4, cells := 0, slots := 0, locals := 89 } : Room) (va_Pc [.ref (a 59), .int p1] (preW D cy (wC cy a r S) sz)) (QV D cy (wC cy a r) (va_A (wC cy a r S) sz) Rr) 0 0 (va_A (wC cy a r S) sz) := by
  refine Met.ofW (cc := cX2_calm) (maxL := 4) (ret := none) (by decide) rfl ?_
  intro p e s m args below meth c s₁ B hml hv
  obtain ⟨rfl, rfl, hP, hK, hD0, hN⟩ := hv
  have hlocks := B.notSynchronized
  have hr := B.returns
  have C : Cx p s m _ c cX2_calm 4 wsX2_calm RX2 D cy := ⟨B.exec, B.bytes, hml, findClass_of_methodNamed B.named, atoms_spec (ws := wsX2_calm) B.pre, hK, hN⟩
  have hW := ww_start (w := wC cy a r) hP hD0
  generalize va_A (wC cy a r S) s.heap.size = A at hW ⊢
  have hl := lv_entry ([.ref (a 59), .int p1]) (n := 4) (Nat.le_of_ble_eq_true rfl)
  rw [lg_entry_eq]
  generalize (lg_sl ([.ref (a 59), .int p1]) ++ List.replicate (4 - (lg_sl ([.ref (a 59), .int p1])).length) Slot.unset).toArray = ls at hl ⊢
  have hl : lv_has ls 4 [(0, .ref (a 59)), (1, .int p1)] := hl
  unfold fX2_calm at hf
  refine lv_iload_n C.1 C.2.1 dX2_calm_0 rfl (lv_at hl 1 rfl) ?_
  refine lv_if_lt (tgt := 11) C.1 C.2.1 dX2_calm_1 (by decide) (fun q1 => ?_) (fun q1 => ?_)
  · replace hf := (if_pos q1).symm.trans hf
    exact mrV C hr hlocks hf hW dX2_calm_11
  · replace hf := (if_neg q1).symm.trans hf
    refine lv_iload_n C.1 C.2.1 dX2_calm_4 rfl (lv_at hl 1 rfl) ?_
    refine lv_sipush (v := 3002) C.1 C.2.1 dX2_calm_5 (by decide) ?_
    refine lv_icmp_lt (tgt := 12) C.1 C.2.1 dX2_calm_8 (by decide) (fun q2 => ?_) (fun q2 => ?_)
    · replace hf := (if_pos q2).symm.trans hf
      refine lv_aload_n C.1 C.2.1 dX2_calm_12 rfl (lv_at hl 0 rfl) ?_
      refine fg_2_7 C kX2_calm_2 mX2_calm_30 hW dX2_calm_13 ?_
      refine lv_iload_n C.1 C.2.1 dX2_calm_16 rfl (lv_at hl 1 rfl) ?_
      refine lv_iconst (v := 0) C.1 C.2.1 dX2_calm_17 (by decide) ?_
      obtain ⟨h3, hf⟩ := ckx_el hf
      obtain ⟨S4, eS4, hf⟩ := bnd_el hf
      refine as_2_7 C hW h3 dX2_calm_18 eS4 (fun H locs hW => ?_)
      refine lv_aload_n C.1 C.2.1 dX2_calm_19 rfl (lv_at hl 0 rfl) ?_
      refine fg_2_0 C kX2_calm_2 mX2_calm_11 hW dX2_calm_20 ?_
      refine lv_iload_n C.1 C.2.1 dX2_calm_23 rfl (lv_at hl 1 rfl) ?_
      obtain ⟨h5, hf⟩ := ckx_el hf
      refine al_2_0 C hW h5 dX2_calm_24 ?_
      refine lv_iconst (v := 5) C.1 C.2.1 dX2_calm_25 (by decide) ?_
      refine lv_icmp_eq (tgt := 30) C.1 C.2.1 dX2_calm_26 (by decide) (fun q6 => ?_) (fun q6 => ?_)
      · replace hf := (if_pos q6).symm.trans hf
        refine lv_aload_n C.1 C.2.1 dX2_calm_30 rfl (lv_at hl 0 rfl) ?_
        refine lv_iload_n C.1 C.2.1 dX2_calm_31 rfl (lv_at hl 1 rfl) ?_
        refine lv_iconst (v := 0) C.1 C.2.1 dX2_calm_32 (by decide) ?_
        obtain ⟨v7, h8, hf⟩ := bdo_el hf
        refine mcSN (As := [.int p1, .int (0 : Int32)]) (rest := [.ref (a 59)]) C (cX7_portOf_met l p1 (0 : Int32) v7 h8) ⟨va_cnB 2 C.2.2.2.2.1 gX2_calm_X7_portOf_n66 rfl rfl rfl (C.2.2.2.2.2.2 (RX2, 66, yX7_portOf) (by decide +kernel)) (C.2.2.2.2.1 _ mX2_calm_i7) (by decide +kernel) ⟨Nat.le_of_ble_eq_true rfl, Nat.le_of_ble_eq_true rfl⟩, C.2.2.2.2.1 _ mX2_calm_s_portOf, trivial⟩ rfl hl.1 (Nat.le_of_ble_eq_true rfl) dX2_calm_33 ⟨Nat.zero_le _, Nat.zero_le _⟩ rfl ?_
        obtain ⟨v9, S11, h10, hf⟩ := bd2_el hf
        refine mcVi (w := wC cy a r) (S := S4) (As := [.int v7]) (rest := []) (q0 := 2) (ci := 2) C (cX2_across_met l D cy a r _ N S4 v7 (v9, S11) h10) (cwV 1 C.2.2.2.2.1 gX2_calm_X2_across rfl rfl rfl (by decide +kernel) ⟨Nat.le_of_ble_eq_true rfl, Nat.le_of_ble_eq_true rfl⟩) rfl rfl rfl hl.1 (Nat.le_of_ble_eq_true rfl) hW dX2_calm_36 ⟨Nat.zero_le _, Nat.zero_le _⟩ rfl (fun H locs hW => ?_)
        refine lv_istore_n (lv' := [(2, .int v9), (0, .ref (a 59)), (1, .int p1)]) C.1 C.2.1 dX2_calm_39 rfl hl (by decide) rfl (fun ls hl => ?_)
        refine lv_iload_n C.1 C.2.1 dX2_calm_40 rfl (lv_at hl 0 rfl) ?_
        obtain ⟨v12, h13, hf⟩ := bdo_el hf
        refine mcSN (As := [.int v9]) (rest := []) C (cX7_nodeAt_met l v9 v12 h13) ⟨va_cnB 1 C.2.2.2.2.1 gX2_calm_X7_nodeAt_n48 rfl rfl rfl (C.2.2.2.2.2.2 (RX2, 48, yX7_nodeAt) (by decide +kernel)) (C.2.2.2.2.1 _ mX2_calm_i7) (by decide +kernel) ⟨Nat.le_of_ble_eq_true rfl, Nat.le_of_ble_eq_true rfl⟩, C.2.2.2.2.1 _ mX2_calm_s_nodeAt, trivial⟩ rfl hl.1 (Nat.le_of_ble_eq_true rfl) dX2_calm_41 ⟨Nat.zero_le _, Nat.zero_le _⟩ rfl ?_
        refine lv_istore_n (lv' := [(3, .int v12), (2, .int v9), (0, .ref (a 59)), (1, .int p1)]) C.1 C.2.1 dX2_calm_44 rfl hl (by decide) rfl (fun ls hl => ?_)
        refine lv_aload_n C.1 C.2.1 dX2_calm_45 rfl (lv_at hl 2 rfl) ?_
        refine lv_iload_n C.1 C.2.1 dX2_calm_46 rfl (lv_at hl 0 rfl) ?_
        obtain ⟨v14, S16, h15, hf⟩ := bd2_el hf
        refine mcVi (w := wC cy a r) (S := S11) (As := [.int v12]) (rest := []) (q0 := 2) (ci := 2) C (cX2_kindOf_met l D cy a r _ N S11 v12 (v14, S16) h15) (cwV 1 C.2.2.2.2.1 gX2_calm_X2_kindOf rfl rfl rfl (by decide +kernel) ⟨Nat.le_of_ble_eq_true rfl, Nat.le_of_ble_eq_true rfl⟩) rfl rfl rfl hl.1 (Nat.le_of_ble_eq_true rfl) hW dX2_calm_47 ⟨Nat.zero_le _, Nat.zero_le _⟩ rfl (fun H locs hW => ?_)
        refine lv_iconst (v := 5) C.1 C.2.1 dX2_calm_50 (by decide) ?_
        refine lv_icmp_ne (tgt := 67) C.1 C.2.1 dX2_calm_51 (by decide) (fun q17 => ?_) (fun q17 => ?_)
        · replace hf := (if_neg q17).symm.trans hf
          refine lv_aload_n C.1 C.2.1 dX2_calm_67 rfl (lv_at hl 2 rfl) ?_
          refine lv_iload_n C.1 C.2.1 dX2_calm_68 rfl (lv_at hl 0 rfl) ?_
          refine lv_iload_n C.1 C.2.1 dX2_calm_69 rfl (lv_at hl 1 rfl) ?_
          obtain ⟨v18, h19, hf⟩ := bdo_el hf
          refine mcSN (As := [.int v9]) (rest := [.int v12, .ref (a 59)]) C (cX7_whichAt_met l v9 v18 h19) ⟨va_cnB 1 C.2.2.2.2.1 gX2_calm_X7_whichAt_n73 rfl rfl rfl (C.2.2.2.2.2.2 (RX2, 73, yX7_whichAt) (by decide +kernel)) (C.2.2.2.2.1 _ mX2_calm_i7) (by decide +kernel) ⟨Nat.le_of_ble_eq_true rfl, Nat.le_of_ble_eq_true rfl⟩, C.2.2.2.2.1 _ mX2_calm_s_whichAt, trivial⟩ rfl hl.1 (Nat.le_of_ble_eq_true rfl) dX2_calm_70 ⟨Nat.zero_le _, Nat.zero_le _⟩ rfl ?_
          obtain ⟨v20, S22, h21, hf⟩ := bd2_el hf
          refine mcVi (w := wC cy a r) (S := S16) (As := [.int v12, .int v18]) (rest := []) (q0 := 2) (ci := 2) C (cX2_yields_met l D cy a r _ N S16 v12 v18 (v20, S22) h21) (cwV 2 C.2.2.2.2.1 gX2_calm_X2_yields rfl rfl rfl (by decide +kernel) ⟨Nat.le_of_ble_eq_true rfl, Nat.le_of_ble_eq_true rfl⟩) rfl rfl rfl hl.1 (Nat.le_of_ble_eq_true rfl) hW dX2_calm_73 ⟨Nat.zero_le _, Nat.zero_le _⟩ rfl (fun H locs hW => ?_)
          refine lv_if_eq (tgt := 84) C.1 C.2.1 dX2_calm_76 (by decide) (fun q23 => ?_) (fun q23 => ?_)
          · replace hf := (if_pos q23).symm.trans hf
            exact mrV C hr hlocks hf hW dX2_calm_84
          · replace hf := (if_neg q23).symm.trans hf
            refine lv_aload_n C.1 C.2.1 dX2_calm_79 rfl (lv_at hl 2 rfl) ?_
            refine lv_iload_n C.1 C.2.1 dX2_calm_80 rfl (lv_at hl 0 rfl) ?_
            obtain ⟨S26, h25, hf⟩ := bdo_el hf
            refine mcVv (w := wC cy a r) (S := S22) (As := [.int v12]) (rest := []) (q0 := 2) (ci := 2) C (cX2_erase_met l D cy a r _ N S22 v12 S26 h25) (cwV 1 C.2.2.2.2.1 gX2_calm_X2_erase rfl rfl rfl (by decide +kernel) ⟨Nat.le_of_ble_eq_true rfl, Nat.le_of_ble_eq_true rfl⟩) rfl rfl rfl hl.1 (Nat.le_of_ble_eq_true rfl) hW dX2_calm_81 ⟨Nat.zero_le _, Nat.zero_le _⟩ rfl (fun H locs hW => ?_)
            exact mrV C hr hlocks hf hW dX2_calm_84
        · replace hf := (if_pos q17).symm.trans hf
          refine lv_aload_n C.1 C.2.1 dX2_calm_54 rfl (lv_at hl 2 rfl) ?_
          refine lv_iload_n C.1 C.2.1 dX2_calm_55 rfl (lv_at hl 3 rfl) ?_
          obtain ⟨S29, h28, hf⟩ := bdo_el hf
          refine mcVv (w := wC cy a r) (S := S16) (As := [.int p1]) (rest := []) (q0 := 2) (ci := 2) C (cX2_discard_met l D cy a r _ N S16 p1 S29 h28) (cwV 1 C.2.2.2.2.1 gX2_calm_X2_discard rfl rfl rfl (by decide +kernel) ⟨Nat.le_of_ble_eq_true rfl, Nat.le_of_ble_eq_true rfl⟩) rfl rfl rfl hl.1 (Nat.le_of_ble_eq_true rfl) hW dX2_calm_56 ⟨Nat.zero_le _, Nat.zero_le _⟩ rfl (fun H locs hW => ?_)
          refine lv_aload_n C.1 C.2.1 dX2_calm_59 rfl (lv_at hl 2 rfl) ?_
          refine lv_iload_n C.1 C.2.1 dX2_calm_60 rfl (lv_at hl 0 rfl) ?_
          obtain ⟨S32, h31, hf⟩ := bdo_el hf
          refine mcVv (w := wC cy a r) (S := S29) (As := [.int v12]) (rest := []) (q0 := 2) (ci := 2) C (cX2_discard_met l D cy a r _ N S29 v12 S32 h31) (cwV 1 C.2.2.2.2.1 gX2_calm_X2_discard rfl rfl rfl (by decide +kernel) ⟨Nat.le_of_ble_eq_true rfl, Nat.le_of_ble_eq_true rfl⟩) rfl rfl rfl hl.1 (Nat.le_of_ble_eq_true rfl) hW dX2_calm_61 ⟨Nat.zero_le _, Nat.zero_le _⟩ rfl (fun H locs hW => ?_)
          refine lv_goto (tgt := 84) C.1 C.2.1 dX2_calm_64 (by decide) ?_
          exact mrV C hr hlocks hf hW dX2_calm_84
      · replace hf := (if_neg q6).symm.trans hf
        exact mrV C hr hlocks hf hW dX2_calm_29
    · replace hf := (if_neg q2).symm.trans hf
      exact mrV C hr hlocks hf hW dX2_calm_11
theorem mX2_eraseAll_c62 : Cond.constant RX2 62 (1000000) ∈ wsX2_eraseAll := by decide +kernel
theorem mX2_eraseAll_38 : Cond.fieldLink RX2 38 "SharedLambda$Graph" "restlessCount" "I" ∈ wsX2_eraseAll := by decide +kernel
theorem mX2_eraseAll_27 : Cond.fieldLink RX2 27 "SharedLambda$Graph" "restless" "[I" ∈ wsX2_eraseAll := by decide +kernel
theorem kX2_eraseAll_2 : ∀ w ∈ u_ws RX2 TX2 10, w ∈ wsX2_eraseAll := fun _ h => List.mem_cons_of_mem _ (List.mem_append_right _ h)
def fX2_eraseAll_2s (N : Nat) (k2 : St × Int32 → Option (St)) (S : St) (x1 : Int32) : Option (St) :=
  if (1000000 : Int32) ≤ x1 then
    some S
  else
    if S.1 48 ≤ 0 then
      some S
    else
      if (3002 : Int32) < S.1 48 then
        some S
      else
        bnd (sI S 48 ((S.1 48 - (1 : Int32)))) fun S4 =>
        ckx (S4.1 48) 3002 <|
        bdo (fX2_calm N S4 (S4.2.1 46 (S4.1 48 : Int32).toNatClampNeg)) fun S8 =>
        bnd (x1 + (1 : Int32)) fun z9 =>
        k2 (S8, z9)
def fX2_eraseAll_2 (N : Nat) : St × Int32 → Option (St) := loopN (fun k x => fX2_eraseAll_2s N k x.1 x.2) N
set_option maxHeartbeats 4000000 in
set_option maxRecDepth 100000 in
theorem lX2_eraseAll_2 {p : Program} {l : Launch} {e : Env} {s : State} {m : MethodId} {args : Array Value} {below : List Frame} {meth : Method} {c : Code} {D : va_G} {cy : Nat → ClassId} {a r : Nat → Nat} {A : Nat → Prop} {Rr : St} (C : Cx p s m args c cX2_eraseAll 2 wsX2_eraseAll RX2 D cy) (hr : meth.sig.returnType = none) (hlocks : meth.locks = false) (N : Nat) : ∀ (n : Nat) (S : St) (x1 : Int32), loopN (fun k x => fX2_eraseAll_2s N k x.1 x.2) n (S, x1) = some Rr → ∀ (H : Heap) (locs : List Loc) (ls : Array Slot), WW D A s.heap (wC cy a r S) H locs → lv_has ls 2 [(0, .ref (a 59)), (1, .int x1)] → W p l e ({ frames := 5, cells := 0, slots := 0, locals := 112 } : Room) s m args below meth c H locs 0 0 (MQ below (QV D cy (wC cy a r) A Rr) args s 0 0 A) (F0 m 2 ls []) := by
  intro n
  induction n with
  | zero =>
    intro S x1 hf
    cases hf
  | succ n ih =>
    intro S x1 hf H locs ls hW hl
    have hf : fX2_eraseAll_2s N (loopN (fun k x => fX2_eraseAll_2s N k x.1 x.2) n) S x1 = some Rr := hf
    unfold fX2_eraseAll_2s at hf
    refine lv_iload_n C.1 C.2.1 dX2_eraseAll_2 rfl (lv_at hl 1 rfl) ?_
    refine lv_ldc (v := 1000000) C.1 C.2.1 C.2.2.2.1 (C.2.2.2.2.1 _ mX2_eraseAll_c62) dX2_eraseAll_3 ?_
    refine lv_icmp_ge (tgt := 54) C.1 C.2.1 dX2_eraseAll_5 (by decide) (fun q1 => ?_) (fun q1 => ?_)
    · replace hf := (if_pos q1).symm.trans hf
      exact mrV C hr hlocks hf hW dX2_eraseAll_54
    · replace hf := (if_neg q1).symm.trans hf
      refine lv_aload_n C.1 C.2.1 dX2_eraseAll_8 rfl (lv_at hl 0 rfl) ?_
      refine fg_2_8 C kX2_eraseAll_2 mX2_eraseAll_38 hW dX2_eraseAll_9 ?_
      refine lv_if_le (tgt := 54) C.1 C.2.1 dX2_eraseAll_12 (by decide) (fun q2 => ?_) (fun q2 => ?_)
      · replace hf := (if_pos q2).symm.trans hf
        exact mrV C hr hlocks hf hW dX2_eraseAll_54
      · replace hf := (if_neg q2).symm.trans hf
        refine lv_aload_n C.1 C.2.1 dX2_eraseAll_15 rfl (lv_at hl 0 rfl) ?_
        refine fg_2_8 C kX2_eraseAll_2 mX2_eraseAll_38 hW dX2_eraseAll_16 ?_
        refine lv_sipush (v := 3002) C.1 C.2.1 dX2_eraseAll_19 (by decide) ?_
        refine lv_icmp_gt (tgt := 54) C.1 C.2.1 dX2_eraseAll_22 (by decide) (fun q3 => ?_) (fun q3 => ?_)
        · replace hf := (if_pos q3).symm.trans hf
          exact mrV C hr hlocks hf hW dX2_eraseAll_54
        · replace hf := (if_neg q3).symm.trans hf
          refine lv_aload_n C.1 C.2.1 dX2_eraseAll_25 rfl (lv_at hl 0 rfl) ?_
          refine lv_dup C.1 C.2.1 dX2_eraseAll_26 rfl ?_
          refine fg_2_8 C kX2_eraseAll_2 mX2_eraseAll_38 hW dX2_eraseAll_27 ?_
          refine lv_iconst (v := 1) C.1 C.2.1 dX2_eraseAll_30 (by decide) ?_
          refine lv_isub C.1 C.2.1 dX2_eraseAll_31 ?_
          obtain ⟨S4, eS4, hf⟩ := bnd_el hf
          refine fp_2_8 C kX2_eraseAll_2 mX2_eraseAll_38 hW dX2_eraseAll_32 eS4 (fun H locs hW => ?_)
          refine lv_aload_n C.1 C.2.1 dX2_eraseAll_35 rfl (lv_at hl 0 rfl) ?_
          refine lv_aload_n C.1 C.2.1 dX2_eraseAll_36 rfl (lv_at hl 0 rfl) ?_
          refine fg_2_6 C kX2_eraseAll_2 mX2_eraseAll_27 hW dX2_eraseAll_37 ?_
          refine lv_aload_n C.1 C.2.1 dX2_eraseAll_40 rfl (lv_at hl 0 rfl) ?_
          refine fg_2_8 C kX2_eraseAll_2 mX2_eraseAll_38 hW dX2_eraseAll_41 ?_
          obtain ⟨h5, hf⟩ := ckx_el hf
          refine al_2_6 C hW h5 dX2_eraseAll_44 ?_
          obtain ⟨S8, h7, hf⟩ := bdo_el hf
          refine mcVv (w := wC cy a r) (S := S4) (As := [.int (S4.2.1 46 (S4.1 48 : Int32).toNatClampNeg)]) (rest := []) (q0 := 2) (ci := 2) C (cX2_calm_met l D cy a r _ N S4 (S4.2.1 46 (S4.1 48 : Int32).toNatClampNeg) S8 h7) (cwV 1 C.2.2.2.2.1 gX2_eraseAll_X2_calm rfl rfl rfl (by decide +kernel) ⟨Nat.le_of_ble_eq_true rfl, Nat.le_of_ble_eq_true rfl⟩) rfl rfl rfl hl.1 (Nat.le_of_ble_eq_true rfl) hW dX2_eraseAll_45 ⟨Nat.zero_le _, Nat.zero_le _⟩ rfl (fun H locs hW => ?_)
          obtain ⟨z9, ez9, hf⟩ := bnd_el hf
          refine lv_iinc (v := z9) (lv' := [(1, .int z9), (0, .ref (a 59))]) C.1 C.2.1 dX2_eraseAll_48 hl (k := 1) rfl (by rw [ez9]; rfl) (by decide) rfl (fun ls hl => ?_)
          refine lv_goto (tgt := 2) C.1 C.2.1 dX2_eraseAll_51 (by decide) ?_
          exact ih _ _ hf _ _ _ hW (lv_sub hl [1, 0] rfl)
def fX2_eraseAll (N : Nat) (S : St) : Option (St) :=
  bnd (0 : Int32) fun z1 =>
  fX2_eraseAll_2 N (S, z1)
set_option maxHeartbeats 4000000 in
set_option maxRecDepth 100000 in
theorem cX2_eraseAll_met (l : Launch) (D : va_G) (cy : Nat → ClassId) (a r : Nat → Nat) (sz N : Nat) (S : St) (Rr : St) (hf : fX2_eraseAll N S  = some Rr) : Met l yX2_eraseAll wsX2_eraseAll ({ frames := 5, cells := 0, slots := 0, locals := 112 } : Room) (va_Pc [.ref (a 59)] (preW D cy (wC cy a r S) sz)) (QV D cy (wC cy a r) (va_A (wC cy a r S) sz) Rr) 0 0 (va_A (wC cy a r S) sz) := by
  refine Met.ofW (cc := cX2_eraseAll) (maxL := 2) (ret := none) (by decide) rfl ?_
  intro p e s m args below meth c s₁ B hml hv
  obtain ⟨rfl, rfl, hP, hK, hD0, hN⟩ := hv
  have hlocks := B.notSynchronized
  have hr := B.returns
  have C : Cx p s m _ c cX2_eraseAll 2 wsX2_eraseAll RX2 D cy := ⟨B.exec, B.bytes, hml, findClass_of_methodNamed B.named, atoms_spec (ws := wsX2_eraseAll) B.pre, hK, hN⟩
  have hW := ww_start (w := wC cy a r) hP hD0
  generalize va_A (wC cy a r S) s.heap.size = A at hW ⊢
  have hl := lv_entry ([.ref (a 59)]) (n := 2) (Nat.le_of_ble_eq_true rfl)
  rw [lg_entry_eq]
  generalize (lg_sl ([.ref (a 59)]) ++ List.replicate (2 - (lg_sl ([.ref (a 59)])).length) Slot.unset).toArray = ls at hl ⊢
  have hl : lv_has ls 2 [(0, .ref (a 59))] := hl
  unfold fX2_eraseAll at hf
  refine lv_iconst (v := 0) C.1 C.2.1 dX2_eraseAll_0 (by decide) ?_
  obtain ⟨z1, ez1, hf⟩ := bnd_el hf
  refine lv_as ez1 ?_
  refine lv_istore_n (lv' := [(1, .int z1), (0, .ref (a 59))]) C.1 C.2.1 dX2_eraseAll_1 rfl hl (by decide) rfl (fun ls hl => ?_)
  exact lX2_eraseAll_2 C hr hlocks N _ _ _ hf _ _ _ hW (lv_sub hl [1, 0] rfl)
theorem mX2_clear_34 : Cond.fieldLink RX2 34 "SharedLambda$Graph" "spares" "I" ∈ wsX2_clear := by decide +kernel
theorem mX2_clear_38 : Cond.fieldLink RX2 38 "SharedLambda$Graph" "restlessCount" "I" ∈ wsX2_clear := by decide +kernel
theorem mX2_clear_41 : Cond.fieldLink RX2 41 "SharedLambda$Graph" "erased" "I" ∈ wsX2_clear := by decide +kernel
theorem mX2_clear_24 : Cond.fieldLink RX2 24 "SharedLambda$Graph" "populations" "[I" ∈ wsX2_clear := by decide +kernel
theorem mX2_clear_11 : Cond.fieldLink RX2 11 "SharedLambda$Graph" "kinds" "[I" ∈ wsX2_clear := by decide +kernel
theorem mX2_clear_30 : Cond.fieldLink RX2 30 "SharedLambda$Graph" "isRestless" "[Z" ∈ wsX2_clear := by decide +kernel
theorem mX2_clear_21 : Cond.fieldLink RX2 21 "SharedLambda$Graph" "spare" "[I" ∈ wsX2_clear := by decide +kernel
theorem kX2_clear_2 : ∀ w ∈ u_ws RX2 TX2 10, w ∈ wsX2_clear := fun _ h => List.mem_cons_of_mem _ (List.mem_append_right _ h)
def fX2_clear_42s (N : Nat) (k42 : St × Int32 → Option (St)) (S : St) (x1 : Int32) : Option (St) :=
  if (7 : Int32) ≤ x1 then
    bnd (sI S 44 (3002 : Int32)) fun S2 =>
    bnd (sI S2 48 (0 : Int32)) fun S3 =>
    bnd (sI S3 49 (0 : Int32)) fun S4 =>
    some S4
  else
    ckx x1 7 <|
    bnd (sA S 45 (upd (S.2.1 45) (x1 : Int32).toNatClampNeg (0 : Int32))) fun S6 =>
    bnd (x1 + (1 : Int32)) fun z7 =>
    k42 (S6, z7)
def fX2_clear_42 (N : Nat) : St × Int32 → Option (St) := loopN (fun k x => fX2_clear_42s N k x.1 x.2) N
set_option maxHeartbeats 4000000 in
set_option maxRecDepth 100000 in
theorem lX2_clear_42 {p : Program} {l : Launch} {e : Env} {s : State} {m : MethodId} {args : Array Value} {below : List Frame} {meth : Method} {c : Code} {D : va_G} {cy : Nat → ClassId} {a r : Nat → Nat} {A : Nat → Prop} {Rr : St} (C : Cx p s m args c cX2_clear 2 wsX2_clear RX2 D cy) (hr : meth.sig.returnType = none) (hlocks : meth.locks = false) (N : Nat) : ∀ (n : Nat) (S : St) (x1 : Int32), loopN (fun k x => fX2_clear_42s N k x.1 x.2) n (S, x1) = some Rr → ∀ (H : Heap) (locs : List Loc) (ls : Array Slot), WW D A s.heap (wC cy a r S) H locs → lv_has ls 2 [(0, .ref (a 59)), (1, .int x1)] → W p l e ({ frames := 0, cells := 0, slots := 0, locals := 0 } : Room) s m args below meth c H locs 0 0 (MQ below (QV D cy (wC cy a r) A Rr) args s 0 0 A) (F0 m 42 ls []) := by
  intro n
  induction n with
  | zero =>
    intro S x1 hf
    cases hf
  | succ n ih =>
    intro S x1 hf H locs ls hW hl
    have hf : fX2_clear_42s N (loopN (fun k x => fX2_clear_42s N k x.1 x.2) n) S x1 = some Rr := hf
    unfold fX2_clear_42s at hf
    refine lv_iload_n C.1 C.2.1 dX2_clear_42 rfl (lv_at hl 1 rfl) ?_
    refine lv_bipush (v := 7) C.1 C.2.1 dX2_clear_43 (by decide) ?_
    refine lv_icmp_ge (tgt := 61) C.1 C.2.1 dX2_clear_45 (by decide) (fun q1 => ?_) (fun q1 => ?_)
    · replace hf := (if_pos q1).symm.trans hf
      refine lv_aload_n C.1 C.2.1 dX2_clear_61 rfl (lv_at hl 0 rfl) ?_
      refine lv_sipush (v := 3002) C.1 C.2.1 dX2_clear_62 (by decide) ?_
      obtain ⟨S2, eS2, hf⟩ := bnd_el hf
      refine fp_2_4 C kX2_clear_2 mX2_clear_34 hW dX2_clear_65 eS2 (fun H locs hW => ?_)
      refine lv_aload_n C.1 C.2.1 dX2_clear_68 rfl (lv_at hl 0 rfl) ?_
      refine lv_iconst (v := 0) C.1 C.2.1 dX2_clear_69 (by decide) ?_
      obtain ⟨S3, eS3, hf⟩ := bnd_el hf
      refine fp_2_8 C kX2_clear_2 mX2_clear_38 hW dX2_clear_70 eS3 (fun H locs hW => ?_)
      refine lv_aload_n C.1 C.2.1 dX2_clear_73 rfl (lv_at hl 0 rfl) ?_
      refine lv_iconst (v := 0) C.1 C.2.1 dX2_clear_74 (by decide) ?_
      obtain ⟨S4, eS4, hf⟩ := bnd_el hf
      refine fp_2_9 C kX2_clear_2 mX2_clear_41 hW dX2_clear_75 eS4 (fun H locs hW => ?_)
      exact mrV C hr hlocks hf hW dX2_clear_78
    · replace hf := (if_neg q1).symm.trans hf
      refine lv_aload_n C.1 C.2.1 dX2_clear_48 rfl (lv_at hl 0 rfl) ?_
      refine fg_2_5 C kX2_clear_2 mX2_clear_24 hW dX2_clear_49 ?_
      refine lv_iload_n C.1 C.2.1 dX2_clear_52 rfl (lv_at hl 1 rfl) ?_
      refine lv_iconst (v := 0) C.1 C.2.1 dX2_clear_53 (by decide) ?_
      obtain ⟨h5, hf⟩ := ckx_el hf
      obtain ⟨S6, eS6, hf⟩ := bnd_el hf
      refine as_2_5 C hW h5 dX2_clear_54 eS6 (fun H locs hW => ?_)
      obtain ⟨z7, ez7, hf⟩ := bnd_el hf
      refine lv_iinc (v := z7) (lv' := [(1, .int z7), (0, .ref (a 59))]) C.1 C.2.1 dX2_clear_55 hl (k := 1) rfl (by rw [ez7]; rfl) (by decide) rfl (fun ls hl => ?_)
      refine lv_goto (tgt := 42) C.1 C.2.1 dX2_clear_58 (by decide) ?_
      exact ih _ _ hf _ _ _ hW (lv_sub hl [1, 0] rfl)
def fX2_clear_2s (N : Nat) (k2 : St × Int32 → Option (St)) (S : St) (x1 : Int32) : Option (St) :=
  if (3002 : Int32) ≤ x1 then
    bnd (0 : Int32) fun z2 =>
    fX2_clear_42 N (S, z2)
  else
    ckx x1 3002 <|
    bnd (sA S 40 (upd (S.2.1 40) (x1 : Int32).toNatClampNeg (-1 : Int32))) fun S4 =>
    ckx x1 3002 <|
    bnd (sA S4 47 (upd (S4.2.1 47) (x1 : Int32).toNatClampNeg (vp_nar .boolean (0 : Int32)))) fun S6 =>
    ckx x1 3002 <|
    bnd (sA S6 43 (upd (S6.2.1 43) (x1 : Int32).toNatClampNeg (((3001 : Int32) - x1)))) fun S8 =>
    bnd (x1 + (1 : Int32)) fun z9 =>
    k2 (S8, z9)
def fX2_clear_2 (N : Nat) : St × Int32 → Option (St) := loopN (fun k x => fX2_clear_2s N k x.1 x.2) N
set_option maxHeartbeats 4000000 in
set_option maxRecDepth 100000 in
theorem lX2_clear_2 {p : Program} {l : Launch} {e : Env} {s : State} {m : MethodId} {args : Array Value} {below : List Frame} {meth : Method} {c : Code} {D : va_G} {cy : Nat → ClassId} {a r : Nat → Nat} {A : Nat → Prop} {Rr : St} (C : Cx p s m args c cX2_clear 2 wsX2_clear RX2 D cy) (hr : meth.sig.returnType = none) (hlocks : meth.locks = false) (N : Nat) : ∀ (n : Nat) (S : St) (x1 : Int32), loopN (fun k x => fX2_clear_2s N k x.1 x.2) n (S, x1) = some Rr → ∀ (H : Heap) (locs : List Loc) (ls : Array Slot), WW D A s.heap (wC cy a r S) H locs → lv_has ls 2 [(0, .ref (a 59)), (1, .int x1)] → W p l e ({ frames := 0, cells := 0, slots := 0, locals := 0 } : Room) s m args below meth c H locs 0 0 (MQ below (QV D cy (wC cy a r) A Rr) args s 0 0 A) (F0 m 2 ls []) := by
  intro n
  induction n with
  | zero =>
    intro S x1 hf
    cases hf
  | succ n ih =>
    intro S x1 hf H locs ls hW hl
    have hf : fX2_clear_2s N (loopN (fun k x => fX2_clear_2s N k x.1 x.2) n) S x1 = some Rr := hf
    unfold fX2_clear_2s at hf
    refine lv_iload_n C.1 C.2.1 dX2_clear_2 rfl (lv_at hl 1 rfl) ?_
    refine lv_sipush (v := 3002) C.1 C.2.1 dX2_clear_3 (by decide) ?_
    refine lv_icmp_ge (tgt := 40) C.1 C.2.1 dX2_clear_6 (by decide) (fun q1 => ?_) (fun q1 => ?_)
    · replace hf := (if_pos q1).symm.trans hf
      refine lv_iconst (v := 0) C.1 C.2.1 dX2_clear_40 (by decide) ?_
      obtain ⟨z2, ez2, hf⟩ := bnd_el hf
      refine lv_as ez2 ?_
      refine lv_istore_n (lv' := [(1, .int z2), (0, .ref (a 59))]) C.1 C.2.1 dX2_clear_41 rfl hl (by decide) rfl (fun ls hl => ?_)
      exact lX2_clear_42 C hr hlocks N _ _ _ hf _ _ _ hW (lv_sub hl [1, 0] rfl)
    · replace hf := (if_neg q1).symm.trans hf
      refine lv_aload_n C.1 C.2.1 dX2_clear_9 rfl (lv_at hl 0 rfl) ?_
      refine fg_2_0 C kX2_clear_2 mX2_clear_11 hW dX2_clear_10 ?_
      refine lv_iload_n C.1 C.2.1 dX2_clear_13 rfl (lv_at hl 1 rfl) ?_
      refine lv_iconst (v := -1) C.1 C.2.1 dX2_clear_14 (by decide) ?_
      obtain ⟨h3, hf⟩ := ckx_el hf
      obtain ⟨S4, eS4, hf⟩ := bnd_el hf
      refine as_2_0 C hW h3 dX2_clear_15 eS4 (fun H locs hW => ?_)
      refine lv_aload_n C.1 C.2.1 dX2_clear_16 rfl (lv_at hl 0 rfl) ?_
      refine fg_2_7 C kX2_clear_2 mX2_clear_30 hW dX2_clear_17 ?_
      refine lv_iload_n C.1 C.2.1 dX2_clear_20 rfl (lv_at hl 1 rfl) ?_
      refine lv_iconst (v := 0) C.1 C.2.1 dX2_clear_21 (by decide) ?_
      obtain ⟨h5, hf⟩ := ckx_el hf
      obtain ⟨S6, eS6, hf⟩ := bnd_el hf
      refine as_2_7 C hW h5 dX2_clear_22 eS6 (fun H locs hW => ?_)
      refine lv_aload_n C.1 C.2.1 dX2_clear_23 rfl (lv_at hl 0 rfl) ?_
      refine fg_2_3 C kX2_clear_2 mX2_clear_21 hW dX2_clear_24 ?_
      refine lv_iload_n C.1 C.2.1 dX2_clear_27 rfl (lv_at hl 1 rfl) ?_
      refine lv_sipush (v := 3001) C.1 C.2.1 dX2_clear_28 (by decide) ?_
      refine lv_iload_n C.1 C.2.1 dX2_clear_31 rfl (lv_at hl 1 rfl) ?_
      refine lv_isub C.1 C.2.1 dX2_clear_32 ?_
      obtain ⟨h7, hf⟩ := ckx_el hf
      obtain ⟨S8, eS8, hf⟩ := bnd_el hf
      refine as_2_3 C hW h7 dX2_clear_33 eS8 (fun H locs hW => ?_)
      obtain ⟨z9, ez9, hf⟩ := bnd_el hf
      refine lv_iinc (v := z9) (lv' := [(1, .int z9), (0, .ref (a 59))]) C.1 C.2.1 dX2_clear_34 hl (k := 1) rfl (by rw [ez9]; rfl) (by decide) rfl (fun ls hl => ?_)
      refine lv_goto (tgt := 2) C.1 C.2.1 dX2_clear_37 (by decide) ?_
      exact ih _ _ hf _ _ _ hW (lv_sub hl [1, 0] rfl)
def fX2_clear (N : Nat) (S : St) : Option (St) :=
  bnd (0 : Int32) fun z1 =>
  fX2_clear_2 N (S, z1)
set_option maxHeartbeats 4000000 in
set_option maxRecDepth 100000 in
theorem cX2_clear_met (l : Launch) (D : va_G) (cy : Nat → ClassId) (a r : Nat → Nat) (sz N : Nat) (S : St) (Rr : St) (hf : fX2_clear N S  = some Rr) : Met l yX2_clear wsX2_clear ({ frames := 0, cells := 0, slots := 0, locals := 0 } : Room) (va_Pc [.ref (a 59)] (preW D cy (wC cy a r S) sz)) (QV D cy (wC cy a r) (va_A (wC cy a r S) sz) Rr) 0 0 (va_A (wC cy a r S) sz) := by
  refine Met.ofW (cc := cX2_clear) (maxL := 2) (ret := none) (by decide) rfl ?_
  intro p e s m args below meth c s₁ B hml hv
  obtain ⟨rfl, rfl, hP, hK, hD0, hN⟩ := hv
  have hlocks := B.notSynchronized
  have hr := B.returns
  have C : Cx p s m _ c cX2_clear 2 wsX2_clear RX2 D cy := ⟨B.exec, B.bytes, hml, findClass_of_methodNamed B.named, atoms_spec (ws := wsX2_clear) B.pre, hK, hN⟩
  have hW := ww_start (w := wC cy a r) hP hD0
  generalize va_A (wC cy a r S) s.heap.size = A at hW ⊢
  have hl := lv_entry ([.ref (a 59)]) (n := 2) (Nat.le_of_ble_eq_true rfl)
  rw [lg_entry_eq]
  generalize (lg_sl ([.ref (a 59)]) ++ List.replicate (2 - (lg_sl ([.ref (a 59)])).length) Slot.unset).toArray = ls at hl ⊢
  have hl : lv_has ls 2 [(0, .ref (a 59))] := hl
  unfold fX2_clear at hf
  refine lv_iconst (v := 0) C.1 C.2.1 dX2_clear_0 (by decide) ?_
  obtain ⟨z1, ez1, hf⟩ := bnd_el hf
  refine lv_as ez1 ?_
  refine lv_istore_n (lv' := [(1, .int z1), (0, .ref (a 59))]) C.1 C.2.1 dX2_clear_1 rfl hl (by decide) rfl (fun ls hl => ?_)
  exact lX2_clear_2 C hr hlocks N _ _ _ hf _ _ _ hW (lv_sub hl [1, 0] rfl)
