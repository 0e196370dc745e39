/-! run(fuel): it may throw, and it may make a grown row -/
def stQ (R : (Int32 × St) ⊕ (Nat × St)) : St := Sum.elim (fun p => p.2) (fun p => p.2) R
def posEx (D : va_G) (cy : Nat → ClassId) (a : Nat → Nat) (A : Nat → Prop) (u : St) (t : State) : Prop := ∃ r : Nat → Nat, posE D cy (wC cy a r) A u t
abbrev QIg (D : va_G) (cy : Nat → ClassId) (a : Nat → Nat) (A : Nat → Prop) (R : (Int32 × St) ⊕ (Nat × St)) : Array Value → State → Outcome → State → Prop := va_Qi (fun v u => Sum.inl (v, u) = R) (posEx D cy a A) A
theorem mrIeG {p : Program} {l : Launch} {e : Env} {R : Room} {s : State} {m : MethodId} {args : Array Value} {below : List Frame} {meth : Method} {c : Code} {H : Heap} {locs : List Loc} {cc : ByteArray} {pc nL : Nat} {ls : Array Slot} {D : va_G} {cy : Nat → ClassId} {A : Nat → Prop} {Ts : List Cond} {S : St} {a r : Nat → Nat} {own : String} {cells slots mc ms : Nat} {XC : String → State → State → Prop}
    {v : Int32} {ty : FieldType} {Rr : (Int32 × St) ⊕ (Nat × St)} (C : Cx p s m args c cc nL Ts own D cy) (hr : meth.sig.returnType = some ty) (hlocks : meth.locks = false) (hn : narrow ty (.int v) = .int v) (hf : some (Sum.inl (v, S)) = some Rr) (hW : WW D A s.heap (wC cy a r S) H locs) (hd : decode cc pc = .ok (.ireturn, 1)) (h1 : cells ≤ mc) (h2 : slots ≤ ms) :
    W p l e R s m args below meth c H locs cells slots (vx_MQ below (QIg D cy a A Rr) XC args s mc ms A) (F0 m pc ls [.int v]) := by
  cases hf
  refine vx_ret (W.widen (k := mc) (n := ms) h1 h2 ?_)
  exact W.zret C.1 C.2.1 hr hn (fun t ht hw => ⟨⟨v, S, rfl, rfl, r, by rw [ht]; exact hW.1, va_K.moved hw.alike C.2.2.2.2.2.1, hW.2.1⟩, hW.2.2.1.F ht⟩) hW.2.2.1.2.2 hd hlocks
theorem mX7_run_95 : Cond.fieldLink RX7 95 "SharedLambda" "resultLetters" "I" ∈ wsX7_run := by decide +kernel
theorem mX7_run_46 : Cond.fieldLink RX7 46 "SharedLambda" "walk" "LSharedLambda$Walk;" ∈ wsX7_run := by decide +kernel
theorem mX7_run_c85 : Cond.constant RX7 85 (100000) ∈ wsX7_run := by decide +kernel
theorem mX7_run_x57 : Cond.classLink RX7 57 (xn 1) ∈ wsX7_run := by decide +kernel
theorem mX7_run_y57 : Cond.initialized (xn 1) ∈ wsX7_run := by decide +kernel
theorem wX7_run_61 : ∀ w ∈ vx_atS RX7 61 (xn 1) xNames, w ∈ wsX7_run ∨ w ∈ xBad 1 := by
  intro w hw
  rcases wX7_keep_61 w hw with h | h
  · by_cases g : goodWord w = true
    · exact Or.inl (List.mem_cons_of_mem _ (List.mem_append_right _ (List.mem_filter.mpr ⟨hw, g⟩)))
    · exact Or.inr (by
        have : ∀ w ∈ vx_atS RX7 61 (xn 1) xNames, goodWord w = true ∨ w ∈ xBad 1 := by decide +kernel
        exact (this w hw).elim (fun q => absurd q g) id)
  · exact Or.inr h
theorem kX7_run_7 : ∀ w ∈ u_ws RX7 TX7 9, w ∈ wsX7_run := fun _ h => List.mem_cons_of_mem _ (List.mem_append_left _ (List.mem_append_left _ (List.mem_append_left _ (List.mem_append_left _ (List.mem_append_left _ (List.mem_append_left _ (List.mem_append_right _ h)))))))
set_option maxHeartbeats 4000000 in
set_option maxRecDepth 100000 in
theorem lX7_run_10 {p : Program} {l : Launch} {e : Env} {s : State} {m : MethodId} {args : Array Value} {below : List Frame} {meth : Method} {c : Code} {D : va_G} {cy : Nat → ClassId} {a r : Nat → Nat} {A : Nat → Prop} {Rr : (Int32 × St) ⊕ (Nat × St)} {mc ms : Nat} {Qc : Array Value → State → Outcome → State → Prop} (C : Cx p s m args c cX7_run 3 wsX7_run RX7 D cy) (hlocks : meth.locks = false) {sa : Nat → Nat} (hlS : l.stackTraces = false) (hX : XP sa A s s.heap) (hno : ∀ x ∈ c.exceptionTable.toList, False) (S : St) (hf : some (Sum.inr (1, S)) = some Rr) : ∀ (H : Heap) (locs : List Loc) (ls : Array Slot), WW D A s.heap (wC cy a r S) H locs → lv_has ls 3 [] → W p l e ({ frames := 8, cells := mc + 1, slots := ms + 6, locals := 240 } : Room) s m args below meth c H locs 0 0 (vx_MQ below Qc (XX D cy (wC cy a r) A Rr) args s (mc + 1) (ms + 6) A) (F0 m 10 ls []) := by
  intro H locs ls hW hl
  exact mxT C hlS hX hno 1 (by decide) (ik := 57) (is := 86) (ic := 61) (text := strT 86) (by decide +kernel) (by decide +kernel) mX7_run_x57 mX7_run_y57 wX7_run_61 gX7_keep_57_61 dX7_run_10 dX7_run_13 dX7_run_14 dX7_run_16 dX7_run_19 hl.1 (Nat.le_of_ble_eq_true rfl) (Nat.le_of_ble_eq_true rfl) (by show 0 + 1 ≤ mc + 1; omega) (by show 0 + 6 ≤ ms + 6; omega) hlocks hf hW (by omega) (by omega)
set_option maxHeartbeats 4000000 in
set_option maxRecDepth 100000 in
theorem cX7_run_met (l : Launch) (hlS : l.stackTraces = false) (D : va_G) (cy : Nat → ClassId) (a r sa : Nat → Nat) (sz N : Nat) (S : St) (p1 : Int32) (Rr : (Int32 × St) ⊕ (Nat × St)) (hf : fX7_run N S p1 = some Rr) : vx_Met l yX7_run wsX7_run ({ frames := 8, cells := gc (stQ Rr) - gc S + 1, slots := gs (stQ Rr) - gs S + 6, locals := 240 } : Room) (va_Pc [.ref (a 159), .int p1] (preX D cy (wC cy a r S) sz sa)) (QIg D cy a (va_A (wC cy a r S) sz) Rr) (XX D cy (wC cy a r) (va_A (wC cy a r S) sz) Rr) (gc (stQ Rr) - gc S + 1) (gs (stQ Rr) - gs S + 6) (va_A (wC cy a r S) sz) := by
  refine vx_ofW (cc := cX7_run) (maxL := 3) (ret := (some .int)) (by decide) rfl ?_
  intro p e s m args below meth c s₁ B hml hno hv
  obtain ⟨rfl, ⟨rfl, hP, hK, hD0, hN⟩, hX⟩ := hv
  have hlocks := B.notSynchronized
  have hr := B.returns
  have C : Cx p s m _ c cX7_run 3 wsX7_run RX7 D cy := ⟨B.exec, B.bytes, hml, findClass_of_methodNamed B.named, atoms_spec (ws := wsX7_run) B.pre, hK, hN⟩
  have hW := ww_start (w := wC cy a r) hP hD0
  generalize va_A (wC cy a r S) s.heap.size = A at hW hX ⊢
  have hl := lv_entry ([.ref (a 159), .int p1]) (n := 3) (Nat.le_of_ble_eq_true rfl)
  rw [lg_entry_eq]
  generalize (lg_sl ([.ref (a 159), .int p1]) ++ List.replicate (3 - (lg_sl ([.ref (a 159), .int p1])).length) Slot.unset).toArray = ls at hl ⊢
  have hl : lv_has ls 3 [(0, .ref (a 159)), (1, .int p1)] := hl
  unfold fX7_run at hf
  refine lv_iload_n C.1 C.2.1 dX7_run_0 rfl (lv_at hl 1 rfl) ?_
  refine lv_if_lt (tgt := 10) C.1 C.2.1 dX7_run_1 (by decide) (fun q1 => ?_) (fun q1 => ?_)
  · replace hf := (if_pos q1).symm.trans hf
    exact lX7_run_10 C hlocks hlS hX hno S hf _ _ _ hW (lv_sub hl [] rfl)
  · replace hf := (if_neg q1).symm.trans hf
    refine lv_iload_n C.1 C.2.1 dX7_run_4 rfl (lv_at hl 1 rfl) ?_
    refine lv_ldc (v := 100000) C.1 C.2.1 C.2.2.2.1 (C.2.2.2.2.1 _ mX7_run_c85) dX7_run_5 ?_
    refine lv_icmp_le (tgt := 20) C.1 C.2.1 dX7_run_7 (by decide) (fun q2 => ?_) (fun q2 => ?_)
    · replace hf := (if_pos q2).symm.trans hf
      obtain ⟨v2, S2, h2, hf⟩ := bd2_el hf
      have g2 : Ge S2 S := nX7_reduce N S p1 (v2, S2) h2
      have hR : gc (stQ Rr) = gc S2 ∧ gs (stQ Rr) = gs S2 := by
        by_cases q : v2 = 0
        · replace hf := (if_pos q).symm.trans hf
          obtain ⟨v3, S3, h3, hf⟩ := bd2_el hf
          have t3 : tl S3 = tl S2 := tX6_told N S2 (v3, S3) h3
          have e3 := Ge.of t3
          have e4 := Ge.of t3.symm
          rw [bnd_eq] at hf
          cases hf
          exact ⟨Nat.le_antisymm e4.1 e3.1, Nat.le_antisymm e4.2 e3.2⟩
        · replace hf := (if_neg q).symm.trans hf
          rw [bnd_eq] at hf
          cases hf
          exact ⟨rfl, rfl⟩
      have hcap : 0 + (gc S2 - gc S) ≤ gc (stQ Rr) - gc S + 1 ∧ 0 + (gs S2 - gs S) ≤ gs (stQ Rr) - gs S + 6 := by
        rw [hR.1, hR.2]
        constructor <;> omega
      refine lv_aload_n C.1 C.2.1 dX7_run_20 rfl (lv_at hl 0 rfl) ?_
      refine lv_iload_n C.1 C.2.1 dX7_run_21 rfl (lv_at hl 1 rfl) ?_
      refine mcViG (S := S) (As := [.int p1]) (rest := []) (q0 := 7) (ci := 7) C (cX7_reduce_met l D cy a r _ N S p1 (v2, S2) h2) (cwV 1 C.2.2.2.2.1 gX7_run_X7_reduce rfl rfl rfl (by decide +kernel) ⟨Nat.le_of_ble_eq_true rfl, Nat.le_of_ble_eq_true rfl⟩) rfl rfl rfl hl.1 (Nat.le_of_ble_eq_true rfl) hW dX7_run_22 hcap rfl (fun r H locs hW => ?_)
      refine lv_istore_n (lv' := [(2, .int v2), (0, .ref (a 159)), (1, .int p1)]) C.1 C.2.1 dX7_run_25 rfl hl (by decide) rfl (fun ls hl => ?_)
      refine lv_aload_n C.1 C.2.1 dX7_run_26 rfl (lv_at hl 1 rfl) ?_
      refine lv_iload_n C.1 C.2.1 dX7_run_27 rfl (lv_at hl 0 rfl) ?_
      refine lv_if_ne (tgt := 41) C.1 C.2.1 dX7_run_28 (by decide) (fun q3 => ?_) (fun q3 => ?_)
      · replace hf := (if_neg q3).symm.trans hf
        obtain ⟨S4, eS4, hf⟩ := bnd_el hf
        refine lv_iconst (v := 0) C.1 C.2.1 dX7_run_41 (by decide) ?_
        refine fp_7_3 C kX7_run_7 mX7_run_95 hW dX7_run_42 eS4 (fun H locs hW => ?_)
        refine lv_iload_n C.1 C.2.1 dX7_run_45 rfl (lv_at hl 0 rfl) ?_
        exact mrIeG C hr hlocks rfl hf hW dX7_run_46 hcap.1 hcap.2
      · replace hf := (if_pos q3).symm.trans hf
        obtain ⟨v3, S3, h3, hf⟩ := bd2_el hf
        obtain ⟨S4, eS4, hf⟩ := bnd_el hf
        refine lv_aload_n C.1 C.2.1 dX7_run_31 rfl (lv_at hl 1 rfl) ?_
        refine fg_7_8 C kX7_run_7 mX7_run_46 hW dX7_run_32 ?_
        refine mcVi (w := wC cy a r) (S := S2) (As := []) (rest := [.ref (a 159)]) (q0 := 6) (ci := 6) C (cX6_told_met l D cy a r _ N S2 (v3, S3) h3) (cwV 0 C.2.2.2.2.1 gX7_run_X6_told rfl rfl rfl (by decide +kernel) ⟨Nat.le_of_ble_eq_true rfl, Nat.le_of_ble_eq_true rfl⟩) rfl rfl rfl hl.1 (Nat.le_of_ble_eq_true rfl) hW dX7_run_35 hcap rfl (fun H locs hW => ?_)
        refine lv_goto (tgt := 42) C.1 C.2.1 dX7_run_38 (by decide) ?_
        refine fp_7_3 C kX7_run_7 mX7_run_95 hW dX7_run_42 eS4 (fun H locs hW => ?_)
        refine lv_iload_n C.1 C.2.1 dX7_run_45 rfl (lv_at hl 0 rfl) ?_
        exact mrIeG C hr hlocks rfl hf hW dX7_run_46 hcap.1 hcap.2
    · replace hf := (if_neg q2).symm.trans hf
      exact lX7_run_10 C hlocks hlS hX hno S hf _ _ _ hW (lv_sub hl [] rfl)
