/-! methods that may throw -/
def xn (k : Nat) : String := if k = 1 then "java/lang/IllegalArgumentException" else if k = 2 then "java/lang/UnsupportedOperationException" else "java/lang/IndexOutOfBoundsException"
def xNames : List String := ["java/lang/RuntimeException", "java/lang/Exception"]
def strQ : List (Nat × String) := [(59, "1 to 8 bytes"), (70, "the tape is full"), (73, "the tape has not so many bytes"), (86, "fuel is 0 to 100000"), (112, "no such what"), (115, "no such letter"), (120, "no such kind")]
def strT (k : Nat) : String := ((strQ.find? (fun q => q.1 == k)).map (fun q => q.2)).getD ""
def xDec : List MethodName := [Bundle.initS "java/lang/RuntimeException", Bundle.initS "java/lang/Exception", Bundle.initS Bundle.tN]
/-- the words of a throw that are not good ones -/
def xBad (k : Nat) : List Cond := Cond.castable (xn k) (xn k) :: xDec.map (fun y => Cond.declares y)
theorem xBad_ot {k : Nat} {w : Cond} (h : w ∈ xBad k) : w.onTables = true := by
  rcases List.mem_cons.mp h with e | e
  · rw [e]; rfl
  · obtain ⟨y, -, rfl⟩ := List.mem_map.mp e
    rfl
theorem xBad_warm {k : Nat} {w : Cond} {s U : State} (hW : s.WarmedH U.vm) (h : w ∈ xBad k) (hZ : va_Nw w s) : va_Nw w U := by
  rcases List.mem_cons.mp h with e | e
  · rw [e] at hZ ⊢; exact va_Nw.warmC hW hZ
  · obtain ⟨y, -, rfl⟩ := List.mem_map.mp e
    exact va_Nw.warmD hW hZ
/-- the texts, and the two statics that a throw looks at: they lie outside of A -/
def XP (sa : Nat → Nat) (A : Nat → Prop) (U : State) (H : Heap) : Prop := (∀ q ∈ strQ, vk_R RX7 q.1 q.2 (sa q.1) U) ∧ vx_Zq Bundle.tN "UNASSIGNED_STACK" Bundle.steD A U H ∧ vx_Zq Bundle.tN "SUPPRESSED_SENTINEL" Bundle.listD A U H ∧ ∀ k ∈ [1, 2, 3], ∀ w ∈ xBad k, va_Nw w U
theorem XP.go {sa : Nat → Nat} {A A' : Nat → Prop} {s U : State} {H : Heap} (h : XP sa A s H) (hW : s.WarmedH U.vm) (hA : ∀ q, A' q → A q) (hq : ∀ a : Nat, a < H.size → ¬ A a → U.heap[a]? = H[a]?) : XP sa A' U U.heap :=
  ⟨fun q hq9 => vk_R.warm hW (h.1 q hq9), ((h.2.1.moved hW.alike).kept hq).narrow hA, ((h.2.2.1.moved hW.alike).kept hq).narrow hA, fun k hk w hw => xBad_warm hW hw (h.2.2.2 k hk w hw)⟩
def preX (D : va_G) (cy : Nat → ClassId) (ws : va_W) (sz : Nat) (sa : Nat → Nat) (U : State) : Prop := preW D cy ws sz U ∧ XP sa (va_A ws sz) U U.heap
def posE (D : va_G) (cy : Nat → ClassId) (w : St → va_W) (A : Nat → Prop) (u : St) (t : State) : Prop := va_P D vwCl (w u) t.heap ∧ va_K D vwCl (kC cy) t ∧ va_D A (w u)
abbrev QIe (D : va_G) (cy : Nat → ClassId) (w : St → va_W) (A : Nat → Prop) (R : (Int32 × St) ⊕ (Nat × St)) : Array Value → State → Outcome → State → Prop := va_Qi (fun v u => Sum.inl (v, u) = R) (posE D cy w A) A
abbrev QVe (D : va_G) (cy : Nat → ClassId) (w : St → va_W) (A : Nat → Prop) (R : St ⊕ (Nat × St)) : Array Value → State → Outcome → State → Prop := va_Qv (fun u => Sum.inl u = R) (posE D cy w A) A
abbrev XX {α : Type} (D : va_G) (cy : Nat → ClassId) (w : St → va_W) (A : Nat → Prop) (R : α ⊕ (Nat × St)) : String → State → State → Prop := vx_X (fun u : Nat × St => Sum.inr u = R) (fun E u t => E = xn u.1 ∧ posE D cy w A u.2 t) A
section MX
variable {p : Program} {l : Launch} {e : Env} {R : Room} {s : State} {m : MethodId} {args : Array Value} {below : List Frame} {meth : Method} {c : Code} {H : Heap} {locs : List Loc}
variable {cc : ByteArray} {pc nL : Nat} {ls : Array Slot} {rest : List Value} {D : va_G} {cy : Nat → ClassId} {A : Nat → Prop} {Ts : List Cond} {S : St} {w : St → va_W} {sa : Nat → Nat} {own : String} {cells slots mc ms : Nat}
theorem mrIe {v : Int32} {ty : FieldType} {Rr : (Int32 × St) ⊕ (Nat × St)} (C : Cx p s m args c cc nL Ts own D cy) (hr : meth.sig.returnType = some ty) (hlocks : meth.locks = false) (hn : narrow ty (.int v) = .int v) (hf : some (Sum.inl (v, S)) = some Rr) (hW : WW D A s.heap (w S) H locs) (hd : decode cc pc = .ok (.ireturn, 1)) (h1 : cells ≤ mc) (h2 : slots ≤ ms) :
    W p l e R s m args below meth c H locs cells slots (vx_MQ below (QIe D cy w A Rr) (XX D cy w A Rr) args s mc ms A) (F0 m pc ls [.int v]) := by
  cases hf
  refine vx_ret (W.widen (k := mc) (n := ms) h1 h2 ?_)
  exact W.zret C.1 C.2.1 hr hn (fun t ht hw => ⟨⟨v, S, rfl, rfl, by rw [ht]; exact hW.1, va_K.moved hw.alike C.2.2.2.2.2.1, hW.2.1⟩, hW.2.2.1.F ht⟩) hW.2.2.1.2.2 hd hlocks
theorem mrVe {Rr : St ⊕ (Nat × St)} (C : Cx p s m args c cc nL Ts own D cy) (hr : meth.sig.returnType = none) (hlocks : meth.locks = false) (hf : some (Sum.inl S) = some Rr) (hW : WW D A s.heap (w S) H locs) (hd : decode cc pc = .ok (.return_, 1)) (h1 : cells ≤ mc) (h2 : slots ≤ ms) :
    W p l e R s m args below meth c H locs cells slots (vx_MQ below (QVe D cy w A Rr) (XX D cy w A Rr) args s mc ms A) (F0 m pc ls []) := by
  cases hf
  refine vx_ret (W.widen (k := mc) (n := ms) h1 h2 ?_)
  exact W.vret C.1 C.2.1 hr (fun t ht hw => ⟨⟨S, rfl, rfl, by rw [ht]; exact hW.1, va_K.moved hw.alike C.2.2.2.2.2.1, hW.2.1⟩, hW.2.2.1.F ht⟩) hW.2.2.1.2.2 hd hlocks
theorem mxT {α : Type} {Rr : α ⊕ (Nat × St)} {Qc : Array Value → State → Outcome → State → Prop} (C : Cx p s m args c cc nL Ts RX7 D cy) (hlS : l.stackTraces = false) (hX : XP sa A s s.heap) (hno : ∀ x ∈ c.exceptionTable.toList, False) (k : Nat) (hk3 : k ∈ [1, 2, 3]) {ik is ic : Nat} {text : String} (hmem : (is, text) ∈ strQ)
    (hfc : Bundle.fit (xn k) = true) (hk : Cond.classLink RX7 ik (xn k) ∈ Ts) (hini : Cond.initialized (xn k) ∈ Ts) (hat : ∀ w ∈ vx_atS RX7 ic (xn k) xNames, w ∈ Ts ∨ w ∈ xBad k) (hgood : ∀ w ∈ Cond.classLink RX7 ik (xn k) :: Cond.initialized (xn k) :: vx_atS RX7 ic (xn k) xNames, vx_ot w = true)
    (d0 : decode cc pc = .ok (.new ik, 3)) (d3 : decode cc (pc + 3) = .ok (.dup, 1)) (d4 : decode cc (pc + 4) = .ok (.ldc is, 2)) (d6 : decode cc (pc + 6) = .ok (.invokespecial ic, 3)) (d9 : decode cc (pc + 9) = .ok (.athrow, 1))
    (hls : ls.size = nL) (hfr : 2 + 3 < R.frames) (hlo : (rest.map fun v => v.category).sum + (13 * (2 + 1) + 43) ≤ R.locals) (hcl : cells + 1 ≤ R.cells) (hsl : slots + 6 ≤ R.slots) (hlocks : meth.locks = false) (hf : some (Sum.inr (k, S)) = some Rr) (hW : WW D A s.heap (w S) H locs) (h1 : cells + 1 ≤ mc) (h2 : slots + 6 ≤ ms) :
    W p l e R s m args below meth c H locs cells slots (vx_MQ below Qc (XX D cy w A Rr) args s mc ms A) (F0 m pc ls rest) := by
  cases hf
  have hts := C.2.2.2.2.1
  refine vx_throwS (names := xNames) (text := text) (sa := sa is) C.1 C.2.1 hlS C.2.2.2.1 hfc (by decide) (hts _ hk) (hts _ hini) (hX.1 _ hmem) (fun w hw => (hat w hw).elim (hts _) (fun e9 => va_Nw.use (xBad_ot e9) (hX.2.2.2 k hk3 w e9))) hgood hX.2.1 hX.2.2.1 hW.2.2.1 (hls.trans C.2.2.1.symm) d0 d3 d4 d6 d9 (fun x hx => (hno x hx).elim) hfr hlo hcl hsl hlocks (fun t hal hz hkp => ?_) hW.2.2.1.2.2 h1 h2
  refine ⟨(k, S), rfl, ⟨rfl, hW.1.kept (fun i x hx => hkp x.1 ((hW.1 i x hx).lt)), va_K.moved hal C.2.2.2.2.2.1, hW.2.1⟩, Nat.le_trans hW.2.2.1.1 hz, fun q h1 h2 => (hkp q (Nat.lt_of_lt_of_le h1 hW.2.2.1.1)).trans (hW.2.2.1.2.1 q h1 h2)⟩
end MX
theorem mX7_type_64 : Cond.fieldLink RX7 64 "SharedLambda" "tapeLength" "I" ∈ wsX7_type := by decide +kernel
theorem mX7_type_9 : Cond.fieldLink RX7 9 "SharedLambda" "tape" "[I" ∈ wsX7_type := by decide +kernel
theorem mX7_type_x57 : Cond.classLink RX7 57 (xn 1) ∈ wsX7_type := by decide +kernel
theorem mX7_type_y57 : Cond.initialized (xn 1) ∈ wsX7_type := by decide +kernel
theorem mX7_type_x68 : Cond.classLink RX7 68 (xn 2) ∈ wsX7_type := by decide +kernel
theorem mX7_type_y68 : Cond.initialized (xn 2) ∈ wsX7_type := by decide +kernel
theorem wX7_type_61 : ∀ w ∈ vx_atS RX7 61 (xn 1) xNames, w ∈ wsX7_type ∨ w ∈ xBad 1 := by decide +kernel
theorem wX7_type_72 : ∀ w ∈ vx_atS RX7 72 (xn 2) xNames, w ∈ wsX7_type ∨ w ∈ xBad 2 := by decide +kernel
theorem gX7_type_57_61 : ∀ w ∈ Cond.classLink RX7 57 (xn 1) :: Cond.initialized (xn 1) :: vx_atS RX7 61 (xn 1) xNames, vx_ot w = true := by decide +kernel
theorem gX7_type_68_72 : ∀ w ∈ Cond.classLink RX7 68 (xn 2) :: Cond.initialized (xn 2) :: vx_atS RX7 72 (xn 2) xNames, vx_ot w = true := by decide +kernel
theorem kX7_type_7 : ∀ w ∈ u_ws RX7 TX7 9, w ∈ wsX7_type := fun _ h => List.mem_cons_of_mem _ (List.mem_append_left _ (List.mem_append_left _ (List.mem_append_right _ h)))
set_option maxHeartbeats 4000000 in
set_option maxRecDepth 100000 in
theorem lX7_type_48 {p : Program} {l : Launch} {e : Env} {s : State} {m : MethodId} {args : Array Value} {below : List Frame} {meth : Method} {c : Code} {D : va_G} {cy : Nat → ClassId} {a r : Nat → Nat} {A : Nat → Prop} {Rr : (Int32 × St) ⊕ (Nat × St)} (C : Cx p s m args c cX7_type 5 wsX7_type RX7 D cy) (hr : meth.sig.returnType = some .int) (hlocks : meth.locks = false) {sa : Nat → Nat} (hlS : l.stackTraces = false) (hX : XP sa A s s.heap) (hno : ∀ x ∈ c.exceptionTable.toList, False) (N : Nat) : ∀ (n : Nat) (S : St) (x1 : Int64) (x4 : Int32), loopN (fun k x => fX7_type_48s N k x.1 x.2.1 x.2.2) n (S, x1, x4) = some Rr → ∀ (H : Heap) (locs : List Loc) (ls : Array Slot), WW D A s.heap (wC cy a r S) H locs → lv_has ls 5 [(0, .ref (a 159)), (1, .long x1), (4, .int x4)] → W p l e ({ frames := 6, cells := 1, slots := 6, locals := 100 } : Room) s m args below meth c H locs 0 0 (vx_MQ below (QIe D cy (wC cy a r) A Rr) (XX D cy (wC cy a r) A Rr) args s 1 6 A) (F0 m 48 ls []) := by
  intro n
  induction n with
  | zero =>
    intro S x1 x4 hf
    cases hf
  | succ n ih =>
    intro S x1 x4 hf H locs ls hW hl
    have hf : fX7_type_48s N (loopN (fun k x => fX7_type_48s N k x.1 x.2.1 x.2.2) n) S x1 x4 = some Rr := hf
    unfold fX7_type_48s at hf
    refine lv_iload C.1 C.2.1 dX7_type_48 (lv_at hl 2 rfl) ?_
    refine lv_if_lt (tgt := 90) C.1 C.2.1 dX7_type_50 (by decide) (fun q1 => ?_) (fun q1 => ?_)
    · replace hf := (if_pos q1).symm.trans hf
      refine lv_aload_n C.1 C.2.1 dX7_type_90 rfl (lv_at hl 0 rfl) ?_
      refine fg_7_1 C kX7_type_7 mX7_type_64 hW dX7_type_91 ?_
      exact mrIe C hr hlocks rfl hf hW dX7_type_94 (Nat.zero_le _) (Nat.zero_le _)
    · replace hf := (if_neg q1).symm.trans hf
      refine lv_aload_n C.1 C.2.1 dX7_type_53 rfl (lv_at hl 0 rfl) ?_
      refine fg_7_0 C kX7_type_7 mX7_type_9 hW dX7_type_54 ?_
      refine lv_aload_n C.1 C.2.1 dX7_type_57 rfl (lv_at hl 0 rfl) ?_
      refine fg_7_1 C kX7_type_7 mX7_type_64 hW dX7_type_58 ?_
      refine lv_lload_n C.1 C.2.1 dX7_type_61 rfl (lv_at hl 1 rfl) ?_
      refine lv_bipush (v := 8) C.1 C.2.1 dX7_type_62 (by decide) ?_
      refine lv_iload C.1 C.2.1 dX7_type_64 (lv_at hl 2 rfl) ?_
      refine lv_imul C.1 C.2.1 dX7_type_66 ?_
      refine lv_lshr C.1 C.2.1 dX7_type_67 rfl ?_
      refine lv_l2i C.1 C.2.1 dX7_type_68 rfl ?_
      refine lv_sipush (v := 255) C.1 C.2.1 dX7_type_69 (by decide) ?_
      refine lv_iand C.1 C.2.1 dX7_type_72 ?_
      obtain ⟨h2, hf⟩ := ckx_el hf
      obtain ⟨S3, eS3, hf⟩ := bnd_el hf
      refine as_7_0 C hW h2 dX7_type_73 eS3 (fun H locs hW => ?_)
      refine lv_aload_n C.1 C.2.1 dX7_type_74 rfl (lv_at hl 0 rfl) ?_
      refine lv_dup C.1 C.2.1 dX7_type_75 rfl ?_
      refine fg_7_1 C kX7_type_7 mX7_type_64 hW dX7_type_76 ?_
      refine lv_iconst (v := 1) C.1 C.2.1 dX7_type_79 (by decide) ?_
      refine lv_iadd C.1 C.2.1 dX7_type_80 ?_
      obtain ⟨S4, eS4, hf⟩ := bnd_el hf
      refine fp_7_1 C kX7_type_7 mX7_type_64 hW dX7_type_81 eS4 (fun H locs hW => ?_)
      obtain ⟨z5, ez5, hf⟩ := bnd_el hf
      refine lv_iinc (v := z5) (lv' := [(4, .int z5), (0, .ref (a 159)), (1, .long x1)]) C.1 C.2.1 dX7_type_84 hl (k := 2) rfl (by rw [ez5]; rfl) (by decide) rfl (fun ls hl => ?_)
      refine lv_goto (tgt := 48) C.1 C.2.1 dX7_type_87 (by decide) ?_
      exact ih _ _ _ hf _ _ _ hW (lv_sub hl [1, 2, 0] rfl)
set_option maxHeartbeats 4000000 in
set_option maxRecDepth 100000 in
theorem lX7_type_11 {p : Program} {l : Launch} {e : Env} {s : State} {m : MethodId} {args : Array Value} {below : List Frame} {meth : Method} {c : Code} {D : va_G} {cy : Nat → ClassId} {a r : Nat → Nat} {A : Nat → Prop} {Rr : (Int32 × St) ⊕ (Nat × St)} (C : Cx p s m args c cX7_type 5 wsX7_type RX7 D cy) (hr : meth.sig.returnType = some .int) (hlocks : meth.locks = false) {sa : Nat → Nat} (hlS : l.stackTraces = false) (hX : XP sa A s s.heap) (hno : ∀ x ∈ c.exceptionTable.toList, False) (N : Nat) (S : St) (hf : fX7_type_11 N S = some Rr) : ∀ (H : Heap) (locs : List Loc) (ls : Array Slot), WW D A s.heap (wC cy a r S) H locs → lv_has ls 5 [] → W p l e ({ frames := 6, cells := 1, slots := 6, locals := 100 } : Room) s m args below meth c H locs 0 0 (vx_MQ below (QIe D cy (wC cy a r) A Rr) (XX D cy (wC cy a r) A Rr) args s 1 6 A) (F0 m 11 ls []) := by
  intro H locs ls hW hl
  unfold fX7_type_11 at hf
  exact mxT C hlS hX hno 1 (by decide) (ik := 57) (is := 59) (ic := 61) (text := strT 59) (by decide +kernel) (by decide +kernel) mX7_type_x57 mX7_type_y57 wX7_type_61 gX7_type_57_61 dX7_type_11 dX7_type_14 dX7_type_15 dX7_type_17 dX7_type_20 hl.1 (Nat.le_of_ble_eq_true rfl) (Nat.le_of_ble_eq_true rfl) (Nat.le_of_ble_eq_true rfl) (Nat.le_of_ble_eq_true rfl) hlocks hf hW (Nat.le_of_ble_eq_true rfl) (Nat.le_of_ble_eq_true rfl)
set_option maxHeartbeats 4000000 in
set_option maxRecDepth 100000 in
theorem cX7_type_met (l : Launch) (hlS : l.stackTraces = false) (D : va_G) (cy : Nat → ClassId) (a r sa : Nat → Nat) (sz N : Nat) (S : St) (p1 : Int64) (p3 : Int32) (Rr : (Int32 × St) ⊕ (Nat × St)) (hf : fX7_type N S p1 p3 = some Rr) : vx_Met l yX7_type wsX7_type ({ frames := 6, cells := 1, slots := 6, locals := 100 } : Room) (va_Pc [.ref (a 159), .long p1, .int p3] (preX D cy (wC cy a r S) sz sa)) (QIe D cy (wC cy a r) (va_A (wC cy a r S) sz) Rr) (XX D cy (wC cy a r) (va_A (wC cy a r S) sz) Rr) 1 6 (va_A (wC cy a r S) sz) := by
  refine vx_ofW (cc := cX7_type) (maxL := 5) (ret := (some .int)) (by decide) rfl ?_
  intro p e s m args below meth c s₁ B hml hno hv
  obtain ⟨rfl, ⟨rfl, hP, hK, hD0, hN⟩, hX⟩ := hv
  have hlocks := B.notSynchronized
  have hr := B.returns
  have C : Cx p s m _ c cX7_type 5 wsX7_type RX7 D cy := ⟨B.exec, B.bytes, hml, findClass_of_methodNamed B.named, atoms_spec (ws := wsX7_type) B.pre, hK, hN⟩
  have hW := ww_start (w := wC cy a r) hP hD0
  generalize va_A (wC cy a r S) s.heap.size = A at hW hX ⊢
  have hl := lv_entry ([.ref (a 159), .long p1, .int p3]) (n := 5) (Nat.le_of_ble_eq_true rfl)
  rw [lg_entry_eq]
  generalize (lg_sl ([.ref (a 159), .long p1, .int p3]) ++ List.replicate (5 - (lg_sl ([.ref (a 159), .long p1, .int p3])).length) Slot.unset).toArray = ls at hl ⊢
  have hl : lv_has ls 5 [(0, .ref (a 159)), (1, .long p1), (3, .int p3)] := hl
  unfold fX7_type at hf
  refine lv_iload_n C.1 C.2.1 dX7_type_0 rfl (lv_at hl 2 rfl) ?_
  refine lv_iconst (v := 1) C.1 C.2.1 dX7_type_1 (by decide) ?_
  refine lv_icmp_lt (tgt := 11) C.1 C.2.1 dX7_type_2 (by decide) (fun q1 => ?_) (fun q1 => ?_)
  · replace hf := (if_pos q1).symm.trans hf
    exact lX7_type_11 C hr hlocks hlS hX hno N _ hf _ _ _ hW (lv_sub hl [] rfl)
  · replace hf := (if_neg q1).symm.trans hf
    refine lv_iload_n C.1 C.2.1 dX7_type_5 rfl (lv_at hl 2 rfl) ?_
    refine lv_bipush (v := 8) C.1 C.2.1 dX7_type_6 (by decide) ?_
    refine lv_icmp_le (tgt := 21) C.1 C.2.1 dX7_type_8 (by decide) (fun q2 => ?_) (fun q2 => ?_)
    · replace hf := (if_pos q2).symm.trans hf
      refine lv_aload_n C.1 C.2.1 dX7_type_21 rfl (lv_at hl 0 rfl) ?_
      refine fg_7_1 C kX7_type_7 mX7_type_64 hW dX7_type_22 ?_
      refine lv_iload_n C.1 C.2.1 dX7_type_25 rfl (lv_at hl 2 rfl) ?_
      refine lv_iadd C.1 C.2.1 dX7_type_26 ?_
      refine lv_sipush (v := 600) C.1 C.2.1 dX7_type_27 (by decide) ?_
      refine lv_icmp_le (tgt := 43) C.1 C.2.1 dX7_type_30 (by decide) (fun q3 => ?_) (fun q3 => ?_)
      · replace hf := (if_pos q3).symm.trans hf
        refine lv_iload_n C.1 C.2.1 dX7_type_43 rfl (lv_at hl 2 rfl) ?_
        refine lv_iconst (v := 1) C.1 C.2.1 dX7_type_44 (by decide) ?_
        refine lv_isub C.1 C.2.1 dX7_type_45 ?_
        obtain ⟨z4, ez4, hf⟩ := bnd_el hf
        refine lv_as ez4 ?_
        refine lv_istore (lv' := [(4, .int z4), (0, .ref (a 159)), (1, .long p1), (3, .int p3)]) C.1 C.2.1 dX7_type_46 hl (by decide) rfl (fun ls hl => ?_)
        exact lX7_type_48 C hr hlocks hlS hX hno N _ _ _ _ hf _ _ _ hW (lv_sub hl [1, 2, 0] rfl)
      · replace hf := (if_neg q3).symm.trans hf
        exact mxT C hlS hX hno 2 (by decide) (ik := 68) (is := 70) (ic := 72) (text := strT 70) (by decide +kernel) (by decide +kernel) mX7_type_x68 mX7_type_y68 wX7_type_72 gX7_type_68_72 dX7_type_33 dX7_type_36 dX7_type_37 dX7_type_39 dX7_type_42 hl.1 (Nat.le_of_ble_eq_true rfl) (Nat.le_of_ble_eq_true rfl) (Nat.le_of_ble_eq_true rfl) (Nat.le_of_ble_eq_true rfl) hlocks hf hW (Nat.le_of_ble_eq_true rfl) (Nat.le_of_ble_eq_true rfl)
    · replace hf := (if_neg q2).symm.trans hf
      exact lX7_type_11 C hr hlocks hlS hX hno N _ hf _ _ _ hW (lv_sub hl [] rfl)
theorem mX7_keep_x57 : Cond.classLink RX7 57 (xn 1) ∈ wsX7_keep := by decide +kernel
theorem mX7_keep_y57 : Cond.initialized (xn 1) ∈ wsX7_keep := by decide +kernel
theorem mX7_keep_64 : Cond.fieldLink RX7 64 "SharedLambda" "tapeLength" "I" ∈ wsX7_keep := by decide +kernel
theorem wX7_keep_61 : ∀ w ∈ vx_atS RX7 61 (xn 1) xNames, w ∈ wsX7_keep ∨ w ∈ xBad 1 := by decide +kernel
theorem gX7_keep_57_61 : ∀ w ∈ Cond.classLink RX7 57 (xn 1) :: Cond.initialized (xn 1) :: vx_atS RX7 61 (xn 1) xNames, vx_ot w = true := by decide +kernel
theorem kX7_keep_7 : ∀ w ∈ u_ws RX7 TX7 9, w ∈ wsX7_keep := fun _ h => List.mem_cons_of_mem _ (List.mem_append_left _ (List.mem_append_right _ h))
set_option maxHeartbeats 4000000 in
set_option maxRecDepth 100000 in
theorem lX7_keep_12 {p : Program} {l : Launch} {e : Env} {s : State} {m : MethodId} {args : Array Value} {below : List Frame} {meth : Method} {c : Code} {D : va_G} {cy : Nat → ClassId} {a r : Nat → Nat} {A : Nat → Prop} {Rr : St ⊕ (Nat × St)} (C : Cx p s m args c cX7_keep 2 wsX7_keep RX7 D cy) (hr : meth.sig.returnType = none) (hlocks : meth.locks = false) {sa : Nat → Nat} (hlS : l.stackTraces = false) (hX : XP sa A s s.heap) (hno : ∀ x ∈ c.exceptionTable.toList, False) (N : Nat) (S : St) (hf : fX7_keep_12 N S = some Rr) : ∀ (H : Heap) (locs : List Loc) (ls : Array Slot), WW D A s.heap (wC cy a r S) H locs → lv_has ls 2 [] → W p l e ({ frames := 6, cells := 1, slots := 6, locals := 100 } : Room) s m args below meth c H locs 0 0 (vx_MQ below (QVe D cy (wC cy a r) A Rr) (XX D cy (wC cy a r) A Rr) args s 1 6 A) (F0 m 12 ls []) := by
  intro H locs ls hW hl
  unfold fX7_keep_12 at hf
  exact mxT C hlS hX hno 1 (by decide) (ik := 57) (is := 73) (ic := 61) (text := strT 73) (by decide +kernel) (by decide +kernel) mX7_keep_x57 mX7_keep_y57 wX7_keep_61 gX7_keep_57_61 dX7_keep_12 dX7_keep_15 dX7_keep_16 dX7_keep_18 dX7_keep_21 hl.1 (Nat.le_of_ble_eq_true rfl) (Nat.le_of_ble_eq_true rfl) (Nat.le_of_ble_eq_true rfl) (Nat.le_of_ble_eq_true rfl) hlocks hf hW (Nat.le_of_ble_eq_true rfl) (Nat.le_of_ble_eq_true rfl)
set_option maxHeartbeats 4000000 in
set_option maxRecDepth 100000 in
theorem cX7_keep_met (l : Launch) (hlS : l.stackTraces = false) (D : va_G) (cy : Nat → ClassId) (a r sa : Nat → Nat) (sz N : Nat) (S : St) (p1 : Int32) (Rr : St ⊕ (Nat × St)) (hf : fX7_keep N S p1 = some Rr) : vx_Met l yX7_keep wsX7_keep ({ frames := 6, cells := 1, slots := 6, locals := 100 } : Room) (va_Pc [.ref (a 159), .int p1] (preX D cy (wC cy a r S) sz sa)) (QVe D cy (wC cy a r) (va_A (wC cy a r S) sz) Rr) (XX D cy (wC cy a r) (va_A (wC cy a r S) sz) Rr) 1 6 (va_A (wC cy a r S) sz) := by
  refine vx_ofW (cc := cX7_keep) (maxL := 2) (ret := none) (by decide) rfl ?_
  intro p e s m args below meth c s₁ B hml hno hv
  obtain ⟨rfl, ⟨rfl, hP, hK, hD0, hN⟩, hX⟩ := hv
  have hlocks := B.notSynchronized
  have hr := B.returns
  have C : Cx p s m _ c cX7_keep 2 wsX7_keep RX7 D cy := ⟨B.exec, B.bytes, hml, findClass_of_methodNamed B.named, atoms_spec (ws := wsX7_keep) B.pre, hK, hN⟩
  have hW := ww_start (w := wC cy a r) hP hD0
  generalize va_A (wC cy a r S) s.heap.size = A at hW hX ⊢
  have hl := lv_entry ([.ref (a 159), .int p1]) (n := 2) (Nat.le_of_ble_eq_true rfl)
  rw [lg_entry_eq]
  generalize (lg_sl ([.ref (a 159), .int p1]) ++ List.replicate (2 - (lg_sl ([.ref (a 159), .int p1])).length) Slot.unset).toArray = ls at hl ⊢
  have hl : lv_has ls 2 [(0, .ref (a 159)), (1, .int p1)] := hl
  unfold fX7_keep at hf
  refine lv_iload_n C.1 C.2.1 dX7_keep_0 rfl (lv_at hl 1 rfl) ?_
  refine lv_if_lt (tgt := 12) C.1 C.2.1 dX7_keep_1 (by decide) (fun q1 => ?_) (fun q1 => ?_)
  · replace hf := (if_pos q1).symm.trans hf
    exact lX7_keep_12 C hr hlocks hlS hX hno N _ hf _ _ _ hW (lv_sub hl [] rfl)
  · replace hf := (if_neg q1).symm.trans hf
    refine lv_iload_n C.1 C.2.1 dX7_keep_4 rfl (lv_at hl 1 rfl) ?_
    refine lv_aload_n C.1 C.2.1 dX7_keep_5 rfl (lv_at hl 0 rfl) ?_
    refine fg_7_1 C kX7_keep_7 mX7_keep_64 hW dX7_keep_6 ?_
    refine lv_icmp_le (tgt := 22) C.1 C.2.1 dX7_keep_9 (by decide) (fun q2 => ?_) (fun q2 => ?_)
    · replace hf := (if_pos q2).symm.trans hf
      refine lv_aload_n C.1 C.2.1 dX7_keep_22 rfl (lv_at hl 0 rfl) ?_
      refine lv_iload_n C.1 C.2.1 dX7_keep_23 rfl (lv_at hl 1 rfl) ?_
      obtain ⟨S3, eS3, hf⟩ := bnd_el hf
      refine fp_7_1 C kX7_keep_7 mX7_keep_64 hW dX7_keep_24 eS3 (fun H locs hW => ?_)
      exact mrVe C hr hlocks hf hW dX7_keep_27 (Nat.zero_le _) (Nat.zero_le _)
    · replace hf := (if_neg q2).symm.trans hf
      exact lX7_keep_12 C hr hlocks hlS hX hno N _ hf _ _ _ hW (lv_sub hl [] rfl)
theorem mX7_count_75 : Cond.fieldLink RX7 75 "SharedLambda" "faultKind" "I" ∈ wsX7_count := by decide +kernel
theorem mX7_count_39 : Cond.fieldLink RX7 39 "SharedLambda" "meetings" "LSharedLambda$Meetings;" ∈ wsX7_count := by decide +kernel
theorem mX7_count_23 : Cond.fieldLink RX7 23 "SharedLambda" "graph" "LSharedLambda$Graph;" ∈ wsX7_count := by decide +kernel
theorem mX7_count_95 : Cond.fieldLink RX7 95 "SharedLambda" "resultLetters" "I" ∈ wsX7_count := by decide +kernel
theorem mX7_count_64 : Cond.fieldLink RX7 64 "SharedLambda" "tapeLength" "I" ∈ wsX7_count := by decide +kernel
theorem mX7_count_x110 : Cond.classLink RX7 110 (xn 3) ∈ wsX7_count := by decide +kernel
theorem mX7_count_y110 : Cond.initialized (xn 3) ∈ wsX7_count := by decide +kernel
theorem wX7_count_114 : ∀ w ∈ vx_atS RX7 114 (xn 3) xNames, w ∈ wsX7_count ∨ w ∈ xBad 3 := by decide +kernel
theorem gX7_count_110_114 : ∀ w ∈ Cond.classLink RX7 110 (xn 3) :: Cond.initialized (xn 3) :: vx_atS RX7 114 (xn 3) xNames, vx_ot w = true := by decide +kernel
theorem kX7_count_7 : ∀ w ∈ u_ws RX7 TX7 9, w ∈ wsX7_count := fun _ h => List.mem_cons_of_mem _ (List.mem_append_left _ (List.mem_append_left _ (List.mem_append_left _ (List.mem_append_right _ h))))
set_option maxHeartbeats 4000000 in
set_option maxRecDepth 100000 in
theorem cX7_count_met (l : Launch) (hlS : l.stackTraces = false) (D : va_G) (cy : Nat → ClassId) (a r sa : Nat → Nat) (sz N : Nat) (S : St) (p1 : Int32) (Rr : (Int32 × St) ⊕ (Nat × St)) (hf : fX7_count N S p1 = some Rr) : vx_Met l yX7_count wsX7_count ({ frames := 6, cells := 1, slots := 6, locals := 100 } : Room) (va_Pc [.ref (a 159), .int p1] (preX D cy (wC cy a r S) sz sa)) (QIe D cy (wC cy a r) (va_A (wC cy a r S) sz) Rr) (XX D cy (wC cy a r) (va_A (wC cy a r S) sz) Rr) 1 6 (va_A (wC cy a r S) sz) := by
  refine vx_ofW (cc := cX7_count) (maxL := 2) (ret := (some .int)) (by decide) rfl ?_
  intro p e s m args below meth c s₁ B hml hno hv
  obtain ⟨rfl, ⟨rfl, hP, hK, hD0, hN⟩, hX⟩ := hv
  have hlocks := B.notSynchronized
  have hr := B.returns
  have C : Cx p s m _ c cX7_count 2 wsX7_count RX7 D cy := ⟨B.exec, B.bytes, hml, findClass_of_methodNamed B.named, atoms_spec (ws := wsX7_count) B.pre, hK, hN⟩
  have hW := ww_start (w := wC cy a r) hP hD0
  generalize va_A (wC cy a r S) s.heap.size = A at hW hX ⊢
  have hl := lv_entry ([.ref (a 159), .int p1]) (n := 2) (Nat.le_of_ble_eq_true rfl)
  rw [lg_entry_eq]
  generalize (lg_sl ([.ref (a 159), .int p1]) ++ List.replicate (2 - (lg_sl ([.ref (a 159), .int p1])).length) Slot.unset).toArray = ls at hl ⊢
  have hl : lv_has ls 2 [(0, .ref (a 159)), (1, .int p1)] := hl
  unfold fX7_count at hf
  refine lv_iload_n C.1 C.2.1 dX7_count_0 rfl (lv_at hl 1 rfl) ?_
  by_cases q1 : p1 = 0
  · refine lv_tableIn (tgt := 48) C.1 C.2.1 dX7_count_1 (by rw [q1]; decide) (by rw [q1]; decide) (by rw [q1]; rfl) (by decide) ?_
    replace hf := (if_pos q1).symm.trans hf
    refine lv_aload_n C.1 C.2.1 dX7_count_48 rfl (lv_at hl 0 rfl) ?_
    refine fg_7_2 C kX7_count_7 mX7_count_75 hW dX7_count_49 ?_
    exact mrIe C hr hlocks rfl hf hW dX7_count_52 (Nat.zero_le _) (Nat.zero_le _)
  · replace hf := (if_neg q1).symm.trans hf
    by_cases q2 : p1 = 1
    · refine lv_tableIn (tgt := 53) C.1 C.2.1 dX7_count_1 (by rw [q2]; decide) (by rw [q2]; decide) (by rw [q2]; rfl) (by decide) ?_
      replace hf := (if_pos q2).symm.trans hf
      refine lv_aload_n C.1 C.2.1 dX7_count_53 rfl (lv_at hl 0 rfl) ?_
      refine fg_7_7 C kX7_count_7 mX7_count_39 hW dX7_count_54 ?_
      obtain ⟨v3, S5, h4, hf⟩ := bd2_el hf
      refine mcVi (w := wC cy a r) (S := S) (As := []) (rest := []) (q0 := 3) (ci := 3) C (cX3_betas_met l D cy a r _ N S  (v3, S5) h4) (cwV 0 C.2.2.2.2.1 gX7_count_X3_betas rfl rfl rfl (by decide +kernel) ⟨Nat.le_of_ble_eq_true rfl, Nat.le_of_ble_eq_true rfl⟩) rfl rfl rfl hl.1 (Nat.le_of_ble_eq_true rfl) hW dX7_count_57 ⟨Nat.zero_le _, Nat.zero_le _⟩ rfl (fun H locs hW => ?_)
      exact mrIe C hr hlocks rfl hf hW dX7_count_60 (Nat.zero_le _) (Nat.zero_le _)
    · replace hf := (if_neg q2).symm.trans hf
      by_cases q6 : p1 = 2
      · refine lv_tableIn (tgt := 61) C.1 C.2.1 dX7_count_1 (by rw [q6]; decide) (by rw [q6]; decide) (by rw [q6]; rfl) (by decide) ?_
        replace hf := (if_pos q6).symm.trans hf
        refine lv_aload_n C.1 C.2.1 dX7_count_61 rfl (lv_at hl 0 rfl) ?_
        refine fg_7_7 C kX7_count_7 mX7_count_39 hW dX7_count_62 ?_
        obtain ⟨v7, S9, h8, hf⟩ := bd2_el hf
        refine mcVi (w := wC cy a r) (S := S) (As := []) (rest := []) (q0 := 3) (ci := 3) C (cX3_annihilations_met l D cy a r _ N S  (v7, S9) h8) (cwV 0 C.2.2.2.2.1 gX7_count_X3_annihilations rfl rfl rfl (by decide +kernel) ⟨Nat.le_of_ble_eq_true rfl, Nat.le_of_ble_eq_true rfl⟩) rfl rfl rfl hl.1 (Nat.le_of_ble_eq_true rfl) hW dX7_count_65 ⟨Nat.zero_le _, Nat.zero_le _⟩ rfl (fun H locs hW => ?_)
        exact mrIe C hr hlocks rfl hf hW dX7_count_68 (Nat.zero_le _) (Nat.zero_le _)
      · replace hf := (if_neg q6).symm.trans hf
        by_cases q10 : p1 = 3
        · refine lv_tableIn (tgt := 69) C.1 C.2.1 dX7_count_1 (by rw [q10]; decide) (by rw [q10]; decide) (by rw [q10]; rfl) (by decide) ?_
          replace hf := (if_pos q10).symm.trans hf
          refine lv_aload_n C.1 C.2.1 dX7_count_69 rfl (lv_at hl 0 rfl) ?_
          refine fg_7_7 C kX7_count_7 mX7_count_39 hW dX7_count_70 ?_
          obtain ⟨v11, S13, h12, hf⟩ := bd2_el hf
          refine mcVi (w := wC cy a r) (S := S) (As := []) (rest := []) (q0 := 3) (ci := 3) C (cX3_passings_met l D cy a r _ N S  (v11, S13) h12) (cwV 0 C.2.2.2.2.1 gX7_count_X3_passings rfl rfl rfl (by decide +kernel) ⟨Nat.le_of_ble_eq_true rfl, Nat.le_of_ble_eq_true rfl⟩) rfl rfl rfl hl.1 (Nat.le_of_ble_eq_true rfl) hW dX7_count_73 ⟨Nat.zero_le _, Nat.zero_le _⟩ rfl (fun H locs hW => ?_)
          exact mrIe C hr hlocks rfl hf hW dX7_count_76 (Nat.zero_le _) (Nat.zero_le _)
        · replace hf := (if_neg q10).symm.trans hf
          by_cases q14 : p1 = 4
          · refine lv_tableIn (tgt := 77) C.1 C.2.1 dX7_count_1 (by rw [q14]; decide) (by rw [q14]; decide) (by rw [q14]; rfl) (by decide) ?_
            replace hf := (if_pos q14).symm.trans hf
            refine lv_aload_n C.1 C.2.1 dX7_count_77 rfl (lv_at hl 0 rfl) ?_
            refine fg_7_5 C kX7_count_7 mX7_count_23 hW dX7_count_78 ?_
            obtain ⟨v15, S17, h16, hf⟩ := bd2_el hf
            refine mcVi (w := wC cy a r) (S := S) (As := []) (rest := []) (q0 := 2) (ci := 2) C (cX2_erasedNodes_met l D cy a r _ N S  (v15, S17) h16) (cwV 0 C.2.2.2.2.1 gX7_count_X2_erasedNodes rfl rfl rfl (by decide +kernel) ⟨Nat.le_of_ble_eq_true rfl, Nat.le_of_ble_eq_true rfl⟩) rfl rfl rfl hl.1 (Nat.le_of_ble_eq_true rfl) hW dX7_count_81 ⟨Nat.zero_le _, Nat.zero_le _⟩ rfl (fun H locs hW => ?_)
            exact mrIe C hr hlocks rfl hf hW dX7_count_84 (Nat.zero_le _) (Nat.zero_le _)
          · replace hf := (if_neg q14).symm.trans hf
            by_cases q18 : p1 = 5
            · refine lv_tableIn (tgt := 85) C.1 C.2.1 dX7_count_1 (by rw [q18]; decide) (by rw [q18]; decide) (by rw [q18]; rfl) (by decide) ?_
              replace hf := (if_pos q18).symm.trans hf
              refine lv_aload_n C.1 C.2.1 dX7_count_85 rfl (lv_at hl 0 rfl) ?_
              refine fg_7_5 C kX7_count_7 mX7_count_23 hW dX7_count_86 ?_
              obtain ⟨v19, S21, h20, hf⟩ := bd2_el hf
              refine mcVi (w := wC cy a r) (S := S) (As := []) (rest := []) (q0 := 2) (ci := 2) C (cX2_size_met l D cy a r _ N S  (v19, S21) h20) (cwV 0 C.2.2.2.2.1 gX7_count_X2_size rfl rfl rfl (by decide +kernel) ⟨Nat.le_of_ble_eq_true rfl, Nat.le_of_ble_eq_true rfl⟩) rfl rfl rfl hl.1 (Nat.le_of_ble_eq_true rfl) hW dX7_count_89 ⟨Nat.zero_le _, Nat.zero_le _⟩ rfl (fun H locs hW => ?_)
              exact mrIe C hr hlocks rfl hf hW dX7_count_92 (Nat.zero_le _) (Nat.zero_le _)
            · replace hf := (if_neg q18).symm.trans hf
              by_cases q22 : p1 = 6
              · refine lv_tableIn (tgt := 93) C.1 C.2.1 dX7_count_1 (by rw [q22]; decide) (by rw [q22]; decide) (by rw [q22]; rfl) (by decide) ?_
                replace hf := (if_pos q22).symm.trans hf
                refine lv_aload_n C.1 C.2.1 dX7_count_93 rfl (lv_at hl 0 rfl) ?_
                refine fg_7_3 C kX7_count_7 mX7_count_95 hW dX7_count_94 ?_
                exact mrIe C hr hlocks rfl hf hW dX7_count_97 (Nat.zero_le _) (Nat.zero_le _)
              · replace hf := (if_neg q22).symm.trans hf
                by_cases q23 : p1 = 7
                · refine lv_tableIn (tgt := 98) C.1 C.2.1 dX7_count_1 (by rw [q23]; decide) (by rw [q23]; decide) (by rw [q23]; rfl) (by decide) ?_
                  replace hf := (if_pos q23).symm.trans hf
                  refine lv_aload_n C.1 C.2.1 dX7_count_98 rfl (lv_at hl 0 rfl) ?_
                  refine fg_7_1 C kX7_count_7 mX7_count_64 hW dX7_count_99 ?_
                  exact mrIe C hr hlocks rfl hf hW dX7_count_102 (Nat.zero_le _) (Nat.zero_le _)
                · replace hf := (if_neg q23).symm.trans hf
                  refine lv_tableOut (tgt := 103) C.1 C.2.1 dX7_count_1 (tb_out 8 (by decide) (fun j hj => ?_)) (by decide) ?_
                  · rcases (show j = 0 ∨ j = 1 ∨ j = 2 ∨ j = 3 ∨ j = 4 ∨ j = 5 ∨ j = 6 ∨ j = 7 by omega) with rfl | rfl | rfl | rfl | rfl | rfl | rfl | rfl
                    · exact q1
                    · exact q2
                    · exact q6
                    · exact q10
                    · exact q14
                    · exact q18
                    · exact q22
                    · exact q23
                  · skip
                    exact mxT C hlS hX hno 3 (by decide) (ik := 110) (is := 112) (ic := 114) (text := strT 112) (by decide +kernel) (by decide +kernel) mX7_count_x110 mX7_count_y110 wX7_count_114 gX7_count_110_114 dX7_count_103 dX7_count_106 dX7_count_107 dX7_count_109 dX7_count_112 hl.1 (Nat.le_of_ble_eq_true rfl) (Nat.le_of_ble_eq_true rfl) (Nat.le_of_ble_eq_true rfl) (Nat.le_of_ble_eq_true rfl) hlocks hf hW (Nat.le_of_ble_eq_true rfl) (Nat.le_of_ble_eq_true rfl)
theorem mX7_letter_x110 : Cond.classLink RX7 110 (xn 3) ∈ wsX7_letter := by decide +kernel
theorem mX7_letter_y110 : Cond.initialized (xn 3) ∈ wsX7_letter := by decide +kernel
theorem mX7_letter_95 : Cond.fieldLink RX7 95 "SharedLambda" "resultLetters" "I" ∈ wsX7_letter := by decide +kernel
theorem mX7_letter_46 : Cond.fieldLink RX7 46 "SharedLambda" "walk" "LSharedLambda$Walk;" ∈ wsX7_letter := by decide +kernel
theorem wX7_letter_114 : ∀ w ∈ vx_atS RX7 114 (xn 3) xNames, w ∈ wsX7_letter ∨ w ∈ xBad 3 := by decide +kernel
theorem gX7_letter_110_114 : ∀ w ∈ Cond.classLink RX7 110 (xn 3) :: Cond.initialized (xn 3) :: vx_atS RX7 114 (xn 3) xNames, vx_ot w = true := by decide +kernel
theorem kX7_letter_7 : ∀ w ∈ u_ws RX7 TX7 9, w ∈ wsX7_letter := fun _ h => List.mem_cons_of_mem _ (List.mem_append_left _ (List.mem_append_left _ (List.mem_append_right _ h)))
set_option maxHeartbeats 4000000 in
set_option maxRecDepth 100000 in
theorem lX7_letter_12 {p : Program} {l : Launch} {e : Env} {s : State} {m : MethodId} {args : Array Value} {below : List Frame} {meth : Method} {c : Code} {D : va_G} {cy : Nat → ClassId} {a r : Nat → Nat} {A : Nat → Prop} {Rr : (Int32 × St) ⊕ (Nat × St)} (C : Cx p s m args c cX7_letter 2 wsX7_letter RX7 D cy) (hr : meth.sig.returnType = some .int) (hlocks : meth.locks = false) {sa : Nat → Nat} (hlS : l.stackTraces = false) (hX : XP sa A s s.heap) (hno : ∀ x ∈ c.exceptionTable.toList, False) (N : Nat) (S : St) (hf : fX7_letter_12 N S = some Rr) : ∀ (H : Heap) (locs : List Loc) (ls : Array Slot), WW D A s.heap (wC cy a r S) H locs → lv_has ls 2 [] → W p l e ({ frames := 6, cells := 1, slots := 6, locals := 100 } : Room) s m args below meth c H locs 0 0 (vx_MQ below (QIe D cy (wC cy a r) A Rr) (XX D cy (wC cy a r) A Rr) args s 1 6 A) (F0 m 12 ls []) := by
  intro H locs ls hW hl
  unfold fX7_letter_12 at hf
  exact mxT C hlS hX hno 3 (by decide) (ik := 110) (is := 115) (ic := 114) (text := strT 115) (by decide +kernel) (by decide +kernel) mX7_letter_x110 mX7_letter_y110 wX7_letter_114 gX7_letter_110_114 dX7_letter_12 dX7_letter_15 dX7_letter_16 dX7_letter_18 dX7_letter_21 hl.1 (Nat.le_of_ble_eq_true rfl) (Nat.le_of_ble_eq_true rfl) (Nat.le_of_ble_eq_true rfl) (Nat.le_of_ble_eq_true rfl) hlocks hf hW (Nat.le_of_ble_eq_true rfl) (Nat.le_of_ble_eq_true rfl)
set_option maxHeartbeats 4000000 in
set_option maxRecDepth 100000 in
theorem cX7_letter_met (l : Launch) (hlS : l.stackTraces = false) (D : va_G) (cy : Nat → ClassId) (a r sa : Nat → Nat) (sz N : Nat) (S : St) (p1 : Int32) (Rr : (Int32 × St) ⊕ (Nat × St)) (hf : fX7_letter N S p1 = some Rr) : vx_Met l yX7_letter wsX7_letter ({ frames := 6, cells := 1, slots := 6, locals := 100 } : Room) (va_Pc [.ref (a 159), .int p1] (preX D cy (wC cy a r S) sz sa)) (QIe D cy (wC cy a r) (va_A (wC cy a r S) sz) Rr) (XX D cy (wC cy a r) (va_A (wC cy a r S) sz) Rr) 1 6 (va_A (wC cy a r S) sz) := by
  refine vx_ofW (cc := cX7_letter) (maxL := 2) (ret := (some .int)) (by decide) rfl ?_
  intro p e s m args below meth c s₁ B hml hno hv
  obtain ⟨rfl, ⟨rfl, hP, hK, hD0, hN⟩, hX⟩ := hv
  have hlocks := B.notSynchronized
  have hr := B.returns
  have C : Cx p s m _ c cX7_letter 2 wsX7_letter RX7 D cy := ⟨B.exec, B.bytes, hml, findClass_of_methodNamed B.named, atoms_spec (ws := wsX7_letter) B.pre, hK, hN⟩
  have hW := ww_start (w := wC cy a r) hP hD0
  generalize va_A (wC cy a r S) s.heap.size = A at hW hX ⊢
  have hl := lv_entry ([.ref (a 159), .int p1]) (n := 2) (Nat.le_of_ble_eq_true rfl)
  rw [lg_entry_eq]
  generalize (lg_sl ([.ref (a 159), .int p1]) ++ List.replicate (2 - (lg_sl ([.ref (a 159), .int p1])).length) Slot.unset).toArray = ls at hl ⊢
  have hl : lv_has ls 2 [(0, .ref (a 159)), (1, .int p1)] := hl
  unfold fX7_letter at hf
  refine lv_iload_n C.1 C.2.1 dX7_letter_0 rfl (lv_at hl 1 rfl) ?_
  refine lv_if_lt (tgt := 12) C.1 C.2.1 dX7_letter_1 (by decide) (fun q1 => ?_) (fun q1 => ?_)
  · replace hf := (if_pos q1).symm.trans hf
    exact lX7_letter_12 C hr hlocks hlS hX hno N _ hf _ _ _ hW (lv_sub hl [] rfl)
  · replace hf := (if_neg q1).symm.trans hf
    refine lv_iload_n C.1 C.2.1 dX7_letter_4 rfl (lv_at hl 1 rfl) ?_
    refine lv_aload_n C.1 C.2.1 dX7_letter_5 rfl (lv_at hl 0 rfl) ?_
    refine fg_7_3 C kX7_letter_7 mX7_letter_95 hW dX7_letter_6 ?_
    refine lv_icmp_lt (tgt := 22) C.1 C.2.1 dX7_letter_9 (by decide) (fun q2 => ?_) (fun q2 => ?_)
    · replace hf := (if_pos q2).symm.trans hf
      refine lv_aload_n C.1 C.2.1 dX7_letter_22 rfl (lv_at hl 0 rfl) ?_
      refine fg_7_8 C kX7_letter_7 mX7_letter_46 hW dX7_letter_23 ?_
      refine lv_iload_n C.1 C.2.1 dX7_letter_26 rfl (lv_at hl 1 rfl) ?_
      obtain ⟨v3, S5, h4, hf⟩ := bd2_el hf
      refine mcVi (w := wC cy a r) (S := S) (As := [.int p1]) (rest := []) (q0 := 6) (ci := 6) C (cX6_letterAt_met l D cy a r _ N S p1 (v3, S5) h4) (cwV 1 C.2.2.2.2.1 gX7_letter_X6_letterAt rfl rfl rfl (by decide +kernel) ⟨Nat.le_of_ble_eq_true rfl, Nat.le_of_ble_eq_true rfl⟩) rfl rfl rfl hl.1 (Nat.le_of_ble_eq_true rfl) hW dX7_letter_27 ⟨Nat.zero_le _, Nat.zero_le _⟩ rfl (fun H locs hW => ?_)
      exact mrIe C hr hlocks rfl hf hW dX7_letter_30 (Nat.zero_le _) (Nat.zero_le _)
    · replace hf := (if_neg q2).symm.trans hf
      exact lX7_letter_12 C hr hlocks hlS hX hno N _ hf _ _ _ hW (lv_sub hl [] rfl)
theorem mX7_nodes_x110 : Cond.classLink RX7 110 (xn 3) ∈ wsX7_nodes := by decide +kernel
theorem mX7_nodes_y110 : Cond.initialized (xn 3) ∈ wsX7_nodes := by decide +kernel
theorem mX7_nodes_23 : Cond.fieldLink RX7 23 "SharedLambda" "graph" "LSharedLambda$Graph;" ∈ wsX7_nodes := by decide +kernel
theorem wX7_nodes_114 : ∀ w ∈ vx_atS RX7 114 (xn 3) xNames, w ∈ wsX7_nodes ∨ w ∈ xBad 3 := by decide +kernel
theorem gX7_nodes_110_114 : ∀ w ∈ Cond.classLink RX7 110 (xn 3) :: Cond.initialized (xn 3) :: vx_atS RX7 114 (xn 3) xNames, vx_ot w = true := by decide +kernel
theorem kX7_nodes_7 : ∀ w ∈ u_ws RX7 TX7 9, w ∈ wsX7_nodes := fun _ h => List.mem_cons_of_mem _ (List.mem_append_left _ (List.mem_append_left _ (List.mem_append_right _ h)))
set_option maxHeartbeats 4000000 in
set_option maxRecDepth 100000 in
theorem lX7_nodes_9 {p : Program} {l : Launch} {e : Env} {s : State} {m : MethodId} {args : Array Value} {below : List Frame} {meth : Method} {c : Code} {D : va_G} {cy : Nat → ClassId} {a r : Nat → Nat} {A : Nat → Prop} {Rr : (Int32 × St) ⊕ (Nat × St)} (C : Cx p s m args c cX7_nodes 2 wsX7_nodes RX7 D cy) (hr : meth.sig.returnType = some .int) (hlocks : meth.locks = false) {sa : Nat → Nat} (hlS : l.stackTraces = false) (hX : XP sa A s s.heap) (hno : ∀ x ∈ c.exceptionTable.toList, False) (N : Nat) (S : St) (hf : fX7_nodes_9 N S = some Rr) : ∀ (H : Heap) (locs : List Loc) (ls : Array Slot), WW D A s.heap (wC cy a r S) H locs → lv_has ls 2 [] → W p l e ({ frames := 6, cells := 1, slots := 6, locals := 100 } : Room) s m args below meth c H locs 0 0 (vx_MQ below (QIe D cy (wC cy a r) A Rr) (XX D cy (wC cy a r) A Rr) args s 1 6 A) (F0 m 9 ls []) := by
  intro H locs ls hW hl
  unfold fX7_nodes_9 at hf
  exact mxT C hlS hX hno 3 (by decide) (ik := 110) (is := 120) (ic := 114) (text := strT 120) (by decide +kernel) (by decide +kernel) mX7_nodes_x110 mX7_nodes_y110 wX7_nodes_114 gX7_nodes_110_114 dX7_nodes_9 dX7_nodes_12 dX7_nodes_13 dX7_nodes_15 dX7_nodes_18 hl.1 (Nat.le_of_ble_eq_true rfl) (Nat.le_of_ble_eq_true rfl) (Nat.le_of_ble_eq_true rfl) (Nat.le_of_ble_eq_true rfl) hlocks hf hW (Nat.le_of_ble_eq_true rfl) (Nat.le_of_ble_eq_true rfl)
set_option maxHeartbeats 4000000 in
set_option maxRecDepth 100000 in
theorem cX7_nodes_met (l : Launch) (hlS : l.stackTraces = false) (D : va_G) (cy : Nat → ClassId) (a r sa : Nat → Nat) (sz N : Nat) (S : St) (p1 : Int32) (Rr : (Int32 × St) ⊕ (Nat × St)) (hf : fX7_nodes N S p1 = some Rr) : vx_Met l yX7_nodes wsX7_nodes ({ frames := 6, cells := 1, slots := 6, locals := 100 } : Room) (va_Pc [.ref (a 159), .int p1] (preX D cy (wC cy a r S) sz sa)) (QIe D cy (wC cy a r) (va_A (wC cy a r S) sz) Rr) (XX D cy (wC cy a r) (va_A (wC cy a r S) sz) Rr) 1 6 (va_A (wC cy a r S) sz) := by
  refine vx_ofW (cc := cX7_nodes) (maxL := 2) (ret := (some .int)) (by decide) rfl ?_
  intro p e s m args below meth c s₁ B hml hno hv
  obtain ⟨rfl, ⟨rfl, hP, hK, hD0, hN⟩, hX⟩ := hv
  have hlocks := B.notSynchronized
  have hr := B.returns
  have C : Cx p s m _ c cX7_nodes 2 wsX7_nodes RX7 D cy := ⟨B.exec, B.bytes, hml, findClass_of_methodNamed B.named, atoms_spec (ws := wsX7_nodes) B.pre, hK, hN⟩
  have hW := ww_start (w := wC cy a r) hP hD0
  generalize va_A (wC cy a r S) s.heap.size = A at hW hX ⊢
  have hl := lv_entry ([.ref (a 159), .int p1]) (n := 2) (Nat.le_of_ble_eq_true rfl)
  rw [lg_entry_eq]
  generalize (lg_sl ([.ref (a 159), .int p1]) ++ List.replicate (2 - (lg_sl ([.ref (a 159), .int p1])).length) Slot.unset).toArray = ls at hl ⊢
  have hl : lv_has ls 2 [(0, .ref (a 159)), (1, .int p1)] := hl
  unfold fX7_nodes at hf
  refine lv_iload_n C.1 C.2.1 dX7_nodes_0 rfl (lv_at hl 1 rfl) ?_
  refine lv_if_lt (tgt := 9) C.1 C.2.1 dX7_nodes_1 (by decide) (fun q1 => ?_) (fun q1 => ?_)
  · replace hf := (if_pos q1).symm.trans hf
    exact lX7_nodes_9 C hr hlocks hlS hX hno N _ hf _ _ _ hW (lv_sub hl [] rfl)
  · replace hf := (if_neg q1).symm.trans hf
    refine lv_iload_n C.1 C.2.1 dX7_nodes_4 rfl (lv_at hl 1 rfl) ?_
    refine lv_iconst (v := 5) C.1 C.2.1 dX7_nodes_5 (by decide) ?_
    refine lv_icmp_le (tgt := 19) C.1 C.2.1 dX7_nodes_6 (by decide) (fun q2 => ?_) (fun q2 => ?_)
    · replace hf := (if_pos q2).symm.trans hf
      refine lv_aload_n C.1 C.2.1 dX7_nodes_19 rfl (lv_at hl 0 rfl) ?_
      refine fg_7_5 C kX7_nodes_7 mX7_nodes_23 hW dX7_nodes_20 ?_
      refine lv_iload_n C.1 C.2.1 dX7_nodes_23 rfl (lv_at hl 1 rfl) ?_
      obtain ⟨v3, S5, h4, hf⟩ := bd2_el hf
      refine mcVi (w := wC cy a r) (S := S) (As := [.int p1]) (rest := []) (q0 := 2) (ci := 2) C (cX2_population_met l D cy a r _ N S p1 (v3, S5) h4) (cwV 1 C.2.2.2.2.1 gX7_nodes_X2_population rfl rfl rfl (by decide +kernel) ⟨Nat.le_of_ble_eq_true rfl, Nat.le_of_ble_eq_true rfl⟩) rfl rfl rfl hl.1 (Nat.le_of_ble_eq_true rfl) hW dX7_nodes_24 ⟨Nat.zero_le _, Nat.zero_le _⟩ rfl (fun H locs hW => ?_)
      exact mrIe C hr hlocks rfl hf hW dX7_nodes_27 (Nat.zero_le _) (Nat.zero_le _)
    · replace hf := (if_neg q2).symm.trans hf
      exact lX7_nodes_9 C hr hlocks hlS hX hno N _ hf _ _ _ hW (lv_sub hl [] rfl)
