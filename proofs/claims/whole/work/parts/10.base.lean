/-! the words in which methods are written down as functions: a step with a name, a test of an index, a call -/
def bnd {α β : Type} (v : α) (K : α → Option β) : Option β := K v
theorem bnd_el {α β : Type} {v : α} {K : α → Option β} {R : β} (h : bnd v K = some R) : ∃ x, x = v ∧ K x = some R := ⟨v, rfl, h⟩
def ckx {β : Type} (i : Int32) (n : Nat) (K : Option β) : Option β := if i < 0 ∨ n ≤ i.toNatClampNeg then none else K
theorem ckx_el {β : Type} {i : Int32} {n : Nat} {K : Option β} {R : β} (h : ckx i n K = some R) : vp_in i n ∧ K = some R := by
  unfold ckx at h
  by_cases c : i < 0 ∨ n ≤ i.toNatClampNeg
  · rw [if_pos c] at h; cases h
  · rw [if_neg c] at h; exact ⟨c, h⟩
def ckp {β : Type} (c : Bool) (K : Option β) : Option β := if c = true then K else none
theorem ckp_el {β : Type} {c : Bool} {K : Option β} {R : β} (h : ckp c K = some R) : c = true ∧ K = some R := by
  unfold ckp at h
  by_cases e : c = true
  · rw [if_pos e] at h; exact ⟨e, h⟩
  · rw [if_neg e] at h; cases h
def bdo {α β : Type} (o : Option α) (K : α → Option β) : Option β := match o with
  | none => none
  | some x => K x
theorem bdo_el {α β : Type} {o : Option α} {K : α → Option β} {R : β} (h : bdo o K = some R) : ∃ x, o = some x ∧ K x = some R := by
  cases o with
  | none => cases h
  | some x => exact ⟨x, rfl, h⟩
def bd2 {α γ β : Type} (o : Option (α × γ)) (K : α → γ → Option β) : Option β := match o with
  | none => none
  | some x => K x.1 x.2
theorem bd2_el {α γ β : Type} {o : Option (α × γ)} {K : α → γ → Option β} {R : β} (h : bd2 o K = some R) : ∃ x y, o = some (x, y) ∧ K x y = some R := by
  cases o with
  | none => cases h
  | some x => exact ⟨x.1, x.2, rfl, h⟩
theorem nz_el {y : Int32} (h : (!(y == 0)) = true) : ¬ y = 0 := fun e => by rw [e] at h; cases h
theorem tb_out {x : Int32} (n : Nat) (hn : n < 2 ^ 31) (h : ∀ j, j < n → ¬ x = nI j) : x.toInt < 0 ∨ (n : Int) - 1 < x.toInt := by
  by_cases c : x < 0
  · exact Or.inl (by have := Int32.lt_iff_toInt_lt.mp c; simpa using this)
  · obtain ⟨j, hj, rfl⟩ := nI_of c
    right
    rw [nI_toInt hj]
    by_cases d : j < n
    · exact absurd rfl (h j d)
    · omega
theorem lk_el {x : Int32} {k : Int} (hk : -2147483648 ≤ k) (hk2 : k < 2147483648) (h : ¬ x = Int32.ofInt k) : ¬ x.toInt = k := fun e => h (by rw [← e]; exact (Int32.ofInt_toInt x).symm)
def loopN {σ β : Type} (step : (σ → Option β) → σ → Option β) : Nat → σ → Option β
  | 0, _ => none
  | n + 1, x => step (loopN step n) x
/-! a state: numbers by their place, rows by their place, the rows of the two-dimensional array, the grown row (its cell and its length), cells and slots made so far -/
abbrev St : Type := (Nat → Int32) × (Nat → Nat → Int32) × (Nat → Nat → Int32) × Nat × Nat × Nat × Nat
def updF (g : Nat → Nat → Int32) (k : Nat) (f : Nat → Int32) : Nat → Nat → Int32 := fun j => if j = k then f else g j
def sI (S : St) (k : Nat) (v : Int32) : St := (upd S.1 k v, S.2)
def sA (S : St) (k : Nat) (f : Nat → Int32) : St := (S.1, updF S.2.1 k f, S.2.2)
def sF (S : St) (i : Nat) (f : Nat → Int32) : St := (S.1, S.2.1, updF S.2.2.1 i f, S.2.2.2)
/-! the links between nest mates, which no list of words may hold -/
def nestQ : List (String × Nat × MethodName) := [(RX6, 87, yX7_whichAt), (RX6, 74, yX7_nodeAt), (RX6, 67, yX7_portOf), (RX6, 11, yX1_init), (RX3, 72, yX7_portOf), (RX3, 65, yX7_otherPorts), (RX3, 54, yX7_isControl), (RX2, 87, yX7_otherPorts), (RX2, 73, yX7_whichAt), (RX2, 66, yX7_portOf), (RX2, 48, yX7_nodeAt), (RX1, 11, yX5_init), (RX0, 61, yX7_portOf), (RX7, 22, yX2_init), (RX7, 15, yX4_init)]
def NW (U : State) : Prop := ∀ q ∈ nestQ, va_Nw (.methodLinkNest q.1 q.2.1 q.2.2 RX7) U
theorem NW.warm {s U : State} (hW : s.WarmedH U.vm) (h : NW s) : NW U := fun q hq => va_Nw.warmM hW (h q hq)
theorem NW.same {u U : State} (e : u.vm = U.vm) (h : NW u) : NW U := fun q hq => va_Nw.same rfl e (h q hq)
/-- the classes of arrays: of int, boolean, char, byte, int[] -/
abbrev kC (cy : Nat → ClassId) : List (ClassId × FieldType) := [(cy 0, .int), (cy 1, .boolean), (cy 2, .char), (cy 3, .byte), (cy 4, .array .int)]
/-- a method's start: the world w S and no more -/
def preW (D : va_G) (cy : Nat → ClassId) (ws : va_W) (sz : Nat) (U : State) : Prop := U.heap.size = sz ∧ va_P D vwCl ws U.heap ∧ va_K D vwCl (kC cy) U ∧ va_D (fun _ => True) ws ∧ NW U
/-- behind it: the world of the new state -/
def posW (D : va_G) (cy : Nat → ClassId) (w : St → va_W) (A : Nat → Prop) (u : St) (t : State) : Prop := va_P D vwCl (w u) t.heap ∧ va_K D vwCl (kC cy) t ∧ va_D A (w u) ∧ NW t
abbrev QI (D : va_G) (cy : Nat → ClassId) (w : St → va_W) (A : Nat → Prop) (R : Int32 × St) : Array Value → State → Outcome → State → Prop := va_Qi (fun v u => (v, u) = R) (posW D cy w A) A
abbrev QV (D : va_G) (cy : Nat → ClassId) (w : St → va_W) (A : Nat → Prop) (R : St) : Array Value → State → Outcome → State → Prop := va_Qv (fun u => u = R) (posW D cy w A) A
/-- inside a method: the machine, its code, its words, the tables -/
def Cx (p : Program) (s : State) (m : MethodId) (args : Array Value) (c : Code) (cc : ByteArray) (nL : Nat) (Ts : List Cond) (own : String) (D : va_G) (cy : Nat → ClassId) : Prop :=
  p.tables.exec = Jvm.exec ∧ c.code = cc ∧ c.maxLocals = nL ∧ s.vm.findClass own = some m.cls ∧ (∀ w ∈ Ts, w.before args s = true) ∧ va_K D vwCl (kC cy) s ∧ NW s
/-- the world inside a method -/
def WW (D : va_G) (A : Nat → Prop) (H0 : Heap) (ws : va_W) (H : Heap) (locs : List Loc) : Prop := va_P D vwCl ws H ∧ va_D A ws ∧ va_S A H0 H locs ∧ ∀ q : Nat, H0.size ≤ q → A q
section MC
variable {p : Program} {l : Launch} {e : Env} {R : Room} {s : State} {m : MethodId} {args : Array Value} {below : List Frame} {meth : Method} {c : Code} {H : Heap} {locs : List Loc} {cells slots : Nat} {Q : State → Prop}
variable {cc : ByteArray} {pc nL : Nat} {ls : Array Slot} {rest st : List Value} {D : va_G} {cy : Nat → ClassId} {A : Nat → Prop} {H0 : Heap} {Ts : List Cond} {own : String} {S u' : St} {w : St → va_W} {v' : Int32}
variable {y : MethodName} {bytes : ByteArray} {maxL n index : Nat} {ret : Option FieldType} {ws ws' : List Cond} {rm : Room} {As : List Value} {b q0 ci : Nat} {Cn : String} {T : u_T} {NN : Nat} {fs : List Value}
theorem lv_as {x v : Int32} (e9 : x = v) (k : W p l e R s m args below meth c H locs cells slots Q (F0 m pc ls (.int x :: rest))) : W p l e R s m args below meth c H locs cells slots Q (F0 m pc ls (.int v :: rest)) := e9 ▸ k
theorem pre_blind {av : List Value} {wl : va_W} {sz : Nat} : FrameBlind (va_Pc av (preW D cy wl sz)) := fun _ U _ _ h => ⟨h.1, h.2.1, h.2.2.1, va_K.moved (Vm.Alike.refl U.vm) h.2.2.2.1, h.2.2.2.2.1, NW.same rfl h.2.2.2.2.2⟩
theorem pre_at {av : List Value} (C : Cx p s m args c cc nL Ts own D cy) (hW : WW D A H0 (w S) H locs) : ∀ U : State, U.heap = H → s.WarmedH U.vm → va_Pc av (preW D cy (w S) H.size) av.toArray U := fun U hU hw => ⟨rfl, by rw [hU], by rw [hU]; exact hW.1, va_K.moved hw.alike C.2.2.2.2.2.1, hW.2.1.weaken (fun _ _ _ _ => trivial), NW.warm hw C.2.2.2.2.2.2⟩
theorem ww_free (hW : WW D A H0 (w S) H locs) : ∀ q, va_A (w S) H.size q → A q := by
  intro q h
  rcases h with ⟨k, e9, h⟩ | h
  · exact hW.2.1.2 k _ h
  · exact hW.2.2.2 q (Nat.le_trans hW.2.2.1.1 h)
theorem ww_new {t : State} {H1 : Heap} {locs1 : List Loc} (hW : WW D A H0 (w S) H locs) (ht : t.heap = H1) (hB : posW D cy w (va_A (w S) H.size) u' t) (hS : va_S A H0 H1 locs1) : WW D A H0 (w u') H1 locs1 :=
  ⟨ht ▸ hB.1, hB.2.2.1.weaken (fun _ q _ h => ww_free hW q.1 h), hS, hW.2.2.2⟩
/-- a call in the same world, an int comes back -/
theorem mcVi (C : Cx p s m args c cc nL Ts own D cy) (hM : Met l y ws rm (va_Pc (.ref b :: As) (preW D cy (w S) H.size)) (QI D cy w (va_A (w S) H.size) (v', u')) 0 0 (va_A (w S) H.size))
    (cw : CallW R s args own Cn index y bytes maxL ret ws rm 0 0 n) (hq : (w S)[q0]? = some (b, .inr (ci, fs))) (hc : vwCl[ci]? = some (Cn, T, NN)) (hn : As.length = n) (hls : ls.size = nL) (hrest : (rest.map fun v => v.category).sum ≤ 8)
    (hW : WW D A H0 (w S) H locs) (hd : decode cc pc = .ok (.invokevirtual index, 3)) (hcs : cells ≤ R.cells ∧ slots ≤ R.slots) (hst : st = As.reverse ++ .ref b :: rest)
    (k : ∀ (H1 : Heap) (locs1 : List Loc), WW D A H0 (w u') H1 locs1 → W p l e R s m args below meth c H1 locs1 cells slots Q (F0 m (pc + 3) ls (.int v' :: rest))) : W p l e R s m args below meth c H locs cells slots Q (F0 m pc ls st) := by
  refine va_calli (va_runV (As := As) (rest := rest) ⟨C.1, C.2.1, C.2.2.1, C.2.2.2.1, C.2.2.2.2.1⟩ hM cw ⟨pre_blind, va_recv C.2.2.2.2.2.1 hW.1 hc hq, pre_at C hW⟩ rfl hn hls hst (lv_room hrest) hd hcs) hW.2.2.1 (fun q _ h => ww_free hW q h) (ww_free hW) (fun v u t H1 locs1 ht hvm hw hB hz1 hk1 hS => ?_)
  cases hw
  exact k H1 locs1 (ww_new hW ht hB hS)
theorem mcVv (C : Cx p s m args c cc nL Ts own D cy) (hM : Met l y ws rm (va_Pc (.ref b :: As) (preW D cy (w S) H.size)) (QV D cy w (va_A (w S) H.size) u') 0 0 (va_A (w S) H.size))
    (cw : CallW R s args own Cn index y bytes maxL ret ws rm 0 0 n) (hq : (w S)[q0]? = some (b, .inr (ci, fs))) (hc : vwCl[ci]? = some (Cn, T, NN)) (hn : As.length = n) (hls : ls.size = nL) (hrest : (rest.map fun v => v.category).sum ≤ 8)
    (hW : WW D A H0 (w S) H locs) (hd : decode cc pc = .ok (.invokevirtual index, 3)) (hcs : cells ≤ R.cells ∧ slots ≤ R.slots) (hst : st = As.reverse ++ .ref b :: rest)
    (k : ∀ (H1 : Heap) (locs1 : List Loc), WW D A H0 (w u') H1 locs1 → W p l e R s m args below meth c H1 locs1 cells slots Q (F0 m (pc + 3) ls rest)) : W p l e R s m args below meth c H locs cells slots Q (F0 m pc ls st) := by
  refine va_callv (va_runV (As := As) (rest := rest) ⟨C.1, C.2.1, C.2.2.1, C.2.2.2.1, C.2.2.2.2.1⟩ hM cw ⟨pre_blind, va_recv C.2.2.2.2.2.1 hW.1 hc hq, pre_at C hW⟩ rfl hn hls hst (lv_room hrest) hd hcs) hW.2.2.1 (fun q _ h => ww_free hW q h) (ww_free hW) (fun u t H1 locs1 ht hvm hw hB hz1 hk1 hS => ?_)
  cases hw
  exact k H1 locs1 (ww_new hW ht hB hS)
/-- a static method that looks at no cell -/
abbrev MetS (l : Launch) (y : MethodName) (ws : List Cond) (rm : Room) (As : List Value) (v' : Int32) : Prop := Met l y ws rm (va_Pc As (fun _ => True)) (vp_Si (fun v => v = v')) 0 0 (fun _ => False)
theorem mcS (C : Cx p s m args c cc nL Ts own D cy) (hM : MetS l y ws rm As v') (cw : CallB R s args own index y bytes maxL ret ws rm 0 0 n ∧ (Cond.static y).before args s = true) (hn : As.length = n) (hls : ls.size = nL) (hrest : (rest.map fun v => v.category).sum ≤ 8)
    (hd : decode cc pc = .ok (.invokestatic index, 3)) (hcs : cells ≤ R.cells ∧ slots ≤ R.slots) (hst : st = As.reverse ++ rest)
    (k : W p l e R s m args below meth c H locs cells slots Q (F0 m (pc + 3) ls (.int v' :: rest))) : W p l e R s m args below meth c H locs cells slots Q (F0 m pc ls st) := by
  refine vp_callSi (va_Run.run (va_runS (As := As) (rest := rest) ⟨C.1, C.2.1, C.2.2.1, C.2.2.2.1, C.2.2.2.2.1⟩ hM cw ⟨fun _ _ _ _ h => h, fun _ _ _ => ⟨rfl, trivial⟩⟩ rfl hn hls hst (lv_room hrest) hd hcs)) (fun v hv => ?_)
  subst hv
  exact k
theorem mcSN {host : String} (C : Cx p s m args c cc nL Ts own D cy) (hM : MetS l y ws rm As v') (cw : va_CN R s args own index y host bytes maxL ret ws rm 0 0 n ∧ (Cond.static y).before args s = true ∧ True) (hn : As.length = n) (hls : ls.size = nL) (hrest : (rest.map fun v => v.category).sum ≤ 8)
    (hd : decode cc pc = .ok (.invokestatic index, 3)) (hcs : cells ≤ R.cells ∧ slots ≤ R.slots) (hst : st = As.reverse ++ rest)
    (k : W p l e R s m args below meth c H locs cells slots Q (F0 m (pc + 3) ls (.int v' :: rest))) : W p l e R s m args below meth c H locs cells slots Q (F0 m pc ls st) := by
  refine vp_callSi (va_Run.run (va_runSN (As := As) (rest := rest) ⟨C.1, C.2.1, C.2.2.1, C.2.2.2.1, C.2.2.2.2.1⟩ hM cw ⟨fun _ _ _ _ h => h, fun _ _ _ => ⟨rfl, trivial⟩⟩ rfl hn hls hst (lv_room hrest) hd hcs)) (fun v hv => ?_)
  subst hv
  exact k
/-- the ends -/
theorem mrI {v : Int32} {ty : FieldType} {Rr : Int32 × St} (C : Cx p s m args c cc nL Ts own D cy) (hr : meth.sig.returnType = some ty) (hlocks : meth.locks = false) (hn : narrow ty (.int v) = .int v) (hf : some (v, S) = some Rr) (hW : WW D A s.heap (w S) H locs) (hd : decode cc pc = .ok (.ireturn, 1)) :
    W p l e R s m args below meth c H locs cells slots (MQ below (QI D cy w A Rr) args s cells slots A) (F0 m pc ls [.int v]) := by
  cases hf
  exact W.zret C.1 C.2.1 hr hn (fun t ht hw => ⟨⟨v, S, rfl, rfl, by rw [ht]; exact hW.1, va_K.moved hw.alike C.2.2.2.2.2.1, hW.2.1, NW.warm hw C.2.2.2.2.2.2⟩, hW.2.2.1.F ht⟩) hW.2.2.1.2.2 hd hlocks
theorem mrV {Rr : St} (C : Cx p s m args c cc nL Ts own D cy) (hr : meth.sig.returnType = none) (hlocks : meth.locks = false) (hf : some S = some Rr) (hW : WW D A s.heap (w S) H locs) (hd : decode cc pc = .ok (.return_, 1)) :
    W p l e R s m args below meth c H locs cells slots (MQ below (QV D cy w A Rr) args s cells slots A) (F0 m pc ls []) := by
  cases hf
  exact W.vret C.1 C.2.1 hr (fun t ht hw => ⟨⟨S, rfl, rfl, by rw [ht]; exact hW.1, va_K.moved hw.alike C.2.2.2.2.2.1, hW.2.1, NW.warm hw C.2.2.2.2.2.2⟩, hW.2.2.1.F ht⟩) hW.2.2.1.2.2 hd hlocks
theorem mrS {v v1 : Int32} {ty : FieldType} (hexec : p.tables.exec = Jvm.exec) (hb : c.code = cc) (hr : meth.sig.returnType = some ty) (hlocks : meth.locks = false) (hn : narrow ty (.int v) = .int v) (hf : some v = some v1) (hH : H = s.heap) (hd : decode cc pc = .ok (.ireturn, 1)) :
    W p l e R s m args below meth c H [] cells slots (MQ below (vp_Si (fun q => q = v1)) args s cells slots (fun _ => False)) (F0 m pc ls [.int v]) := by
  cases hf
  exact W.zret hexec hb hr hn (fun t ht _ => ⟨v, rfl, rfl, ht.trans hH⟩) (fun q h => by cases h) hd hlocks
/-- the world at a method's start -/
theorem ww_start (hP : va_P D vwCl (w S) s.heap) (hD : va_D (fun _ => True) (w S)) : WW D (va_A (w S) s.heap.size) s.heap (w S) s.heap [] := ⟨hP, hD.self, va_S.rf, fun _ h => Or.inr h⟩
end MC
/-- the cells of the class: its objects, their rows -/
def wC0 (cy : Nat → ClassId) (a r : Nat → Nat) (S : St) : va_W := [
  (a 19, .inr (0, [.ref (a 59), .ref (a 1), .ref (a 2), .int (S.1 3)])),
  (a 39, .inr (1, [.ref (a 119), .ref (a 21), .int (S.1 22), .ref (a 23), .ref (a 24), .ref (a 25), .ref (a 26), .int (S.1 27)])),
  (a 59, .inr (2, [.ref (a 40), .ref (a 41), .ref (a 42), .ref (a 43), .int (S.1 44), .ref (a 45), .ref (a 46), .ref (a 47), .int (S.1 48), .int (S.1 49)])),
  (a 79, .inr (3, [.ref (a 59), .int (S.1 61), .int (S.1 62), .int (S.1 63)])),
  (a 99, .inr (4, [.ref (a 80), .ref (a 81), .ref (a 82), .int (S.1 83), .ref (a 84), .ref (a 85), .ref (a 86), .int (S.1 87), .ref (if S.1 88 = 0 then a 88 else a 140), .int (S.1 89), .int (S.1 90), .int (S.1 91), .int (S.1 92), .int (S.1 93), .int (S.1 94)])),
  (a 119, .inr (5, [.ref (a 100), .ref (a 101), .ref (a 102), .ref (a 103), .ref (a 104), .int (S.1 105)])),
  (a 139, .inr (6, [.ref (a 59), .ref (a 39), .ref (a 122), .int (S.1 123), .int (S.1 124), .ref (a 125), .int (S.1 126), .ref (a 127), .ref (a 128), .ref (a 129), .int (S.1 130), .ref (a 131), .ref (a 132), .int (S.1 133), .ref (r 99), .int (S.1 135)])),
  (a 159, .inr (7, [.ref (a 140), .int (S.1 141), .int (S.1 142), .int (S.1 143), .ref (a 99), .ref (a 59), .ref (a 19), .ref (a 79), .ref (a 139)])),
  (a 1, .inl (cy 0, 43, .inl (S.2.1 1))),
  (a 21, .inl (cy 0, 4067, .inl (S.2.1 21))),
  (a 23, .inl (cy 0, 4000, .inl (S.2.1 23))),
  (a 24, .inl (cy 0, 4000, .inl (S.2.1 24))),
  (a 25, .inl (cy 0, 4000, .inl (S.2.1 25))),
  (a 26, .inl (cy 0, 4000, .inl (S.2.1 26))),
  (a 40, .inl (cy 0, 3002, .inl (S.2.1 40))),
  (a 41, .inl (cy 0, 3002, .inl (S.2.1 41))),
  (a 42, .inl (cy 0, 12008, .inl (S.2.1 42))),
  (a 43, .inl (cy 0, 3002, .inl (S.2.1 43))),
  (a 45, .inl (cy 0, 7, .inl (S.2.1 45))),
  (a 46, .inl (cy 0, 3002, .inl (S.2.1 46))),
  (a 47, .inl (cy 1, 3002, .inl (S.2.1 47))),
  (a 80, .inl (cy 0, 162, .inl (S.2.1 80))),
  (a 81, .inl (cy 0, 162, .inl (S.2.1 81))),
  (a 82, .inl (cy 0, 162, .inl (S.2.1 82))),
  (a 84, .inl (cy 0, 40, .inl (S.2.1 84))),
  (a 85, .inl (cy 0, 40, .inl (S.2.1 85))),
  (a 86, .inl (cy 0, 40, .inl (S.2.1 86))),
  (a 100, .inl (cy 0, 4002, .inl (S.2.1 100))),
  (a 101, .inl (cy 0, 4002, .inl (S.2.1 101))),
  (a 102, .inl (cy 0, 4002, .inl (S.2.1 102))),
  (a 103, .inl (cy 0, 4002, .inl (S.2.1 103))),
  (a 104, .inl (cy 0, 4096, .inl (S.2.1 104))),
  (a 122, .inl (cy 2, 4000, .inl (S.2.1 122))),
  (a 125, .inl (cy 0, 4000, .inl (S.2.1 125))),
  (a 127, .inl (cy 0, 4000, .inl (S.2.1 127))),
  (a 128, .inl (cy 0, 4000, .inl (S.2.1 128))),
  (a 129, .inl (cy 0, 4000, .inl (S.2.1 129))),
  (a 131, .inl (cy 0, 4000, .inl (S.2.1 131))),
  (a 132, .inl (cy 0, 4000, .inl (S.2.1 132))),
  (a 140, .inl (cy 0, 600, .inl (S.2.1 140))),
  (a 2, .inl (cy 4, 43, .inr (.inr (.inr (.inr (fun i => if i < 43 then some (r i) else none)))))),
  (r 99, .inl (cy 0, S.2.2.2.2.1, .inl (S.2.1 134)))]
/-- with the rows of freePorts -/
def wC (cy : Nat → ClassId) (a r : Nat → Nat) (S : St) : va_W := wC0 cy a r S ++ (List.range 43).map (fun i => (r i, .inl (cy 0, 40, .inl (S.2.2.1 i))))
/-- the cells of the reference -/
def wM (cy : Nat → ClassId) (a _r : Nat → Nat) (S : St) : va_W := [
  (a 99, .inr (8, [.int (S.1 0), .ref (a 1), .int (S.1 2), .ref (a 3), .ref (a 4), .ref (a 5), .int (S.1 6), .int (S.1 7), .int (S.1 8), .int (S.1 9), .int (S.1 10), .ref (a 11), .ref (a 12), .int (S.1 13), .int (S.1 14), .ref (a 15), .ref (a 16), .ref (a 17), .ref (a 18), .ref (a 19), .ref (a 20), .int (S.1 21), .int (S.1 22), .int (S.1 23), .int (S.1 24), .int (S.1 25), .int (S.1 26), .ref (a 27), .int (S.1 28), .ref (a 29), .ref (a 30), .ref (a 31), .int (S.1 32), .int (S.1 33), .ref (a 34), .ref (a 35), .ref (a 36), .ref (a 37), .ref (a 38), .ref (a 39), .int (S.1 40), .ref (a 41), .ref (a 42), .int (S.1 43), .ref (a 44), .ref (a 45), .int (S.1 46), .int (S.1 47), .int (S.1 48), .int (S.1 49), .int (S.1 50), .int (S.1 51), .ref (a 52), .ref (a 53), .int (S.1 54), .ref (a 55), .ref (a 56), .int (S.1 57)])),
  (a 1, .inl (cy 3, 600, .inl (S.2.1 1))),
  (a 3, .inl (cy 0, 300, .inl (S.2.1 3))),
  (a 4, .inl (cy 0, 300, .inl (S.2.1 4))),
  (a 5, .inl (cy 0, 300, .inl (S.2.1 5))),
  (a 11, .inl (cy 0, 81, .inl (S.2.1 11))),
  (a 12, .inl (cy 0, 81, .inl (S.2.1 12))),
  (a 15, .inl (cy 0, 41, .inl (S.2.1 15))),
  (a 16, .inl (cy 0, 41, .inl (S.2.1 16))),
  (a 17, .inl (cy 0, 3010, .inl (S.2.1 17))),
  (a 18, .inl (cy 0, 3010, .inl (S.2.1 18))),
  (a 19, .inl (cy 0, 9030, .inl (S.2.1 19))),
  (a 20, .inl (cy 0, 3010, .inl (S.2.1 20))),
  (a 27, .inl (cy 0, 12000, .inl (S.2.1 27))),
  (a 29, .inl (cy 0, 24000, .inl (S.2.1 29))),
  (a 30, .inl (cy 0, 300, .inl (S.2.1 30))),
  (a 31, .inl (cy 0, 300, .inl (S.2.1 31))),
  (a 34, .inl (cy 0, 6, .inl (S.2.1 34))),
  (a 35, .inl (cy 0, 4010, .inl (S.2.1 35))),
  (a 36, .inl (cy 0, 4010, .inl (S.2.1 36))),
  (a 37, .inl (cy 0, 4010, .inl (S.2.1 37))),
  (a 38, .inl (cy 0, 4010, .inl (S.2.1 38))),
  (a 39, .inl (cy 0, 512, .inl (S.2.1 39))),
  (a 41, .inl (cy 0, 270000, .inl (S.2.1 41))),
  (a 42, .inl (cy 0, 270000, .inl (S.2.1 42))),
  (a 44, .inl (cy 0, 64, .inl (S.2.1 44))),
  (a 45, .inl (cy 3, 4000, .inl (S.2.1 45))),
  (a 52, .inl (cy 0, 4010, .inl (S.2.1 52))),
  (a 53, .inl (cy 0, 4010, .inl (S.2.1 53))),
  (a 55, .inl (cy 0, 8010, .inl (S.2.1 55))),
  (a 56, .inl (cy 0, 8010, .inl (S.2.1 56)))]
