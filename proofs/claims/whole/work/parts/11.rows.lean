section FR
variable {p : Program} {l : Launch} {e : Env} {R : Room} {s : State} {m : MethodId} {args : Array Value} {below : List Frame} {meth : Method} {c : Code} {H : Heap} {locs : List Loc} {cells slots : Nat} {Q : State → Prop}
variable {cc : ByteArray} {pc nL idx : Nat} {ls : Array Slot} {rest : List Value} {D : va_G} {cy : Nat → ClassId} {a r : Nat → Nat} {A : Nat → Prop} {H0 : Heap} {Ts : List Cond} {own : String} {S S' : St} {v i x : Int32}

theorem fg_0_0 (C : Cx p s m args c cc nL Ts own D cy) (hin : ∀ w ∈ u_ws RX0 TX0 4, w ∈ Ts) (hl : Cond.fieldLink own idx "SharedLambda$Builder" "graph" "LSharedLambda$Graph;" ∈ Ts) (hW : WW D A H0 (wC cy a r S) H locs) (hd : decode cc pc = .ok (.getfield idx, 3))
    (k : W p l e R s m args below meth c H locs cells slots Q (F0 m (pc + 3) ls (.ref (a 59) :: rest))) : W p l e R s m args below meth c H locs cells slots Q (F0 m pc ls (.ref (a 19) :: rest)) :=
  va_get (D := D) (ci := 0) (v := .ref (a 59)) (C := RX0) (T := TX0) (N := 4) C.1 C.2.1 C.2.2.2.2.1 hin C.2.2.2.1 C.2.2.2.2.2.1 hW.1 0 rfl rfl 0 (by decide) (C.2.2.2.2.1 _ hl) (fun _ h9 => h9) rfl hd k
theorem fg_0_1 (C : Cx p s m args c cc nL Ts own D cy) (hin : ∀ w ∈ u_ws RX0 TX0 4, w ∈ Ts) (hl : Cond.fieldLink own idx "SharedLambda$Builder" "rootPorts" "[I" ∈ Ts) (hW : WW D A H0 (wC cy a r S) H locs) (hd : decode cc pc = .ok (.getfield idx, 3))
    (k : W p l e R s m args below meth c H locs cells slots Q (F0 m (pc + 3) ls (.ref (a 1) :: rest))) : W p l e R s m args below meth c H locs cells slots Q (F0 m pc ls (.ref (a 19) :: rest)) :=
  va_get (D := D) (ci := 0) (v := .ref (a 1)) (C := RX0) (T := TX0) (N := 4) C.1 C.2.1 C.2.2.2.2.1 hin C.2.2.2.1 C.2.2.2.2.2.1 hW.1 0 rfl rfl 1 (by decide) (C.2.2.2.2.1 _ hl) (fun _ h9 => h9) rfl hd k
theorem al_0_1 (C : Cx p s m args c cc nL Ts own D cy) (hW : WW D A H0 (wC cy a r S) H locs) (h : vp_in i 43) (hd : decode cc pc = .ok (.iaload, 1))
    (k : W p l e R s m args below meth c H locs cells slots Q (F0 m (pc + 1) ls (.int (S.2.1 1 i.toNatClampNeg) :: rest))) : W p l e R s m args below meth c H locs cells slots Q (F0 m pc ls (.int i :: .ref (a 1) :: rest)) :=
  va_iald C.1 C.2.1 C.2.2.2.2.2.1 hW.1 8 0 rfl rfl h hd k
theorem as_0_1 (C : Cx p s m args c cc nL Ts own D cy) (hW : WW D A H0 (wC cy a r S) H locs) (h : vp_in i 43) (hd : decode cc pc = .ok (.iastore, 1)) (e9 : S' = sA S 1 (upd (S.2.1 1) i.toNatClampNeg x))
    (k : ∀ (H1 : Heap) (locs1 : List Loc), WW D A H0 (wC cy a r S') H1 locs1 → W p l e R s m args below meth c H1 locs1 cells slots Q (F0 m (pc + 1) ls rest)) : W p l e R s m args below meth c H locs cells slots Q (F0 m pc ls (.int x :: .int i :: .ref (a 1) :: rest)) := by
  subst e9
  exact va_iast C.1 C.2.1 C.2.2.2.2.2.1 hW.1 hW.2.1 hW.2.2.1 8 0 rfl rfl h hd (fun H1 locs1 hP hD hS => k H1 locs1 ⟨hP, hD, hS, hW.2.2.2⟩)
theorem an_0_1 (C : Cx p s m args c cc nL Ts own D cy) (hW : WW D A H0 (wC cy a r S) H locs) (hd : decode cc pc = .ok (.arraylength, 1))
    (k : W p l e R s m args below meth c H locs cells slots Q (F0 m (pc + 1) ls (.int (Int32.ofNat 43) :: rest))) : W p l e R s m args below meth c H locs cells slots Q (F0 m pc ls (.ref (a 1) :: rest)) :=
  va_alen C.1 C.2.1 C.2.2.2.2.2.1 hW.1 8 0 rfl rfl rfl hd k
theorem fg_0_2 (C : Cx p s m args c cc nL Ts own D cy) (hin : ∀ w ∈ u_ws RX0 TX0 4, w ∈ Ts) (hl : Cond.fieldLink own idx "SharedLambda$Builder" "freePorts" "[[I" ∈ Ts) (hW : WW D A H0 (wC cy a r S) H locs) (hd : decode cc pc = .ok (.getfield idx, 3))
    (k : W p l e R s m args below meth c H locs cells slots Q (F0 m (pc + 3) ls (.ref (a 2) :: rest))) : W p l e R s m args below meth c H locs cells slots Q (F0 m pc ls (.ref (a 19) :: rest)) :=
  va_get (D := D) (ci := 0) (v := .ref (a 2)) (C := RX0) (T := TX0) (N := 4) C.1 C.2.1 C.2.2.2.2.1 hin C.2.2.2.1 C.2.2.2.2.2.1 hW.1 0 rfl rfl 2 (by decide) (C.2.2.2.2.1 _ hl) (fun _ h9 => h9) rfl hd k
theorem fg_0_3 (C : Cx p s m args c cc nL Ts own D cy) (hin : ∀ w ∈ u_ws RX0 TX0 4, w ∈ Ts) (hl : Cond.fieldLink own idx "SharedLambda$Builder" "height" "I" ∈ Ts) (hW : WW D A H0 (wC cy a r S) H locs) (hd : decode cc pc = .ok (.getfield idx, 3))
    (k : W p l e R s m args below meth c H locs cells slots Q (F0 m (pc + 3) ls (.int (S.1 3) :: rest))) : W p l e R s m args below meth c H locs cells slots Q (F0 m pc ls (.ref (a 19) :: rest)) :=
  va_get (D := D) (ci := 0) (v := .int (S.1 3)) (C := RX0) (T := TX0) (N := 4) C.1 C.2.1 C.2.2.2.2.1 hin C.2.2.2.1 C.2.2.2.2.2.1 hW.1 0 rfl rfl 3 (by decide) (C.2.2.2.2.1 _ hl) (fun _ h9 => h9) rfl hd k
theorem fp_0_3 (C : Cx p s m args c cc nL Ts own D cy) (hin : ∀ w ∈ u_ws RX0 TX0 4, w ∈ Ts) (hl : Cond.fieldLink own idx "SharedLambda$Builder" "height" "I" ∈ Ts) (hW : WW D A H0 (wC cy a r S) H locs) (hd : decode cc pc = .ok (.putfield idx, 3)) (e9 : S' = sI S 3 v)
    (k : ∀ (H1 : Heap) (locs1 : List Loc), WW D A H0 (wC cy a r S') H1 locs1 → W p l e R s m args below meth c H1 locs1 cells slots Q (F0 m (pc + 3) ls rest)) : W p l e R s m args below meth c H locs cells slots Q (F0 m pc ls (.int v :: .ref (a 19) :: rest)) := by
  subst e9
  refine va_put (D := D) (ci := 0) (v := .int v) (ty := .int) (C := RX0) (T := TX0) (N := 4) C.1 C.2.1 C.2.2.2.2.1 hin tyX0 tyX0_ok nmX0 C.2.2.2.1 C.2.2.2.2.2.1 hW.1 hW.2.1 hW.2.2.1 0 rfl rfl 3 (by decide) (C.2.2.2.2.1 _ hl) (fun _ h9 => h9) rfl (by decide +kernel) rfl rfl (Nat.le_of_ble_eq_true rfl) hd (fun H1 locs1 hP hD hS => ?_)
  exact k H1 locs1 ⟨hP, hD, hS, hW.2.2.2⟩
theorem fg_1_0 (C : Cx p s m args c cc nL Ts own D cy) (hin : ∀ w ∈ u_ws RX1 TX1 8, w ∈ Ts) (hl : Cond.fieldLink own idx "SharedLambda$Context" "trees" "LSharedLambda$Trees;" ∈ Ts) (hW : WW D A H0 (wC cy a r S) H locs) (hd : decode cc pc = .ok (.getfield idx, 3))
    (k : W p l e R s m args below meth c H locs cells slots Q (F0 m (pc + 3) ls (.ref (a 119) :: rest))) : W p l e R s m args below meth c H locs cells slots Q (F0 m pc ls (.ref (a 39) :: rest)) :=
  va_get (D := D) (ci := 1) (v := .ref (a 119)) (C := RX1) (T := TX1) (N := 8) C.1 C.2.1 C.2.2.2.2.1 hin C.2.2.2.1 C.2.2.2.2.2.1 hW.1 1 rfl rfl 0 (by decide) (C.2.2.2.2.1 _ hl) (fun _ h9 => h9) rfl hd k
theorem fg_1_1 (C : Cx p s m args c cc nL Ts own D cy) (hin : ∀ w ∈ u_ws RX1 TX1 8, w ∈ Ts) (hl : Cond.fieldLink own idx "SharedLambda$Context" "levels" "[I" ∈ Ts) (hW : WW D A H0 (wC cy a r S) H locs) (hd : decode cc pc = .ok (.getfield idx, 3))
    (k : W p l e R s m args below meth c H locs cells slots Q (F0 m (pc + 3) ls (.ref (a 21) :: rest))) : W p l e R s m args below meth c H locs cells slots Q (F0 m pc ls (.ref (a 39) :: rest)) :=
  va_get (D := D) (ci := 1) (v := .ref (a 21)) (C := RX1) (T := TX1) (N := 8) C.1 C.2.1 C.2.2.2.2.1 hin C.2.2.2.1 C.2.2.2.2.2.1 hW.1 1 rfl rfl 1 (by decide) (C.2.2.2.2.1 _ hl) (fun _ h9 => h9) rfl hd k
theorem al_1_1 (C : Cx p s m args c cc nL Ts own D cy) (hW : WW D A H0 (wC cy a r S) H locs) (h : vp_in i 4067) (hd : decode cc pc = .ok (.iaload, 1))
    (k : W p l e R s m args below meth c H locs cells slots Q (F0 m (pc + 1) ls (.int (S.2.1 21 i.toNatClampNeg) :: rest))) : W p l e R s m args below meth c H locs cells slots Q (F0 m pc ls (.int i :: .ref (a 21) :: rest)) :=
  va_iald C.1 C.2.1 C.2.2.2.2.2.1 hW.1 9 0 rfl rfl h hd k
theorem as_1_1 (C : Cx p s m args c cc nL Ts own D cy) (hW : WW D A H0 (wC cy a r S) H locs) (h : vp_in i 4067) (hd : decode cc pc = .ok (.iastore, 1)) (e9 : S' = sA S 21 (upd (S.2.1 21) i.toNatClampNeg x))
    (k : ∀ (H1 : Heap) (locs1 : List Loc), WW D A H0 (wC cy a r S') H1 locs1 → W p l e R s m args below meth c H1 locs1 cells slots Q (F0 m (pc + 1) ls rest)) : W p l e R s m args below meth c H locs cells slots Q (F0 m pc ls (.int x :: .int i :: .ref (a 21) :: rest)) := by
  subst e9
  exact va_iast C.1 C.2.1 C.2.2.2.2.2.1 hW.1 hW.2.1 hW.2.2.1 9 0 rfl rfl h hd (fun H1 locs1 hP hD hS => k H1 locs1 ⟨hP, hD, hS, hW.2.2.2⟩)
theorem an_1_1 (C : Cx p s m args c cc nL Ts own D cy) (hW : WW D A H0 (wC cy a r S) H locs) (hd : decode cc pc = .ok (.arraylength, 1))
    (k : W p l e R s m args below meth c H locs cells slots Q (F0 m (pc + 1) ls (.int (Int32.ofNat 4067) :: rest))) : W p l e R s m args below meth c H locs cells slots Q (F0 m pc ls (.ref (a 21) :: rest)) :=
  va_alen C.1 C.2.1 C.2.2.2.2.2.1 hW.1 9 0 rfl rfl rfl hd k
theorem fg_1_2 (C : Cx p s m args c cc nL Ts own D cy) (hin : ∀ w ∈ u_ws RX1 TX1 8, w ∈ Ts) (hl : Cond.fieldLink own idx "SharedLambda$Context" "depth" "I" ∈ Ts) (hW : WW D A H0 (wC cy a r S) H locs) (hd : decode cc pc = .ok (.getfield idx, 3))
    (k : W p l e R s m args below meth c H locs cells slots Q (F0 m (pc + 3) ls (.int (S.1 22) :: rest))) : W p l e R s m args below meth c H locs cells slots Q (F0 m pc ls (.ref (a 39) :: rest)) :=
  va_get (D := D) (ci := 1) (v := .int (S.1 22)) (C := RX1) (T := TX1) (N := 8) C.1 C.2.1 C.2.2.2.2.1 hin C.2.2.2.1 C.2.2.2.2.2.1 hW.1 1 rfl rfl 2 (by decide) (C.2.2.2.2.1 _ hl) (fun _ h9 => h9) rfl hd k
theorem fp_1_2 (C : Cx p s m args c cc nL Ts own D cy) (hin : ∀ w ∈ u_ws RX1 TX1 8, w ∈ Ts) (hl : Cond.fieldLink own idx "SharedLambda$Context" "depth" "I" ∈ Ts) (hW : WW D A H0 (wC cy a r S) H locs) (hd : decode cc pc = .ok (.putfield idx, 3)) (e9 : S' = sI S 22 v)
    (k : ∀ (H1 : Heap) (locs1 : List Loc), WW D A H0 (wC cy a r S') H1 locs1 → W p l e R s m args below meth c H1 locs1 cells slots Q (F0 m (pc + 3) ls rest)) : W p l e R s m args below meth c H locs cells slots Q (F0 m pc ls (.int v :: .ref (a 39) :: rest)) := by
  subst e9
  refine va_put (D := D) (ci := 1) (v := .int v) (ty := .int) (C := RX1) (T := TX1) (N := 8) C.1 C.2.1 C.2.2.2.2.1 hin tyX1 tyX1_ok nmX1 C.2.2.2.1 C.2.2.2.2.2.1 hW.1 hW.2.1 hW.2.2.1 1 rfl rfl 2 (by decide) (C.2.2.2.2.1 _ hl) (fun _ h9 => h9) rfl (by decide +kernel) rfl rfl (Nat.le_of_ble_eq_true rfl) hd (fun H1 locs1 hP hD hS => ?_)
  exact k H1 locs1 ⟨hP, hD, hS, hW.2.2.2⟩
theorem fg_1_3 (C : Cx p s m args c cc nL Ts own D cy) (hin : ∀ w ∈ u_ws RX1 TX1 8, w ∈ Ts) (hl : Cond.fieldLink own idx "SharedLambda$Context" "trailForms" "[I" ∈ Ts) (hW : WW D A H0 (wC cy a r S) H locs) (hd : decode cc pc = .ok (.getfield idx, 3))
    (k : W p l e R s m args below meth c H locs cells slots Q (F0 m (pc + 3) ls (.ref (a 23) :: rest))) : W p l e R s m args below meth c H locs cells slots Q (F0 m pc ls (.ref (a 39) :: rest)) :=
  va_get (D := D) (ci := 1) (v := .ref (a 23)) (C := RX1) (T := TX1) (N := 8) C.1 C.2.1 C.2.2.2.2.1 hin C.2.2.2.1 C.2.2.2.2.2.1 hW.1 1 rfl rfl 3 (by decide) (C.2.2.2.2.1 _ hl) (fun _ h9 => h9) rfl hd k
theorem al_1_3 (C : Cx p s m args c cc nL Ts own D cy) (hW : WW D A H0 (wC cy a r S) H locs) (h : vp_in i 4000) (hd : decode cc pc = .ok (.iaload, 1))
    (k : W p l e R s m args below meth c H locs cells slots Q (F0 m (pc + 1) ls (.int (S.2.1 23 i.toNatClampNeg) :: rest))) : W p l e R s m args below meth c H locs cells slots Q (F0 m pc ls (.int i :: .ref (a 23) :: rest)) :=
  va_iald C.1 C.2.1 C.2.2.2.2.2.1 hW.1 10 0 rfl rfl h hd k
theorem as_1_3 (C : Cx p s m args c cc nL Ts own D cy) (hW : WW D A H0 (wC cy a r S) H locs) (h : vp_in i 4000) (hd : decode cc pc = .ok (.iastore, 1)) (e9 : S' = sA S 23 (upd (S.2.1 23) i.toNatClampNeg x))
    (k : ∀ (H1 : Heap) (locs1 : List Loc), WW D A H0 (wC cy a r S') H1 locs1 → W p l e R s m args below meth c H1 locs1 cells slots Q (F0 m (pc + 1) ls rest)) : W p l e R s m args below meth c H locs cells slots Q (F0 m pc ls (.int x :: .int i :: .ref (a 23) :: rest)) := by
  subst e9
  exact va_iast C.1 C.2.1 C.2.2.2.2.2.1 hW.1 hW.2.1 hW.2.2.1 10 0 rfl rfl h hd (fun H1 locs1 hP hD hS => k H1 locs1 ⟨hP, hD, hS, hW.2.2.2⟩)
theorem an_1_3 (C : Cx p s m args c cc nL Ts own D cy) (hW : WW D A H0 (wC cy a r S) H locs) (hd : decode cc pc = .ok (.arraylength, 1))
    (k : W p l e R s m args below meth c H locs cells slots Q (F0 m (pc + 1) ls (.int (Int32.ofNat 4000) :: rest))) : W p l e R s m args below meth c H locs cells slots Q (F0 m pc ls (.ref (a 23) :: rest)) :=
  va_alen C.1 C.2.1 C.2.2.2.2.2.1 hW.1 10 0 rfl rfl rfl hd k
theorem fg_1_4 (C : Cx p s m args c cc nL Ts own D cy) (hin : ∀ w ∈ u_ws RX1 TX1 8, w ∈ Ts) (hl : Cond.fieldLink own idx "SharedLambda$Context" "trailLevels" "[I" ∈ Ts) (hW : WW D A H0 (wC cy a r S) H locs) (hd : decode cc pc = .ok (.getfield idx, 3))
    (k : W p l e R s m args below meth c H locs cells slots Q (F0 m (pc + 3) ls (.ref (a 24) :: rest))) : W p l e R s m args below meth c H locs cells slots Q (F0 m pc ls (.ref (a 39) :: rest)) :=
  va_get (D := D) (ci := 1) (v := .ref (a 24)) (C := RX1) (T := TX1) (N := 8) C.1 C.2.1 C.2.2.2.2.1 hin C.2.2.2.1 C.2.2.2.2.2.1 hW.1 1 rfl rfl 4 (by decide) (C.2.2.2.2.1 _ hl) (fun _ h9 => h9) rfl hd k
theorem al_1_4 (C : Cx p s m args c cc nL Ts own D cy) (hW : WW D A H0 (wC cy a r S) H locs) (h : vp_in i 4000) (hd : decode cc pc = .ok (.iaload, 1))
    (k : W p l e R s m args below meth c H locs cells slots Q (F0 m (pc + 1) ls (.int (S.2.1 24 i.toNatClampNeg) :: rest))) : W p l e R s m args below meth c H locs cells slots Q (F0 m pc ls (.int i :: .ref (a 24) :: rest)) :=
  va_iald C.1 C.2.1 C.2.2.2.2.2.1 hW.1 11 0 rfl rfl h hd k
theorem as_1_4 (C : Cx p s m args c cc nL Ts own D cy) (hW : WW D A H0 (wC cy a r S) H locs) (h : vp_in i 4000) (hd : decode cc pc = .ok (.iastore, 1)) (e9 : S' = sA S 24 (upd (S.2.1 24) i.toNatClampNeg x))
    (k : ∀ (H1 : Heap) (locs1 : List Loc), WW D A H0 (wC cy a r S') H1 locs1 → W p l e R s m args below meth c H1 locs1 cells slots Q (F0 m (pc + 1) ls rest)) : W p l e R s m args below meth c H locs cells slots Q (F0 m pc ls (.int x :: .int i :: .ref (a 24) :: rest)) := by
  subst e9
  exact va_iast C.1 C.2.1 C.2.2.2.2.2.1 hW.1 hW.2.1 hW.2.2.1 11 0 rfl rfl h hd (fun H1 locs1 hP hD hS => k H1 locs1 ⟨hP, hD, hS, hW.2.2.2⟩)
theorem an_1_4 (C : Cx p s m args c cc nL Ts own D cy) (hW : WW D A H0 (wC cy a r S) H locs) (hd : decode cc pc = .ok (.arraylength, 1))
    (k : W p l e R s m args below meth c H locs cells slots Q (F0 m (pc + 1) ls (.int (Int32.ofNat 4000) :: rest))) : W p l e R s m args below meth c H locs cells slots Q (F0 m pc ls (.ref (a 24) :: rest)) :=
  va_alen C.1 C.2.1 C.2.2.2.2.2.1 hW.1 11 0 rfl rfl rfl hd k
theorem fg_1_5 (C : Cx p s m args c cc nL Ts own D cy) (hin : ∀ w ∈ u_ws RX1 TX1 8, w ∈ Ts) (hl : Cond.fieldLink own idx "SharedLambda$Context" "trailTrees" "[I" ∈ Ts) (hW : WW D A H0 (wC cy a r S) H locs) (hd : decode cc pc = .ok (.getfield idx, 3))
    (k : W p l e R s m args below meth c H locs cells slots Q (F0 m (pc + 3) ls (.ref (a 25) :: rest))) : W p l e R s m args below meth c H locs cells slots Q (F0 m pc ls (.ref (a 39) :: rest)) :=
  va_get (D := D) (ci := 1) (v := .ref (a 25)) (C := RX1) (T := TX1) (N := 8) C.1 C.2.1 C.2.2.2.2.1 hin C.2.2.2.1 C.2.2.2.2.2.1 hW.1 1 rfl rfl 5 (by decide) (C.2.2.2.2.1 _ hl) (fun _ h9 => h9) rfl hd k
theorem al_1_5 (C : Cx p s m args c cc nL Ts own D cy) (hW : WW D A H0 (wC cy a r S) H locs) (h : vp_in i 4000) (hd : decode cc pc = .ok (.iaload, 1))
    (k : W p l e R s m args below meth c H locs cells slots Q (F0 m (pc + 1) ls (.int (S.2.1 25 i.toNatClampNeg) :: rest))) : W p l e R s m args below meth c H locs cells slots Q (F0 m pc ls (.int i :: .ref (a 25) :: rest)) :=
  va_iald C.1 C.2.1 C.2.2.2.2.2.1 hW.1 12 0 rfl rfl h hd k
theorem as_1_5 (C : Cx p s m args c cc nL Ts own D cy) (hW : WW D A H0 (wC cy a r S) H locs) (h : vp_in i 4000) (hd : decode cc pc = .ok (.iastore, 1)) (e9 : S' = sA S 25 (upd (S.2.1 25) i.toNatClampNeg x))
    (k : ∀ (H1 : Heap) (locs1 : List Loc), WW D A H0 (wC cy a r S') H1 locs1 → W p l e R s m args below meth c H1 locs1 cells slots Q (F0 m (pc + 1) ls rest)) : W p l e R s m args below meth c H locs cells slots Q (F0 m pc ls (.int x :: .int i :: .ref (a 25) :: rest)) := by
  subst e9
  exact va_iast C.1 C.2.1 C.2.2.2.2.2.1 hW.1 hW.2.1 hW.2.2.1 12 0 rfl rfl h hd (fun H1 locs1 hP hD hS => k H1 locs1 ⟨hP, hD, hS, hW.2.2.2⟩)
theorem an_1_5 (C : Cx p s m args c cc nL Ts own D cy) (hW : WW D A H0 (wC cy a r S) H locs) (hd : decode cc pc = .ok (.arraylength, 1))
    (k : W p l e R s m args below meth c H locs cells slots Q (F0 m (pc + 1) ls (.int (Int32.ofNat 4000) :: rest))) : W p l e R s m args below meth c H locs cells slots Q (F0 m pc ls (.ref (a 25) :: rest)) :=
  va_alen C.1 C.2.1 C.2.2.2.2.2.1 hW.1 12 0 rfl rfl rfl hd k
theorem fg_1_6 (C : Cx p s m args c cc nL Ts own D cy) (hin : ∀ w ∈ u_ws RX1 TX1 8, w ∈ Ts) (hl : Cond.fieldLink own idx "SharedLambda$Context" "trailCounts" "[I" ∈ Ts) (hW : WW D A H0 (wC cy a r S) H locs) (hd : decode cc pc = .ok (.getfield idx, 3))
    (k : W p l e R s m args below meth c H locs cells slots Q (F0 m (pc + 3) ls (.ref (a 26) :: rest))) : W p l e R s m args below meth c H locs cells slots Q (F0 m pc ls (.ref (a 39) :: rest)) :=
  va_get (D := D) (ci := 1) (v := .ref (a 26)) (C := RX1) (T := TX1) (N := 8) C.1 C.2.1 C.2.2.2.2.1 hin C.2.2.2.1 C.2.2.2.2.2.1 hW.1 1 rfl rfl 6 (by decide) (C.2.2.2.2.1 _ hl) (fun _ h9 => h9) rfl hd k
theorem al_1_6 (C : Cx p s m args c cc nL Ts own D cy) (hW : WW D A H0 (wC cy a r S) H locs) (h : vp_in i 4000) (hd : decode cc pc = .ok (.iaload, 1))
    (k : W p l e R s m args below meth c H locs cells slots Q (F0 m (pc + 1) ls (.int (S.2.1 26 i.toNatClampNeg) :: rest))) : W p l e R s m args below meth c H locs cells slots Q (F0 m pc ls (.int i :: .ref (a 26) :: rest)) :=
  va_iald C.1 C.2.1 C.2.2.2.2.2.1 hW.1 13 0 rfl rfl h hd k
theorem as_1_6 (C : Cx p s m args c cc nL Ts own D cy) (hW : WW D A H0 (wC cy a r S) H locs) (h : vp_in i 4000) (hd : decode cc pc = .ok (.iastore, 1)) (e9 : S' = sA S 26 (upd (S.2.1 26) i.toNatClampNeg x))
    (k : ∀ (H1 : Heap) (locs1 : List Loc), WW D A H0 (wC cy a r S') H1 locs1 → W p l e R s m args below meth c H1 locs1 cells slots Q (F0 m (pc + 1) ls rest)) : W p l e R s m args below meth c H locs cells slots Q (F0 m pc ls (.int x :: .int i :: .ref (a 26) :: rest)) := by
  subst e9
  exact va_iast C.1 C.2.1 C.2.2.2.2.2.1 hW.1 hW.2.1 hW.2.2.1 13 0 rfl rfl h hd (fun H1 locs1 hP hD hS => k H1 locs1 ⟨hP, hD, hS, hW.2.2.2⟩)
theorem an_1_6 (C : Cx p s m args c cc nL Ts own D cy) (hW : WW D A H0 (wC cy a r S) H locs) (hd : decode cc pc = .ok (.arraylength, 1))
    (k : W p l e R s m args below meth c H locs cells slots Q (F0 m (pc + 1) ls (.int (Int32.ofNat 4000) :: rest))) : W p l e R s m args below meth c H locs cells slots Q (F0 m pc ls (.ref (a 26) :: rest)) :=
  va_alen C.1 C.2.1 C.2.2.2.2.2.1 hW.1 13 0 rfl rfl rfl hd k
theorem fg_1_7 (C : Cx p s m args c cc nL Ts own D cy) (hin : ∀ w ∈ u_ws RX1 TX1 8, w ∈ Ts) (hl : Cond.fieldLink own idx "SharedLambda$Context" "changes" "I" ∈ Ts) (hW : WW D A H0 (wC cy a r S) H locs) (hd : decode cc pc = .ok (.getfield idx, 3))
    (k : W p l e R s m args below meth c H locs cells slots Q (F0 m (pc + 3) ls (.int (S.1 27) :: rest))) : W p l e R s m args below meth c H locs cells slots Q (F0 m pc ls (.ref (a 39) :: rest)) :=
  va_get (D := D) (ci := 1) (v := .int (S.1 27)) (C := RX1) (T := TX1) (N := 8) C.1 C.2.1 C.2.2.2.2.1 hin C.2.2.2.1 C.2.2.2.2.2.1 hW.1 1 rfl rfl 7 (by decide) (C.2.2.2.2.1 _ hl) (fun _ h9 => h9) rfl hd k
theorem fp_1_7 (C : Cx p s m args c cc nL Ts own D cy) (hin : ∀ w ∈ u_ws RX1 TX1 8, w ∈ Ts) (hl : Cond.fieldLink own idx "SharedLambda$Context" "changes" "I" ∈ Ts) (hW : WW D A H0 (wC cy a r S) H locs) (hd : decode cc pc = .ok (.putfield idx, 3)) (e9 : S' = sI S 27 v)
    (k : ∀ (H1 : Heap) (locs1 : List Loc), WW D A H0 (wC cy a r S') H1 locs1 → W p l e R s m args below meth c H1 locs1 cells slots Q (F0 m (pc + 3) ls rest)) : W p l e R s m args below meth c H locs cells slots Q (F0 m pc ls (.int v :: .ref (a 39) :: rest)) := by
  subst e9
  refine va_put (D := D) (ci := 1) (v := .int v) (ty := .int) (C := RX1) (T := TX1) (N := 8) C.1 C.2.1 C.2.2.2.2.1 hin tyX1 tyX1_ok nmX1 C.2.2.2.1 C.2.2.2.2.2.1 hW.1 hW.2.1 hW.2.2.1 1 rfl rfl 7 (by decide) (C.2.2.2.2.1 _ hl) (fun _ h9 => h9) rfl (by decide +kernel) rfl rfl (Nat.le_of_ble_eq_true rfl) hd (fun H1 locs1 hP hD hS => ?_)
  exact k H1 locs1 ⟨hP, hD, hS, hW.2.2.2⟩
theorem fg_2_0 (C : Cx p s m args c cc nL Ts own D cy) (hin : ∀ w ∈ u_ws RX2 TX2 10, w ∈ Ts) (hl : Cond.fieldLink own idx "SharedLambda$Graph" "kinds" "[I" ∈ Ts) (hW : WW D A H0 (wC cy a r S) H locs) (hd : decode cc pc = .ok (.getfield idx, 3))
    (k : W p l e R s m args below meth c H locs cells slots Q (F0 m (pc + 3) ls (.ref (a 40) :: rest))) : W p l e R s m args below meth c H locs cells slots Q (F0 m pc ls (.ref (a 59) :: rest)) :=
  va_get (D := D) (ci := 2) (v := .ref (a 40)) (C := RX2) (T := TX2) (N := 10) C.1 C.2.1 C.2.2.2.2.1 hin C.2.2.2.1 C.2.2.2.2.2.1 hW.1 2 rfl rfl 0 (by decide) (C.2.2.2.2.1 _ hl) (fun _ h9 => h9) rfl hd k
theorem al_2_0 (C : Cx p s m args c cc nL Ts own D cy) (hW : WW D A H0 (wC cy a r S) H locs) (h : vp_in i 3002) (hd : decode cc pc = .ok (.iaload, 1))
    (k : W p l e R s m args below meth c H locs cells slots Q (F0 m (pc + 1) ls (.int (S.2.1 40 i.toNatClampNeg) :: rest))) : W p l e R s m args below meth c H locs cells slots Q (F0 m pc ls (.int i :: .ref (a 40) :: rest)) :=
  va_iald C.1 C.2.1 C.2.2.2.2.2.1 hW.1 14 0 rfl rfl h hd k
theorem as_2_0 (C : Cx p s m args c cc nL Ts own D cy) (hW : WW D A H0 (wC cy a r S) H locs) (h : vp_in i 3002) (hd : decode cc pc = .ok (.iastore, 1)) (e9 : S' = sA S 40 (upd (S.2.1 40) i.toNatClampNeg x))
    (k : ∀ (H1 : Heap) (locs1 : List Loc), WW D A H0 (wC cy a r S') H1 locs1 → W p l e R s m args below meth c H1 locs1 cells slots Q (F0 m (pc + 1) ls rest)) : W p l e R s m args below meth c H locs cells slots Q (F0 m pc ls (.int x :: .int i :: .ref (a 40) :: rest)) := by
  subst e9
  exact va_iast C.1 C.2.1 C.2.2.2.2.2.1 hW.1 hW.2.1 hW.2.2.1 14 0 rfl rfl h hd (fun H1 locs1 hP hD hS => k H1 locs1 ⟨hP, hD, hS, hW.2.2.2⟩)
theorem an_2_0 (C : Cx p s m args c cc nL Ts own D cy) (hW : WW D A H0 (wC cy a r S) H locs) (hd : decode cc pc = .ok (.arraylength, 1))
    (k : W p l e R s m args below meth c H locs cells slots Q (F0 m (pc + 1) ls (.int (Int32.ofNat 3002) :: rest))) : W p l e R s m args below meth c H locs cells slots Q (F0 m pc ls (.ref (a 40) :: rest)) :=
  va_alen C.1 C.2.1 C.2.2.2.2.2.1 hW.1 14 0 rfl rfl rfl hd k
theorem fg_2_1 (C : Cx p s m args c cc nL Ts own D cy) (hin : ∀ w ∈ u_ws RX2 TX2 10, w ∈ Ts) (hl : Cond.fieldLink own idx "SharedLambda$Graph" "indexes" "[I" ∈ Ts) (hW : WW D A H0 (wC cy a r S) H locs) (hd : decode cc pc = .ok (.getfield idx, 3))
    (k : W p l e R s m args below meth c H locs cells slots Q (F0 m (pc + 3) ls (.ref (a 41) :: rest))) : W p l e R s m args below meth c H locs cells slots Q (F0 m pc ls (.ref (a 59) :: rest)) :=
  va_get (D := D) (ci := 2) (v := .ref (a 41)) (C := RX2) (T := TX2) (N := 10) C.1 C.2.1 C.2.2.2.2.1 hin C.2.2.2.1 C.2.2.2.2.2.1 hW.1 2 rfl rfl 1 (by decide) (C.2.2.2.2.1 _ hl) (fun _ h9 => h9) rfl hd k
theorem al_2_1 (C : Cx p s m args c cc nL Ts own D cy) (hW : WW D A H0 (wC cy a r S) H locs) (h : vp_in i 3002) (hd : decode cc pc = .ok (.iaload, 1))
    (k : W p l e R s m args below meth c H locs cells slots Q (F0 m (pc + 1) ls (.int (S.2.1 41 i.toNatClampNeg) :: rest))) : W p l e R s m args below meth c H locs cells slots Q (F0 m pc ls (.int i :: .ref (a 41) :: rest)) :=
  va_iald C.1 C.2.1 C.2.2.2.2.2.1 hW.1 15 0 rfl rfl h hd k
theorem as_2_1 (C : Cx p s m args c cc nL Ts own D cy) (hW : WW D A H0 (wC cy a r S) H locs) (h : vp_in i 3002) (hd : decode cc pc = .ok (.iastore, 1)) (e9 : S' = sA S 41 (upd (S.2.1 41) i.toNatClampNeg x))
    (k : ∀ (H1 : Heap) (locs1 : List Loc), WW D A H0 (wC cy a r S') H1 locs1 → W p l e R s m args below meth c H1 locs1 cells slots Q (F0 m (pc + 1) ls rest)) : W p l e R s m args below meth c H locs cells slots Q (F0 m pc ls (.int x :: .int i :: .ref (a 41) :: rest)) := by
  subst e9
  exact va_iast C.1 C.2.1 C.2.2.2.2.2.1 hW.1 hW.2.1 hW.2.2.1 15 0 rfl rfl h hd (fun H1 locs1 hP hD hS => k H1 locs1 ⟨hP, hD, hS, hW.2.2.2⟩)
theorem an_2_1 (C : Cx p s m args c cc nL Ts own D cy) (hW : WW D A H0 (wC cy a r S) H locs) (hd : decode cc pc = .ok (.arraylength, 1))
    (k : W p l e R s m args below meth c H locs cells slots Q (F0 m (pc + 1) ls (.int (Int32.ofNat 3002) :: rest))) : W p l e R s m args below meth c H locs cells slots Q (F0 m pc ls (.ref (a 41) :: rest)) :=
  va_alen C.1 C.2.1 C.2.2.2.2.2.1 hW.1 15 0 rfl rfl rfl hd k
theorem fg_2_2 (C : Cx p s m args c cc nL Ts own D cy) (hin : ∀ w ∈ u_ws RX2 TX2 10, w ∈ Ts) (hl : Cond.fieldLink own idx "SharedLambda$Graph" "wires" "[I" ∈ Ts) (hW : WW D A H0 (wC cy a r S) H locs) (hd : decode cc pc = .ok (.getfield idx, 3))
    (k : W p l e R s m args below meth c H locs cells slots Q (F0 m (pc + 3) ls (.ref (a 42) :: rest))) : W p l e R s m args below meth c H locs cells slots Q (F0 m pc ls (.ref (a 59) :: rest)) :=
  va_get (D := D) (ci := 2) (v := .ref (a 42)) (C := RX2) (T := TX2) (N := 10) C.1 C.2.1 C.2.2.2.2.1 hin C.2.2.2.1 C.2.2.2.2.2.1 hW.1 2 rfl rfl 2 (by decide) (C.2.2.2.2.1 _ hl) (fun _ h9 => h9) rfl hd k
theorem al_2_2 (C : Cx p s m args c cc nL Ts own D cy) (hW : WW D A H0 (wC cy a r S) H locs) (h : vp_in i 12008) (hd : decode cc pc = .ok (.iaload, 1))
    (k : W p l e R s m args below meth c H locs cells slots Q (F0 m (pc + 1) ls (.int (S.2.1 42 i.toNatClampNeg) :: rest))) : W p l e R s m args below meth c H locs cells slots Q (F0 m pc ls (.int i :: .ref (a 42) :: rest)) :=
  va_iald C.1 C.2.1 C.2.2.2.2.2.1 hW.1 16 0 rfl rfl h hd k
theorem as_2_2 (C : Cx p s m args c cc nL Ts own D cy) (hW : WW D A H0 (wC cy a r S) H locs) (h : vp_in i 12008) (hd : decode cc pc = .ok (.iastore, 1)) (e9 : S' = sA S 42 (upd (S.2.1 42) i.toNatClampNeg x))
    (k : ∀ (H1 : Heap) (locs1 : List Loc), WW D A H0 (wC cy a r S') H1 locs1 → W p l e R s m args below meth c H1 locs1 cells slots Q (F0 m (pc + 1) ls rest)) : W p l e R s m args below meth c H locs cells slots Q (F0 m pc ls (.int x :: .int i :: .ref (a 42) :: rest)) := by
  subst e9
  exact va_iast C.1 C.2.1 C.2.2.2.2.2.1 hW.1 hW.2.1 hW.2.2.1 16 0 rfl rfl h hd (fun H1 locs1 hP hD hS => k H1 locs1 ⟨hP, hD, hS, hW.2.2.2⟩)
theorem an_2_2 (C : Cx p s m args c cc nL Ts own D cy) (hW : WW D A H0 (wC cy a r S) H locs) (hd : decode cc pc = .ok (.arraylength, 1))
    (k : W p l e R s m args below meth c H locs cells slots Q (F0 m (pc + 1) ls (.int (Int32.ofNat 12008) :: rest))) : W p l e R s m args below meth c H locs cells slots Q (F0 m pc ls (.ref (a 42) :: rest)) :=
  va_alen C.1 C.2.1 C.2.2.2.2.2.1 hW.1 16 0 rfl rfl rfl hd k
theorem fg_2_3 (C : Cx p s m args c cc nL Ts own D cy) (hin : ∀ w ∈ u_ws RX2 TX2 10, w ∈ Ts) (hl : Cond.fieldLink own idx "SharedLambda$Graph" "spare" "[I" ∈ Ts) (hW : WW D A H0 (wC cy a r S) H locs) (hd : decode cc pc = .ok (.getfield idx, 3))
    (k : W p l e R s m args below meth c H locs cells slots Q (F0 m (pc + 3) ls (.ref (a 43) :: rest))) : W p l e R s m args below meth c H locs cells slots Q (F0 m pc ls (.ref (a 59) :: rest)) :=
  va_get (D := D) (ci := 2) (v := .ref (a 43)) (C := RX2) (T := TX2) (N := 10) C.1 C.2.1 C.2.2.2.2.1 hin C.2.2.2.1 C.2.2.2.2.2.1 hW.1 2 rfl rfl 3 (by decide) (C.2.2.2.2.1 _ hl) (fun _ h9 => h9) rfl hd k
theorem al_2_3 (C : Cx p s m args c cc nL Ts own D cy) (hW : WW D A H0 (wC cy a r S) H locs) (h : vp_in i 3002) (hd : decode cc pc = .ok (.iaload, 1))
    (k : W p l e R s m args below meth c H locs cells slots Q (F0 m (pc + 1) ls (.int (S.2.1 43 i.toNatClampNeg) :: rest))) : W p l e R s m args below meth c H locs cells slots Q (F0 m pc ls (.int i :: .ref (a 43) :: rest)) :=
  va_iald C.1 C.2.1 C.2.2.2.2.2.1 hW.1 17 0 rfl rfl h hd k
theorem as_2_3 (C : Cx p s m args c cc nL Ts own D cy) (hW : WW D A H0 (wC cy a r S) H locs) (h : vp_in i 3002) (hd : decode cc pc = .ok (.iastore, 1)) (e9 : S' = sA S 43 (upd (S.2.1 43) i.toNatClampNeg x))
    (k : ∀ (H1 : Heap) (locs1 : List Loc), WW D A H0 (wC cy a r S') H1 locs1 → W p l e R s m args below meth c H1 locs1 cells slots Q (F0 m (pc + 1) ls rest)) : W p l e R s m args below meth c H locs cells slots Q (F0 m pc ls (.int x :: .int i :: .ref (a 43) :: rest)) := by
  subst e9
  exact va_iast C.1 C.2.1 C.2.2.2.2.2.1 hW.1 hW.2.1 hW.2.2.1 17 0 rfl rfl h hd (fun H1 locs1 hP hD hS => k H1 locs1 ⟨hP, hD, hS, hW.2.2.2⟩)
theorem an_2_3 (C : Cx p s m args c cc nL Ts own D cy) (hW : WW D A H0 (wC cy a r S) H locs) (hd : decode cc pc = .ok (.arraylength, 1))
    (k : W p l e R s m args below meth c H locs cells slots Q (F0 m (pc + 1) ls (.int (Int32.ofNat 3002) :: rest))) : W p l e R s m args below meth c H locs cells slots Q (F0 m pc ls (.ref (a 43) :: rest)) :=
  va_alen C.1 C.2.1 C.2.2.2.2.2.1 hW.1 17 0 rfl rfl rfl hd k
theorem fg_2_4 (C : Cx p s m args c cc nL Ts own D cy) (hin : ∀ w ∈ u_ws RX2 TX2 10, w ∈ Ts) (hl : Cond.fieldLink own idx "SharedLambda$Graph" "spares" "I" ∈ Ts) (hW : WW D A H0 (wC cy a r S) H locs) (hd : decode cc pc = .ok (.getfield idx, 3))
    (k : W p l e R s m args below meth c H locs cells slots Q (F0 m (pc + 3) ls (.int (S.1 44) :: rest))) : W p l e R s m args below meth c H locs cells slots Q (F0 m pc ls (.ref (a 59) :: rest)) :=
  va_get (D := D) (ci := 2) (v := .int (S.1 44)) (C := RX2) (T := TX2) (N := 10) C.1 C.2.1 C.2.2.2.2.1 hin C.2.2.2.1 C.2.2.2.2.2.1 hW.1 2 rfl rfl 4 (by decide) (C.2.2.2.2.1 _ hl) (fun _ h9 => h9) rfl hd k
theorem fp_2_4 (C : Cx p s m args c cc nL Ts own D cy) (hin : ∀ w ∈ u_ws RX2 TX2 10, w ∈ Ts) (hl : Cond.fieldLink own idx "SharedLambda$Graph" "spares" "I" ∈ Ts) (hW : WW D A H0 (wC cy a r S) H locs) (hd : decode cc pc = .ok (.putfield idx, 3)) (e9 : S' = sI S 44 v)
    (k : ∀ (H1 : Heap) (locs1 : List Loc), WW D A H0 (wC cy a r S') H1 locs1 → W p l e R s m args below meth c H1 locs1 cells slots Q (F0 m (pc + 3) ls rest)) : W p l e R s m args below meth c H locs cells slots Q (F0 m pc ls (.int v :: .ref (a 59) :: rest)) := by
  subst e9
  refine va_put (D := D) (ci := 2) (v := .int v) (ty := .int) (C := RX2) (T := TX2) (N := 10) C.1 C.2.1 C.2.2.2.2.1 hin tyX2 tyX2_ok nmX2 C.2.2.2.1 C.2.2.2.2.2.1 hW.1 hW.2.1 hW.2.2.1 2 rfl rfl 4 (by decide) (C.2.2.2.2.1 _ hl) (fun _ h9 => h9) rfl (by decide +kernel) rfl rfl (Nat.le_of_ble_eq_true rfl) hd (fun H1 locs1 hP hD hS => ?_)
  exact k H1 locs1 ⟨hP, hD, hS, hW.2.2.2⟩
theorem fg_2_5 (C : Cx p s m args c cc nL Ts own D cy) (hin : ∀ w ∈ u_ws RX2 TX2 10, w ∈ Ts) (hl : Cond.fieldLink own idx "SharedLambda$Graph" "populations" "[I" ∈ Ts) (hW : WW D A H0 (wC cy a r S) H locs) (hd : decode cc pc = .ok (.getfield idx, 3))
    (k : W p l e R s m args below meth c H locs cells slots Q (F0 m (pc + 3) ls (.ref (a 45) :: rest))) : W p l e R s m args below meth c H locs cells slots Q (F0 m pc ls (.ref (a 59) :: rest)) :=
  va_get (D := D) (ci := 2) (v := .ref (a 45)) (C := RX2) (T := TX2) (N := 10) C.1 C.2.1 C.2.2.2.2.1 hin C.2.2.2.1 C.2.2.2.2.2.1 hW.1 2 rfl rfl 5 (by decide) (C.2.2.2.2.1 _ hl) (fun _ h9 => h9) rfl hd k
theorem al_2_5 (C : Cx p s m args c cc nL Ts own D cy) (hW : WW D A H0 (wC cy a r S) H locs) (h : vp_in i 7) (hd : decode cc pc = .ok (.iaload, 1))
    (k : W p l e R s m args below meth c H locs cells slots Q (F0 m (pc + 1) ls (.int (S.2.1 45 i.toNatClampNeg) :: rest))) : W p l e R s m args below meth c H locs cells slots Q (F0 m pc ls (.int i :: .ref (a 45) :: rest)) :=
  va_iald C.1 C.2.1 C.2.2.2.2.2.1 hW.1 18 0 rfl rfl h hd k
theorem as_2_5 (C : Cx p s m args c cc nL Ts own D cy) (hW : WW D A H0 (wC cy a r S) H locs) (h : vp_in i 7) (hd : decode cc pc = .ok (.iastore, 1)) (e9 : S' = sA S 45 (upd (S.2.1 45) i.toNatClampNeg x))
    (k : ∀ (H1 : Heap) (locs1 : List Loc), WW D A H0 (wC cy a r S') H1 locs1 → W p l e R s m args below meth c H1 locs1 cells slots Q (F0 m (pc + 1) ls rest)) : W p l e R s m args below meth c H locs cells slots Q (F0 m pc ls (.int x :: .int i :: .ref (a 45) :: rest)) := by
  subst e9
  exact va_iast C.1 C.2.1 C.2.2.2.2.2.1 hW.1 hW.2.1 hW.2.2.1 18 0 rfl rfl h hd (fun H1 locs1 hP hD hS => k H1 locs1 ⟨hP, hD, hS, hW.2.2.2⟩)
theorem an_2_5 (C : Cx p s m args c cc nL Ts own D cy) (hW : WW D A H0 (wC cy a r S) H locs) (hd : decode cc pc = .ok (.arraylength, 1))
    (k : W p l e R s m args below meth c H locs cells slots Q (F0 m (pc + 1) ls (.int (Int32.ofNat 7) :: rest))) : W p l e R s m args below meth c H locs cells slots Q (F0 m pc ls (.ref (a 45) :: rest)) :=
  va_alen C.1 C.2.1 C.2.2.2.2.2.1 hW.1 18 0 rfl rfl rfl hd k
theorem fg_2_6 (C : Cx p s m args c cc nL Ts own D cy) (hin : ∀ w ∈ u_ws RX2 TX2 10, w ∈ Ts) (hl : Cond.fieldLink own idx "SharedLambda$Graph" "restless" "[I" ∈ Ts) (hW : WW D A H0 (wC cy a r S) H locs) (hd : decode cc pc = .ok (.getfield idx, 3))
    (k : W p l e R s m args below meth c H locs cells slots Q (F0 m (pc + 3) ls (.ref (a 46) :: rest))) : W p l e R s m args below meth c H locs cells slots Q (F0 m pc ls (.ref (a 59) :: rest)) :=
  va_get (D := D) (ci := 2) (v := .ref (a 46)) (C := RX2) (T := TX2) (N := 10) C.1 C.2.1 C.2.2.2.2.1 hin C.2.2.2.1 C.2.2.2.2.2.1 hW.1 2 rfl rfl 6 (by decide) (C.2.2.2.2.1 _ hl) (fun _ h9 => h9) rfl hd k
theorem al_2_6 (C : Cx p s m args c cc nL Ts own D cy) (hW : WW D A H0 (wC cy a r S) H locs) (h : vp_in i 3002) (hd : decode cc pc = .ok (.iaload, 1))
    (k : W p l e R s m args below meth c H locs cells slots Q (F0 m (pc + 1) ls (.int (S.2.1 46 i.toNatClampNeg) :: rest))) : W p l e R s m args below meth c H locs cells slots Q (F0 m pc ls (.int i :: .ref (a 46) :: rest)) :=
  va_iald C.1 C.2.1 C.2.2.2.2.2.1 hW.1 19 0 rfl rfl h hd k
theorem as_2_6 (C : Cx p s m args c cc nL Ts own D cy) (hW : WW D A H0 (wC cy a r S) H locs) (h : vp_in i 3002) (hd : decode cc pc = .ok (.iastore, 1)) (e9 : S' = sA S 46 (upd (S.2.1 46) i.toNatClampNeg x))
    (k : ∀ (H1 : Heap) (locs1 : List Loc), WW D A H0 (wC cy a r S') H1 locs1 → W p l e R s m args below meth c H1 locs1 cells slots Q (F0 m (pc + 1) ls rest)) : W p l e R s m args below meth c H locs cells slots Q (F0 m pc ls (.int x :: .int i :: .ref (a 46) :: rest)) := by
  subst e9
  exact va_iast C.1 C.2.1 C.2.2.2.2.2.1 hW.1 hW.2.1 hW.2.2.1 19 0 rfl rfl h hd (fun H1 locs1 hP hD hS => k H1 locs1 ⟨hP, hD, hS, hW.2.2.2⟩)
theorem an_2_6 (C : Cx p s m args c cc nL Ts own D cy) (hW : WW D A H0 (wC cy a r S) H locs) (hd : decode cc pc = .ok (.arraylength, 1))
    (k : W p l e R s m args below meth c H locs cells slots Q (F0 m (pc + 1) ls (.int (Int32.ofNat 3002) :: rest))) : W p l e R s m args below meth c H locs cells slots Q (F0 m pc ls (.ref (a 46) :: rest)) :=
  va_alen C.1 C.2.1 C.2.2.2.2.2.1 hW.1 19 0 rfl rfl rfl hd k
theorem fg_2_7 (C : Cx p s m args c cc nL Ts own D cy) (hin : ∀ w ∈ u_ws RX2 TX2 10, w ∈ Ts) (hl : Cond.fieldLink own idx "SharedLambda$Graph" "isRestless" "[Z" ∈ Ts) (hW : WW D A H0 (wC cy a r S) H locs) (hd : decode cc pc = .ok (.getfield idx, 3))
    (k : W p l e R s m args below meth c H locs cells slots Q (F0 m (pc + 3) ls (.ref (a 47) :: rest))) : W p l e R s m args below meth c H locs cells slots Q (F0 m pc ls (.ref (a 59) :: rest)) :=
  va_get (D := D) (ci := 2) (v := .ref (a 47)) (C := RX2) (T := TX2) (N := 10) C.1 C.2.1 C.2.2.2.2.1 hin C.2.2.2.1 C.2.2.2.2.2.1 hW.1 2 rfl rfl 7 (by decide) (C.2.2.2.2.1 _ hl) (fun _ h9 => h9) rfl hd k
theorem al_2_7 (C : Cx p s m args c cc nL Ts own D cy) (hW : WW D A H0 (wC cy a r S) H locs) (h : vp_in i 3002) (hd : decode cc pc = .ok (.baload, 1))
    (k : W p l e R s m args below meth c H locs cells slots Q (F0 m (pc + 1) ls (.int (S.2.1 47 i.toNatClampNeg) :: rest))) : W p l e R s m args below meth c H locs cells slots Q (F0 m pc ls (.int i :: .ref (a 47) :: rest)) :=
  va_zald C.1 C.2.1 C.2.2.2.2.2.1 hW.1 20 1 rfl rfl h hd k
theorem as_2_7 (C : Cx p s m args c cc nL Ts own D cy) (hW : WW D A H0 (wC cy a r S) H locs) (h : vp_in i 3002) (hd : decode cc pc = .ok (.bastore, 1)) (e9 : S' = sA S 47 (upd (S.2.1 47) i.toNatClampNeg (vp_nar .boolean x)))
    (k : ∀ (H1 : Heap) (locs1 : List Loc), WW D A H0 (wC cy a r S') H1 locs1 → W p l e R s m args below meth c H1 locs1 cells slots Q (F0 m (pc + 1) ls rest)) : W p l e R s m args below meth c H locs cells slots Q (F0 m pc ls (.int x :: .int i :: .ref (a 47) :: rest)) := by
  subst e9
  exact va_zast C.1 C.2.1 C.2.2.2.2.2.1 hW.1 hW.2.1 hW.2.2.1 20 1 rfl rfl h hd (fun H1 locs1 hP hD hS => k H1 locs1 ⟨hP, hD, hS, hW.2.2.2⟩)
theorem an_2_7 (C : Cx p s m args c cc nL Ts own D cy) (hW : WW D A H0 (wC cy a r S) H locs) (hd : decode cc pc = .ok (.arraylength, 1))
    (k : W p l e R s m args below meth c H locs cells slots Q (F0 m (pc + 1) ls (.int (Int32.ofNat 3002) :: rest))) : W p l e R s m args below meth c H locs cells slots Q (F0 m pc ls (.ref (a 47) :: rest)) :=
  va_alen C.1 C.2.1 C.2.2.2.2.2.1 hW.1 20 1 rfl rfl rfl hd k
theorem fg_2_8 (C : Cx p s m args c cc nL Ts own D cy) (hin : ∀ w ∈ u_ws RX2 TX2 10, w ∈ Ts) (hl : Cond.fieldLink own idx "SharedLambda$Graph" "restlessCount" "I" ∈ Ts) (hW : WW D A H0 (wC cy a r S) H locs) (hd : decode cc pc = .ok (.getfield idx, 3))
    (k : W p l e R s m args below meth c H locs cells slots Q (F0 m (pc + 3) ls (.int (S.1 48) :: rest))) : W p l e R s m args below meth c H locs cells slots Q (F0 m pc ls (.ref (a 59) :: rest)) :=
  va_get (D := D) (ci := 2) (v := .int (S.1 48)) (C := RX2) (T := TX2) (N := 10) C.1 C.2.1 C.2.2.2.2.1 hin C.2.2.2.1 C.2.2.2.2.2.1 hW.1 2 rfl rfl 8 (by decide) (C.2.2.2.2.1 _ hl) (fun _ h9 => h9) rfl hd k
theorem fp_2_8 (C : Cx p s m args c cc nL Ts own D cy) (hin : ∀ w ∈ u_ws RX2 TX2 10, w ∈ Ts) (hl : Cond.fieldLink own idx "SharedLambda$Graph" "restlessCount" "I" ∈ Ts) (hW : WW D A H0 (wC cy a r S) H locs) (hd : decode cc pc = .ok (.putfield idx, 3)) (e9 : S' = sI S 48 v)
    (k : ∀ (H1 : Heap) (locs1 : List Loc), WW D A H0 (wC cy a r S') H1 locs1 → W p l e R s m args below meth c H1 locs1 cells slots Q (F0 m (pc + 3) ls rest)) : W p l e R s m args below meth c H locs cells slots Q (F0 m pc ls (.int v :: .ref (a 59) :: rest)) := by
  subst e9
  refine va_put (D := D) (ci := 2) (v := .int v) (ty := .int) (C := RX2) (T := TX2) (N := 10) C.1 C.2.1 C.2.2.2.2.1 hin tyX2 tyX2_ok nmX2 C.2.2.2.1 C.2.2.2.2.2.1 hW.1 hW.2.1 hW.2.2.1 2 rfl rfl 8 (by decide) (C.2.2.2.2.1 _ hl) (fun _ h9 => h9) rfl (by decide +kernel) rfl rfl (Nat.le_of_ble_eq_true rfl) hd (fun H1 locs1 hP hD hS => ?_)
  exact k H1 locs1 ⟨hP, hD, hS, hW.2.2.2⟩
theorem fg_2_9 (C : Cx p s m args c cc nL Ts own D cy) (hin : ∀ w ∈ u_ws RX2 TX2 10, w ∈ Ts) (hl : Cond.fieldLink own idx "SharedLambda$Graph" "erased" "I" ∈ Ts) (hW : WW D A H0 (wC cy a r S) H locs) (hd : decode cc pc = .ok (.getfield idx, 3))
    (k : W p l e R s m args below meth c H locs cells slots Q (F0 m (pc + 3) ls (.int (S.1 49) :: rest))) : W p l e R s m args below meth c H locs cells slots Q (F0 m pc ls (.ref (a 59) :: rest)) :=
  va_get (D := D) (ci := 2) (v := .int (S.1 49)) (C := RX2) (T := TX2) (N := 10) C.1 C.2.1 C.2.2.2.2.1 hin C.2.2.2.1 C.2.2.2.2.2.1 hW.1 2 rfl rfl 9 (by decide) (C.2.2.2.2.1 _ hl) (fun _ h9 => h9) rfl hd k
theorem fp_2_9 (C : Cx p s m args c cc nL Ts own D cy) (hin : ∀ w ∈ u_ws RX2 TX2 10, w ∈ Ts) (hl : Cond.fieldLink own idx "SharedLambda$Graph" "erased" "I" ∈ Ts) (hW : WW D A H0 (wC cy a r S) H locs) (hd : decode cc pc = .ok (.putfield idx, 3)) (e9 : S' = sI S 49 v)
    (k : ∀ (H1 : Heap) (locs1 : List Loc), WW D A H0 (wC cy a r S') H1 locs1 → W p l e R s m args below meth c H1 locs1 cells slots Q (F0 m (pc + 3) ls rest)) : W p l e R s m args below meth c H locs cells slots Q (F0 m pc ls (.int v :: .ref (a 59) :: rest)) := by
  subst e9
  refine va_put (D := D) (ci := 2) (v := .int v) (ty := .int) (C := RX2) (T := TX2) (N := 10) C.1 C.2.1 C.2.2.2.2.1 hin tyX2 tyX2_ok nmX2 C.2.2.2.1 C.2.2.2.2.2.1 hW.1 hW.2.1 hW.2.2.1 2 rfl rfl 9 (by decide) (C.2.2.2.2.1 _ hl) (fun _ h9 => h9) rfl (by decide +kernel) rfl rfl (Nat.le_of_ble_eq_true rfl) hd (fun H1 locs1 hP hD hS => ?_)
  exact k H1 locs1 ⟨hP, hD, hS, hW.2.2.2⟩
theorem fg_3_0 (C : Cx p s m args c cc nL Ts own D cy) (hin : ∀ w ∈ u_ws RX3 TX3 4, w ∈ Ts) (hl : Cond.fieldLink own idx "SharedLambda$Meetings" "graph" "LSharedLambda$Graph;" ∈ Ts) (hW : WW D A H0 (wC cy a r S) H locs) (hd : decode cc pc = .ok (.getfield idx, 3))
    (k : W p l e R s m args below meth c H locs cells slots Q (F0 m (pc + 3) ls (.ref (a 59) :: rest))) : W p l e R s m args below meth c H locs cells slots Q (F0 m pc ls (.ref (a 79) :: rest)) :=
  va_get (D := D) (ci := 3) (v := .ref (a 59)) (C := RX3) (T := TX3) (N := 4) C.1 C.2.1 C.2.2.2.2.1 hin C.2.2.2.1 C.2.2.2.2.2.1 hW.1 3 rfl rfl 0 (by decide) (C.2.2.2.2.1 _ hl) (fun _ h9 => h9) rfl hd k
theorem fg_3_1 (C : Cx p s m args c cc nL Ts own D cy) (hin : ∀ w ∈ u_ws RX3 TX3 4, w ∈ Ts) (hl : Cond.fieldLink own idx "SharedLambda$Meetings" "betas" "I" ∈ Ts) (hW : WW D A H0 (wC cy a r S) H locs) (hd : decode cc pc = .ok (.getfield idx, 3))
    (k : W p l e R s m args below meth c H locs cells slots Q (F0 m (pc + 3) ls (.int (S.1 61) :: rest))) : W p l e R s m args below meth c H locs cells slots Q (F0 m pc ls (.ref (a 79) :: rest)) :=
  va_get (D := D) (ci := 3) (v := .int (S.1 61)) (C := RX3) (T := TX3) (N := 4) C.1 C.2.1 C.2.2.2.2.1 hin C.2.2.2.1 C.2.2.2.2.2.1 hW.1 3 rfl rfl 1 (by decide) (C.2.2.2.2.1 _ hl) (fun _ h9 => h9) rfl hd k
theorem fp_3_1 (C : Cx p s m args c cc nL Ts own D cy) (hin : ∀ w ∈ u_ws RX3 TX3 4, w ∈ Ts) (hl : Cond.fieldLink own idx "SharedLambda$Meetings" "betas" "I" ∈ Ts) (hW : WW D A H0 (wC cy a r S) H locs) (hd : decode cc pc = .ok (.putfield idx, 3)) (e9 : S' = sI S 61 v)
    (k : ∀ (H1 : Heap) (locs1 : List Loc), WW D A H0 (wC cy a r S') H1 locs1 → W p l e R s m args below meth c H1 locs1 cells slots Q (F0 m (pc + 3) ls rest)) : W p l e R s m args below meth c H locs cells slots Q (F0 m pc ls (.int v :: .ref (a 79) :: rest)) := by
  subst e9
  refine va_put (D := D) (ci := 3) (v := .int v) (ty := .int) (C := RX3) (T := TX3) (N := 4) C.1 C.2.1 C.2.2.2.2.1 hin tyX3 tyX3_ok nmX3 C.2.2.2.1 C.2.2.2.2.2.1 hW.1 hW.2.1 hW.2.2.1 3 rfl rfl 1 (by decide) (C.2.2.2.2.1 _ hl) (fun _ h9 => h9) rfl (by decide +kernel) rfl rfl (Nat.le_of_ble_eq_true rfl) hd (fun H1 locs1 hP hD hS => ?_)
  exact k H1 locs1 ⟨hP, hD, hS, hW.2.2.2⟩
theorem fg_3_2 (C : Cx p s m args c cc nL Ts own D cy) (hin : ∀ w ∈ u_ws RX3 TX3 4, w ∈ Ts) (hl : Cond.fieldLink own idx "SharedLambda$Meetings" "annihilations" "I" ∈ Ts) (hW : WW D A H0 (wC cy a r S) H locs) (hd : decode cc pc = .ok (.getfield idx, 3))
    (k : W p l e R s m args below meth c H locs cells slots Q (F0 m (pc + 3) ls (.int (S.1 62) :: rest))) : W p l e R s m args below meth c H locs cells slots Q (F0 m pc ls (.ref (a 79) :: rest)) :=
  va_get (D := D) (ci := 3) (v := .int (S.1 62)) (C := RX3) (T := TX3) (N := 4) C.1 C.2.1 C.2.2.2.2.1 hin C.2.2.2.1 C.2.2.2.2.2.1 hW.1 3 rfl rfl 2 (by decide) (C.2.2.2.2.1 _ hl) (fun _ h9 => h9) rfl hd k
theorem fp_3_2 (C : Cx p s m args c cc nL Ts own D cy) (hin : ∀ w ∈ u_ws RX3 TX3 4, w ∈ Ts) (hl : Cond.fieldLink own idx "SharedLambda$Meetings" "annihilations" "I" ∈ Ts) (hW : WW D A H0 (wC cy a r S) H locs) (hd : decode cc pc = .ok (.putfield idx, 3)) (e9 : S' = sI S 62 v)
    (k : ∀ (H1 : Heap) (locs1 : List Loc), WW D A H0 (wC cy a r S') H1 locs1 → W p l e R s m args below meth c H1 locs1 cells slots Q (F0 m (pc + 3) ls rest)) : W p l e R s m args below meth c H locs cells slots Q (F0 m pc ls (.int v :: .ref (a 79) :: rest)) := by
  subst e9
  refine va_put (D := D) (ci := 3) (v := .int v) (ty := .int) (C := RX3) (T := TX3) (N := 4) C.1 C.2.1 C.2.2.2.2.1 hin tyX3 tyX3_ok nmX3 C.2.2.2.1 C.2.2.2.2.2.1 hW.1 hW.2.1 hW.2.2.1 3 rfl rfl 2 (by decide) (C.2.2.2.2.1 _ hl) (fun _ h9 => h9) rfl (by decide +kernel) rfl rfl (Nat.le_of_ble_eq_true rfl) hd (fun H1 locs1 hP hD hS => ?_)
  exact k H1 locs1 ⟨hP, hD, hS, hW.2.2.2⟩
theorem fg_3_3 (C : Cx p s m args c cc nL Ts own D cy) (hin : ∀ w ∈ u_ws RX3 TX3 4, w ∈ Ts) (hl : Cond.fieldLink own idx "SharedLambda$Meetings" "passings" "I" ∈ Ts) (hW : WW D A H0 (wC cy a r S) H locs) (hd : decode cc pc = .ok (.getfield idx, 3))
    (k : W p l e R s m args below meth c H locs cells slots Q (F0 m (pc + 3) ls (.int (S.1 63) :: rest))) : W p l e R s m args below meth c H locs cells slots Q (F0 m pc ls (.ref (a 79) :: rest)) :=
  va_get (D := D) (ci := 3) (v := .int (S.1 63)) (C := RX3) (T := TX3) (N := 4) C.1 C.2.1 C.2.2.2.2.1 hin C.2.2.2.1 C.2.2.2.2.2.1 hW.1 3 rfl rfl 3 (by decide) (C.2.2.2.2.1 _ hl) (fun _ h9 => h9) rfl hd k
theorem fp_3_3 (C : Cx p s m args c cc nL Ts own D cy) (hin : ∀ w ∈ u_ws RX3 TX3 4, w ∈ Ts) (hl : Cond.fieldLink own idx "SharedLambda$Meetings" "passings" "I" ∈ Ts) (hW : WW D A H0 (wC cy a r S) H locs) (hd : decode cc pc = .ok (.putfield idx, 3)) (e9 : S' = sI S 63 v)
    (k : ∀ (H1 : Heap) (locs1 : List Loc), WW D A H0 (wC cy a r S') H1 locs1 → W p l e R s m args below meth c H1 locs1 cells slots Q (F0 m (pc + 3) ls rest)) : W p l e R s m args below meth c H locs cells slots Q (F0 m pc ls (.int v :: .ref (a 79) :: rest)) := by
  subst e9
  refine va_put (D := D) (ci := 3) (v := .int v) (ty := .int) (C := RX3) (T := TX3) (N := 4) C.1 C.2.1 C.2.2.2.2.1 hin tyX3 tyX3_ok nmX3 C.2.2.2.1 C.2.2.2.2.2.1 hW.1 hW.2.1 hW.2.2.1 3 rfl rfl 3 (by decide) (C.2.2.2.2.1 _ hl) (fun _ h9 => h9) rfl (by decide +kernel) rfl rfl (Nat.le_of_ble_eq_true rfl) hd (fun H1 locs1 hP hD hS => ?_)
  exact k H1 locs1 ⟨hP, hD, hS, hW.2.2.2⟩
theorem fg_4_0 (C : Cx p s m args c cc nL Ts own D cy) (hin : ∀ w ∈ u_ws RX4 TX4 15, w ∈ Ts) (hl : Cond.fieldLink own idx "SharedLambda$TermReader" "wordKinds" "[I" ∈ Ts) (hW : WW D A H0 (wC cy a r S) H locs) (hd : decode cc pc = .ok (.getfield idx, 3))
    (k : W p l e R s m args below meth c H locs cells slots Q (F0 m (pc + 3) ls (.ref (a 80) :: rest))) : W p l e R s m args below meth c H locs cells slots Q (F0 m pc ls (.ref (a 99) :: rest)) :=
  va_get (D := D) (ci := 4) (v := .ref (a 80)) (C := RX4) (T := TX4) (N := 15) C.1 C.2.1 C.2.2.2.2.1 hin C.2.2.2.1 C.2.2.2.2.2.1 hW.1 4 rfl rfl 0 (by decide) (C.2.2.2.2.1 _ hl) (fun _ h9 => h9) rfl hd k
theorem al_4_0 (C : Cx p s m args c cc nL Ts own D cy) (hW : WW D A H0 (wC cy a r S) H locs) (h : vp_in i 162) (hd : decode cc pc = .ok (.iaload, 1))
    (k : W p l e R s m args below meth c H locs cells slots Q (F0 m (pc + 1) ls (.int (S.2.1 80 i.toNatClampNeg) :: rest))) : W p l e R s m args below meth c H locs cells slots Q (F0 m pc ls (.int i :: .ref (a 80) :: rest)) :=
  va_iald C.1 C.2.1 C.2.2.2.2.2.1 hW.1 21 0 rfl rfl h hd k
theorem as_4_0 (C : Cx p s m args c cc nL Ts own D cy) (hW : WW D A H0 (wC cy a r S) H locs) (h : vp_in i 162) (hd : decode cc pc = .ok (.iastore, 1)) (e9 : S' = sA S 80 (upd (S.2.1 80) i.toNatClampNeg x))
    (k : ∀ (H1 : Heap) (locs1 : List Loc), WW D A H0 (wC cy a r S') H1 locs1 → W p l e R s m args below meth c H1 locs1 cells slots Q (F0 m (pc + 1) ls rest)) : W p l e R s m args below meth c H locs cells slots Q (F0 m pc ls (.int x :: .int i :: .ref (a 80) :: rest)) := by
  subst e9
  exact va_iast C.1 C.2.1 C.2.2.2.2.2.1 hW.1 hW.2.1 hW.2.2.1 21 0 rfl rfl h hd (fun H1 locs1 hP hD hS => k H1 locs1 ⟨hP, hD, hS, hW.2.2.2⟩)
theorem an_4_0 (C : Cx p s m args c cc nL Ts own D cy) (hW : WW D A H0 (wC cy a r S) H locs) (hd : decode cc pc = .ok (.arraylength, 1))
    (k : W p l e R s m args below meth c H locs cells slots Q (F0 m (pc + 1) ls (.int (Int32.ofNat 162) :: rest))) : W p l e R s m args below meth c H locs cells slots Q (F0 m pc ls (.ref (a 80) :: rest)) :=
  va_alen C.1 C.2.1 C.2.2.2.2.2.1 hW.1 21 0 rfl rfl rfl hd k
theorem fg_4_1 (C : Cx p s m args c cc nL Ts own D cy) (hin : ∀ w ∈ u_ws RX4 TX4 15, w ∈ Ts) (hl : Cond.fieldLink own idx "SharedLambda$TermReader" "wordIndexes" "[I" ∈ Ts) (hW : WW D A H0 (wC cy a r S) H locs) (hd : decode cc pc = .ok (.getfield idx, 3))
    (k : W p l e R s m args below meth c H locs cells slots Q (F0 m (pc + 3) ls (.ref (a 81) :: rest))) : W p l e R s m args below meth c H locs cells slots Q (F0 m pc ls (.ref (a 99) :: rest)) :=
  va_get (D := D) (ci := 4) (v := .ref (a 81)) (C := RX4) (T := TX4) (N := 15) C.1 C.2.1 C.2.2.2.2.1 hin C.2.2.2.1 C.2.2.2.2.2.1 hW.1 4 rfl rfl 1 (by decide) (C.2.2.2.2.1 _ hl) (fun _ h9 => h9) rfl hd k
theorem al_4_1 (C : Cx p s m args c cc nL Ts own D cy) (hW : WW D A H0 (wC cy a r S) H locs) (h : vp_in i 162) (hd : decode cc pc = .ok (.iaload, 1))
    (k : W p l e R s m args below meth c H locs cells slots Q (F0 m (pc + 1) ls (.int (S.2.1 81 i.toNatClampNeg) :: rest))) : W p l e R s m args below meth c H locs cells slots Q (F0 m pc ls (.int i :: .ref (a 81) :: rest)) :=
  va_iald C.1 C.2.1 C.2.2.2.2.2.1 hW.1 22 0 rfl rfl h hd k
theorem as_4_1 (C : Cx p s m args c cc nL Ts own D cy) (hW : WW D A H0 (wC cy a r S) H locs) (h : vp_in i 162) (hd : decode cc pc = .ok (.iastore, 1)) (e9 : S' = sA S 81 (upd (S.2.1 81) i.toNatClampNeg x))
    (k : ∀ (H1 : Heap) (locs1 : List Loc), WW D A H0 (wC cy a r S') H1 locs1 → W p l e R s m args below meth c H1 locs1 cells slots Q (F0 m (pc + 1) ls rest)) : W p l e R s m args below meth c H locs cells slots Q (F0 m pc ls (.int x :: .int i :: .ref (a 81) :: rest)) := by
  subst e9
  exact va_iast C.1 C.2.1 C.2.2.2.2.2.1 hW.1 hW.2.1 hW.2.2.1 22 0 rfl rfl h hd (fun H1 locs1 hP hD hS => k H1 locs1 ⟨hP, hD, hS, hW.2.2.2⟩)
theorem an_4_1 (C : Cx p s m args c cc nL Ts own D cy) (hW : WW D A H0 (wC cy a r S) H locs) (hd : decode cc pc = .ok (.arraylength, 1))
    (k : W p l e R s m args below meth c H locs cells slots Q (F0 m (pc + 1) ls (.int (Int32.ofNat 162) :: rest))) : W p l e R s m args below meth c H locs cells slots Q (F0 m pc ls (.ref (a 81) :: rest)) :=
  va_alen C.1 C.2.1 C.2.2.2.2.2.1 hW.1 22 0 rfl rfl rfl hd k
theorem fg_4_2 (C : Cx p s m args c cc nL Ts own D cy) (hin : ∀ w ∈ u_ws RX4 TX4 15, w ∈ Ts) (hl : Cond.fieldLink own idx "SharedLambda$TermReader" "wordSlots" "[I" ∈ Ts) (hW : WW D A H0 (wC cy a r S) H locs) (hd : decode cc pc = .ok (.getfield idx, 3))
    (k : W p l e R s m args below meth c H locs cells slots Q (F0 m (pc + 3) ls (.ref (a 82) :: rest))) : W p l e R s m args below meth c H locs cells slots Q (F0 m pc ls (.ref (a 99) :: rest)) :=
  va_get (D := D) (ci := 4) (v := .ref (a 82)) (C := RX4) (T := TX4) (N := 15) C.1 C.2.1 C.2.2.2.2.1 hin C.2.2.2.1 C.2.2.2.2.2.1 hW.1 4 rfl rfl 2 (by decide) (C.2.2.2.2.1 _ hl) (fun _ h9 => h9) rfl hd k
theorem al_4_2 (C : Cx p s m args c cc nL Ts own D cy) (hW : WW D A H0 (wC cy a r S) H locs) (h : vp_in i 162) (hd : decode cc pc = .ok (.iaload, 1))
    (k : W p l e R s m args below meth c H locs cells slots Q (F0 m (pc + 1) ls (.int (S.2.1 82 i.toNatClampNeg) :: rest))) : W p l e R s m args below meth c H locs cells slots Q (F0 m pc ls (.int i :: .ref (a 82) :: rest)) :=
  va_iald C.1 C.2.1 C.2.2.2.2.2.1 hW.1 23 0 rfl rfl h hd k
theorem as_4_2 (C : Cx p s m args c cc nL Ts own D cy) (hW : WW D A H0 (wC cy a r S) H locs) (h : vp_in i 162) (hd : decode cc pc = .ok (.iastore, 1)) (e9 : S' = sA S 82 (upd (S.2.1 82) i.toNatClampNeg x))
    (k : ∀ (H1 : Heap) (locs1 : List Loc), WW D A H0 (wC cy a r S') H1 locs1 → W p l e R s m args below meth c H1 locs1 cells slots Q (F0 m (pc + 1) ls rest)) : W p l e R s m args below meth c H locs cells slots Q (F0 m pc ls (.int x :: .int i :: .ref (a 82) :: rest)) := by
  subst e9
  exact va_iast C.1 C.2.1 C.2.2.2.2.2.1 hW.1 hW.2.1 hW.2.2.1 23 0 rfl rfl h hd (fun H1 locs1 hP hD hS => k H1 locs1 ⟨hP, hD, hS, hW.2.2.2⟩)
theorem an_4_2 (C : Cx p s m args c cc nL Ts own D cy) (hW : WW D A H0 (wC cy a r S) H locs) (hd : decode cc pc = .ok (.arraylength, 1))
    (k : W p l e R s m args below meth c H locs cells slots Q (F0 m (pc + 1) ls (.int (Int32.ofNat 162) :: rest))) : W p l e R s m args below meth c H locs cells slots Q (F0 m pc ls (.ref (a 82) :: rest)) :=
  va_alen C.1 C.2.1 C.2.2.2.2.2.1 hW.1 23 0 rfl rfl rfl hd k
theorem fg_4_3 (C : Cx p s m args c cc nL Ts own D cy) (hin : ∀ w ∈ u_ws RX4 TX4 15, w ∈ Ts) (hl : Cond.fieldLink own idx "SharedLambda$TermReader" "words" "I" ∈ Ts) (hW : WW D A H0 (wC cy a r S) H locs) (hd : decode cc pc = .ok (.getfield idx, 3))
    (k : W p l e R s m args below meth c H locs cells slots Q (F0 m (pc + 3) ls (.int (S.1 83) :: rest))) : W p l e R s m args below meth c H locs cells slots Q (F0 m pc ls (.ref (a 99) :: rest)) :=
  va_get (D := D) (ci := 4) (v := .int (S.1 83)) (C := RX4) (T := TX4) (N := 15) C.1 C.2.1 C.2.2.2.2.1 hin C.2.2.2.1 C.2.2.2.2.2.1 hW.1 4 rfl rfl 3 (by decide) (C.2.2.2.2.1 _ hl) (fun _ h9 => h9) rfl hd k
theorem fp_4_3 (C : Cx p s m args c cc nL Ts own D cy) (hin : ∀ w ∈ u_ws RX4 TX4 15, w ∈ Ts) (hl : Cond.fieldLink own idx "SharedLambda$TermReader" "words" "I" ∈ Ts) (hW : WW D A H0 (wC cy a r S) H locs) (hd : decode cc pc = .ok (.putfield idx, 3)) (e9 : S' = sI S 83 v)
    (k : ∀ (H1 : Heap) (locs1 : List Loc), WW D A H0 (wC cy a r S') H1 locs1 → W p l e R s m args below meth c H1 locs1 cells slots Q (F0 m (pc + 3) ls rest)) : W p l e R s m args below meth c H locs cells slots Q (F0 m pc ls (.int v :: .ref (a 99) :: rest)) := by
  subst e9
  refine va_put (D := D) (ci := 4) (v := .int v) (ty := .int) (C := RX4) (T := TX4) (N := 15) C.1 C.2.1 C.2.2.2.2.1 hin tyX4 tyX4_ok nmX4 C.2.2.2.1 C.2.2.2.2.2.1 hW.1 hW.2.1 hW.2.2.1 4 rfl rfl 3 (by decide) (C.2.2.2.2.1 _ hl) (fun _ h9 => h9) rfl (by decide +kernel) rfl rfl (Nat.le_of_ble_eq_true rfl) hd (fun H1 locs1 hP hD hS => ?_)
  exact k H1 locs1 ⟨hP, hD, hS, hW.2.2.2⟩
theorem fg_4_4 (C : Cx p s m args c cc nL Ts own D cy) (hin : ∀ w ∈ u_ws RX4 TX4 15, w ∈ Ts) (hl : Cond.fieldLink own idx "SharedLambda$TermReader" "openNames" "[I" ∈ Ts) (hW : WW D A H0 (wC cy a r S) H locs) (hd : decode cc pc = .ok (.getfield idx, 3))
    (k : W p l e R s m args below meth c H locs cells slots Q (F0 m (pc + 3) ls (.ref (a 84) :: rest))) : W p l e R s m args below meth c H locs cells slots Q (F0 m pc ls (.ref (a 99) :: rest)) :=
  va_get (D := D) (ci := 4) (v := .ref (a 84)) (C := RX4) (T := TX4) (N := 15) C.1 C.2.1 C.2.2.2.2.1 hin C.2.2.2.1 C.2.2.2.2.2.1 hW.1 4 rfl rfl 4 (by decide) (C.2.2.2.2.1 _ hl) (fun _ h9 => h9) rfl hd k
theorem al_4_4 (C : Cx p s m args c cc nL Ts own D cy) (hW : WW D A H0 (wC cy a r S) H locs) (h : vp_in i 40) (hd : decode cc pc = .ok (.iaload, 1))
    (k : W p l e R s m args below meth c H locs cells slots Q (F0 m (pc + 1) ls (.int (S.2.1 84 i.toNatClampNeg) :: rest))) : W p l e R s m args below meth c H locs cells slots Q (F0 m pc ls (.int i :: .ref (a 84) :: rest)) :=
  va_iald C.1 C.2.1 C.2.2.2.2.2.1 hW.1 24 0 rfl rfl h hd k
theorem as_4_4 (C : Cx p s m args c cc nL Ts own D cy) (hW : WW D A H0 (wC cy a r S) H locs) (h : vp_in i 40) (hd : decode cc pc = .ok (.iastore, 1)) (e9 : S' = sA S 84 (upd (S.2.1 84) i.toNatClampNeg x))
    (k : ∀ (H1 : Heap) (locs1 : List Loc), WW D A H0 (wC cy a r S') H1 locs1 → W p l e R s m args below meth c H1 locs1 cells slots Q (F0 m (pc + 1) ls rest)) : W p l e R s m args below meth c H locs cells slots Q (F0 m pc ls (.int x :: .int i :: .ref (a 84) :: rest)) := by
  subst e9
  exact va_iast C.1 C.2.1 C.2.2.2.2.2.1 hW.1 hW.2.1 hW.2.2.1 24 0 rfl rfl h hd (fun H1 locs1 hP hD hS => k H1 locs1 ⟨hP, hD, hS, hW.2.2.2⟩)
theorem an_4_4 (C : Cx p s m args c cc nL Ts own D cy) (hW : WW D A H0 (wC cy a r S) H locs) (hd : decode cc pc = .ok (.arraylength, 1))
    (k : W p l e R s m args below meth c H locs cells slots Q (F0 m (pc + 1) ls (.int (Int32.ofNat 40) :: rest))) : W p l e R s m args below meth c H locs cells slots Q (F0 m pc ls (.ref (a 84) :: rest)) :=
  va_alen C.1 C.2.1 C.2.2.2.2.2.1 hW.1 24 0 rfl rfl rfl hd k
theorem fg_4_5 (C : Cx p s m args c cc nL Ts own D cy) (hin : ∀ w ∈ u_ws RX4 TX4 15, w ∈ Ts) (hl : Cond.fieldLink own idx "SharedLambda$TermReader" "outerIndexes" "[I" ∈ Ts) (hW : WW D A H0 (wC cy a r S) H locs) (hd : decode cc pc = .ok (.getfield idx, 3))
    (k : W p l e R s m args below meth c H locs cells slots Q (F0 m (pc + 3) ls (.ref (a 85) :: rest))) : W p l e R s m args below meth c H locs cells slots Q (F0 m pc ls (.ref (a 99) :: rest)) :=
  va_get (D := D) (ci := 4) (v := .ref (a 85)) (C := RX4) (T := TX4) (N := 15) C.1 C.2.1 C.2.2.2.2.1 hin C.2.2.2.1 C.2.2.2.2.2.1 hW.1 4 rfl rfl 5 (by decide) (C.2.2.2.2.1 _ hl) (fun _ h9 => h9) rfl hd k
theorem al_4_5 (C : Cx p s m args c cc nL Ts own D cy) (hW : WW D A H0 (wC cy a r S) H locs) (h : vp_in i 40) (hd : decode cc pc = .ok (.iaload, 1))
    (k : W p l e R s m args below meth c H locs cells slots Q (F0 m (pc + 1) ls (.int (S.2.1 85 i.toNatClampNeg) :: rest))) : W p l e R s m args below meth c H locs cells slots Q (F0 m pc ls (.int i :: .ref (a 85) :: rest)) :=
  va_iald C.1 C.2.1 C.2.2.2.2.2.1 hW.1 25 0 rfl rfl h hd k
theorem as_4_5 (C : Cx p s m args c cc nL Ts own D cy) (hW : WW D A H0 (wC cy a r S) H locs) (h : vp_in i 40) (hd : decode cc pc = .ok (.iastore, 1)) (e9 : S' = sA S 85 (upd (S.2.1 85) i.toNatClampNeg x))
    (k : ∀ (H1 : Heap) (locs1 : List Loc), WW D A H0 (wC cy a r S') H1 locs1 → W p l e R s m args below meth c H1 locs1 cells slots Q (F0 m (pc + 1) ls rest)) : W p l e R s m args below meth c H locs cells slots Q (F0 m pc ls (.int x :: .int i :: .ref (a 85) :: rest)) := by
  subst e9
  exact va_iast C.1 C.2.1 C.2.2.2.2.2.1 hW.1 hW.2.1 hW.2.2.1 25 0 rfl rfl h hd (fun H1 locs1 hP hD hS => k H1 locs1 ⟨hP, hD, hS, hW.2.2.2⟩)
theorem an_4_5 (C : Cx p s m args c cc nL Ts own D cy) (hW : WW D A H0 (wC cy a r S) H locs) (hd : decode cc pc = .ok (.arraylength, 1))
    (k : W p l e R s m args below meth c H locs cells slots Q (F0 m (pc + 1) ls (.int (Int32.ofNat 40) :: rest))) : W p l e R s m args below meth c H locs cells slots Q (F0 m pc ls (.ref (a 85) :: rest)) :=
  va_alen C.1 C.2.1 C.2.2.2.2.2.1 hW.1 25 0 rfl rfl rfl hd k
theorem fg_4_6 (C : Cx p s m args c cc nL Ts own D cy) (hin : ∀ w ∈ u_ws RX4 TX4 15, w ∈ Ts) (hl : Cond.fieldLink own idx "SharedLambda$TermReader" "outerParts" "[I" ∈ Ts) (hW : WW D A H0 (wC cy a r S) H locs) (hd : decode cc pc = .ok (.getfield idx, 3))
    (k : W p l e R s m args below meth c H locs cells slots Q (F0 m (pc + 3) ls (.ref (a 86) :: rest))) : W p l e R s m args below meth c H locs cells slots Q (F0 m pc ls (.ref (a 99) :: rest)) :=
  va_get (D := D) (ci := 4) (v := .ref (a 86)) (C := RX4) (T := TX4) (N := 15) C.1 C.2.1 C.2.2.2.2.1 hin C.2.2.2.1 C.2.2.2.2.2.1 hW.1 4 rfl rfl 6 (by decide) (C.2.2.2.2.1 _ hl) (fun _ h9 => h9) rfl hd k
theorem al_4_6 (C : Cx p s m args c cc nL Ts own D cy) (hW : WW D A H0 (wC cy a r S) H locs) (h : vp_in i 40) (hd : decode cc pc = .ok (.iaload, 1))
    (k : W p l e R s m args below meth c H locs cells slots Q (F0 m (pc + 1) ls (.int (S.2.1 86 i.toNatClampNeg) :: rest))) : W p l e R s m args below meth c H locs cells slots Q (F0 m pc ls (.int i :: .ref (a 86) :: rest)) :=
  va_iald C.1 C.2.1 C.2.2.2.2.2.1 hW.1 26 0 rfl rfl h hd k
theorem as_4_6 (C : Cx p s m args c cc nL Ts own D cy) (hW : WW D A H0 (wC cy a r S) H locs) (h : vp_in i 40) (hd : decode cc pc = .ok (.iastore, 1)) (e9 : S' = sA S 86 (upd (S.2.1 86) i.toNatClampNeg x))
    (k : ∀ (H1 : Heap) (locs1 : List Loc), WW D A H0 (wC cy a r S') H1 locs1 → W p l e R s m args below meth c H1 locs1 cells slots Q (F0 m (pc + 1) ls rest)) : W p l e R s m args below meth c H locs cells slots Q (F0 m pc ls (.int x :: .int i :: .ref (a 86) :: rest)) := by
  subst e9
  exact va_iast C.1 C.2.1 C.2.2.2.2.2.1 hW.1 hW.2.1 hW.2.2.1 26 0 rfl rfl h hd (fun H1 locs1 hP hD hS => k H1 locs1 ⟨hP, hD, hS, hW.2.2.2⟩)
theorem an_4_6 (C : Cx p s m args c cc nL Ts own D cy) (hW : WW D A H0 (wC cy a r S) H locs) (hd : decode cc pc = .ok (.arraylength, 1))
    (k : W p l e R s m args below meth c H locs cells slots Q (F0 m (pc + 1) ls (.int (Int32.ofNat 40) :: rest))) : W p l e R s m args below meth c H locs cells slots Q (F0 m pc ls (.ref (a 86) :: rest)) :=
  va_alen C.1 C.2.1 C.2.2.2.2.2.1 hW.1 26 0 rfl rfl rfl hd k
theorem fg_4_7 (C : Cx p s m args c cc nL Ts own D cy) (hin : ∀ w ∈ u_ws RX4 TX4 15, w ∈ Ts) (hl : Cond.fieldLink own idx "SharedLambda$TermReader" "open" "I" ∈ Ts) (hW : WW D A H0 (wC cy a r S) H locs) (hd : decode cc pc = .ok (.getfield idx, 3))
    (k : W p l e R s m args below meth c H locs cells slots Q (F0 m (pc + 3) ls (.int (S.1 87) :: rest))) : W p l e R s m args below meth c H locs cells slots Q (F0 m pc ls (.ref (a 99) :: rest)) :=
  va_get (D := D) (ci := 4) (v := .int (S.1 87)) (C := RX4) (T := TX4) (N := 15) C.1 C.2.1 C.2.2.2.2.1 hin C.2.2.2.1 C.2.2.2.2.2.1 hW.1 4 rfl rfl 7 (by decide) (C.2.2.2.2.1 _ hl) (fun _ h9 => h9) rfl hd k
theorem fp_4_7 (C : Cx p s m args c cc nL Ts own D cy) (hin : ∀ w ∈ u_ws RX4 TX4 15, w ∈ Ts) (hl : Cond.fieldLink own idx "SharedLambda$TermReader" "open" "I" ∈ Ts) (hW : WW D A H0 (wC cy a r S) H locs) (hd : decode cc pc = .ok (.putfield idx, 3)) (e9 : S' = sI S 87 v)
    (k : ∀ (H1 : Heap) (locs1 : List Loc), WW D A H0 (wC cy a r S') H1 locs1 → W p l e R s m args below meth c H1 locs1 cells slots Q (F0 m (pc + 3) ls rest)) : W p l e R s m args below meth c H locs cells slots Q (F0 m pc ls (.int v :: .ref (a 99) :: rest)) := by
  subst e9
  refine va_put (D := D) (ci := 4) (v := .int v) (ty := .int) (C := RX4) (T := TX4) (N := 15) C.1 C.2.1 C.2.2.2.2.1 hin tyX4 tyX4_ok nmX4 C.2.2.2.1 C.2.2.2.2.2.1 hW.1 hW.2.1 hW.2.2.1 4 rfl rfl 7 (by decide) (C.2.2.2.2.1 _ hl) (fun _ h9 => h9) rfl (by decide +kernel) rfl rfl (Nat.le_of_ble_eq_true rfl) hd (fun H1 locs1 hP hD hS => ?_)
  exact k H1 locs1 ⟨hP, hD, hS, hW.2.2.2⟩
theorem fg_4_8 (C : Cx p s m args c cc nL Ts own D cy) (hin : ∀ w ∈ u_ws RX4 TX4 15, w ∈ Ts) (hl : Cond.fieldLink own idx "SharedLambda$TermReader" "text" "[I" ∈ Ts) (hW : WW D A H0 (wC cy a r S) H locs) (ht : (!(S.1 88 == 0)) = true) (hd : decode cc pc = .ok (.getfield idx, 3))
    (k : W p l e R s m args below meth c H locs cells slots Q (F0 m (pc + 3) ls (.ref (a 140) :: rest))) : W p l e R s m args below meth c H locs cells slots Q (F0 m pc ls (.ref (a 99) :: rest)) := by
  have h0 : ¬ S.1 88 = 0 := fun h => by rw [h] at ht; cases ht
  refine va_get (D := D) (ci := 4) (v := .ref (if S.1 88 = 0 then a 88 else a 140)) (C := RX4) (T := TX4) (N := 15) C.1 C.2.1 C.2.2.2.2.1 hin C.2.2.2.1 C.2.2.2.2.2.1 hW.1 4 rfl rfl 8 (by decide) (C.2.2.2.2.1 _ hl) (fun _ h9 => h9) rfl hd ?_
  rw [if_neg h0]
  exact k
theorem fp_4_8 (C : Cx p s m args c cc nL Ts own D cy) (hin : ∀ w ∈ u_ws RX4 TX4 15, w ∈ Ts) (hl : Cond.fieldLink own idx "SharedLambda$TermReader" "text" "[I" ∈ Ts) (hW : WW D A H0 (wC cy a r S) H locs) (hd : decode cc pc = .ok (.putfield idx, 3)) (e9 : S' = sI S 88 1)
    (k : ∀ (H1 : Heap) (locs1 : List Loc), WW D A H0 (wC cy a r S') H1 locs1 → W p l e R s m args below meth c H1 locs1 cells slots Q (F0 m (pc + 3) ls rest)) : W p l e R s m args below meth c H locs cells slots Q (F0 m pc ls (.ref (a 140) :: .ref (a 99) :: rest)) := by
  subst e9
  refine va_put (D := D) (ci := 4) (v := .ref (a 140)) (ty := .array .int) (C := RX4) (T := TX4) (N := 15) C.1 C.2.1 C.2.2.2.2.1 hin tyX4 tyX4_ok nmX4 C.2.2.2.1 C.2.2.2.2.2.1 hW.1 hW.2.1 hW.2.2.1 4 rfl rfl 8 (by decide) (C.2.2.2.2.1 _ hl) (fun _ h9 => h9) rfl (by decide +kernel) rfl rfl (Nat.le_of_ble_eq_true rfl) hd (fun H1 locs1 hP hD hS => ?_)
  exact k H1 locs1 ⟨hP, hD, hS, hW.2.2.2⟩
theorem fg_4_9 (C : Cx p s m args c cc nL Ts own D cy) (hin : ∀ w ∈ u_ws RX4 TX4 15, w ∈ Ts) (hl : Cond.fieldLink own idx "SharedLambda$TermReader" "length" "I" ∈ Ts) (hW : WW D A H0 (wC cy a r S) H locs) (hd : decode cc pc = .ok (.getfield idx, 3))
    (k : W p l e R s m args below meth c H locs cells slots Q (F0 m (pc + 3) ls (.int (S.1 89) :: rest))) : W p l e R s m args below meth c H locs cells slots Q (F0 m pc ls (.ref (a 99) :: rest)) :=
  va_get (D := D) (ci := 4) (v := .int (S.1 89)) (C := RX4) (T := TX4) (N := 15) C.1 C.2.1 C.2.2.2.2.1 hin C.2.2.2.1 C.2.2.2.2.2.1 hW.1 4 rfl rfl 9 (by decide) (C.2.2.2.2.1 _ hl) (fun _ h9 => h9) rfl hd k
theorem fp_4_9 (C : Cx p s m args c cc nL Ts own D cy) (hin : ∀ w ∈ u_ws RX4 TX4 15, w ∈ Ts) (hl : Cond.fieldLink own idx "SharedLambda$TermReader" "length" "I" ∈ Ts) (hW : WW D A H0 (wC cy a r S) H locs) (hd : decode cc pc = .ok (.putfield idx, 3)) (e9 : S' = sI S 89 v)
    (k : ∀ (H1 : Heap) (locs1 : List Loc), WW D A H0 (wC cy a r S') H1 locs1 → W p l e R s m args below meth c H1 locs1 cells slots Q (F0 m (pc + 3) ls rest)) : W p l e R s m args below meth c H locs cells slots Q (F0 m pc ls (.int v :: .ref (a 99) :: rest)) := by
  subst e9
  refine va_put (D := D) (ci := 4) (v := .int v) (ty := .int) (C := RX4) (T := TX4) (N := 15) C.1 C.2.1 C.2.2.2.2.1 hin tyX4 tyX4_ok nmX4 C.2.2.2.1 C.2.2.2.2.2.1 hW.1 hW.2.1 hW.2.2.1 4 rfl rfl 9 (by decide) (C.2.2.2.2.1 _ hl) (fun _ h9 => h9) rfl (by decide +kernel) rfl rfl (Nat.le_of_ble_eq_true rfl) hd (fun H1 locs1 hP hD hS => ?_)
  exact k H1 locs1 ⟨hP, hD, hS, hW.2.2.2⟩
theorem fg_4_10 (C : Cx p s m args c cc nL Ts own D cy) (hin : ∀ w ∈ u_ws RX4 TX4 15, w ∈ Ts) (hl : Cond.fieldLink own idx "SharedLambda$TermReader" "at" "I" ∈ Ts) (hW : WW D A H0 (wC cy a r S) H locs) (hd : decode cc pc = .ok (.getfield idx, 3))
    (k : W p l e R s m args below meth c H locs cells slots Q (F0 m (pc + 3) ls (.int (S.1 90) :: rest))) : W p l e R s m args below meth c H locs cells slots Q (F0 m pc ls (.ref (a 99) :: rest)) :=
  va_get (D := D) (ci := 4) (v := .int (S.1 90)) (C := RX4) (T := TX4) (N := 15) C.1 C.2.1 C.2.2.2.2.1 hin C.2.2.2.1 C.2.2.2.2.2.1 hW.1 4 rfl rfl 10 (by decide) (C.2.2.2.2.1 _ hl) (fun _ h9 => h9) rfl hd k
theorem fp_4_10 (C : Cx p s m args c cc nL Ts own D cy) (hin : ∀ w ∈ u_ws RX4 TX4 15, w ∈ Ts) (hl : Cond.fieldLink own idx "SharedLambda$TermReader" "at" "I" ∈ Ts) (hW : WW D A H0 (wC cy a r S) H locs) (hd : decode cc pc = .ok (.putfield idx, 3)) (e9 : S' = sI S 90 v)
    (k : ∀ (H1 : Heap) (locs1 : List Loc), WW D A H0 (wC cy a r S') H1 locs1 → W p l e R s m args below meth c H1 locs1 cells slots Q (F0 m (pc + 3) ls rest)) : W p l e R s m args below meth c H locs cells slots Q (F0 m pc ls (.int v :: .ref (a 99) :: rest)) := by
  subst e9
  refine va_put (D := D) (ci := 4) (v := .int v) (ty := .int) (C := RX4) (T := TX4) (N := 15) C.1 C.2.1 C.2.2.2.2.1 hin tyX4 tyX4_ok nmX4 C.2.2.2.1 C.2.2.2.2.2.1 hW.1 hW.2.1 hW.2.2.1 4 rfl rfl 10 (by decide) (C.2.2.2.2.1 _ hl) (fun _ h9 => h9) rfl (by decide +kernel) rfl rfl (Nat.le_of_ble_eq_true rfl) hd (fun H1 locs1 hP hD hS => ?_)
  exact k H1 locs1 ⟨hP, hD, hS, hW.2.2.2⟩
theorem fg_4_11 (C : Cx p s m args c cc nL Ts own D cy) (hin : ∀ w ∈ u_ws RX4 TX4 15, w ∈ Ts) (hl : Cond.fieldLink own idx "SharedLambda$TermReader" "names" "I" ∈ Ts) (hW : WW D A H0 (wC cy a r S) H locs) (hd : decode cc pc = .ok (.getfield idx, 3))
    (k : W p l e R s m args below meth c H locs cells slots Q (F0 m (pc + 3) ls (.int (S.1 91) :: rest))) : W p l e R s m args below meth c H locs cells slots Q (F0 m pc ls (.ref (a 99) :: rest)) :=
  va_get (D := D) (ci := 4) (v := .int (S.1 91)) (C := RX4) (T := TX4) (N := 15) C.1 C.2.1 C.2.2.2.2.1 hin C.2.2.2.1 C.2.2.2.2.2.1 hW.1 4 rfl rfl 11 (by decide) (C.2.2.2.2.1 _ hl) (fun _ h9 => h9) rfl hd k
theorem fp_4_11 (C : Cx p s m args c cc nL Ts own D cy) (hin : ∀ w ∈ u_ws RX4 TX4 15, w ∈ Ts) (hl : Cond.fieldLink own idx "SharedLambda$TermReader" "names" "I" ∈ Ts) (hW : WW D A H0 (wC cy a r S) H locs) (hd : decode cc pc = .ok (.putfield idx, 3)) (e9 : S' = sI S 91 v)
    (k : ∀ (H1 : Heap) (locs1 : List Loc), WW D A H0 (wC cy a r S') H1 locs1 → W p l e R s m args below meth c H1 locs1 cells slots Q (F0 m (pc + 3) ls rest)) : W p l e R s m args below meth c H locs cells slots Q (F0 m pc ls (.int v :: .ref (a 99) :: rest)) := by
  subst e9
  refine va_put (D := D) (ci := 4) (v := .int v) (ty := .int) (C := RX4) (T := TX4) (N := 15) C.1 C.2.1 C.2.2.2.2.1 hin tyX4 tyX4_ok nmX4 C.2.2.2.1 C.2.2.2.2.2.1 hW.1 hW.2.1 hW.2.2.1 4 rfl rfl 11 (by decide) (C.2.2.2.2.1 _ hl) (fun _ h9 => h9) rfl (by decide +kernel) rfl rfl (Nat.le_of_ble_eq_true rfl) hd (fun H1 locs1 hP hD hS => ?_)
  exact k H1 locs1 ⟨hP, hD, hS, hW.2.2.2⟩
theorem fg_4_12 (C : Cx p s m args c cc nL Ts own D cy) (hin : ∀ w ∈ u_ws RX4 TX4 15, w ∈ Ts) (hl : Cond.fieldLink own idx "SharedLambda$TermReader" "index" "I" ∈ Ts) (hW : WW D A H0 (wC cy a r S) H locs) (hd : decode cc pc = .ok (.getfield idx, 3))
    (k : W p l e R s m args below meth c H locs cells slots Q (F0 m (pc + 3) ls (.int (S.1 92) :: rest))) : W p l e R s m args below meth c H locs cells slots Q (F0 m pc ls (.ref (a 99) :: rest)) :=
  va_get (D := D) (ci := 4) (v := .int (S.1 92)) (C := RX4) (T := TX4) (N := 15) C.1 C.2.1 C.2.2.2.2.1 hin C.2.2.2.1 C.2.2.2.2.2.1 hW.1 4 rfl rfl 12 (by decide) (C.2.2.2.2.1 _ hl) (fun _ h9 => h9) rfl hd k
theorem fp_4_12 (C : Cx p s m args c cc nL Ts own D cy) (hin : ∀ w ∈ u_ws RX4 TX4 15, w ∈ Ts) (hl : Cond.fieldLink own idx "SharedLambda$TermReader" "index" "I" ∈ Ts) (hW : WW D A H0 (wC cy a r S) H locs) (hd : decode cc pc = .ok (.putfield idx, 3)) (e9 : S' = sI S 92 v)
    (k : ∀ (H1 : Heap) (locs1 : List Loc), WW D A H0 (wC cy a r S') H1 locs1 → W p l e R s m args below meth c H1 locs1 cells slots Q (F0 m (pc + 3) ls rest)) : W p l e R s m args below meth c H locs cells slots Q (F0 m pc ls (.int v :: .ref (a 99) :: rest)) := by
  subst e9
  refine va_put (D := D) (ci := 4) (v := .int v) (ty := .int) (C := RX4) (T := TX4) (N := 15) C.1 C.2.1 C.2.2.2.2.1 hin tyX4 tyX4_ok nmX4 C.2.2.2.1 C.2.2.2.2.2.1 hW.1 hW.2.1 hW.2.2.1 4 rfl rfl 12 (by decide) (C.2.2.2.2.1 _ hl) (fun _ h9 => h9) rfl (by decide +kernel) rfl rfl (Nat.le_of_ble_eq_true rfl) hd (fun H1 locs1 hP hD hS => ?_)
  exact k H1 locs1 ⟨hP, hD, hS, hW.2.2.2⟩
theorem fg_4_13 (C : Cx p s m args c cc nL Ts own D cy) (hin : ∀ w ∈ u_ws RX4 TX4 15, w ∈ Ts) (hl : Cond.fieldLink own idx "SharedLambda$TermReader" "parts" "I" ∈ Ts) (hW : WW D A H0 (wC cy a r S) H locs) (hd : decode cc pc = .ok (.getfield idx, 3))
    (k : W p l e R s m args below meth c H locs cells slots Q (F0 m (pc + 3) ls (.int (S.1 93) :: rest))) : W p l e R s m args below meth c H locs cells slots Q (F0 m pc ls (.ref (a 99) :: rest)) :=
  va_get (D := D) (ci := 4) (v := .int (S.1 93)) (C := RX4) (T := TX4) (N := 15) C.1 C.2.1 C.2.2.2.2.1 hin C.2.2.2.1 C.2.2.2.2.2.1 hW.1 4 rfl rfl 13 (by decide) (C.2.2.2.2.1 _ hl) (fun _ h9 => h9) rfl hd k
theorem fp_4_13 (C : Cx p s m args c cc nL Ts own D cy) (hin : ∀ w ∈ u_ws RX4 TX4 15, w ∈ Ts) (hl : Cond.fieldLink own idx "SharedLambda$TermReader" "parts" "I" ∈ Ts) (hW : WW D A H0 (wC cy a r S) H locs) (hd : decode cc pc = .ok (.putfield idx, 3)) (e9 : S' = sI S 93 v)
    (k : ∀ (H1 : Heap) (locs1 : List Loc), WW D A H0 (wC cy a r S') H1 locs1 → W p l e R s m args below meth c H1 locs1 cells slots Q (F0 m (pc + 3) ls rest)) : W p l e R s m args below meth c H locs cells slots Q (F0 m pc ls (.int v :: .ref (a 99) :: rest)) := by
  subst e9
  refine va_put (D := D) (ci := 4) (v := .int v) (ty := .int) (C := RX4) (T := TX4) (N := 15) C.1 C.2.1 C.2.2.2.2.1 hin tyX4 tyX4_ok nmX4 C.2.2.2.1 C.2.2.2.2.2.1 hW.1 hW.2.1 hW.2.2.1 4 rfl rfl 13 (by decide) (C.2.2.2.2.1 _ hl) (fun _ h9 => h9) rfl (by decide +kernel) rfl rfl (Nat.le_of_ble_eq_true rfl) hd (fun H1 locs1 hP hD hS => ?_)
  exact k H1 locs1 ⟨hP, hD, hS, hW.2.2.2⟩
theorem fg_4_14 (C : Cx p s m args c cc nL Ts own D cy) (hin : ∀ w ∈ u_ws RX4 TX4 15, w ∈ Ts) (hl : Cond.fieldLink own idx "SharedLambda$TermReader" "fault" "I" ∈ Ts) (hW : WW D A H0 (wC cy a r S) H locs) (hd : decode cc pc = .ok (.getfield idx, 3))
    (k : W p l e R s m args below meth c H locs cells slots Q (F0 m (pc + 3) ls (.int (S.1 94) :: rest))) : W p l e R s m args below meth c H locs cells slots Q (F0 m pc ls (.ref (a 99) :: rest)) :=
  va_get (D := D) (ci := 4) (v := .int (S.1 94)) (C := RX4) (T := TX4) (N := 15) C.1 C.2.1 C.2.2.2.2.1 hin C.2.2.2.1 C.2.2.2.2.2.1 hW.1 4 rfl rfl 14 (by decide) (C.2.2.2.2.1 _ hl) (fun _ h9 => h9) rfl hd k
theorem fp_4_14 (C : Cx p s m args c cc nL Ts own D cy) (hin : ∀ w ∈ u_ws RX4 TX4 15, w ∈ Ts) (hl : Cond.fieldLink own idx "SharedLambda$TermReader" "fault" "I" ∈ Ts) (hW : WW D A H0 (wC cy a r S) H locs) (hd : decode cc pc = .ok (.putfield idx, 3)) (e9 : S' = sI S 94 v)
    (k : ∀ (H1 : Heap) (locs1 : List Loc), WW D A H0 (wC cy a r S') H1 locs1 → W p l e R s m args below meth c H1 locs1 cells slots Q (F0 m (pc + 3) ls rest)) : W p l e R s m args below meth c H locs cells slots Q (F0 m pc ls (.int v :: .ref (a 99) :: rest)) := by
  subst e9
  refine va_put (D := D) (ci := 4) (v := .int v) (ty := .int) (C := RX4) (T := TX4) (N := 15) C.1 C.2.1 C.2.2.2.2.1 hin tyX4 tyX4_ok nmX4 C.2.2.2.1 C.2.2.2.2.2.1 hW.1 hW.2.1 hW.2.2.1 4 rfl rfl 14 (by decide) (C.2.2.2.2.1 _ hl) (fun _ h9 => h9) rfl (by decide +kernel) rfl rfl (Nat.le_of_ble_eq_true rfl) hd (fun H1 locs1 hP hD hS => ?_)
  exact k H1 locs1 ⟨hP, hD, hS, hW.2.2.2⟩
theorem fg_5_0 (C : Cx p s m args c cc nL Ts own D cy) (hin : ∀ w ∈ u_ws RX5 TX5 6, w ∈ Ts) (hl : Cond.fieldLink own idx "SharedLambda$Trees" "forms" "[I" ∈ Ts) (hW : WW D A H0 (wC cy a r S) H locs) (hd : decode cc pc = .ok (.getfield idx, 3))
    (k : W p l e R s m args below meth c H locs cells slots Q (F0 m (pc + 3) ls (.ref (a 100) :: rest))) : W p l e R s m args below meth c H locs cells slots Q (F0 m pc ls (.ref (a 119) :: rest)) :=
  va_get (D := D) (ci := 5) (v := .ref (a 100)) (C := RX5) (T := TX5) (N := 6) C.1 C.2.1 C.2.2.2.2.1 hin C.2.2.2.1 C.2.2.2.2.2.1 hW.1 5 rfl rfl 0 (by decide) (C.2.2.2.2.1 _ hl) (fun _ h9 => h9) rfl hd k
theorem al_5_0 (C : Cx p s m args c cc nL Ts own D cy) (hW : WW D A H0 (wC cy a r S) H locs) (h : vp_in i 4002) (hd : decode cc pc = .ok (.iaload, 1))
    (k : W p l e R s m args below meth c H locs cells slots Q (F0 m (pc + 1) ls (.int (S.2.1 100 i.toNatClampNeg) :: rest))) : W p l e R s m args below meth c H locs cells slots Q (F0 m pc ls (.int i :: .ref (a 100) :: rest)) :=
  va_iald C.1 C.2.1 C.2.2.2.2.2.1 hW.1 27 0 rfl rfl h hd k
theorem as_5_0 (C : Cx p s m args c cc nL Ts own D cy) (hW : WW D A H0 (wC cy a r S) H locs) (h : vp_in i 4002) (hd : decode cc pc = .ok (.iastore, 1)) (e9 : S' = sA S 100 (upd (S.2.1 100) i.toNatClampNeg x))
    (k : ∀ (H1 : Heap) (locs1 : List Loc), WW D A H0 (wC cy a r S') H1 locs1 → W p l e R s m args below meth c H1 locs1 cells slots Q (F0 m (pc + 1) ls rest)) : W p l e R s m args below meth c H locs cells slots Q (F0 m pc ls (.int x :: .int i :: .ref (a 100) :: rest)) := by
  subst e9
  exact va_iast C.1 C.2.1 C.2.2.2.2.2.1 hW.1 hW.2.1 hW.2.2.1 27 0 rfl rfl h hd (fun H1 locs1 hP hD hS => k H1 locs1 ⟨hP, hD, hS, hW.2.2.2⟩)
theorem an_5_0 (C : Cx p s m args c cc nL Ts own D cy) (hW : WW D A H0 (wC cy a r S) H locs) (hd : decode cc pc = .ok (.arraylength, 1))
    (k : W p l e R s m args below meth c H locs cells slots Q (F0 m (pc + 1) ls (.int (Int32.ofNat 4002) :: rest))) : W p l e R s m args below meth c H locs cells slots Q (F0 m pc ls (.ref (a 100) :: rest)) :=
  va_alen C.1 C.2.1 C.2.2.2.2.2.1 hW.1 27 0 rfl rfl rfl hd k
theorem fg_5_1 (C : Cx p s m args c cc nL Ts own D cy) (hin : ∀ w ∈ u_ws RX5 TX5 6, w ∈ Ts) (hl : Cond.fieldLink own idx "SharedLambda$Trees" "lefts" "[I" ∈ Ts) (hW : WW D A H0 (wC cy a r S) H locs) (hd : decode cc pc = .ok (.getfield idx, 3))
    (k : W p l e R s m args below meth c H locs cells slots Q (F0 m (pc + 3) ls (.ref (a 101) :: rest))) : W p l e R s m args below meth c H locs cells slots Q (F0 m pc ls (.ref (a 119) :: rest)) :=
  va_get (D := D) (ci := 5) (v := .ref (a 101)) (C := RX5) (T := TX5) (N := 6) C.1 C.2.1 C.2.2.2.2.1 hin C.2.2.2.1 C.2.2.2.2.2.1 hW.1 5 rfl rfl 1 (by decide) (C.2.2.2.2.1 _ hl) (fun _ h9 => h9) rfl hd k
theorem al_5_1 (C : Cx p s m args c cc nL Ts own D cy) (hW : WW D A H0 (wC cy a r S) H locs) (h : vp_in i 4002) (hd : decode cc pc = .ok (.iaload, 1))
    (k : W p l e R s m args below meth c H locs cells slots Q (F0 m (pc + 1) ls (.int (S.2.1 101 i.toNatClampNeg) :: rest))) : W p l e R s m args below meth c H locs cells slots Q (F0 m pc ls (.int i :: .ref (a 101) :: rest)) :=
  va_iald C.1 C.2.1 C.2.2.2.2.2.1 hW.1 28 0 rfl rfl h hd k
theorem as_5_1 (C : Cx p s m args c cc nL Ts own D cy) (hW : WW D A H0 (wC cy a r S) H locs) (h : vp_in i 4002) (hd : decode cc pc = .ok (.iastore, 1)) (e9 : S' = sA S 101 (upd (S.2.1 101) i.toNatClampNeg x))
    (k : ∀ (H1 : Heap) (locs1 : List Loc), WW D A H0 (wC cy a r S') H1 locs1 → W p l e R s m args below meth c H1 locs1 cells slots Q (F0 m (pc + 1) ls rest)) : W p l e R s m args below meth c H locs cells slots Q (F0 m pc ls (.int x :: .int i :: .ref (a 101) :: rest)) := by
  subst e9
  exact va_iast C.1 C.2.1 C.2.2.2.2.2.1 hW.1 hW.2.1 hW.2.2.1 28 0 rfl rfl h hd (fun H1 locs1 hP hD hS => k H1 locs1 ⟨hP, hD, hS, hW.2.2.2⟩)
theorem an_5_1 (C : Cx p s m args c cc nL Ts own D cy) (hW : WW D A H0 (wC cy a r S) H locs) (hd : decode cc pc = .ok (.arraylength, 1))
    (k : W p l e R s m args below meth c H locs cells slots Q (F0 m (pc + 1) ls (.int (Int32.ofNat 4002) :: rest))) : W p l e R s m args below meth c H locs cells slots Q (F0 m pc ls (.ref (a 101) :: rest)) :=
  va_alen C.1 C.2.1 C.2.2.2.2.2.1 hW.1 28 0 rfl rfl rfl hd k
theorem fg_5_2 (C : Cx p s m args c cc nL Ts own D cy) (hin : ∀ w ∈ u_ws RX5 TX5 6, w ∈ Ts) (hl : Cond.fieldLink own idx "SharedLambda$Trees" "rights" "[I" ∈ Ts) (hW : WW D A H0 (wC cy a r S) H locs) (hd : decode cc pc = .ok (.getfield idx, 3))
    (k : W p l e R s m args below meth c H locs cells slots Q (F0 m (pc + 3) ls (.ref (a 102) :: rest))) : W p l e R s m args below meth c H locs cells slots Q (F0 m pc ls (.ref (a 119) :: rest)) :=
  va_get (D := D) (ci := 5) (v := .ref (a 102)) (C := RX5) (T := TX5) (N := 6) C.1 C.2.1 C.2.2.2.2.1 hin C.2.2.2.1 C.2.2.2.2.2.1 hW.1 5 rfl rfl 2 (by decide) (C.2.2.2.2.1 _ hl) (fun _ h9 => h9) rfl hd k
theorem al_5_2 (C : Cx p s m args c cc nL Ts own D cy) (hW : WW D A H0 (wC cy a r S) H locs) (h : vp_in i 4002) (hd : decode cc pc = .ok (.iaload, 1))
    (k : W p l e R s m args below meth c H locs cells slots Q (F0 m (pc + 1) ls (.int (S.2.1 102 i.toNatClampNeg) :: rest))) : W p l e R s m args below meth c H locs cells slots Q (F0 m pc ls (.int i :: .ref (a 102) :: rest)) :=
  va_iald C.1 C.2.1 C.2.2.2.2.2.1 hW.1 29 0 rfl rfl h hd k
theorem as_5_2 (C : Cx p s m args c cc nL Ts own D cy) (hW : WW D A H0 (wC cy a r S) H locs) (h : vp_in i 4002) (hd : decode cc pc = .ok (.iastore, 1)) (e9 : S' = sA S 102 (upd (S.2.1 102) i.toNatClampNeg x))
    (k : ∀ (H1 : Heap) (locs1 : List Loc), WW D A H0 (wC cy a r S') H1 locs1 → W p l e R s m args below meth c H1 locs1 cells slots Q (F0 m (pc + 1) ls rest)) : W p l e R s m args below meth c H locs cells slots Q (F0 m pc ls (.int x :: .int i :: .ref (a 102) :: rest)) := by
  subst e9
  exact va_iast C.1 C.2.1 C.2.2.2.2.2.1 hW.1 hW.2.1 hW.2.2.1 29 0 rfl rfl h hd (fun H1 locs1 hP hD hS => k H1 locs1 ⟨hP, hD, hS, hW.2.2.2⟩)
theorem an_5_2 (C : Cx p s m args c cc nL Ts own D cy) (hW : WW D A H0 (wC cy a r S) H locs) (hd : decode cc pc = .ok (.arraylength, 1))
    (k : W p l e R s m args below meth c H locs cells slots Q (F0 m (pc + 1) ls (.int (Int32.ofNat 4002) :: rest))) : W p l e R s m args below meth c H locs cells slots Q (F0 m pc ls (.ref (a 102) :: rest)) :=
  va_alen C.1 C.2.1 C.2.2.2.2.2.1 hW.1 29 0 rfl rfl rfl hd k
theorem fg_5_3 (C : Cx p s m args c cc nL Ts own D cy) (hin : ∀ w ∈ u_ws RX5 TX5 6, w ∈ Ts) (hl : Cond.fieldLink own idx "SharedLambda$Trees" "olders" "[I" ∈ Ts) (hW : WW D A H0 (wC cy a r S) H locs) (hd : decode cc pc = .ok (.getfield idx, 3))
    (k : W p l e R s m args below meth c H locs cells slots Q (F0 m (pc + 3) ls (.ref (a 103) :: rest))) : W p l e R s m args below meth c H locs cells slots Q (F0 m pc ls (.ref (a 119) :: rest)) :=
  va_get (D := D) (ci := 5) (v := .ref (a 103)) (C := RX5) (T := TX5) (N := 6) C.1 C.2.1 C.2.2.2.2.1 hin C.2.2.2.1 C.2.2.2.2.2.1 hW.1 5 rfl rfl 3 (by decide) (C.2.2.2.2.1 _ hl) (fun _ h9 => h9) rfl hd k
theorem al_5_3 (C : Cx p s m args c cc nL Ts own D cy) (hW : WW D A H0 (wC cy a r S) H locs) (h : vp_in i 4002) (hd : decode cc pc = .ok (.iaload, 1))
    (k : W p l e R s m args below meth c H locs cells slots Q (F0 m (pc + 1) ls (.int (S.2.1 103 i.toNatClampNeg) :: rest))) : W p l e R s m args below meth c H locs cells slots Q (F0 m pc ls (.int i :: .ref (a 103) :: rest)) :=
  va_iald C.1 C.2.1 C.2.2.2.2.2.1 hW.1 30 0 rfl rfl h hd k
theorem as_5_3 (C : Cx p s m args c cc nL Ts own D cy) (hW : WW D A H0 (wC cy a r S) H locs) (h : vp_in i 4002) (hd : decode cc pc = .ok (.iastore, 1)) (e9 : S' = sA S 103 (upd (S.2.1 103) i.toNatClampNeg x))
    (k : ∀ (H1 : Heap) (locs1 : List Loc), WW D A H0 (wC cy a r S') H1 locs1 → W p l e R s m args below meth c H1 locs1 cells slots Q (F0 m (pc + 1) ls rest)) : W p l e R s m args below meth c H locs cells slots Q (F0 m pc ls (.int x :: .int i :: .ref (a 103) :: rest)) := by
  subst e9
  exact va_iast C.1 C.2.1 C.2.2.2.2.2.1 hW.1 hW.2.1 hW.2.2.1 30 0 rfl rfl h hd (fun H1 locs1 hP hD hS => k H1 locs1 ⟨hP, hD, hS, hW.2.2.2⟩)
theorem an_5_3 (C : Cx p s m args c cc nL Ts own D cy) (hW : WW D A H0 (wC cy a r S) H locs) (hd : decode cc pc = .ok (.arraylength, 1))
    (k : W p l e R s m args below meth c H locs cells slots Q (F0 m (pc + 1) ls (.int (Int32.ofNat 4002) :: rest))) : W p l e R s m args below meth c H locs cells slots Q (F0 m pc ls (.ref (a 103) :: rest)) :=
  va_alen C.1 C.2.1 C.2.2.2.2.2.1 hW.1 30 0 rfl rfl rfl hd k
theorem fg_5_4 (C : Cx p s m args c cc nL Ts own D cy) (hin : ∀ w ∈ u_ws RX5 TX5 6, w ∈ Ts) (hl : Cond.fieldLink own idx "SharedLambda$Trees" "newest" "[I" ∈ Ts) (hW : WW D A H0 (wC cy a r S) H locs) (hd : decode cc pc = .ok (.getfield idx, 3))
    (k : W p l e R s m args below meth c H locs cells slots Q (F0 m (pc + 3) ls (.ref (a 104) :: rest))) : W p l e R s m args below meth c H locs cells slots Q (F0 m pc ls (.ref (a 119) :: rest)) :=
  va_get (D := D) (ci := 5) (v := .ref (a 104)) (C := RX5) (T := TX5) (N := 6) C.1 C.2.1 C.2.2.2.2.1 hin C.2.2.2.1 C.2.2.2.2.2.1 hW.1 5 rfl rfl 4 (by decide) (C.2.2.2.2.1 _ hl) (fun _ h9 => h9) rfl hd k
theorem al_5_4 (C : Cx p s m args c cc nL Ts own D cy) (hW : WW D A H0 (wC cy a r S) H locs) (h : vp_in i 4096) (hd : decode cc pc = .ok (.iaload, 1))
    (k : W p l e R s m args below meth c H locs cells slots Q (F0 m (pc + 1) ls (.int (S.2.1 104 i.toNatClampNeg) :: rest))) : W p l e R s m args below meth c H locs cells slots Q (F0 m pc ls (.int i :: .ref (a 104) :: rest)) :=
  va_iald C.1 C.2.1 C.2.2.2.2.2.1 hW.1 31 0 rfl rfl h hd k
theorem as_5_4 (C : Cx p s m args c cc nL Ts own D cy) (hW : WW D A H0 (wC cy a r S) H locs) (h : vp_in i 4096) (hd : decode cc pc = .ok (.iastore, 1)) (e9 : S' = sA S 104 (upd (S.2.1 104) i.toNatClampNeg x))
    (k : ∀ (H1 : Heap) (locs1 : List Loc), WW D A H0 (wC cy a r S') H1 locs1 → W p l e R s m args below meth c H1 locs1 cells slots Q (F0 m (pc + 1) ls rest)) : W p l e R s m args below meth c H locs cells slots Q (F0 m pc ls (.int x :: .int i :: .ref (a 104) :: rest)) := by
  subst e9
  exact va_iast C.1 C.2.1 C.2.2.2.2.2.1 hW.1 hW.2.1 hW.2.2.1 31 0 rfl rfl h hd (fun H1 locs1 hP hD hS => k H1 locs1 ⟨hP, hD, hS, hW.2.2.2⟩)
theorem an_5_4 (C : Cx p s m args c cc nL Ts own D cy) (hW : WW D A H0 (wC cy a r S) H locs) (hd : decode cc pc = .ok (.arraylength, 1))
    (k : W p l e R s m args below meth c H locs cells slots Q (F0 m (pc + 1) ls (.int (Int32.ofNat 4096) :: rest))) : W p l e R s m args below meth c H locs cells slots Q (F0 m pc ls (.ref (a 104) :: rest)) :=
  va_alen C.1 C.2.1 C.2.2.2.2.2.1 hW.1 31 0 rfl rfl rfl hd k
theorem fg_5_5 (C : Cx p s m args c cc nL Ts own D cy) (hin : ∀ w ∈ u_ws RX5 TX5 6, w ∈ Ts) (hl : Cond.fieldLink own idx "SharedLambda$Trees" "count" "I" ∈ Ts) (hW : WW D A H0 (wC cy a r S) H locs) (hd : decode cc pc = .ok (.getfield idx, 3))
    (k : W p l e R s m args below meth c H locs cells slots Q (F0 m (pc + 3) ls (.int (S.1 105) :: rest))) : W p l e R s m args below meth c H locs cells slots Q (F0 m pc ls (.ref (a 119) :: rest)) :=
  va_get (D := D) (ci := 5) (v := .int (S.1 105)) (C := RX5) (T := TX5) (N := 6) C.1 C.2.1 C.2.2.2.2.1 hin C.2.2.2.1 C.2.2.2.2.2.1 hW.1 5 rfl rfl 5 (by decide) (C.2.2.2.2.1 _ hl) (fun _ h9 => h9) rfl hd k
theorem fp_5_5 (C : Cx p s m args c cc nL Ts own D cy) (hin : ∀ w ∈ u_ws RX5 TX5 6, w ∈ Ts) (hl : Cond.fieldLink own idx "SharedLambda$Trees" "count" "I" ∈ Ts) (hW : WW D A H0 (wC cy a r S) H locs) (hd : decode cc pc = .ok (.putfield idx, 3)) (e9 : S' = sI S 105 v)
    (k : ∀ (H1 : Heap) (locs1 : List Loc), WW D A H0 (wC cy a r S') H1 locs1 → W p l e R s m args below meth c H1 locs1 cells slots Q (F0 m (pc + 3) ls rest)) : W p l e R s m args below meth c H locs cells slots Q (F0 m pc ls (.int v :: .ref (a 119) :: rest)) := by
  subst e9
  refine va_put (D := D) (ci := 5) (v := .int v) (ty := .int) (C := RX5) (T := TX5) (N := 6) C.1 C.2.1 C.2.2.2.2.1 hin tyX5 tyX5_ok nmX5 C.2.2.2.1 C.2.2.2.2.2.1 hW.1 hW.2.1 hW.2.2.1 5 rfl rfl 5 (by decide) (C.2.2.2.2.1 _ hl) (fun _ h9 => h9) rfl (by decide +kernel) rfl rfl (Nat.le_of_ble_eq_true rfl) hd (fun H1 locs1 hP hD hS => ?_)
  exact k H1 locs1 ⟨hP, hD, hS, hW.2.2.2⟩
theorem fg_6_0 (C : Cx p s m args c cc nL Ts own D cy) (hin : ∀ w ∈ u_ws RX6 TX6 16, w ∈ Ts) (hl : Cond.fieldLink own idx "SharedLambda$Walk" "graph" "LSharedLambda$Graph;" ∈ Ts) (hW : WW D A H0 (wC cy a r S) H locs) (hd : decode cc pc = .ok (.getfield idx, 3))
    (k : W p l e R s m args below meth c H locs cells slots Q (F0 m (pc + 3) ls (.ref (a 59) :: rest))) : W p l e R s m args below meth c H locs cells slots Q (F0 m pc ls (.ref (a 139) :: rest)) :=
  va_get (D := D) (ci := 6) (v := .ref (a 59)) (C := RX6) (T := TX6) (N := 16) C.1 C.2.1 C.2.2.2.2.1 hin C.2.2.2.1 C.2.2.2.2.2.1 hW.1 6 rfl rfl 0 (by decide) (C.2.2.2.2.1 _ hl) (fun _ h9 => h9) rfl hd k
theorem fg_6_1 (C : Cx p s m args c cc nL Ts own D cy) (hin : ∀ w ∈ u_ws RX6 TX6 16, w ∈ Ts) (hl : Cond.fieldLink own idx "SharedLambda$Walk" "context" "LSharedLambda$Context;" ∈ Ts) (hW : WW D A H0 (wC cy a r S) H locs) (hd : decode cc pc = .ok (.getfield idx, 3))
    (k : W p l e R s m args below meth c H locs cells slots Q (F0 m (pc + 3) ls (.ref (a 39) :: rest))) : W p l e R s m args below meth c H locs cells slots Q (F0 m pc ls (.ref (a 139) :: rest)) :=
  va_get (D := D) (ci := 6) (v := .ref (a 39)) (C := RX6) (T := TX6) (N := 16) C.1 C.2.1 C.2.2.2.2.1 hin C.2.2.2.1 C.2.2.2.2.2.1 hW.1 6 rfl rfl 1 (by decide) (C.2.2.2.2.1 _ hl) (fun _ h9 => h9) rfl hd k
theorem fg_6_2 (C : Cx p s m args c cc nL Ts own D cy) (hin : ∀ w ∈ u_ws RX6 TX6 16, w ∈ Ts) (hl : Cond.fieldLink own idx "SharedLambda$Walk" "letters" "[C" ∈ Ts) (hW : WW D A H0 (wC cy a r S) H locs) (hd : decode cc pc = .ok (.getfield idx, 3))
    (k : W p l e R s m args below meth c H locs cells slots Q (F0 m (pc + 3) ls (.ref (a 122) :: rest))) : W p l e R s m args below meth c H locs cells slots Q (F0 m pc ls (.ref (a 139) :: rest)) :=
  va_get (D := D) (ci := 6) (v := .ref (a 122)) (C := RX6) (T := TX6) (N := 16) C.1 C.2.1 C.2.2.2.2.1 hin C.2.2.2.1 C.2.2.2.2.2.1 hW.1 6 rfl rfl 2 (by decide) (C.2.2.2.2.1 _ hl) (fun _ h9 => h9) rfl hd k
theorem al_6_2 (C : Cx p s m args c cc nL Ts own D cy) (hW : WW D A H0 (wC cy a r S) H locs) (h : vp_in i 4000) (hd : decode cc pc = .ok (.caload, 1))
    (k : W p l e R s m args below meth c H locs cells slots Q (F0 m (pc + 1) ls (.int (S.2.1 122 i.toNatClampNeg) :: rest))) : W p l e R s m args below meth c H locs cells slots Q (F0 m pc ls (.int i :: .ref (a 122) :: rest)) :=
  va_cald C.1 C.2.1 C.2.2.2.2.2.1 hW.1 32 2 rfl rfl h hd k
theorem as_6_2 (C : Cx p s m args c cc nL Ts own D cy) (hW : WW D A H0 (wC cy a r S) H locs) (h : vp_in i 4000) (hd : decode cc pc = .ok (.castore, 1)) (e9 : S' = sA S 122 (upd (S.2.1 122) i.toNatClampNeg (vp_nar .char x)))
    (k : ∀ (H1 : Heap) (locs1 : List Loc), WW D A H0 (wC cy a r S') H1 locs1 → W p l e R s m args below meth c H1 locs1 cells slots Q (F0 m (pc + 1) ls rest)) : W p l e R s m args below meth c H locs cells slots Q (F0 m pc ls (.int x :: .int i :: .ref (a 122) :: rest)) := by
  subst e9
  exact va_cast C.1 C.2.1 C.2.2.2.2.2.1 hW.1 hW.2.1 hW.2.2.1 32 2 rfl rfl h hd (fun H1 locs1 hP hD hS => k H1 locs1 ⟨hP, hD, hS, hW.2.2.2⟩)
theorem an_6_2 (C : Cx p s m args c cc nL Ts own D cy) (hW : WW D A H0 (wC cy a r S) H locs) (hd : decode cc pc = .ok (.arraylength, 1))
    (k : W p l e R s m args below meth c H locs cells slots Q (F0 m (pc + 1) ls (.int (Int32.ofNat 4000) :: rest))) : W p l e R s m args below meth c H locs cells slots Q (F0 m pc ls (.ref (a 122) :: rest)) :=
  va_alen C.1 C.2.1 C.2.2.2.2.2.1 hW.1 32 2 rfl rfl rfl hd k
theorem fg_6_3 (C : Cx p s m args c cc nL Ts own D cy) (hin : ∀ w ∈ u_ws RX6 TX6 16, w ∈ Ts) (hl : Cond.fieldLink own idx "SharedLambda$Walk" "told" "I" ∈ Ts) (hW : WW D A H0 (wC cy a r S) H locs) (hd : decode cc pc = .ok (.getfield idx, 3))
    (k : W p l e R s m args below meth c H locs cells slots Q (F0 m (pc + 3) ls (.int (S.1 123) :: rest))) : W p l e R s m args below meth c H locs cells slots Q (F0 m pc ls (.ref (a 139) :: rest)) :=
  va_get (D := D) (ci := 6) (v := .int (S.1 123)) (C := RX6) (T := TX6) (N := 16) C.1 C.2.1 C.2.2.2.2.1 hin C.2.2.2.1 C.2.2.2.2.2.1 hW.1 6 rfl rfl 3 (by decide) (C.2.2.2.2.1 _ hl) (fun _ h9 => h9) rfl hd k
theorem fp_6_3 (C : Cx p s m args c cc nL Ts own D cy) (hin : ∀ w ∈ u_ws RX6 TX6 16, w ∈ Ts) (hl : Cond.fieldLink own idx "SharedLambda$Walk" "told" "I" ∈ Ts) (hW : WW D A H0 (wC cy a r S) H locs) (hd : decode cc pc = .ok (.putfield idx, 3)) (e9 : S' = sI S 123 v)
    (k : ∀ (H1 : Heap) (locs1 : List Loc), WW D A H0 (wC cy a r S') H1 locs1 → W p l e R s m args below meth c H1 locs1 cells slots Q (F0 m (pc + 3) ls rest)) : W p l e R s m args below meth c H locs cells slots Q (F0 m pc ls (.int v :: .ref (a 139) :: rest)) := by
  subst e9
  refine va_put (D := D) (ci := 6) (v := .int v) (ty := .int) (C := RX6) (T := TX6) (N := 16) C.1 C.2.1 C.2.2.2.2.1 hin tyX6 tyX6_ok nmX6 C.2.2.2.1 C.2.2.2.2.2.1 hW.1 hW.2.1 hW.2.2.1 6 rfl rfl 3 (by decide) (C.2.2.2.2.1 _ hl) (fun _ h9 => h9) rfl (by decide +kernel) rfl rfl (Nat.le_of_ble_eq_true rfl) hd (fun H1 locs1 hP hD hS => ?_)
  exact k H1 locs1 ⟨hP, hD, hS, hW.2.2.2⟩
theorem fg_6_4 (C : Cx p s m args c cc nL Ts own D cy) (hin : ∀ w ∈ u_ws RX6 TX6 16, w ∈ Ts) (hl : Cond.fieldLink own idx "SharedLambda$Walk" "leaving" "I" ∈ Ts) (hW : WW D A H0 (wC cy a r S) H locs) (hd : decode cc pc = .ok (.getfield idx, 3))
    (k : W p l e R s m args below meth c H locs cells slots Q (F0 m (pc + 3) ls (.int (S.1 124) :: rest))) : W p l e R s m args below meth c H locs cells slots Q (F0 m pc ls (.ref (a 139) :: rest)) :=
  va_get (D := D) (ci := 6) (v := .int (S.1 124)) (C := RX6) (T := TX6) (N := 16) C.1 C.2.1 C.2.2.2.2.1 hin C.2.2.2.1 C.2.2.2.2.2.1 hW.1 6 rfl rfl 4 (by decide) (C.2.2.2.2.1 _ hl) (fun _ h9 => h9) rfl hd k
theorem fp_6_4 (C : Cx p s m args c cc nL Ts own D cy) (hin : ∀ w ∈ u_ws RX6 TX6 16, w ∈ Ts) (hl : Cond.fieldLink own idx "SharedLambda$Walk" "leaving" "I" ∈ Ts) (hW : WW D A H0 (wC cy a r S) H locs) (hd : decode cc pc = .ok (.putfield idx, 3)) (e9 : S' = sI S 124 v)
    (k : ∀ (H1 : Heap) (locs1 : List Loc), WW D A H0 (wC cy a r S') H1 locs1 → W p l e R s m args below meth c H1 locs1 cells slots Q (F0 m (pc + 3) ls rest)) : W p l e R s m args below meth c H locs cells slots Q (F0 m pc ls (.int v :: .ref (a 139) :: rest)) := by
  subst e9
  refine va_put (D := D) (ci := 6) (v := .int v) (ty := .int) (C := RX6) (T := TX6) (N := 16) C.1 C.2.1 C.2.2.2.2.1 hin tyX6 tyX6_ok nmX6 C.2.2.2.1 C.2.2.2.2.2.1 hW.1 hW.2.1 hW.2.2.1 6 rfl rfl 4 (by decide) (C.2.2.2.2.1 _ hl) (fun _ h9 => h9) rfl (by decide +kernel) rfl rfl (Nat.le_of_ble_eq_true rfl) hd (fun H1 locs1 hP hD hS => ?_)
  exact k H1 locs1 ⟨hP, hD, hS, hW.2.2.2⟩
theorem fg_6_5 (C : Cx p s m args c cc nL Ts own D cy) (hin : ∀ w ∈ u_ws RX6 TX6 16, w ∈ Ts) (hl : Cond.fieldLink own idx "SharedLambda$Walk" "leftBefore" "[I" ∈ Ts) (hW : WW D A H0 (wC cy a r S) H locs) (hd : decode cc pc = .ok (.getfield idx, 3))
    (k : W p l e R s m args below meth c H locs cells slots Q (F0 m (pc + 3) ls (.ref (a 125) :: rest))) : W p l e R s m args below meth c H locs cells slots Q (F0 m pc ls (.ref (a 139) :: rest)) :=
  va_get (D := D) (ci := 6) (v := .ref (a 125)) (C := RX6) (T := TX6) (N := 16) C.1 C.2.1 C.2.2.2.2.1 hin C.2.2.2.1 C.2.2.2.2.2.1 hW.1 6 rfl rfl 5 (by decide) (C.2.2.2.2.1 _ hl) (fun _ h9 => h9) rfl hd k
theorem al_6_5 (C : Cx p s m args c cc nL Ts own D cy) (hW : WW D A H0 (wC cy a r S) H locs) (h : vp_in i 4000) (hd : decode cc pc = .ok (.iaload, 1))
    (k : W p l e R s m args below meth c H locs cells slots Q (F0 m (pc + 1) ls (.int (S.2.1 125 i.toNatClampNeg) :: rest))) : W p l e R s m args below meth c H locs cells slots Q (F0 m pc ls (.int i :: .ref (a 125) :: rest)) :=
  va_iald C.1 C.2.1 C.2.2.2.2.2.1 hW.1 33 0 rfl rfl h hd k
theorem as_6_5 (C : Cx p s m args c cc nL Ts own D cy) (hW : WW D A H0 (wC cy a r S) H locs) (h : vp_in i 4000) (hd : decode cc pc = .ok (.iastore, 1)) (e9 : S' = sA S 125 (upd (S.2.1 125) i.toNatClampNeg x))
    (k : ∀ (H1 : Heap) (locs1 : List Loc), WW D A H0 (wC cy a r S') H1 locs1 → W p l e R s m args below meth c H1 locs1 cells slots Q (F0 m (pc + 1) ls rest)) : W p l e R s m args below meth c H locs cells slots Q (F0 m pc ls (.int x :: .int i :: .ref (a 125) :: rest)) := by
  subst e9
  exact va_iast C.1 C.2.1 C.2.2.2.2.2.1 hW.1 hW.2.1 hW.2.2.1 33 0 rfl rfl h hd (fun H1 locs1 hP hD hS => k H1 locs1 ⟨hP, hD, hS, hW.2.2.2⟩)
theorem an_6_5 (C : Cx p s m args c cc nL Ts own D cy) (hW : WW D A H0 (wC cy a r S) H locs) (hd : decode cc pc = .ok (.arraylength, 1))
    (k : W p l e R s m args below meth c H locs cells slots Q (F0 m (pc + 1) ls (.int (Int32.ofNat 4000) :: rest))) : W p l e R s m args below meth c H locs cells slots Q (F0 m pc ls (.ref (a 125) :: rest)) :=
  va_alen C.1 C.2.1 C.2.2.2.2.2.1 hW.1 33 0 rfl rfl rfl hd k
theorem fg_6_6 (C : Cx p s m args c cc nL Ts own D cy) (hin : ∀ w ∈ u_ws RX6 TX6 16, w ∈ Ts) (hl : Cond.fieldLink own idx "SharedLambda$Walk" "steps" "I" ∈ Ts) (hW : WW D A H0 (wC cy a r S) H locs) (hd : decode cc pc = .ok (.getfield idx, 3))
    (k : W p l e R s m args below meth c H locs cells slots Q (F0 m (pc + 3) ls (.int (S.1 126) :: rest))) : W p l e R s m args below meth c H locs cells slots Q (F0 m pc ls (.ref (a 139) :: rest)) :=
  va_get (D := D) (ci := 6) (v := .int (S.1 126)) (C := RX6) (T := TX6) (N := 16) C.1 C.2.1 C.2.2.2.2.1 hin C.2.2.2.1 C.2.2.2.2.2.1 hW.1 6 rfl rfl 6 (by decide) (C.2.2.2.2.1 _ hl) (fun _ h9 => h9) rfl hd k
theorem fp_6_6 (C : Cx p s m args c cc nL Ts own D cy) (hin : ∀ w ∈ u_ws RX6 TX6 16, w ∈ Ts) (hl : Cond.fieldLink own idx "SharedLambda$Walk" "steps" "I" ∈ Ts) (hW : WW D A H0 (wC cy a r S) H locs) (hd : decode cc pc = .ok (.putfield idx, 3)) (e9 : S' = sI S 126 v)
    (k : ∀ (H1 : Heap) (locs1 : List Loc), WW D A H0 (wC cy a r S') H1 locs1 → W p l e R s m args below meth c H1 locs1 cells slots Q (F0 m (pc + 3) ls rest)) : W p l e R s m args below meth c H locs cells slots Q (F0 m pc ls (.int v :: .ref (a 139) :: rest)) := by
  subst e9
  refine va_put (D := D) (ci := 6) (v := .int v) (ty := .int) (C := RX6) (T := TX6) (N := 16) C.1 C.2.1 C.2.2.2.2.1 hin tyX6 tyX6_ok nmX6 C.2.2.2.1 C.2.2.2.2.2.1 hW.1 hW.2.1 hW.2.2.1 6 rfl rfl 6 (by decide) (C.2.2.2.2.1 _ hl) (fun _ h9 => h9) rfl (by decide +kernel) rfl rfl (Nat.le_of_ble_eq_true rfl) hd (fun H1 locs1 hP hD hS => ?_)
  exact k H1 locs1 ⟨hP, hD, hS, hW.2.2.2⟩
theorem fg_6_7 (C : Cx p s m args c cc nL Ts own D cy) (hin : ∀ w ∈ u_ws RX6 TX6 16, w ∈ Ts) (hl : Cond.fieldLink own idx "SharedLambda$Walk" "stages" "[I" ∈ Ts) (hW : WW D A H0 (wC cy a r S) H locs) (hd : decode cc pc = .ok (.getfield idx, 3))
    (k : W p l e R s m args below meth c H locs cells slots Q (F0 m (pc + 3) ls (.ref (a 127) :: rest))) : W p l e R s m args below meth c H locs cells slots Q (F0 m pc ls (.ref (a 139) :: rest)) :=
  va_get (D := D) (ci := 6) (v := .ref (a 127)) (C := RX6) (T := TX6) (N := 16) C.1 C.2.1 C.2.2.2.2.1 hin C.2.2.2.1 C.2.2.2.2.2.1 hW.1 6 rfl rfl 7 (by decide) (C.2.2.2.2.1 _ hl) (fun _ h9 => h9) rfl hd k
theorem al_6_7 (C : Cx p s m args c cc nL Ts own D cy) (hW : WW D A H0 (wC cy a r S) H locs) (h : vp_in i 4000) (hd : decode cc pc = .ok (.iaload, 1))
    (k : W p l e R s m args below meth c H locs cells slots Q (F0 m (pc + 1) ls (.int (S.2.1 127 i.toNatClampNeg) :: rest))) : W p l e R s m args below meth c H locs cells slots Q (F0 m pc ls (.int i :: .ref (a 127) :: rest)) :=
  va_iald C.1 C.2.1 C.2.2.2.2.2.1 hW.1 34 0 rfl rfl h hd k
theorem as_6_7 (C : Cx p s m args c cc nL Ts own D cy) (hW : WW D A H0 (wC cy a r S) H locs) (h : vp_in i 4000) (hd : decode cc pc = .ok (.iastore, 1)) (e9 : S' = sA S 127 (upd (S.2.1 127) i.toNatClampNeg x))
    (k : ∀ (H1 : Heap) (locs1 : List Loc), WW D A H0 (wC cy a r S') H1 locs1 → W p l e R s m args below meth c H1 locs1 cells slots Q (F0 m (pc + 1) ls rest)) : W p l e R s m args below meth c H locs cells slots Q (F0 m pc ls (.int x :: .int i :: .ref (a 127) :: rest)) := by
  subst e9
  exact va_iast C.1 C.2.1 C.2.2.2.2.2.1 hW.1 hW.2.1 hW.2.2.1 34 0 rfl rfl h hd (fun H1 locs1 hP hD hS => k H1 locs1 ⟨hP, hD, hS, hW.2.2.2⟩)
theorem an_6_7 (C : Cx p s m args c cc nL Ts own D cy) (hW : WW D A H0 (wC cy a r S) H locs) (hd : decode cc pc = .ok (.arraylength, 1))
    (k : W p l e R s m args below meth c H locs cells slots Q (F0 m (pc + 1) ls (.int (Int32.ofNat 4000) :: rest))) : W p l e R s m args below meth c H locs cells slots Q (F0 m pc ls (.ref (a 127) :: rest)) :=
  va_alen C.1 C.2.1 C.2.2.2.2.2.1 hW.1 34 0 rfl rfl rfl hd k
theorem fg_6_8 (C : Cx p s m args c cc nL Ts own D cy) (hin : ∀ w ∈ u_ws RX6 TX6 16, w ∈ Ts) (hl : Cond.fieldLink own idx "SharedLambda$Walk" "stageNodes" "[I" ∈ Ts) (hW : WW D A H0 (wC cy a r S) H locs) (hd : decode cc pc = .ok (.getfield idx, 3))
    (k : W p l e R s m args below meth c H locs cells slots Q (F0 m (pc + 3) ls (.ref (a 128) :: rest))) : W p l e R s m args below meth c H locs cells slots Q (F0 m pc ls (.ref (a 139) :: rest)) :=
  va_get (D := D) (ci := 6) (v := .ref (a 128)) (C := RX6) (T := TX6) (N := 16) C.1 C.2.1 C.2.2.2.2.1 hin C.2.2.2.1 C.2.2.2.2.2.1 hW.1 6 rfl rfl 8 (by decide) (C.2.2.2.2.1 _ hl) (fun _ h9 => h9) rfl hd k
theorem al_6_8 (C : Cx p s m args c cc nL Ts own D cy) (hW : WW D A H0 (wC cy a r S) H locs) (h : vp_in i 4000) (hd : decode cc pc = .ok (.iaload, 1))
    (k : W p l e R s m args below meth c H locs cells slots Q (F0 m (pc + 1) ls (.int (S.2.1 128 i.toNatClampNeg) :: rest))) : W p l e R s m args below meth c H locs cells slots Q (F0 m pc ls (.int i :: .ref (a 128) :: rest)) :=
  va_iald C.1 C.2.1 C.2.2.2.2.2.1 hW.1 35 0 rfl rfl h hd k
theorem as_6_8 (C : Cx p s m args c cc nL Ts own D cy) (hW : WW D A H0 (wC cy a r S) H locs) (h : vp_in i 4000) (hd : decode cc pc = .ok (.iastore, 1)) (e9 : S' = sA S 128 (upd (S.2.1 128) i.toNatClampNeg x))
    (k : ∀ (H1 : Heap) (locs1 : List Loc), WW D A H0 (wC cy a r S') H1 locs1 → W p l e R s m args below meth c H1 locs1 cells slots Q (F0 m (pc + 1) ls rest)) : W p l e R s m args below meth c H locs cells slots Q (F0 m pc ls (.int x :: .int i :: .ref (a 128) :: rest)) := by
  subst e9
  exact va_iast C.1 C.2.1 C.2.2.2.2.2.1 hW.1 hW.2.1 hW.2.2.1 35 0 rfl rfl h hd (fun H1 locs1 hP hD hS => k H1 locs1 ⟨hP, hD, hS, hW.2.2.2⟩)
theorem an_6_8 (C : Cx p s m args c cc nL Ts own D cy) (hW : WW D A H0 (wC cy a r S) H locs) (hd : decode cc pc = .ok (.arraylength, 1))
    (k : W p l e R s m args below meth c H locs cells slots Q (F0 m (pc + 1) ls (.int (Int32.ofNat 4000) :: rest))) : W p l e R s m args below meth c H locs cells slots Q (F0 m pc ls (.ref (a 128) :: rest)) :=
  va_alen C.1 C.2.1 C.2.2.2.2.2.1 hW.1 35 0 rfl rfl rfl hd k
theorem fg_6_9 (C : Cx p s m args c cc nL Ts own D cy) (hin : ∀ w ∈ u_ws RX6 TX6 16, w ∈ Ts) (hl : Cond.fieldLink own idx "SharedLambda$Walk" "stageMarks" "[I" ∈ Ts) (hW : WW D A H0 (wC cy a r S) H locs) (hd : decode cc pc = .ok (.getfield idx, 3))
    (k : W p l e R s m args below meth c H locs cells slots Q (F0 m (pc + 3) ls (.ref (a 129) :: rest))) : W p l e R s m args below meth c H locs cells slots Q (F0 m pc ls (.ref (a 139) :: rest)) :=
  va_get (D := D) (ci := 6) (v := .ref (a 129)) (C := RX6) (T := TX6) (N := 16) C.1 C.2.1 C.2.2.2.2.1 hin C.2.2.2.1 C.2.2.2.2.2.1 hW.1 6 rfl rfl 9 (by decide) (C.2.2.2.2.1 _ hl) (fun _ h9 => h9) rfl hd k
theorem al_6_9 (C : Cx p s m args c cc nL Ts own D cy) (hW : WW D A H0 (wC cy a r S) H locs) (h : vp_in i 4000) (hd : decode cc pc = .ok (.iaload, 1))
    (k : W p l e R s m args below meth c H locs cells slots Q (F0 m (pc + 1) ls (.int (S.2.1 129 i.toNatClampNeg) :: rest))) : W p l e R s m args below meth c H locs cells slots Q (F0 m pc ls (.int i :: .ref (a 129) :: rest)) :=
  va_iald C.1 C.2.1 C.2.2.2.2.2.1 hW.1 36 0 rfl rfl h hd k
theorem as_6_9 (C : Cx p s m args c cc nL Ts own D cy) (hW : WW D A H0 (wC cy a r S) H locs) (h : vp_in i 4000) (hd : decode cc pc = .ok (.iastore, 1)) (e9 : S' = sA S 129 (upd (S.2.1 129) i.toNatClampNeg x))
    (k : ∀ (H1 : Heap) (locs1 : List Loc), WW D A H0 (wC cy a r S') H1 locs1 → W p l e R s m args below meth c H1 locs1 cells slots Q (F0 m (pc + 1) ls rest)) : W p l e R s m args below meth c H locs cells slots Q (F0 m pc ls (.int x :: .int i :: .ref (a 129) :: rest)) := by
  subst e9
  exact va_iast C.1 C.2.1 C.2.2.2.2.2.1 hW.1 hW.2.1 hW.2.2.1 36 0 rfl rfl h hd (fun H1 locs1 hP hD hS => k H1 locs1 ⟨hP, hD, hS, hW.2.2.2⟩)
theorem an_6_9 (C : Cx p s m args c cc nL Ts own D cy) (hW : WW D A H0 (wC cy a r S) H locs) (hd : decode cc pc = .ok (.arraylength, 1))
    (k : W p l e R s m args below meth c H locs cells slots Q (F0 m (pc + 1) ls (.int (Int32.ofNat 4000) :: rest))) : W p l e R s m args below meth c H locs cells slots Q (F0 m pc ls (.ref (a 129) :: rest)) :=
  va_alen C.1 C.2.1 C.2.2.2.2.2.1 hW.1 36 0 rfl rfl rfl hd k
theorem fg_6_10 (C : Cx p s m args c cc nL Ts own D cy) (hin : ∀ w ∈ u_ws RX6 TX6 16, w ∈ Ts) (hl : Cond.fieldLink own idx "SharedLambda$Walk" "depth" "I" ∈ Ts) (hW : WW D A H0 (wC cy a r S) H locs) (hd : decode cc pc = .ok (.getfield idx, 3))
    (k : W p l e R s m args below meth c H locs cells slots Q (F0 m (pc + 3) ls (.int (S.1 130) :: rest))) : W p l e R s m args below meth c H locs cells slots Q (F0 m pc ls (.ref (a 139) :: rest)) :=
  va_get (D := D) (ci := 6) (v := .int (S.1 130)) (C := RX6) (T := TX6) (N := 16) C.1 C.2.1 C.2.2.2.2.1 hin C.2.2.2.1 C.2.2.2.2.2.1 hW.1 6 rfl rfl 10 (by decide) (C.2.2.2.2.1 _ hl) (fun _ h9 => h9) rfl hd k
theorem fp_6_10 (C : Cx p s m args c cc nL Ts own D cy) (hin : ∀ w ∈ u_ws RX6 TX6 16, w ∈ Ts) (hl : Cond.fieldLink own idx "SharedLambda$Walk" "depth" "I" ∈ Ts) (hW : WW D A H0 (wC cy a r S) H locs) (hd : decode cc pc = .ok (.putfield idx, 3)) (e9 : S' = sI S 130 v)
    (k : ∀ (H1 : Heap) (locs1 : List Loc), WW D A H0 (wC cy a r S') H1 locs1 → W p l e R s m args below meth c H1 locs1 cells slots Q (F0 m (pc + 3) ls rest)) : W p l e R s m args below meth c H locs cells slots Q (F0 m pc ls (.int v :: .ref (a 139) :: rest)) := by
  subst e9
  refine va_put (D := D) (ci := 6) (v := .int v) (ty := .int) (C := RX6) (T := TX6) (N := 16) C.1 C.2.1 C.2.2.2.2.1 hin tyX6 tyX6_ok nmX6 C.2.2.2.1 C.2.2.2.2.2.1 hW.1 hW.2.1 hW.2.2.1 6 rfl rfl 10 (by decide) (C.2.2.2.2.1 _ hl) (fun _ h9 => h9) rfl (by decide +kernel) rfl rfl (Nat.le_of_ble_eq_true rfl) hd (fun H1 locs1 hP hD hS => ?_)
  exact k H1 locs1 ⟨hP, hD, hS, hW.2.2.2⟩
theorem fg_6_11 (C : Cx p s m args c cc nL Ts own D cy) (hin : ∀ w ∈ u_ws RX6 TX6 16, w ∈ Ts) (hl : Cond.fieldLink own idx "SharedLambda$Walk" "binders" "[I" ∈ Ts) (hW : WW D A H0 (wC cy a r S) H locs) (hd : decode cc pc = .ok (.getfield idx, 3))
    (k : W p l e R s m args below meth c H locs cells slots Q (F0 m (pc + 3) ls (.ref (a 131) :: rest))) : W p l e R s m args below meth c H locs cells slots Q (F0 m pc ls (.ref (a 139) :: rest)) :=
  va_get (D := D) (ci := 6) (v := .ref (a 131)) (C := RX6) (T := TX6) (N := 16) C.1 C.2.1 C.2.2.2.2.1 hin C.2.2.2.1 C.2.2.2.2.2.1 hW.1 6 rfl rfl 11 (by decide) (C.2.2.2.2.1 _ hl) (fun _ h9 => h9) rfl hd k
theorem al_6_11 (C : Cx p s m args c cc nL Ts own D cy) (hW : WW D A H0 (wC cy a r S) H locs) (h : vp_in i 4000) (hd : decode cc pc = .ok (.iaload, 1))
    (k : W p l e R s m args below meth c H locs cells slots Q (F0 m (pc + 1) ls (.int (S.2.1 131 i.toNatClampNeg) :: rest))) : W p l e R s m args below meth c H locs cells slots Q (F0 m pc ls (.int i :: .ref (a 131) :: rest)) :=
  va_iald C.1 C.2.1 C.2.2.2.2.2.1 hW.1 37 0 rfl rfl h hd k
theorem as_6_11 (C : Cx p s m args c cc nL Ts own D cy) (hW : WW D A H0 (wC cy a r S) H locs) (h : vp_in i 4000) (hd : decode cc pc = .ok (.iastore, 1)) (e9 : S' = sA S 131 (upd (S.2.1 131) i.toNatClampNeg x))
    (k : ∀ (H1 : Heap) (locs1 : List Loc), WW D A H0 (wC cy a r S') H1 locs1 → W p l e R s m args below meth c H1 locs1 cells slots Q (F0 m (pc + 1) ls rest)) : W p l e R s m args below meth c H locs cells slots Q (F0 m pc ls (.int x :: .int i :: .ref (a 131) :: rest)) := by
  subst e9
  exact va_iast C.1 C.2.1 C.2.2.2.2.2.1 hW.1 hW.2.1 hW.2.2.1 37 0 rfl rfl h hd (fun H1 locs1 hP hD hS => k H1 locs1 ⟨hP, hD, hS, hW.2.2.2⟩)
theorem an_6_11 (C : Cx p s m args c cc nL Ts own D cy) (hW : WW D A H0 (wC cy a r S) H locs) (hd : decode cc pc = .ok (.arraylength, 1))
    (k : W p l e R s m args below meth c H locs cells slots Q (F0 m (pc + 1) ls (.int (Int32.ofNat 4000) :: rest))) : W p l e R s m args below meth c H locs cells slots Q (F0 m pc ls (.ref (a 131) :: rest)) :=
  va_alen C.1 C.2.1 C.2.2.2.2.2.1 hW.1 37 0 rfl rfl rfl hd k
theorem fg_6_12 (C : Cx p s m args c cc nL Ts own D cy) (hin : ∀ w ∈ u_ws RX6 TX6 16, w ∈ Ts) (hl : Cond.fieldLink own idx "SharedLambda$Walk" "binderStarts" "[I" ∈ Ts) (hW : WW D A H0 (wC cy a r S) H locs) (hd : decode cc pc = .ok (.getfield idx, 3))
    (k : W p l e R s m args below meth c H locs cells slots Q (F0 m (pc + 3) ls (.ref (a 132) :: rest))) : W p l e R s m args below meth c H locs cells slots Q (F0 m pc ls (.ref (a 139) :: rest)) :=
  va_get (D := D) (ci := 6) (v := .ref (a 132)) (C := RX6) (T := TX6) (N := 16) C.1 C.2.1 C.2.2.2.2.1 hin C.2.2.2.1 C.2.2.2.2.2.1 hW.1 6 rfl rfl 12 (by decide) (C.2.2.2.2.1 _ hl) (fun _ h9 => h9) rfl hd k
theorem al_6_12 (C : Cx p s m args c cc nL Ts own D cy) (hW : WW D A H0 (wC cy a r S) H locs) (h : vp_in i 4000) (hd : decode cc pc = .ok (.iaload, 1))
    (k : W p l e R s m args below meth c H locs cells slots Q (F0 m (pc + 1) ls (.int (S.2.1 132 i.toNatClampNeg) :: rest))) : W p l e R s m args below meth c H locs cells slots Q (F0 m pc ls (.int i :: .ref (a 132) :: rest)) :=
  va_iald C.1 C.2.1 C.2.2.2.2.2.1 hW.1 38 0 rfl rfl h hd k
theorem as_6_12 (C : Cx p s m args c cc nL Ts own D cy) (hW : WW D A H0 (wC cy a r S) H locs) (h : vp_in i 4000) (hd : decode cc pc = .ok (.iastore, 1)) (e9 : S' = sA S 132 (upd (S.2.1 132) i.toNatClampNeg x))
    (k : ∀ (H1 : Heap) (locs1 : List Loc), WW D A H0 (wC cy a r S') H1 locs1 → W p l e R s m args below meth c H1 locs1 cells slots Q (F0 m (pc + 1) ls rest)) : W p l e R s m args below meth c H locs cells slots Q (F0 m pc ls (.int x :: .int i :: .ref (a 132) :: rest)) := by
  subst e9
  exact va_iast C.1 C.2.1 C.2.2.2.2.2.1 hW.1 hW.2.1 hW.2.2.1 38 0 rfl rfl h hd (fun H1 locs1 hP hD hS => k H1 locs1 ⟨hP, hD, hS, hW.2.2.2⟩)
theorem an_6_12 (C : Cx p s m args c cc nL Ts own D cy) (hW : WW D A H0 (wC cy a r S) H locs) (hd : decode cc pc = .ok (.arraylength, 1))
    (k : W p l e R s m args below meth c H locs cells slots Q (F0 m (pc + 1) ls (.int (Int32.ofNat 4000) :: rest))) : W p l e R s m args below meth c H locs cells slots Q (F0 m pc ls (.ref (a 132) :: rest)) :=
  va_alen C.1 C.2.1 C.2.2.2.2.2.1 hW.1 38 0 rfl rfl rfl hd k
theorem fg_6_13 (C : Cx p s m args c cc nL Ts own D cy) (hin : ∀ w ∈ u_ws RX6 TX6 16, w ∈ Ts) (hl : Cond.fieldLink own idx "SharedLambda$Walk" "binderCount" "I" ∈ Ts) (hW : WW D A H0 (wC cy a r S) H locs) (hd : decode cc pc = .ok (.getfield idx, 3))
    (k : W p l e R s m args below meth c H locs cells slots Q (F0 m (pc + 3) ls (.int (S.1 133) :: rest))) : W p l e R s m args below meth c H locs cells slots Q (F0 m pc ls (.ref (a 139) :: rest)) :=
  va_get (D := D) (ci := 6) (v := .int (S.1 133)) (C := RX6) (T := TX6) (N := 16) C.1 C.2.1 C.2.2.2.2.1 hin C.2.2.2.1 C.2.2.2.2.2.1 hW.1 6 rfl rfl 13 (by decide) (C.2.2.2.2.1 _ hl) (fun _ h9 => h9) rfl hd k
theorem fp_6_13 (C : Cx p s m args c cc nL Ts own D cy) (hin : ∀ w ∈ u_ws RX6 TX6 16, w ∈ Ts) (hl : Cond.fieldLink own idx "SharedLambda$Walk" "binderCount" "I" ∈ Ts) (hW : WW D A H0 (wC cy a r S) H locs) (hd : decode cc pc = .ok (.putfield idx, 3)) (e9 : S' = sI S 133 v)
    (k : ∀ (H1 : Heap) (locs1 : List Loc), WW D A H0 (wC cy a r S') H1 locs1 → W p l e R s m args below meth c H1 locs1 cells slots Q (F0 m (pc + 3) ls rest)) : W p l e R s m args below meth c H locs cells slots Q (F0 m pc ls (.int v :: .ref (a 139) :: rest)) := by
  subst e9
  refine va_put (D := D) (ci := 6) (v := .int v) (ty := .int) (C := RX6) (T := TX6) (N := 16) C.1 C.2.1 C.2.2.2.2.1 hin tyX6 tyX6_ok nmX6 C.2.2.2.1 C.2.2.2.2.2.1 hW.1 hW.2.1 hW.2.2.1 6 rfl rfl 13 (by decide) (C.2.2.2.2.1 _ hl) (fun _ h9 => h9) rfl (by decide +kernel) rfl rfl (Nat.le_of_ble_eq_true rfl) hd (fun H1 locs1 hP hD hS => ?_)
  exact k H1 locs1 ⟨hP, hD, hS, hW.2.2.2⟩
theorem fg_6_14 (C : Cx p s m args c cc nL Ts own D cy) (hin : ∀ w ∈ u_ws RX6 TX6 16, w ∈ Ts) (hl : Cond.fieldLink own idx "SharedLambda$Walk" "binderLevels" "[I" ∈ Ts) (hW : WW D A H0 (wC cy a r S) H locs) (hd : decode cc pc = .ok (.getfield idx, 3))
    (k : W p l e R s m args below meth c H locs cells slots Q (F0 m (pc + 3) ls (.ref (r 99) :: rest))) : W p l e R s m args below meth c H locs cells slots Q (F0 m pc ls (.ref (a 139) :: rest)) :=
  va_get (D := D) (ci := 6) (v := .ref (r 99)) (C := RX6) (T := TX6) (N := 16) C.1 C.2.1 C.2.2.2.2.1 hin C.2.2.2.1 C.2.2.2.2.2.1 hW.1 6 rfl rfl 14 (by decide) (C.2.2.2.2.1 _ hl) (fun _ h9 => h9) rfl hd k
theorem al_6_14 (C : Cx p s m args c cc nL Ts own D cy) (hW : WW D A H0 (wC cy a r S) H locs) (h : vp_in i S.2.2.2.2.1) (hd : decode cc pc = .ok (.iaload, 1))
    (k : W p l e R s m args below meth c H locs cells slots Q (F0 m (pc + 1) ls (.int (S.2.1 134 i.toNatClampNeg) :: rest))) : W p l e R s m args below meth c H locs cells slots Q (F0 m pc ls (.int i :: .ref (r 99) :: rest)) :=
  va_iald C.1 C.2.1 C.2.2.2.2.2.1 hW.1 41 0 rfl rfl h hd k
theorem as_6_14 (C : Cx p s m args c cc nL Ts own D cy) (hW : WW D A H0 (wC cy a r S) H locs) (h : vp_in i S.2.2.2.2.1) (hd : decode cc pc = .ok (.iastore, 1)) (e9 : S' = sA S 134 (upd (S.2.1 134) i.toNatClampNeg x))
    (k : ∀ (H1 : Heap) (locs1 : List Loc), WW D A H0 (wC cy a r S') H1 locs1 → W p l e R s m args below meth c H1 locs1 cells slots Q (F0 m (pc + 1) ls rest)) : W p l e R s m args below meth c H locs cells slots Q (F0 m pc ls (.int x :: .int i :: .ref (r 99) :: rest)) := by
  subst e9
  exact va_iast C.1 C.2.1 C.2.2.2.2.2.1 hW.1 hW.2.1 hW.2.2.1 41 0 rfl rfl h hd (fun H1 locs1 hP hD hS => k H1 locs1 ⟨hP, hD, hS, hW.2.2.2⟩)
theorem an_6_14 (C : Cx p s m args c cc nL Ts own D cy) (hW : WW D A H0 (wC cy a r S) H locs) (hd : decode cc pc = .ok (.arraylength, 1))
    (k : W p l e R s m args below meth c H locs cells slots Q (F0 m (pc + 1) ls (.int (Int32.ofNat S.2.2.2.2.1) :: rest))) : W p l e R s m args below meth c H locs cells slots Q (F0 m pc ls (.ref (r 99) :: rest)) :=
  va_alen C.1 C.2.1 C.2.2.2.2.2.1 hW.1 41 0 rfl rfl rfl hd k
theorem fg_6_15 (C : Cx p s m args c cc nL Ts own D cy) (hin : ∀ w ∈ u_ws RX6 TX6 16, w ∈ Ts) (hl : Cond.fieldLink own idx "SharedLambda$Walk" "binderLevelCount" "I" ∈ Ts) (hW : WW D A H0 (wC cy a r S) H locs) (hd : decode cc pc = .ok (.getfield idx, 3))
    (k : W p l e R s m args below meth c H locs cells slots Q (F0 m (pc + 3) ls (.int (S.1 135) :: rest))) : W p l e R s m args below meth c H locs cells slots Q (F0 m pc ls (.ref (a 139) :: rest)) :=
  va_get (D := D) (ci := 6) (v := .int (S.1 135)) (C := RX6) (T := TX6) (N := 16) C.1 C.2.1 C.2.2.2.2.1 hin C.2.2.2.1 C.2.2.2.2.2.1 hW.1 6 rfl rfl 15 (by decide) (C.2.2.2.2.1 _ hl) (fun _ h9 => h9) rfl hd k
theorem fp_6_15 (C : Cx p s m args c cc nL Ts own D cy) (hin : ∀ w ∈ u_ws RX6 TX6 16, w ∈ Ts) (hl : Cond.fieldLink own idx "SharedLambda$Walk" "binderLevelCount" "I" ∈ Ts) (hW : WW D A H0 (wC cy a r S) H locs) (hd : decode cc pc = .ok (.putfield idx, 3)) (e9 : S' = sI S 135 v)
    (k : ∀ (H1 : Heap) (locs1 : List Loc), WW D A H0 (wC cy a r S') H1 locs1 → W p l e R s m args below meth c H1 locs1 cells slots Q (F0 m (pc + 3) ls rest)) : W p l e R s m args below meth c H locs cells slots Q (F0 m pc ls (.int v :: .ref (a 139) :: rest)) := by
  subst e9
  refine va_put (D := D) (ci := 6) (v := .int v) (ty := .int) (C := RX6) (T := TX6) (N := 16) C.1 C.2.1 C.2.2.2.2.1 hin tyX6 tyX6_ok nmX6 C.2.2.2.1 C.2.2.2.2.2.1 hW.1 hW.2.1 hW.2.2.1 6 rfl rfl 15 (by decide) (C.2.2.2.2.1 _ hl) (fun _ h9 => h9) rfl (by decide +kernel) rfl rfl (Nat.le_of_ble_eq_true rfl) hd (fun H1 locs1 hP hD hS => ?_)
  exact k H1 locs1 ⟨hP, hD, hS, hW.2.2.2⟩
theorem fg_7_0 (C : Cx p s m args c cc nL Ts own D cy) (hin : ∀ w ∈ u_ws RX7 TX7 9, w ∈ Ts) (hl : Cond.fieldLink own idx "SharedLambda" "tape" "[I" ∈ Ts) (hW : WW D A H0 (wC cy a r S) H locs) (hd : decode cc pc = .ok (.getfield idx, 3))
    (k : W p l e R s m args below meth c H locs cells slots Q (F0 m (pc + 3) ls (.ref (a 140) :: rest))) : W p l e R s m args below meth c H locs cells slots Q (F0 m pc ls (.ref (a 159) :: rest)) :=
  va_get (D := D) (ci := 7) (v := .ref (a 140)) (C := RX7) (T := TX7) (N := 9) C.1 C.2.1 C.2.2.2.2.1 hin C.2.2.2.1 C.2.2.2.2.2.1 hW.1 7 rfl rfl 0 (by decide) (C.2.2.2.2.1 _ hl) (fun _ h9 => h9) rfl hd k
theorem al_7_0 (C : Cx p s m args c cc nL Ts own D cy) (hW : WW D A H0 (wC cy a r S) H locs) (h : vp_in i 600) (hd : decode cc pc = .ok (.iaload, 1))
    (k : W p l e R s m args below meth c H locs cells slots Q (F0 m (pc + 1) ls (.int (S.2.1 140 i.toNatClampNeg) :: rest))) : W p l e R s m args below meth c H locs cells slots Q (F0 m pc ls (.int i :: .ref (a 140) :: rest)) :=
  va_iald C.1 C.2.1 C.2.2.2.2.2.1 hW.1 39 0 rfl rfl h hd k
theorem as_7_0 (C : Cx p s m args c cc nL Ts own D cy) (hW : WW D A H0 (wC cy a r S) H locs) (h : vp_in i 600) (hd : decode cc pc = .ok (.iastore, 1)) (e9 : S' = sA S 140 (upd (S.2.1 140) i.toNatClampNeg x))
    (k : ∀ (H1 : Heap) (locs1 : List Loc), WW D A H0 (wC cy a r S') H1 locs1 → W p l e R s m args below meth c H1 locs1 cells slots Q (F0 m (pc + 1) ls rest)) : W p l e R s m args below meth c H locs cells slots Q (F0 m pc ls (.int x :: .int i :: .ref (a 140) :: rest)) := by
  subst e9
  exact va_iast C.1 C.2.1 C.2.2.2.2.2.1 hW.1 hW.2.1 hW.2.2.1 39 0 rfl rfl h hd (fun H1 locs1 hP hD hS => k H1 locs1 ⟨hP, hD, hS, hW.2.2.2⟩)
theorem an_7_0 (C : Cx p s m args c cc nL Ts own D cy) (hW : WW D A H0 (wC cy a r S) H locs) (hd : decode cc pc = .ok (.arraylength, 1))
    (k : W p l e R s m args below meth c H locs cells slots Q (F0 m (pc + 1) ls (.int (Int32.ofNat 600) :: rest))) : W p l e R s m args below meth c H locs cells slots Q (F0 m pc ls (.ref (a 140) :: rest)) :=
  va_alen C.1 C.2.1 C.2.2.2.2.2.1 hW.1 39 0 rfl rfl rfl hd k
theorem fg_7_1 (C : Cx p s m args c cc nL Ts own D cy) (hin : ∀ w ∈ u_ws RX7 TX7 9, w ∈ Ts) (hl : Cond.fieldLink own idx "SharedLambda" "tapeLength" "I" ∈ Ts) (hW : WW D A H0 (wC cy a r S) H locs) (hd : decode cc pc = .ok (.getfield idx, 3))
    (k : W p l e R s m args below meth c H locs cells slots Q (F0 m (pc + 3) ls (.int (S.1 141) :: rest))) : W p l e R s m args below meth c H locs cells slots Q (F0 m pc ls (.ref (a 159) :: rest)) :=
  va_get (D := D) (ci := 7) (v := .int (S.1 141)) (C := RX7) (T := TX7) (N := 9) C.1 C.2.1 C.2.2.2.2.1 hin C.2.2.2.1 C.2.2.2.2.2.1 hW.1 7 rfl rfl 1 (by decide) (C.2.2.2.2.1 _ hl) (fun _ h9 => h9) rfl hd k
theorem fp_7_1 (C : Cx p s m args c cc nL Ts own D cy) (hin : ∀ w ∈ u_ws RX7 TX7 9, w ∈ Ts) (hl : Cond.fieldLink own idx "SharedLambda" "tapeLength" "I" ∈ Ts) (hW : WW D A H0 (wC cy a r S) H locs) (hd : decode cc pc = .ok (.putfield idx, 3)) (e9 : S' = sI S 141 v)
    (k : ∀ (H1 : Heap) (locs1 : List Loc), WW D A H0 (wC cy a r S') H1 locs1 → W p l e R s m args below meth c H1 locs1 cells slots Q (F0 m (pc + 3) ls rest)) : W p l e R s m args below meth c H locs cells slots Q (F0 m pc ls (.int v :: .ref (a 159) :: rest)) := by
  subst e9
  refine va_put (D := D) (ci := 7) (v := .int v) (ty := .int) (C := RX7) (T := TX7) (N := 9) C.1 C.2.1 C.2.2.2.2.1 hin tyX7 tyX7_ok nmX7 C.2.2.2.1 C.2.2.2.2.2.1 hW.1 hW.2.1 hW.2.2.1 7 rfl rfl 1 (by decide) (C.2.2.2.2.1 _ hl) (fun _ h9 => h9) rfl (by decide +kernel) rfl rfl (Nat.le_of_ble_eq_true rfl) hd (fun H1 locs1 hP hD hS => ?_)
  exact k H1 locs1 ⟨hP, hD, hS, hW.2.2.2⟩
theorem fg_7_2 (C : Cx p s m args c cc nL Ts own D cy) (hin : ∀ w ∈ u_ws RX7 TX7 9, w ∈ Ts) (hl : Cond.fieldLink own idx "SharedLambda" "faultKind" "I" ∈ Ts) (hW : WW D A H0 (wC cy a r S) H locs) (hd : decode cc pc = .ok (.getfield idx, 3))
    (k : W p l e R s m args below meth c H locs cells slots Q (F0 m (pc + 3) ls (.int (S.1 142) :: rest))) : W p l e R s m args below meth c H locs cells slots Q (F0 m pc ls (.ref (a 159) :: rest)) :=
  va_get (D := D) (ci := 7) (v := .int (S.1 142)) (C := RX7) (T := TX7) (N := 9) C.1 C.2.1 C.2.2.2.2.1 hin C.2.2.2.1 C.2.2.2.2.2.1 hW.1 7 rfl rfl 2 (by decide) (C.2.2.2.2.1 _ hl) (fun _ h9 => h9) rfl hd k
theorem fp_7_2 (C : Cx p s m args c cc nL Ts own D cy) (hin : ∀ w ∈ u_ws RX7 TX7 9, w ∈ Ts) (hl : Cond.fieldLink own idx "SharedLambda" "faultKind" "I" ∈ Ts) (hW : WW D A H0 (wC cy a r S) H locs) (hd : decode cc pc = .ok (.putfield idx, 3)) (e9 : S' = sI S 142 v)
    (k : ∀ (H1 : Heap) (locs1 : List Loc), WW D A H0 (wC cy a r S') H1 locs1 → W p l e R s m args below meth c H1 locs1 cells slots Q (F0 m (pc + 3) ls rest)) : W p l e R s m args below meth c H locs cells slots Q (F0 m pc ls (.int v :: .ref (a 159) :: rest)) := by
  subst e9
  refine va_put (D := D) (ci := 7) (v := .int v) (ty := .int) (C := RX7) (T := TX7) (N := 9) C.1 C.2.1 C.2.2.2.2.1 hin tyX7 tyX7_ok nmX7 C.2.2.2.1 C.2.2.2.2.2.1 hW.1 hW.2.1 hW.2.2.1 7 rfl rfl 2 (by decide) (C.2.2.2.2.1 _ hl) (fun _ h9 => h9) rfl (by decide +kernel) rfl rfl (Nat.le_of_ble_eq_true rfl) hd (fun H1 locs1 hP hD hS => ?_)
  exact k H1 locs1 ⟨hP, hD, hS, hW.2.2.2⟩
theorem fg_7_3 (C : Cx p s m args c cc nL Ts own D cy) (hin : ∀ w ∈ u_ws RX7 TX7 9, w ∈ Ts) (hl : Cond.fieldLink own idx "SharedLambda" "resultLetters" "I" ∈ Ts) (hW : WW D A H0 (wC cy a r S) H locs) (hd : decode cc pc = .ok (.getfield idx, 3))
    (k : W p l e R s m args below meth c H locs cells slots Q (F0 m (pc + 3) ls (.int (S.1 143) :: rest))) : W p l e R s m args below meth c H locs cells slots Q (F0 m pc ls (.ref (a 159) :: rest)) :=
  va_get (D := D) (ci := 7) (v := .int (S.1 143)) (C := RX7) (T := TX7) (N := 9) C.1 C.2.1 C.2.2.2.2.1 hin C.2.2.2.1 C.2.2.2.2.2.1 hW.1 7 rfl rfl 3 (by decide) (C.2.2.2.2.1 _ hl) (fun _ h9 => h9) rfl hd k
theorem fp_7_3 (C : Cx p s m args c cc nL Ts own D cy) (hin : ∀ w ∈ u_ws RX7 TX7 9, w ∈ Ts) (hl : Cond.fieldLink own idx "SharedLambda" "resultLetters" "I" ∈ Ts) (hW : WW D A H0 (wC cy a r S) H locs) (hd : decode cc pc = .ok (.putfield idx, 3)) (e9 : S' = sI S 143 v)
    (k : ∀ (H1 : Heap) (locs1 : List Loc), WW D A H0 (wC cy a r S') H1 locs1 → W p l e R s m args below meth c H1 locs1 cells slots Q (F0 m (pc + 3) ls rest)) : W p l e R s m args below meth c H locs cells slots Q (F0 m pc ls (.int v :: .ref (a 159) :: rest)) := by
  subst e9
  refine va_put (D := D) (ci := 7) (v := .int v) (ty := .int) (C := RX7) (T := TX7) (N := 9) C.1 C.2.1 C.2.2.2.2.1 hin tyX7 tyX7_ok nmX7 C.2.2.2.1 C.2.2.2.2.2.1 hW.1 hW.2.1 hW.2.2.1 7 rfl rfl 3 (by decide) (C.2.2.2.2.1 _ hl) (fun _ h9 => h9) rfl (by decide +kernel) rfl rfl (Nat.le_of_ble_eq_true rfl) hd (fun H1 locs1 hP hD hS => ?_)
  exact k H1 locs1 ⟨hP, hD, hS, hW.2.2.2⟩
theorem fg_7_4 (C : Cx p s m args c cc nL Ts own D cy) (hin : ∀ w ∈ u_ws RX7 TX7 9, w ∈ Ts) (hl : Cond.fieldLink own idx "SharedLambda" "reader" "LSharedLambda$TermReader;" ∈ Ts) (hW : WW D A H0 (wC cy a r S) H locs) (hd : decode cc pc = .ok (.getfield idx, 3))
    (k : W p l e R s m args below meth c H locs cells slots Q (F0 m (pc + 3) ls (.ref (a 99) :: rest))) : W p l e R s m args below meth c H locs cells slots Q (F0 m pc ls (.ref (a 159) :: rest)) :=
  va_get (D := D) (ci := 7) (v := .ref (a 99)) (C := RX7) (T := TX7) (N := 9) C.1 C.2.1 C.2.2.2.2.1 hin C.2.2.2.1 C.2.2.2.2.2.1 hW.1 7 rfl rfl 4 (by decide) (C.2.2.2.2.1 _ hl) (fun _ h9 => h9) rfl hd k
theorem fg_7_5 (C : Cx p s m args c cc nL Ts own D cy) (hin : ∀ w ∈ u_ws RX7 TX7 9, w ∈ Ts) (hl : Cond.fieldLink own idx "SharedLambda" "graph" "LSharedLambda$Graph;" ∈ Ts) (hW : WW D A H0 (wC cy a r S) H locs) (hd : decode cc pc = .ok (.getfield idx, 3))
    (k : W p l e R s m args below meth c H locs cells slots Q (F0 m (pc + 3) ls (.ref (a 59) :: rest))) : W p l e R s m args below meth c H locs cells slots Q (F0 m pc ls (.ref (a 159) :: rest)) :=
  va_get (D := D) (ci := 7) (v := .ref (a 59)) (C := RX7) (T := TX7) (N := 9) C.1 C.2.1 C.2.2.2.2.1 hin C.2.2.2.1 C.2.2.2.2.2.1 hW.1 7 rfl rfl 5 (by decide) (C.2.2.2.2.1 _ hl) (fun _ h9 => h9) rfl hd k
theorem fg_7_6 (C : Cx p s m args c cc nL Ts own D cy) (hin : ∀ w ∈ u_ws RX7 TX7 9, w ∈ Ts) (hl : Cond.fieldLink own idx "SharedLambda" "builder" "LSharedLambda$Builder;" ∈ Ts) (hW : WW D A H0 (wC cy a r S) H locs) (hd : decode cc pc = .ok (.getfield idx, 3))
    (k : W p l e R s m args below meth c H locs cells slots Q (F0 m (pc + 3) ls (.ref (a 19) :: rest))) : W p l e R s m args below meth c H locs cells slots Q (F0 m pc ls (.ref (a 159) :: rest)) :=
  va_get (D := D) (ci := 7) (v := .ref (a 19)) (C := RX7) (T := TX7) (N := 9) C.1 C.2.1 C.2.2.2.2.1 hin C.2.2.2.1 C.2.2.2.2.2.1 hW.1 7 rfl rfl 6 (by decide) (C.2.2.2.2.1 _ hl) (fun _ h9 => h9) rfl hd k
theorem fg_7_7 (C : Cx p s m args c cc nL Ts own D cy) (hin : ∀ w ∈ u_ws RX7 TX7 9, w ∈ Ts) (hl : Cond.fieldLink own idx "SharedLambda" "meetings" "LSharedLambda$Meetings;" ∈ Ts) (hW : WW D A H0 (wC cy a r S) H locs) (hd : decode cc pc = .ok (.getfield idx, 3))
    (k : W p l e R s m args below meth c H locs cells slots Q (F0 m (pc + 3) ls (.ref (a 79) :: rest))) : W p l e R s m args below meth c H locs cells slots Q (F0 m pc ls (.ref (a 159) :: rest)) :=
  va_get (D := D) (ci := 7) (v := .ref (a 79)) (C := RX7) (T := TX7) (N := 9) C.1 C.2.1 C.2.2.2.2.1 hin C.2.2.2.1 C.2.2.2.2.2.1 hW.1 7 rfl rfl 7 (by decide) (C.2.2.2.2.1 _ hl) (fun _ h9 => h9) rfl hd k
theorem fg_7_8 (C : Cx p s m args c cc nL Ts own D cy) (hin : ∀ w ∈ u_ws RX7 TX7 9, w ∈ Ts) (hl : Cond.fieldLink own idx "SharedLambda" "walk" "LSharedLambda$Walk;" ∈ Ts) (hW : WW D A H0 (wC cy a r S) H locs) (hd : decode cc pc = .ok (.getfield idx, 3))
    (k : W p l e R s m args below meth c H locs cells slots Q (F0 m (pc + 3) ls (.ref (a 139) :: rest))) : W p l e R s m args below meth c H locs cells slots Q (F0 m pc ls (.ref (a 159) :: rest)) :=
  va_get (D := D) (ci := 7) (v := .ref (a 139)) (C := RX7) (T := TX7) (N := 9) C.1 C.2.1 C.2.2.2.2.1 hin C.2.2.2.1 C.2.2.2.2.2.1 hW.1 7 rfl rfl 8 (by decide) (C.2.2.2.2.1 _ hl) (fun _ h9 => h9) rfl hd k
end FR
