section FR
variable {p : Program} {l : Launch} {e : Env} {R : Room} {s : State} {m : MethodId} {args : Array Value} {below : List Frame} {meth : Method} {c : Code} {H : Heap} {locs : List Loc} {cells slots : Nat} {Q : State → Prop}
variable {cc : ByteArray} {pc nL idx : Nat} {ls : Array Slot} {rest : List Value} {D : va_G} {cy : Nat → ClassId} {a r : Nat → Nat} {A : Nat → Prop} {H0 : Heap} {Ts : List Cond} {own : String} {S S' : St} {v i x : Int32}

theorem fg_8_0 (C : Cx p s m args c cc nL Ts own D cy) (hin : ∀ w ∈ u_ws RX8 TX8 58, w ∈ Ts) (hl : Cond.fieldLink own idx "SharedLambdaModel" "thrown" "I" ∈ Ts) (hW : WW D A H0 (wM cy a r S) H locs) (hd : decode cc pc = .ok (.getfield idx, 3))
    (k : W p l e R s m args below meth c H locs cells slots Q (F0 m (pc + 3) ls (.int (S.1 0) :: rest))) : W p l e R s m args below meth c H locs cells slots Q (F0 m pc ls (.ref (a 99) :: rest)) :=
  va_get (D := D) (ci := 8) (v := .int (S.1 0)) (C := RX8) (T := TX8) (N := 58) C.1 C.2.1 C.2.2.2.2.1 hin C.2.2.2.1 C.2.2.2.2.2.1 hW.1 0 rfl rfl 0 (by decide) (C.2.2.2.2.1 _ hl) (fun _ h9 => h9) rfl hd k
theorem fp_8_0 (C : Cx p s m args c cc nL Ts own D cy) (hin : ∀ w ∈ u_ws RX8 TX8 58, w ∈ Ts) (hl : Cond.fieldLink own idx "SharedLambdaModel" "thrown" "I" ∈ Ts) (hW : WW D A H0 (wM cy a r S) H locs) (hd : decode cc pc = .ok (.putfield idx, 3)) (e9 : S' = sI S 0 v)
    (k : ∀ (H1 : Heap) (locs1 : List Loc), WW D A H0 (wM cy a r S') H1 locs1 → W p l e R s m args below meth c H1 locs1 cells slots Q (F0 m (pc + 3) ls rest)) : W p l e R s m args below meth c H locs cells slots Q (F0 m pc ls (.int v :: .ref (a 99) :: rest)) := by
  subst e9
  refine va_put (D := D) (ci := 8) (v := .int v) (ty := .int) (C := RX8) (T := TX8) (N := 58) C.1 C.2.1 C.2.2.2.2.1 hin tyX8 tyX8_ok nmX8 C.2.2.2.1 C.2.2.2.2.2.1 hW.1 hW.2.1 hW.2.2.1 0 rfl rfl 0 (by decide) (C.2.2.2.2.1 _ hl) (fun _ h9 => h9) rfl (by decide +kernel) rfl rfl (Nat.le_of_ble_eq_true rfl) hd (fun H1 locs1 hP hD hS => ?_)
  exact k H1 locs1 ⟨hP, hD, hS, hW.2.2.2⟩
theorem fg_8_1 (C : Cx p s m args c cc nL Ts own D cy) (hin : ∀ w ∈ u_ws RX8 TX8 58, w ∈ Ts) (hl : Cond.fieldLink own idx "SharedLambdaModel" "tape" "[B" ∈ Ts) (hW : WW D A H0 (wM cy a r S) H locs) (hd : decode cc pc = .ok (.getfield idx, 3))
    (k : W p l e R s m args below meth c H locs cells slots Q (F0 m (pc + 3) ls (.ref (a 1) :: rest))) : W p l e R s m args below meth c H locs cells slots Q (F0 m pc ls (.ref (a 99) :: rest)) :=
  va_get (D := D) (ci := 8) (v := .ref (a 1)) (C := RX8) (T := TX8) (N := 58) C.1 C.2.1 C.2.2.2.2.1 hin C.2.2.2.1 C.2.2.2.2.2.1 hW.1 0 rfl rfl 1 (by decide) (C.2.2.2.2.1 _ hl) (fun _ h9 => h9) rfl hd k
theorem al_8_1 (C : Cx p s m args c cc nL Ts own D cy) (hW : WW D A H0 (wM cy a r S) H locs) (h : vp_in i 600) (hd : decode cc pc = .ok (.baload, 1))
    (k : W p l e R s m args below meth c H locs cells slots Q (F0 m (pc + 1) ls (.int (S.2.1 1 i.toNatClampNeg) :: rest))) : W p l e R s m args below meth c H locs cells slots Q (F0 m pc ls (.int i :: .ref (a 1) :: rest)) :=
  va_bald C.1 C.2.1 C.2.2.2.2.2.1 hW.1 1 3 rfl rfl h hd k
theorem as_8_1 (C : Cx p s m args c cc nL Ts own D cy) (hW : WW D A H0 (wM cy a r S) H locs) (h : vp_in i 600) (hd : decode cc pc = .ok (.bastore, 1)) (e9 : S' = sA S 1 (upd (S.2.1 1) i.toNatClampNeg (vp_nar .byte x)))
    (k : ∀ (H1 : Heap) (locs1 : List Loc), WW D A H0 (wM cy a r S') H1 locs1 → W p l e R s m args below meth c H1 locs1 cells slots Q (F0 m (pc + 1) ls rest)) : W p l e R s m args below meth c H locs cells slots Q (F0 m pc ls (.int x :: .int i :: .ref (a 1) :: rest)) := by
  subst e9
  exact va_bast C.1 C.2.1 C.2.2.2.2.2.1 hW.1 hW.2.1 hW.2.2.1 1 3 rfl rfl h hd (fun H1 locs1 hP hD hS => k H1 locs1 ⟨hP, hD, hS, hW.2.2.2⟩)
theorem an_8_1 (C : Cx p s m args c cc nL Ts own D cy) (hW : WW D A H0 (wM cy a r S) H locs) (hd : decode cc pc = .ok (.arraylength, 1))
    (k : W p l e R s m args below meth c H locs cells slots Q (F0 m (pc + 1) ls (.int (Int32.ofNat 600) :: rest))) : W p l e R s m args below meth c H locs cells slots Q (F0 m pc ls (.ref (a 1) :: rest)) :=
  va_alen C.1 C.2.1 C.2.2.2.2.2.1 hW.1 1 3 rfl rfl rfl hd k
theorem fg_8_2 (C : Cx p s m args c cc nL Ts own D cy) (hin : ∀ w ∈ u_ws RX8 TX8 58, w ∈ Ts) (hl : Cond.fieldLink own idx "SharedLambdaModel" "size" "I" ∈ Ts) (hW : WW D A H0 (wM cy a r S) H locs) (hd : decode cc pc = .ok (.getfield idx, 3))
    (k : W p l e R s m args below meth c H locs cells slots Q (F0 m (pc + 3) ls (.int (S.1 2) :: rest))) : W p l e R s m args below meth c H locs cells slots Q (F0 m pc ls (.ref (a 99) :: rest)) :=
  va_get (D := D) (ci := 8) (v := .int (S.1 2)) (C := RX8) (T := TX8) (N := 58) C.1 C.2.1 C.2.2.2.2.1 hin C.2.2.2.1 C.2.2.2.2.2.1 hW.1 0 rfl rfl 2 (by decide) (C.2.2.2.2.1 _ hl) (fun _ h9 => h9) rfl hd k
theorem fp_8_2 (C : Cx p s m args c cc nL Ts own D cy) (hin : ∀ w ∈ u_ws RX8 TX8 58, w ∈ Ts) (hl : Cond.fieldLink own idx "SharedLambdaModel" "size" "I" ∈ Ts) (hW : WW D A H0 (wM cy a r S) H locs) (hd : decode cc pc = .ok (.putfield idx, 3)) (e9 : S' = sI S 2 v)
    (k : ∀ (H1 : Heap) (locs1 : List Loc), WW D A H0 (wM cy a r S') H1 locs1 → W p l e R s m args below meth c H1 locs1 cells slots Q (F0 m (pc + 3) ls rest)) : W p l e R s m args below meth c H locs cells slots Q (F0 m pc ls (.int v :: .ref (a 99) :: rest)) := by
  subst e9
  refine va_put (D := D) (ci := 8) (v := .int v) (ty := .int) (C := RX8) (T := TX8) (N := 58) C.1 C.2.1 C.2.2.2.2.1 hin tyX8 tyX8_ok nmX8 C.2.2.2.1 C.2.2.2.2.2.1 hW.1 hW.2.1 hW.2.2.1 0 rfl rfl 2 (by decide) (C.2.2.2.2.1 _ hl) (fun _ h9 => h9) rfl (by decide +kernel) rfl rfl (Nat.le_of_ble_eq_true rfl) hd (fun H1 locs1 hP hD hS => ?_)
  exact k H1 locs1 ⟨hP, hD, hS, hW.2.2.2⟩
theorem fg_8_3 (C : Cx p s m args c cc nL Ts own D cy) (hin : ∀ w ∈ u_ws RX8 TX8 58, w ∈ Ts) (hl : Cond.fieldLink own idx "SharedLambdaModel" "sort" "[I" ∈ Ts) (hW : WW D A H0 (wM cy a r S) H locs) (hd : decode cc pc = .ok (.getfield idx, 3))
    (k : W p l e R s m args below meth c H locs cells slots Q (F0 m (pc + 3) ls (.ref (a 3) :: rest))) : W p l e R s m args below meth c H locs cells slots Q (F0 m pc ls (.ref (a 99) :: rest)) :=
  va_get (D := D) (ci := 8) (v := .ref (a 3)) (C := RX8) (T := TX8) (N := 58) C.1 C.2.1 C.2.2.2.2.1 hin C.2.2.2.1 C.2.2.2.2.2.1 hW.1 0 rfl rfl 3 (by decide) (C.2.2.2.2.1 _ hl) (fun _ h9 => h9) rfl hd k
theorem al_8_3 (C : Cx p s m args c cc nL Ts own D cy) (hW : WW D A H0 (wM cy a r S) H locs) (h : vp_in i 300) (hd : decode cc pc = .ok (.iaload, 1))
    (k : W p l e R s m args below meth c H locs cells slots Q (F0 m (pc + 1) ls (.int (S.2.1 3 i.toNatClampNeg) :: rest))) : W p l e R s m args below meth c H locs cells slots Q (F0 m pc ls (.int i :: .ref (a 3) :: rest)) :=
  va_iald C.1 C.2.1 C.2.2.2.2.2.1 hW.1 2 0 rfl rfl h hd k
theorem as_8_3 (C : Cx p s m args c cc nL Ts own D cy) (hW : WW D A H0 (wM cy a r S) H locs) (h : vp_in i 300) (hd : decode cc pc = .ok (.iastore, 1)) (e9 : S' = sA S 3 (upd (S.2.1 3) i.toNatClampNeg x))
    (k : ∀ (H1 : Heap) (locs1 : List Loc), WW D A H0 (wM cy a r S') H1 locs1 → W p l e R s m args below meth c H1 locs1 cells slots Q (F0 m (pc + 1) ls rest)) : W p l e R s m args below meth c H locs cells slots Q (F0 m pc ls (.int x :: .int i :: .ref (a 3) :: rest)) := by
  subst e9
  exact va_iast C.1 C.2.1 C.2.2.2.2.2.1 hW.1 hW.2.1 hW.2.2.1 2 0 rfl rfl h hd (fun H1 locs1 hP hD hS => k H1 locs1 ⟨hP, hD, hS, hW.2.2.2⟩)
theorem an_8_3 (C : Cx p s m args c cc nL Ts own D cy) (hW : WW D A H0 (wM cy a r S) H locs) (hd : decode cc pc = .ok (.arraylength, 1))
    (k : W p l e R s m args below meth c H locs cells slots Q (F0 m (pc + 1) ls (.int (Int32.ofNat 300) :: rest))) : W p l e R s m args below meth c H locs cells slots Q (F0 m pc ls (.ref (a 3) :: rest)) :=
  va_alen C.1 C.2.1 C.2.2.2.2.2.1 hW.1 2 0 rfl rfl rfl hd k
theorem fg_8_4 (C : Cx p s m args c cc nL Ts own D cy) (hin : ∀ w ∈ u_ws RX8 TX8 58, w ∈ Ts) (hl : Cond.fieldLink own idx "SharedLambdaModel" "first" "[I" ∈ Ts) (hW : WW D A H0 (wM cy a r S) H locs) (hd : decode cc pc = .ok (.getfield idx, 3))
    (k : W p l e R s m args below meth c H locs cells slots Q (F0 m (pc + 3) ls (.ref (a 4) :: rest))) : W p l e R s m args below meth c H locs cells slots Q (F0 m pc ls (.ref (a 99) :: rest)) :=
  va_get (D := D) (ci := 8) (v := .ref (a 4)) (C := RX8) (T := TX8) (N := 58) C.1 C.2.1 C.2.2.2.2.1 hin C.2.2.2.1 C.2.2.2.2.2.1 hW.1 0 rfl rfl 4 (by decide) (C.2.2.2.2.1 _ hl) (fun _ h9 => h9) rfl hd k
theorem al_8_4 (C : Cx p s m args c cc nL Ts own D cy) (hW : WW D A H0 (wM cy a r S) H locs) (h : vp_in i 300) (hd : decode cc pc = .ok (.iaload, 1))
    (k : W p l e R s m args below meth c H locs cells slots Q (F0 m (pc + 1) ls (.int (S.2.1 4 i.toNatClampNeg) :: rest))) : W p l e R s m args below meth c H locs cells slots Q (F0 m pc ls (.int i :: .ref (a 4) :: rest)) :=
  va_iald C.1 C.2.1 C.2.2.2.2.2.1 hW.1 3 0 rfl rfl h hd k
theorem as_8_4 (C : Cx p s m args c cc nL Ts own D cy) (hW : WW D A H0 (wM cy a r S) H locs) (h : vp_in i 300) (hd : decode cc pc = .ok (.iastore, 1)) (e9 : S' = sA S 4 (upd (S.2.1 4) i.toNatClampNeg x))
    (k : ∀ (H1 : Heap) (locs1 : List Loc), WW D A H0 (wM cy a r S') H1 locs1 → W p l e R s m args below meth c H1 locs1 cells slots Q (F0 m (pc + 1) ls rest)) : W p l e R s m args below meth c H locs cells slots Q (F0 m pc ls (.int x :: .int i :: .ref (a 4) :: rest)) := by
  subst e9
  exact va_iast C.1 C.2.1 C.2.2.2.2.2.1 hW.1 hW.2.1 hW.2.2.1 3 0 rfl rfl h hd (fun H1 locs1 hP hD hS => k H1 locs1 ⟨hP, hD, hS, hW.2.2.2⟩)
theorem an_8_4 (C : Cx p s m args c cc nL Ts own D cy) (hW : WW D A H0 (wM cy a r S) H locs) (hd : decode cc pc = .ok (.arraylength, 1))
    (k : W p l e R s m args below meth c H locs cells slots Q (F0 m (pc + 1) ls (.int (Int32.ofNat 300) :: rest))) : W p l e R s m args below meth c H locs cells slots Q (F0 m pc ls (.ref (a 4) :: rest)) :=
  va_alen C.1 C.2.1 C.2.2.2.2.2.1 hW.1 3 0 rfl rfl rfl hd k
theorem fg_8_5 (C : Cx p s m args c cc nL Ts own D cy) (hin : ∀ w ∈ u_ws RX8 TX8 58, w ∈ Ts) (hl : Cond.fieldLink own idx "SharedLambdaModel" "second" "[I" ∈ Ts) (hW : WW D A H0 (wM cy a r S) H locs) (hd : decode cc pc = .ok (.getfield idx, 3))
    (k : W p l e R s m args below meth c H locs cells slots Q (F0 m (pc + 3) ls (.ref (a 5) :: rest))) : W p l e R s m args below meth c H locs cells slots Q (F0 m pc ls (.ref (a 99) :: rest)) :=
  va_get (D := D) (ci := 8) (v := .ref (a 5)) (C := RX8) (T := TX8) (N := 58) C.1 C.2.1 C.2.2.2.2.1 hin C.2.2.2.1 C.2.2.2.2.2.1 hW.1 0 rfl rfl 5 (by decide) (C.2.2.2.2.1 _ hl) (fun _ h9 => h9) rfl hd k
theorem al_8_5 (C : Cx p s m args c cc nL Ts own D cy) (hW : WW D A H0 (wM cy a r S) H locs) (h : vp_in i 300) (hd : decode cc pc = .ok (.iaload, 1))
    (k : W p l e R s m args below meth c H locs cells slots Q (F0 m (pc + 1) ls (.int (S.2.1 5 i.toNatClampNeg) :: rest))) : W p l e R s m args below meth c H locs cells slots Q (F0 m pc ls (.int i :: .ref (a 5) :: rest)) :=
  va_iald C.1 C.2.1 C.2.2.2.2.2.1 hW.1 4 0 rfl rfl h hd k
theorem as_8_5 (C : Cx p s m args c cc nL Ts own D cy) (hW : WW D A H0 (wM cy a r S) H locs) (h : vp_in i 300) (hd : decode cc pc = .ok (.iastore, 1)) (e9 : S' = sA S 5 (upd (S.2.1 5) i.toNatClampNeg x))
    (k : ∀ (H1 : Heap) (locs1 : List Loc), WW D A H0 (wM cy a r S') H1 locs1 → W p l e R s m args below meth c H1 locs1 cells slots Q (F0 m (pc + 1) ls rest)) : W p l e R s m args below meth c H locs cells slots Q (F0 m pc ls (.int x :: .int i :: .ref (a 5) :: rest)) := by
  subst e9
  exact va_iast C.1 C.2.1 C.2.2.2.2.2.1 hW.1 hW.2.1 hW.2.2.1 4 0 rfl rfl h hd (fun H1 locs1 hP hD hS => k H1 locs1 ⟨hP, hD, hS, hW.2.2.2⟩)
theorem an_8_5 (C : Cx p s m args c cc nL Ts own D cy) (hW : WW D A H0 (wM cy a r S) H locs) (hd : decode cc pc = .ok (.arraylength, 1))
    (k : W p l e R s m args below meth c H locs cells slots Q (F0 m (pc + 1) ls (.int (Int32.ofNat 300) :: rest))) : W p l e R s m args below meth c H locs cells slots Q (F0 m pc ls (.ref (a 5) :: rest)) :=
  va_alen C.1 C.2.1 C.2.2.2.2.2.1 hW.1 4 0 rfl rfl rfl hd k
theorem fg_8_6 (C : Cx p s m args c cc nL Ts own D cy) (hin : ∀ w ∈ u_ws RX8 TX8 58, w ∈ Ts) (hl : Cond.fieldLink own idx "SharedLambdaModel" "trees" "I" ∈ Ts) (hW : WW D A H0 (wM cy a r S) H locs) (hd : decode cc pc = .ok (.getfield idx, 3))
    (k : W p l e R s m args below meth c H locs cells slots Q (F0 m (pc + 3) ls (.int (S.1 6) :: rest))) : W p l e R s m args below meth c H locs cells slots Q (F0 m pc ls (.ref (a 99) :: rest)) :=
  va_get (D := D) (ci := 8) (v := .int (S.1 6)) (C := RX8) (T := TX8) (N := 58) C.1 C.2.1 C.2.2.2.2.1 hin C.2.2.2.1 C.2.2.2.2.2.1 hW.1 0 rfl rfl 6 (by decide) (C.2.2.2.2.1 _ hl) (fun _ h9 => h9) rfl hd k
theorem fp_8_6 (C : Cx p s m args c cc nL Ts own D cy) (hin : ∀ w ∈ u_ws RX8 TX8 58, w ∈ Ts) (hl : Cond.fieldLink own idx "SharedLambdaModel" "trees" "I" ∈ Ts) (hW : WW D A H0 (wM cy a r S) H locs) (hd : decode cc pc = .ok (.putfield idx, 3)) (e9 : S' = sI S 6 v)
    (k : ∀ (H1 : Heap) (locs1 : List Loc), WW D A H0 (wM cy a r S') H1 locs1 → W p l e R s m args below meth c H1 locs1 cells slots Q (F0 m (pc + 3) ls rest)) : W p l e R s m args below meth c H locs cells slots Q (F0 m pc ls (.int v :: .ref (a 99) :: rest)) := by
  subst e9
  refine va_put (D := D) (ci := 8) (v := .int v) (ty := .int) (C := RX8) (T := TX8) (N := 58) C.1 C.2.1 C.2.2.2.2.1 hin tyX8 tyX8_ok nmX8 C.2.2.2.1 C.2.2.2.2.2.1 hW.1 hW.2.1 hW.2.2.1 0 rfl rfl 6 (by decide) (C.2.2.2.2.1 _ hl) (fun _ h9 => h9) rfl (by decide +kernel) rfl rfl (Nat.le_of_ble_eq_true rfl) hd (fun H1 locs1 hP hD hS => ?_)
  exact k H1 locs1 ⟨hP, hD, hS, hW.2.2.2⟩
theorem fg_8_7 (C : Cx p s m args c cc nL Ts own D cy) (hin : ∀ w ∈ u_ws RX8 TX8 58, w ∈ Ts) (hl : Cond.fieldLink own idx "SharedLambdaModel" "at" "I" ∈ Ts) (hW : WW D A H0 (wM cy a r S) H locs) (hd : decode cc pc = .ok (.getfield idx, 3))
    (k : W p l e R s m args below meth c H locs cells slots Q (F0 m (pc + 3) ls (.int (S.1 7) :: rest))) : W p l e R s m args below meth c H locs cells slots Q (F0 m pc ls (.ref (a 99) :: rest)) :=
  va_get (D := D) (ci := 8) (v := .int (S.1 7)) (C := RX8) (T := TX8) (N := 58) C.1 C.2.1 C.2.2.2.2.1 hin C.2.2.2.1 C.2.2.2.2.2.1 hW.1 0 rfl rfl 7 (by decide) (C.2.2.2.2.1 _ hl) (fun _ h9 => h9) rfl hd k
theorem fp_8_7 (C : Cx p s m args c cc nL Ts own D cy) (hin : ∀ w ∈ u_ws RX8 TX8 58, w ∈ Ts) (hl : Cond.fieldLink own idx "SharedLambdaModel" "at" "I" ∈ Ts) (hW : WW D A H0 (wM cy a r S) H locs) (hd : decode cc pc = .ok (.putfield idx, 3)) (e9 : S' = sI S 7 v)
    (k : ∀ (H1 : Heap) (locs1 : List Loc), WW D A H0 (wM cy a r S') H1 locs1 → W p l e R s m args below meth c H1 locs1 cells slots Q (F0 m (pc + 3) ls rest)) : W p l e R s m args below meth c H locs cells slots Q (F0 m pc ls (.int v :: .ref (a 99) :: rest)) := by
  subst e9
  refine va_put (D := D) (ci := 8) (v := .int v) (ty := .int) (C := RX8) (T := TX8) (N := 58) C.1 C.2.1 C.2.2.2.2.1 hin tyX8 tyX8_ok nmX8 C.2.2.2.1 C.2.2.2.2.2.1 hW.1 hW.2.1 hW.2.2.1 0 rfl rfl 7 (by decide) (C.2.2.2.2.1 _ hl) (fun _ h9 => h9) rfl (by decide +kernel) rfl rfl (Nat.le_of_ble_eq_true rfl) hd (fun H1 locs1 hP hD hS => ?_)
  exact k H1 locs1 ⟨hP, hD, hS, hW.2.2.2⟩
theorem fg_8_8 (C : Cx p s m args c cc nL Ts own D cy) (hin : ∀ w ∈ u_ws RX8 TX8 58, w ∈ Ts) (hl : Cond.fieldLink own idx "SharedLambdaModel" "fault" "I" ∈ Ts) (hW : WW D A H0 (wM cy a r S) H locs) (hd : decode cc pc = .ok (.getfield idx, 3))
    (k : W p l e R s m args below meth c H locs cells slots Q (F0 m (pc + 3) ls (.int (S.1 8) :: rest))) : W p l e R s m args below meth c H locs cells slots Q (F0 m pc ls (.ref (a 99) :: rest)) :=
  va_get (D := D) (ci := 8) (v := .int (S.1 8)) (C := RX8) (T := TX8) (N := 58) C.1 C.2.1 C.2.2.2.2.1 hin C.2.2.2.1 C.2.2.2.2.2.1 hW.1 0 rfl rfl 8 (by decide) (C.2.2.2.2.1 _ hl) (fun _ h9 => h9) rfl hd k
theorem fp_8_8 (C : Cx p s m args c cc nL Ts own D cy) (hin : ∀ w ∈ u_ws RX8 TX8 58, w ∈ Ts) (hl : Cond.fieldLink own idx "SharedLambdaModel" "fault" "I" ∈ Ts) (hW : WW D A H0 (wM cy a r S) H locs) (hd : decode cc pc = .ok (.putfield idx, 3)) (e9 : S' = sI S 8 v)
    (k : ∀ (H1 : Heap) (locs1 : List Loc), WW D A H0 (wM cy a r S') H1 locs1 → W p l e R s m args below meth c H1 locs1 cells slots Q (F0 m (pc + 3) ls rest)) : W p l e R s m args below meth c H locs cells slots Q (F0 m pc ls (.int v :: .ref (a 99) :: rest)) := by
  subst e9
  refine va_put (D := D) (ci := 8) (v := .int v) (ty := .int) (C := RX8) (T := TX8) (N := 58) C.1 C.2.1 C.2.2.2.2.1 hin tyX8 tyX8_ok nmX8 C.2.2.2.1 C.2.2.2.2.2.1 hW.1 hW.2.1 hW.2.2.1 0 rfl rfl 8 (by decide) (C.2.2.2.2.1 _ hl) (fun _ h9 => h9) rfl (by decide +kernel) rfl rfl (Nat.le_of_ble_eq_true rfl) hd (fun H1 locs1 hP hD hS => ?_)
  exact k H1 locs1 ⟨hP, hD, hS, hW.2.2.2⟩
theorem fg_8_9 (C : Cx p s m args c cc nL Ts own D cy) (hin : ∀ w ∈ u_ws RX8 TX8 58, w ∈ Ts) (hl : Cond.fieldLink own idx "SharedLambdaModel" "opened" "I" ∈ Ts) (hW : WW D A H0 (wM cy a r S) H locs) (hd : decode cc pc = .ok (.getfield idx, 3))
    (k : W p l e R s m args below meth c H locs cells slots Q (F0 m (pc + 3) ls (.int (S.1 9) :: rest))) : W p l e R s m args below meth c H locs cells slots Q (F0 m pc ls (.ref (a 99) :: rest)) :=
  va_get (D := D) (ci := 8) (v := .int (S.1 9)) (C := RX8) (T := TX8) (N := 58) C.1 C.2.1 C.2.2.2.2.1 hin C.2.2.2.1 C.2.2.2.2.2.1 hW.1 0 rfl rfl 9 (by decide) (C.2.2.2.2.1 _ hl) (fun _ h9 => h9) rfl hd k
theorem fp_8_9 (C : Cx p s m args c cc nL Ts own D cy) (hin : ∀ w ∈ u_ws RX8 TX8 58, w ∈ Ts) (hl : Cond.fieldLink own idx "SharedLambdaModel" "opened" "I" ∈ Ts) (hW : WW D A H0 (wM cy a r S) H locs) (hd : decode cc pc = .ok (.putfield idx, 3)) (e9 : S' = sI S 9 v)
    (k : ∀ (H1 : Heap) (locs1 : List Loc), WW D A H0 (wM cy a r S') H1 locs1 → W p l e R s m args below meth c H1 locs1 cells slots Q (F0 m (pc + 3) ls rest)) : W p l e R s m args below meth c H locs cells slots Q (F0 m pc ls (.int v :: .ref (a 99) :: rest)) := by
  subst e9
  refine va_put (D := D) (ci := 8) (v := .int v) (ty := .int) (C := RX8) (T := TX8) (N := 58) C.1 C.2.1 C.2.2.2.2.1 hin tyX8 tyX8_ok nmX8 C.2.2.2.1 C.2.2.2.2.2.1 hW.1 hW.2.1 hW.2.2.1 0 rfl rfl 9 (by decide) (C.2.2.2.2.1 _ hl) (fun _ h9 => h9) rfl (by decide +kernel) rfl rfl (Nat.le_of_ble_eq_true rfl) hd (fun H1 locs1 hP hD hS => ?_)
  exact k H1 locs1 ⟨hP, hD, hS, hW.2.2.2⟩
theorem fg_8_10 (C : Cx p s m args c cc nL Ts own D cy) (hin : ∀ w ∈ u_ws RX8 TX8 58, w ∈ Ts) (hl : Cond.fieldLink own idx "SharedLambdaModel" "names" "I" ∈ Ts) (hW : WW D A H0 (wM cy a r S) H locs) (hd : decode cc pc = .ok (.getfield idx, 3))
    (k : W p l e R s m args below meth c H locs cells slots Q (F0 m (pc + 3) ls (.int (S.1 10) :: rest))) : W p l e R s m args below meth c H locs cells slots Q (F0 m pc ls (.ref (a 99) :: rest)) :=
  va_get (D := D) (ci := 8) (v := .int (S.1 10)) (C := RX8) (T := TX8) (N := 58) C.1 C.2.1 C.2.2.2.2.1 hin C.2.2.2.1 C.2.2.2.2.2.1 hW.1 0 rfl rfl 10 (by decide) (C.2.2.2.2.1 _ hl) (fun _ h9 => h9) rfl hd k
theorem fp_8_10 (C : Cx p s m args c cc nL Ts own D cy) (hin : ∀ w ∈ u_ws RX8 TX8 58, w ∈ Ts) (hl : Cond.fieldLink own idx "SharedLambdaModel" "names" "I" ∈ Ts) (hW : WW D A H0 (wM cy a r S) H locs) (hd : decode cc pc = .ok (.putfield idx, 3)) (e9 : S' = sI S 10 v)
    (k : ∀ (H1 : Heap) (locs1 : List Loc), WW D A H0 (wM cy a r S') H1 locs1 → W p l e R s m args below meth c H1 locs1 cells slots Q (F0 m (pc + 3) ls rest)) : W p l e R s m args below meth c H locs cells slots Q (F0 m pc ls (.int v :: .ref (a 99) :: rest)) := by
  subst e9
  refine va_put (D := D) (ci := 8) (v := .int v) (ty := .int) (C := RX8) (T := TX8) (N := 58) C.1 C.2.1 C.2.2.2.2.1 hin tyX8 tyX8_ok nmX8 C.2.2.2.1 C.2.2.2.2.2.1 hW.1 hW.2.1 hW.2.2.1 0 rfl rfl 10 (by decide) (C.2.2.2.2.1 _ hl) (fun _ h9 => h9) rfl (by decide +kernel) rfl rfl (Nat.le_of_ble_eq_true rfl) hd (fun H1 locs1 hP hD hS => ?_)
  exact k H1 locs1 ⟨hP, hD, hS, hW.2.2.2⟩
theorem fg_8_11 (C : Cx p s m args c cc nL Ts own D cy) (hin : ∀ w ∈ u_ws RX8 TX8 58, w ∈ Ts) (hl : Cond.fieldLink own idx "SharedLambdaModel" "around" "[I" ∈ Ts) (hW : WW D A H0 (wM cy a r S) H locs) (hd : decode cc pc = .ok (.getfield idx, 3))
    (k : W p l e R s m args below meth c H locs cells slots Q (F0 m (pc + 3) ls (.ref (a 11) :: rest))) : W p l e R s m args below meth c H locs cells slots Q (F0 m pc ls (.ref (a 99) :: rest)) :=
  va_get (D := D) (ci := 8) (v := .ref (a 11)) (C := RX8) (T := TX8) (N := 58) C.1 C.2.1 C.2.2.2.2.1 hin C.2.2.2.1 C.2.2.2.2.2.1 hW.1 0 rfl rfl 11 (by decide) (C.2.2.2.2.1 _ hl) (fun _ h9 => h9) rfl hd k
theorem al_8_11 (C : Cx p s m args c cc nL Ts own D cy) (hW : WW D A H0 (wM cy a r S) H locs) (h : vp_in i 81) (hd : decode cc pc = .ok (.iaload, 1))
    (k : W p l e R s m args below meth c H locs cells slots Q (F0 m (pc + 1) ls (.int (S.2.1 11 i.toNatClampNeg) :: rest))) : W p l e R s m args below meth c H locs cells slots Q (F0 m pc ls (.int i :: .ref (a 11) :: rest)) :=
  va_iald C.1 C.2.1 C.2.2.2.2.2.1 hW.1 5 0 rfl rfl h hd k
theorem as_8_11 (C : Cx p s m args c cc nL Ts own D cy) (hW : WW D A H0 (wM cy a r S) H locs) (h : vp_in i 81) (hd : decode cc pc = .ok (.iastore, 1)) (e9 : S' = sA S 11 (upd (S.2.1 11) i.toNatClampNeg x))
    (k : ∀ (H1 : Heap) (locs1 : List Loc), WW D A H0 (wM cy a r S') H1 locs1 → W p l e R s m args below meth c H1 locs1 cells slots Q (F0 m (pc + 1) ls rest)) : W p l e R s m args below meth c H locs cells slots Q (F0 m pc ls (.int x :: .int i :: .ref (a 11) :: rest)) := by
  subst e9
  exact va_iast C.1 C.2.1 C.2.2.2.2.2.1 hW.1 hW.2.1 hW.2.2.1 5 0 rfl rfl h hd (fun H1 locs1 hP hD hS => k H1 locs1 ⟨hP, hD, hS, hW.2.2.2⟩)
theorem an_8_11 (C : Cx p s m args c cc nL Ts own D cy) (hW : WW D A H0 (wM cy a r S) H locs) (hd : decode cc pc = .ok (.arraylength, 1))
    (k : W p l e R s m args below meth c H locs cells slots Q (F0 m (pc + 1) ls (.int (Int32.ofNat 81) :: rest))) : W p l e R s m args below meth c H locs cells slots Q (F0 m pc ls (.ref (a 11) :: rest)) :=
  va_alen C.1 C.2.1 C.2.2.2.2.2.1 hW.1 5 0 rfl rfl rfl hd k
theorem fg_8_12 (C : Cx p s m args c cc nL Ts own D cy) (hin : ∀ w ∈ u_ws RX8 TX8 58, w ∈ Ts) (hl : Cond.fieldLink own idx "SharedLambdaModel" "aroundNames" "[I" ∈ Ts) (hW : WW D A H0 (wM cy a r S) H locs) (hd : decode cc pc = .ok (.getfield idx, 3))
    (k : W p l e R s m args below meth c H locs cells slots Q (F0 m (pc + 3) ls (.ref (a 12) :: rest))) : W p l e R s m args below meth c H locs cells slots Q (F0 m pc ls (.ref (a 99) :: rest)) :=
  va_get (D := D) (ci := 8) (v := .ref (a 12)) (C := RX8) (T := TX8) (N := 58) C.1 C.2.1 C.2.2.2.2.1 hin C.2.2.2.1 C.2.2.2.2.2.1 hW.1 0 rfl rfl 12 (by decide) (C.2.2.2.2.1 _ hl) (fun _ h9 => h9) rfl hd k
theorem al_8_12 (C : Cx p s m args c cc nL Ts own D cy) (hW : WW D A H0 (wM cy a r S) H locs) (h : vp_in i 81) (hd : decode cc pc = .ok (.iaload, 1))
    (k : W p l e R s m args below meth c H locs cells slots Q (F0 m (pc + 1) ls (.int (S.2.1 12 i.toNatClampNeg) :: rest))) : W p l e R s m args below meth c H locs cells slots Q (F0 m pc ls (.int i :: .ref (a 12) :: rest)) :=
  va_iald C.1 C.2.1 C.2.2.2.2.2.1 hW.1 6 0 rfl rfl h hd k
theorem as_8_12 (C : Cx p s m args c cc nL Ts own D cy) (hW : WW D A H0 (wM cy a r S) H locs) (h : vp_in i 81) (hd : decode cc pc = .ok (.iastore, 1)) (e9 : S' = sA S 12 (upd (S.2.1 12) i.toNatClampNeg x))
    (k : ∀ (H1 : Heap) (locs1 : List Loc), WW D A H0 (wM cy a r S') H1 locs1 → W p l e R s m args below meth c H1 locs1 cells slots Q (F0 m (pc + 1) ls rest)) : W p l e R s m args below meth c H locs cells slots Q (F0 m pc ls (.int x :: .int i :: .ref (a 12) :: rest)) := by
  subst e9
  exact va_iast C.1 C.2.1 C.2.2.2.2.2.1 hW.1 hW.2.1 hW.2.2.1 6 0 rfl rfl h hd (fun H1 locs1 hP hD hS => k H1 locs1 ⟨hP, hD, hS, hW.2.2.2⟩)
theorem an_8_12 (C : Cx p s m args c cc nL Ts own D cy) (hW : WW D A H0 (wM cy a r S) H locs) (hd : decode cc pc = .ok (.arraylength, 1))
    (k : W p l e R s m args below meth c H locs cells slots Q (F0 m (pc + 1) ls (.int (Int32.ofNat 81) :: rest))) : W p l e R s m args below meth c H locs cells slots Q (F0 m pc ls (.ref (a 12) :: rest)) :=
  va_alen C.1 C.2.1 C.2.2.2.2.2.1 hW.1 6 0 rfl rfl rfl hd k
theorem fg_8_13 (C : Cx p s m args c cc nL Ts own D cy) (hin : ∀ w ∈ u_ws RX8 TX8 58, w ∈ Ts) (hl : Cond.fieldLink own idx "SharedLambdaModel" "deep" "I" ∈ Ts) (hW : WW D A H0 (wM cy a r S) H locs) (hd : decode cc pc = .ok (.getfield idx, 3))
    (k : W p l e R s m args below meth c H locs cells slots Q (F0 m (pc + 3) ls (.int (S.1 13) :: rest))) : W p l e R s m args below meth c H locs cells slots Q (F0 m pc ls (.ref (a 99) :: rest)) :=
  va_get (D := D) (ci := 8) (v := .int (S.1 13)) (C := RX8) (T := TX8) (N := 58) C.1 C.2.1 C.2.2.2.2.1 hin C.2.2.2.1 C.2.2.2.2.2.1 hW.1 0 rfl rfl 13 (by decide) (C.2.2.2.2.1 _ hl) (fun _ h9 => h9) rfl hd k
theorem fp_8_13 (C : Cx p s m args c cc nL Ts own D cy) (hin : ∀ w ∈ u_ws RX8 TX8 58, w ∈ Ts) (hl : Cond.fieldLink own idx "SharedLambdaModel" "deep" "I" ∈ Ts) (hW : WW D A H0 (wM cy a r S) H locs) (hd : decode cc pc = .ok (.putfield idx, 3)) (e9 : S' = sI S 13 v)
    (k : ∀ (H1 : Heap) (locs1 : List Loc), WW D A H0 (wM cy a r S') H1 locs1 → W p l e R s m args below meth c H1 locs1 cells slots Q (F0 m (pc + 3) ls rest)) : W p l e R s m args below meth c H locs cells slots Q (F0 m pc ls (.int v :: .ref (a 99) :: rest)) := by
  subst e9
  refine va_put (D := D) (ci := 8) (v := .int v) (ty := .int) (C := RX8) (T := TX8) (N := 58) C.1 C.2.1 C.2.2.2.2.1 hin tyX8 tyX8_ok nmX8 C.2.2.2.1 C.2.2.2.2.2.1 hW.1 hW.2.1 hW.2.2.1 0 rfl rfl 13 (by decide) (C.2.2.2.2.1 _ hl) (fun _ h9 => h9) rfl (by decide +kernel) rfl rfl (Nat.le_of_ble_eq_true rfl) hd (fun H1 locs1 hP hD hS => ?_)
  exact k H1 locs1 ⟨hP, hD, hS, hW.2.2.2⟩
theorem fg_8_14 (C : Cx p s m args c cc nL Ts own D cy) (hin : ∀ w ∈ u_ws RX8 TX8 58, w ∈ Ts) (hl : Cond.fieldLink own idx "SharedLambdaModel" "binders" "I" ∈ Ts) (hW : WW D A H0 (wM cy a r S) H locs) (hd : decode cc pc = .ok (.getfield idx, 3))
    (k : W p l e R s m args below meth c H locs cells slots Q (F0 m (pc + 3) ls (.int (S.1 14) :: rest))) : W p l e R s m args below meth c H locs cells slots Q (F0 m pc ls (.ref (a 99) :: rest)) :=
  va_get (D := D) (ci := 8) (v := .int (S.1 14)) (C := RX8) (T := TX8) (N := 58) C.1 C.2.1 C.2.2.2.2.1 hin C.2.2.2.1 C.2.2.2.2.2.1 hW.1 0 rfl rfl 14 (by decide) (C.2.2.2.2.1 _ hl) (fun _ h9 => h9) rfl hd k
theorem fp_8_14 (C : Cx p s m args c cc nL Ts own D cy) (hin : ∀ w ∈ u_ws RX8 TX8 58, w ∈ Ts) (hl : Cond.fieldLink own idx "SharedLambdaModel" "binders" "I" ∈ Ts) (hW : WW D A H0 (wM cy a r S) H locs) (hd : decode cc pc = .ok (.putfield idx, 3)) (e9 : S' = sI S 14 v)
    (k : ∀ (H1 : Heap) (locs1 : List Loc), WW D A H0 (wM cy a r S') H1 locs1 → W p l e R s m args below meth c H1 locs1 cells slots Q (F0 m (pc + 3) ls rest)) : W p l e R s m args below meth c H locs cells slots Q (F0 m pc ls (.int v :: .ref (a 99) :: rest)) := by
  subst e9
  refine va_put (D := D) (ci := 8) (v := .int v) (ty := .int) (C := RX8) (T := TX8) (N := 58) C.1 C.2.1 C.2.2.2.2.1 hin tyX8 tyX8_ok nmX8 C.2.2.2.1 C.2.2.2.2.2.1 hW.1 hW.2.1 hW.2.2.1 0 rfl rfl 14 (by decide) (C.2.2.2.2.1 _ hl) (fun _ h9 => h9) rfl (by decide +kernel) rfl rfl (Nat.le_of_ble_eq_true rfl) hd (fun H1 locs1 hP hD hS => ?_)
  exact k H1 locs1 ⟨hP, hD, hS, hW.2.2.2⟩
theorem fg_8_15 (C : Cx p s m args c cc nL Ts own D cy) (hin : ∀ w ∈ u_ws RX8 TX8 58, w ∈ Ts) (hl : Cond.fieldLink own idx "SharedLambdaModel" "openSort" "[I" ∈ Ts) (hW : WW D A H0 (wM cy a r S) H locs) (hd : decode cc pc = .ok (.getfield idx, 3))
    (k : W p l e R s m args below meth c H locs cells slots Q (F0 m (pc + 3) ls (.ref (a 15) :: rest))) : W p l e R s m args below meth c H locs cells slots Q (F0 m pc ls (.ref (a 99) :: rest)) :=
  va_get (D := D) (ci := 8) (v := .ref (a 15)) (C := RX8) (T := TX8) (N := 58) C.1 C.2.1 C.2.2.2.2.1 hin C.2.2.2.1 C.2.2.2.2.2.1 hW.1 0 rfl rfl 15 (by decide) (C.2.2.2.2.1 _ hl) (fun _ h9 => h9) rfl hd k
theorem al_8_15 (C : Cx p s m args c cc nL Ts own D cy) (hW : WW D A H0 (wM cy a r S) H locs) (h : vp_in i 41) (hd : decode cc pc = .ok (.iaload, 1))
    (k : W p l e R s m args below meth c H locs cells slots Q (F0 m (pc + 1) ls (.int (S.2.1 15 i.toNatClampNeg) :: rest))) : W p l e R s m args below meth c H locs cells slots Q (F0 m pc ls (.int i :: .ref (a 15) :: rest)) :=
  va_iald C.1 C.2.1 C.2.2.2.2.2.1 hW.1 7 0 rfl rfl h hd k
theorem as_8_15 (C : Cx p s m args c cc nL Ts own D cy) (hW : WW D A H0 (wM cy a r S) H locs) (h : vp_in i 41) (hd : decode cc pc = .ok (.iastore, 1)) (e9 : S' = sA S 15 (upd (S.2.1 15) i.toNatClampNeg x))
    (k : ∀ (H1 : Heap) (locs1 : List Loc), WW D A H0 (wM cy a r S') H1 locs1 → W p l e R s m args below meth c H1 locs1 cells slots Q (F0 m (pc + 1) ls rest)) : W p l e R s m args below meth c H locs cells slots Q (F0 m pc ls (.int x :: .int i :: .ref (a 15) :: rest)) := by
  subst e9
  exact va_iast C.1 C.2.1 C.2.2.2.2.2.1 hW.1 hW.2.1 hW.2.2.1 7 0 rfl rfl h hd (fun H1 locs1 hP hD hS => k H1 locs1 ⟨hP, hD, hS, hW.2.2.2⟩)
theorem an_8_15 (C : Cx p s m args c cc nL Ts own D cy) (hW : WW D A H0 (wM cy a r S) H locs) (hd : decode cc pc = .ok (.arraylength, 1))
    (k : W p l e R s m args below meth c H locs cells slots Q (F0 m (pc + 1) ls (.int (Int32.ofNat 41) :: rest))) : W p l e R s m args below meth c H locs cells slots Q (F0 m pc ls (.ref (a 15) :: rest)) :=
  va_alen C.1 C.2.1 C.2.2.2.2.2.1 hW.1 7 0 rfl rfl rfl hd k
theorem fg_8_16 (C : Cx p s m args c cc nL Ts own D cy) (hin : ∀ w ∈ u_ws RX8 TX8 58, w ∈ Ts) (hl : Cond.fieldLink own idx "SharedLambdaModel" "openTree" "[I" ∈ Ts) (hW : WW D A H0 (wM cy a r S) H locs) (hd : decode cc pc = .ok (.getfield idx, 3))
    (k : W p l e R s m args below meth c H locs cells slots Q (F0 m (pc + 3) ls (.ref (a 16) :: rest))) : W p l e R s m args below meth c H locs cells slots Q (F0 m pc ls (.ref (a 99) :: rest)) :=
  va_get (D := D) (ci := 8) (v := .ref (a 16)) (C := RX8) (T := TX8) (N := 58) C.1 C.2.1 C.2.2.2.2.1 hin C.2.2.2.1 C.2.2.2.2.2.1 hW.1 0 rfl rfl 16 (by decide) (C.2.2.2.2.1 _ hl) (fun _ h9 => h9) rfl hd k
theorem al_8_16 (C : Cx p s m args c cc nL Ts own D cy) (hW : WW D A H0 (wM cy a r S) H locs) (h : vp_in i 41) (hd : decode cc pc = .ok (.iaload, 1))
    (k : W p l e R s m args below meth c H locs cells slots Q (F0 m (pc + 1) ls (.int (S.2.1 16 i.toNatClampNeg) :: rest))) : W p l e R s m args below meth c H locs cells slots Q (F0 m pc ls (.int i :: .ref (a 16) :: rest)) :=
  va_iald C.1 C.2.1 C.2.2.2.2.2.1 hW.1 8 0 rfl rfl h hd k
theorem as_8_16 (C : Cx p s m args c cc nL Ts own D cy) (hW : WW D A H0 (wM cy a r S) H locs) (h : vp_in i 41) (hd : decode cc pc = .ok (.iastore, 1)) (e9 : S' = sA S 16 (upd (S.2.1 16) i.toNatClampNeg x))
    (k : ∀ (H1 : Heap) (locs1 : List Loc), WW D A H0 (wM cy a r S') H1 locs1 → W p l e R s m args below meth c H1 locs1 cells slots Q (F0 m (pc + 1) ls rest)) : W p l e R s m args below meth c H locs cells slots Q (F0 m pc ls (.int x :: .int i :: .ref (a 16) :: rest)) := by
  subst e9
  exact va_iast C.1 C.2.1 C.2.2.2.2.2.1 hW.1 hW.2.1 hW.2.2.1 8 0 rfl rfl h hd (fun H1 locs1 hP hD hS => k H1 locs1 ⟨hP, hD, hS, hW.2.2.2⟩)
theorem an_8_16 (C : Cx p s m args c cc nL Ts own D cy) (hW : WW D A H0 (wM cy a r S) H locs) (hd : decode cc pc = .ok (.arraylength, 1))
    (k : W p l e R s m args below meth c H locs cells slots Q (F0 m (pc + 1) ls (.int (Int32.ofNat 41) :: rest))) : W p l e R s m args below meth c H locs cells slots Q (F0 m pc ls (.ref (a 16) :: rest)) :=
  va_alen C.1 C.2.1 C.2.2.2.2.2.1 hW.1 8 0 rfl rfl rfl hd k
theorem fg_8_17 (C : Cx p s m args c cc nL Ts own D cy) (hin : ∀ w ∈ u_ws RX8 TX8 58, w ∈ Ts) (hl : Cond.fieldLink own idx "SharedLambdaModel" "kinds" "[I" ∈ Ts) (hW : WW D A H0 (wM cy a r S) H locs) (hd : decode cc pc = .ok (.getfield idx, 3))
    (k : W p l e R s m args below meth c H locs cells slots Q (F0 m (pc + 3) ls (.ref (a 17) :: rest))) : W p l e R s m args below meth c H locs cells slots Q (F0 m pc ls (.ref (a 99) :: rest)) :=
  va_get (D := D) (ci := 8) (v := .ref (a 17)) (C := RX8) (T := TX8) (N := 58) C.1 C.2.1 C.2.2.2.2.1 hin C.2.2.2.1 C.2.2.2.2.2.1 hW.1 0 rfl rfl 17 (by decide) (C.2.2.2.2.1 _ hl) (fun _ h9 => h9) rfl hd k
theorem al_8_17 (C : Cx p s m args c cc nL Ts own D cy) (hW : WW D A H0 (wM cy a r S) H locs) (h : vp_in i 3010) (hd : decode cc pc = .ok (.iaload, 1))
    (k : W p l e R s m args below meth c H locs cells slots Q (F0 m (pc + 1) ls (.int (S.2.1 17 i.toNatClampNeg) :: rest))) : W p l e R s m args below meth c H locs cells slots Q (F0 m pc ls (.int i :: .ref (a 17) :: rest)) :=
  va_iald C.1 C.2.1 C.2.2.2.2.2.1 hW.1 9 0 rfl rfl h hd k
theorem as_8_17 (C : Cx p s m args c cc nL Ts own D cy) (hW : WW D A H0 (wM cy a r S) H locs) (h : vp_in i 3010) (hd : decode cc pc = .ok (.iastore, 1)) (e9 : S' = sA S 17 (upd (S.2.1 17) i.toNatClampNeg x))
    (k : ∀ (H1 : Heap) (locs1 : List Loc), WW D A H0 (wM cy a r S') H1 locs1 → W p l e R s m args below meth c H1 locs1 cells slots Q (F0 m (pc + 1) ls rest)) : W p l e R s m args below meth c H locs cells slots Q (F0 m pc ls (.int x :: .int i :: .ref (a 17) :: rest)) := by
  subst e9
  exact va_iast C.1 C.2.1 C.2.2.2.2.2.1 hW.1 hW.2.1 hW.2.2.1 9 0 rfl rfl h hd (fun H1 locs1 hP hD hS => k H1 locs1 ⟨hP, hD, hS, hW.2.2.2⟩)
theorem an_8_17 (C : Cx p s m args c cc nL Ts own D cy) (hW : WW D A H0 (wM cy a r S) H locs) (hd : decode cc pc = .ok (.arraylength, 1))
    (k : W p l e R s m args below meth c H locs cells slots Q (F0 m (pc + 1) ls (.int (Int32.ofNat 3010) :: rest))) : W p l e R s m args below meth c H locs cells slots Q (F0 m pc ls (.ref (a 17) :: rest)) :=
  va_alen C.1 C.2.1 C.2.2.2.2.2.1 hW.1 9 0 rfl rfl rfl hd k
theorem fg_8_18 (C : Cx p s m args c cc nL Ts own D cy) (hin : ∀ w ∈ u_ws RX8 TX8 58, w ∈ Ts) (hl : Cond.fieldLink own idx "SharedLambdaModel" "indexes" "[I" ∈ Ts) (hW : WW D A H0 (wM cy a r S) H locs) (hd : decode cc pc = .ok (.getfield idx, 3))
    (k : W p l e R s m args below meth c H locs cells slots Q (F0 m (pc + 3) ls (.ref (a 18) :: rest))) : W p l e R s m args below meth c H locs cells slots Q (F0 m pc ls (.ref (a 99) :: rest)) :=
  va_get (D := D) (ci := 8) (v := .ref (a 18)) (C := RX8) (T := TX8) (N := 58) C.1 C.2.1 C.2.2.2.2.1 hin C.2.2.2.1 C.2.2.2.2.2.1 hW.1 0 rfl rfl 18 (by decide) (C.2.2.2.2.1 _ hl) (fun _ h9 => h9) rfl hd k
theorem al_8_18 (C : Cx p s m args c cc nL Ts own D cy) (hW : WW D A H0 (wM cy a r S) H locs) (h : vp_in i 3010) (hd : decode cc pc = .ok (.iaload, 1))
    (k : W p l e R s m args below meth c H locs cells slots Q (F0 m (pc + 1) ls (.int (S.2.1 18 i.toNatClampNeg) :: rest))) : W p l e R s m args below meth c H locs cells slots Q (F0 m pc ls (.int i :: .ref (a 18) :: rest)) :=
  va_iald C.1 C.2.1 C.2.2.2.2.2.1 hW.1 10 0 rfl rfl h hd k
theorem as_8_18 (C : Cx p s m args c cc nL Ts own D cy) (hW : WW D A H0 (wM cy a r S) H locs) (h : vp_in i 3010) (hd : decode cc pc = .ok (.iastore, 1)) (e9 : S' = sA S 18 (upd (S.2.1 18) i.toNatClampNeg x))
    (k : ∀ (H1 : Heap) (locs1 : List Loc), WW D A H0 (wM cy a r S') H1 locs1 → W p l e R s m args below meth c H1 locs1 cells slots Q (F0 m (pc + 1) ls rest)) : W p l e R s m args below meth c H locs cells slots Q (F0 m pc ls (.int x :: .int i :: .ref (a 18) :: rest)) := by
  subst e9
  exact va_iast C.1 C.2.1 C.2.2.2.2.2.1 hW.1 hW.2.1 hW.2.2.1 10 0 rfl rfl h hd (fun H1 locs1 hP hD hS => k H1 locs1 ⟨hP, hD, hS, hW.2.2.2⟩)
theorem an_8_18 (C : Cx p s m args c cc nL Ts own D cy) (hW : WW D A H0 (wM cy a r S) H locs) (hd : decode cc pc = .ok (.arraylength, 1))
    (k : W p l e R s m args below meth c H locs cells slots Q (F0 m (pc + 1) ls (.int (Int32.ofNat 3010) :: rest))) : W p l e R s m args below meth c H locs cells slots Q (F0 m pc ls (.ref (a 18) :: rest)) :=
  va_alen C.1 C.2.1 C.2.2.2.2.2.1 hW.1 10 0 rfl rfl rfl hd k
theorem fg_8_19 (C : Cx p s m args c cc nL Ts own D cy) (hin : ∀ w ∈ u_ws RX8 TX8 58, w ∈ Ts) (hl : Cond.fieldLink own idx "SharedLambdaModel" "wires" "[I" ∈ Ts) (hW : WW D A H0 (wM cy a r S) H locs) (hd : decode cc pc = .ok (.getfield idx, 3))
    (k : W p l e R s m args below meth c H locs cells slots Q (F0 m (pc + 3) ls (.ref (a 19) :: rest))) : W p l e R s m args below meth c H locs cells slots Q (F0 m pc ls (.ref (a 99) :: rest)) :=
  va_get (D := D) (ci := 8) (v := .ref (a 19)) (C := RX8) (T := TX8) (N := 58) C.1 C.2.1 C.2.2.2.2.1 hin C.2.2.2.1 C.2.2.2.2.2.1 hW.1 0 rfl rfl 19 (by decide) (C.2.2.2.2.1 _ hl) (fun _ h9 => h9) rfl hd k
theorem al_8_19 (C : Cx p s m args c cc nL Ts own D cy) (hW : WW D A H0 (wM cy a r S) H locs) (h : vp_in i 9030) (hd : decode cc pc = .ok (.iaload, 1))
    (k : W p l e R s m args below meth c H locs cells slots Q (F0 m (pc + 1) ls (.int (S.2.1 19 i.toNatClampNeg) :: rest))) : W p l e R s m args below meth c H locs cells slots Q (F0 m pc ls (.int i :: .ref (a 19) :: rest)) :=
  va_iald C.1 C.2.1 C.2.2.2.2.2.1 hW.1 11 0 rfl rfl h hd k
theorem as_8_19 (C : Cx p s m args c cc nL Ts own D cy) (hW : WW D A H0 (wM cy a r S) H locs) (h : vp_in i 9030) (hd : decode cc pc = .ok (.iastore, 1)) (e9 : S' = sA S 19 (upd (S.2.1 19) i.toNatClampNeg x))
    (k : ∀ (H1 : Heap) (locs1 : List Loc), WW D A H0 (wM cy a r S') H1 locs1 → W p l e R s m args below meth c H1 locs1 cells slots Q (F0 m (pc + 1) ls rest)) : W p l e R s m args below meth c H locs cells slots Q (F0 m pc ls (.int x :: .int i :: .ref (a 19) :: rest)) := by
  subst e9
  exact va_iast C.1 C.2.1 C.2.2.2.2.2.1 hW.1 hW.2.1 hW.2.2.1 11 0 rfl rfl h hd (fun H1 locs1 hP hD hS => k H1 locs1 ⟨hP, hD, hS, hW.2.2.2⟩)
theorem an_8_19 (C : Cx p s m args c cc nL Ts own D cy) (hW : WW D A H0 (wM cy a r S) H locs) (hd : decode cc pc = .ok (.arraylength, 1))
    (k : W p l e R s m args below meth c H locs cells slots Q (F0 m (pc + 1) ls (.int (Int32.ofNat 9030) :: rest))) : W p l e R s m args below meth c H locs cells slots Q (F0 m pc ls (.ref (a 19) :: rest)) :=
  va_alen C.1 C.2.1 C.2.2.2.2.2.1 hW.1 11 0 rfl rfl rfl hd k
theorem fg_8_20 (C : Cx p s m args c cc nL Ts own D cy) (hin : ∀ w ∈ u_ws RX8 TX8 58, w ∈ Ts) (hl : Cond.fieldLink own idx "SharedLambdaModel" "spare" "[I" ∈ Ts) (hW : WW D A H0 (wM cy a r S) H locs) (hd : decode cc pc = .ok (.getfield idx, 3))
    (k : W p l e R s m args below meth c H locs cells slots Q (F0 m (pc + 3) ls (.ref (a 20) :: rest))) : W p l e R s m args below meth c H locs cells slots Q (F0 m pc ls (.ref (a 99) :: rest)) :=
  va_get (D := D) (ci := 8) (v := .ref (a 20)) (C := RX8) (T := TX8) (N := 58) C.1 C.2.1 C.2.2.2.2.1 hin C.2.2.2.1 C.2.2.2.2.2.1 hW.1 0 rfl rfl 20 (by decide) (C.2.2.2.2.1 _ hl) (fun _ h9 => h9) rfl hd k
theorem al_8_20 (C : Cx p s m args c cc nL Ts own D cy) (hW : WW D A H0 (wM cy a r S) H locs) (h : vp_in i 3010) (hd : decode cc pc = .ok (.iaload, 1))
    (k : W p l e R s m args below meth c H locs cells slots Q (F0 m (pc + 1) ls (.int (S.2.1 20 i.toNatClampNeg) :: rest))) : W p l e R s m args below meth c H locs cells slots Q (F0 m pc ls (.int i :: .ref (a 20) :: rest)) :=
  va_iald C.1 C.2.1 C.2.2.2.2.2.1 hW.1 12 0 rfl rfl h hd k
theorem as_8_20 (C : Cx p s m args c cc nL Ts own D cy) (hW : WW D A H0 (wM cy a r S) H locs) (h : vp_in i 3010) (hd : decode cc pc = .ok (.iastore, 1)) (e9 : S' = sA S 20 (upd (S.2.1 20) i.toNatClampNeg x))
    (k : ∀ (H1 : Heap) (locs1 : List Loc), WW D A H0 (wM cy a r S') H1 locs1 → W p l e R s m args below meth c H1 locs1 cells slots Q (F0 m (pc + 1) ls rest)) : W p l e R s m args below meth c H locs cells slots Q (F0 m pc ls (.int x :: .int i :: .ref (a 20) :: rest)) := by
  subst e9
  exact va_iast C.1 C.2.1 C.2.2.2.2.2.1 hW.1 hW.2.1 hW.2.2.1 12 0 rfl rfl h hd (fun H1 locs1 hP hD hS => k H1 locs1 ⟨hP, hD, hS, hW.2.2.2⟩)
theorem an_8_20 (C : Cx p s m args c cc nL Ts own D cy) (hW : WW D A H0 (wM cy a r S) H locs) (hd : decode cc pc = .ok (.arraylength, 1))
    (k : W p l e R s m args below meth c H locs cells slots Q (F0 m (pc + 1) ls (.int (Int32.ofNat 3010) :: rest))) : W p l e R s m args below meth c H locs cells slots Q (F0 m pc ls (.ref (a 20) :: rest)) :=
  va_alen C.1 C.2.1 C.2.2.2.2.2.1 hW.1 12 0 rfl rfl rfl hd k
theorem fg_8_21 (C : Cx p s m args c cc nL Ts own D cy) (hin : ∀ w ∈ u_ws RX8 TX8 58, w ∈ Ts) (hl : Cond.fieldLink own idx "SharedLambdaModel" "spares" "I" ∈ Ts) (hW : WW D A H0 (wM cy a r S) H locs) (hd : decode cc pc = .ok (.getfield idx, 3))
    (k : W p l e R s m args below meth c H locs cells slots Q (F0 m (pc + 3) ls (.int (S.1 21) :: rest))) : W p l e R s m args below meth c H locs cells slots Q (F0 m pc ls (.ref (a 99) :: rest)) :=
  va_get (D := D) (ci := 8) (v := .int (S.1 21)) (C := RX8) (T := TX8) (N := 58) C.1 C.2.1 C.2.2.2.2.1 hin C.2.2.2.1 C.2.2.2.2.2.1 hW.1 0 rfl rfl 21 (by decide) (C.2.2.2.2.1 _ hl) (fun _ h9 => h9) rfl hd k
theorem fp_8_21 (C : Cx p s m args c cc nL Ts own D cy) (hin : ∀ w ∈ u_ws RX8 TX8 58, w ∈ Ts) (hl : Cond.fieldLink own idx "SharedLambdaModel" "spares" "I" ∈ Ts) (hW : WW D A H0 (wM cy a r S) H locs) (hd : decode cc pc = .ok (.putfield idx, 3)) (e9 : S' = sI S 21 v)
    (k : ∀ (H1 : Heap) (locs1 : List Loc), WW D A H0 (wM cy a r S') H1 locs1 → W p l e R s m args below meth c H1 locs1 cells slots Q (F0 m (pc + 3) ls rest)) : W p l e R s m args below meth c H locs cells slots Q (F0 m pc ls (.int v :: .ref (a 99) :: rest)) := by
  subst e9
  refine va_put (D := D) (ci := 8) (v := .int v) (ty := .int) (C := RX8) (T := TX8) (N := 58) C.1 C.2.1 C.2.2.2.2.1 hin tyX8 tyX8_ok nmX8 C.2.2.2.1 C.2.2.2.2.2.1 hW.1 hW.2.1 hW.2.2.1 0 rfl rfl 21 (by decide) (C.2.2.2.2.1 _ hl) (fun _ h9 => h9) rfl (by decide +kernel) rfl rfl (Nat.le_of_ble_eq_true rfl) hd (fun H1 locs1 hP hD hS => ?_)
  exact k H1 locs1 ⟨hP, hD, hS, hW.2.2.2⟩
theorem fg_8_22 (C : Cx p s m args c cc nL Ts own D cy) (hin : ∀ w ∈ u_ws RX8 TX8 58, w ∈ Ts) (hl : Cond.fieldLink own idx "SharedLambdaModel" "nodes" "I" ∈ Ts) (hW : WW D A H0 (wM cy a r S) H locs) (hd : decode cc pc = .ok (.getfield idx, 3))
    (k : W p l e R s m args below meth c H locs cells slots Q (F0 m (pc + 3) ls (.int (S.1 22) :: rest))) : W p l e R s m args below meth c H locs cells slots Q (F0 m pc ls (.ref (a 99) :: rest)) :=
  va_get (D := D) (ci := 8) (v := .int (S.1 22)) (C := RX8) (T := TX8) (N := 58) C.1 C.2.1 C.2.2.2.2.1 hin C.2.2.2.1 C.2.2.2.2.2.1 hW.1 0 rfl rfl 22 (by decide) (C.2.2.2.2.1 _ hl) (fun _ h9 => h9) rfl hd k
theorem fp_8_22 (C : Cx p s m args c cc nL Ts own D cy) (hin : ∀ w ∈ u_ws RX8 TX8 58, w ∈ Ts) (hl : Cond.fieldLink own idx "SharedLambdaModel" "nodes" "I" ∈ Ts) (hW : WW D A H0 (wM cy a r S) H locs) (hd : decode cc pc = .ok (.putfield idx, 3)) (e9 : S' = sI S 22 v)
    (k : ∀ (H1 : Heap) (locs1 : List Loc), WW D A H0 (wM cy a r S') H1 locs1 → W p l e R s m args below meth c H1 locs1 cells slots Q (F0 m (pc + 3) ls rest)) : W p l e R s m args below meth c H locs cells slots Q (F0 m pc ls (.int v :: .ref (a 99) :: rest)) := by
  subst e9
  refine va_put (D := D) (ci := 8) (v := .int v) (ty := .int) (C := RX8) (T := TX8) (N := 58) C.1 C.2.1 C.2.2.2.2.1 hin tyX8 tyX8_ok nmX8 C.2.2.2.1 C.2.2.2.2.2.1 hW.1 hW.2.1 hW.2.2.1 0 rfl rfl 22 (by decide) (C.2.2.2.2.1 _ hl) (fun _ h9 => h9) rfl (by decide +kernel) rfl rfl (Nat.le_of_ble_eq_true rfl) hd (fun H1 locs1 hP hD hS => ?_)
  exact k H1 locs1 ⟨hP, hD, hS, hW.2.2.2⟩
theorem fg_8_23 (C : Cx p s m args c cc nL Ts own D cy) (hin : ∀ w ∈ u_ws RX8 TX8 58, w ∈ Ts) (hl : Cond.fieldLink own idx "SharedLambdaModel" "betas" "I" ∈ Ts) (hW : WW D A H0 (wM cy a r S) H locs) (hd : decode cc pc = .ok (.getfield idx, 3))
    (k : W p l e R s m args below meth c H locs cells slots Q (F0 m (pc + 3) ls (.int (S.1 23) :: rest))) : W p l e R s m args below meth c H locs cells slots Q (F0 m pc ls (.ref (a 99) :: rest)) :=
  va_get (D := D) (ci := 8) (v := .int (S.1 23)) (C := RX8) (T := TX8) (N := 58) C.1 C.2.1 C.2.2.2.2.1 hin C.2.2.2.1 C.2.2.2.2.2.1 hW.1 0 rfl rfl 23 (by decide) (C.2.2.2.2.1 _ hl) (fun _ h9 => h9) rfl hd k
theorem fp_8_23 (C : Cx p s m args c cc nL Ts own D cy) (hin : ∀ w ∈ u_ws RX8 TX8 58, w ∈ Ts) (hl : Cond.fieldLink own idx "SharedLambdaModel" "betas" "I" ∈ Ts) (hW : WW D A H0 (wM cy a r S) H locs) (hd : decode cc pc = .ok (.putfield idx, 3)) (e9 : S' = sI S 23 v)
    (k : ∀ (H1 : Heap) (locs1 : List Loc), WW D A H0 (wM cy a r S') H1 locs1 → W p l e R s m args below meth c H1 locs1 cells slots Q (F0 m (pc + 3) ls rest)) : W p l e R s m args below meth c H locs cells slots Q (F0 m pc ls (.int v :: .ref (a 99) :: rest)) := by
  subst e9
  refine va_put (D := D) (ci := 8) (v := .int v) (ty := .int) (C := RX8) (T := TX8) (N := 58) C.1 C.2.1 C.2.2.2.2.1 hin tyX8 tyX8_ok nmX8 C.2.2.2.1 C.2.2.2.2.2.1 hW.1 hW.2.1 hW.2.2.1 0 rfl rfl 23 (by decide) (C.2.2.2.2.1 _ hl) (fun _ h9 => h9) rfl (by decide +kernel) rfl rfl (Nat.le_of_ble_eq_true rfl) hd (fun H1 locs1 hP hD hS => ?_)
  exact k H1 locs1 ⟨hP, hD, hS, hW.2.2.2⟩
theorem fg_8_24 (C : Cx p s m args c cc nL Ts own D cy) (hin : ∀ w ∈ u_ws RX8 TX8 58, w ∈ Ts) (hl : Cond.fieldLink own idx "SharedLambdaModel" "annihilations" "I" ∈ Ts) (hW : WW D A H0 (wM cy a r S) H locs) (hd : decode cc pc = .ok (.getfield idx, 3))
    (k : W p l e R s m args below meth c H locs cells slots Q (F0 m (pc + 3) ls (.int (S.1 24) :: rest))) : W p l e R s m args below meth c H locs cells slots Q (F0 m pc ls (.ref (a 99) :: rest)) :=
  va_get (D := D) (ci := 8) (v := .int (S.1 24)) (C := RX8) (T := TX8) (N := 58) C.1 C.2.1 C.2.2.2.2.1 hin C.2.2.2.1 C.2.2.2.2.2.1 hW.1 0 rfl rfl 24 (by decide) (C.2.2.2.2.1 _ hl) (fun _ h9 => h9) rfl hd k
theorem fp_8_24 (C : Cx p s m args c cc nL Ts own D cy) (hin : ∀ w ∈ u_ws RX8 TX8 58, w ∈ Ts) (hl : Cond.fieldLink own idx "SharedLambdaModel" "annihilations" "I" ∈ Ts) (hW : WW D A H0 (wM cy a r S) H locs) (hd : decode cc pc = .ok (.putfield idx, 3)) (e9 : S' = sI S 24 v)
    (k : ∀ (H1 : Heap) (locs1 : List Loc), WW D A H0 (wM cy a r S') H1 locs1 → W p l e R s m args below meth c H1 locs1 cells slots Q (F0 m (pc + 3) ls rest)) : W p l e R s m args below meth c H locs cells slots Q (F0 m pc ls (.int v :: .ref (a 99) :: rest)) := by
  subst e9
  refine va_put (D := D) (ci := 8) (v := .int v) (ty := .int) (C := RX8) (T := TX8) (N := 58) C.1 C.2.1 C.2.2.2.2.1 hin tyX8 tyX8_ok nmX8 C.2.2.2.1 C.2.2.2.2.2.1 hW.1 hW.2.1 hW.2.2.1 0 rfl rfl 24 (by decide) (C.2.2.2.2.1 _ hl) (fun _ h9 => h9) rfl (by decide +kernel) rfl rfl (Nat.le_of_ble_eq_true rfl) hd (fun H1 locs1 hP hD hS => ?_)
  exact k H1 locs1 ⟨hP, hD, hS, hW.2.2.2⟩
theorem fg_8_25 (C : Cx p s m args c cc nL Ts own D cy) (hin : ∀ w ∈ u_ws RX8 TX8 58, w ∈ Ts) (hl : Cond.fieldLink own idx "SharedLambdaModel" "passings" "I" ∈ Ts) (hW : WW D A H0 (wM cy a r S) H locs) (hd : decode cc pc = .ok (.getfield idx, 3))
    (k : W p l e R s m args below meth c H locs cells slots Q (F0 m (pc + 3) ls (.int (S.1 25) :: rest))) : W p l e R s m args below meth c H locs cells slots Q (F0 m pc ls (.ref (a 99) :: rest)) :=
  va_get (D := D) (ci := 8) (v := .int (S.1 25)) (C := RX8) (T := TX8) (N := 58) C.1 C.2.1 C.2.2.2.2.1 hin C.2.2.2.1 C.2.2.2.2.2.1 hW.1 0 rfl rfl 25 (by decide) (C.2.2.2.2.1 _ hl) (fun _ h9 => h9) rfl hd k
theorem fp_8_25 (C : Cx p s m args c cc nL Ts own D cy) (hin : ∀ w ∈ u_ws RX8 TX8 58, w ∈ Ts) (hl : Cond.fieldLink own idx "SharedLambdaModel" "passings" "I" ∈ Ts) (hW : WW D A H0 (wM cy a r S) H locs) (hd : decode cc pc = .ok (.putfield idx, 3)) (e9 : S' = sI S 25 v)
    (k : ∀ (H1 : Heap) (locs1 : List Loc), WW D A H0 (wM cy a r S') H1 locs1 → W p l e R s m args below meth c H1 locs1 cells slots Q (F0 m (pc + 3) ls rest)) : W p l e R s m args below meth c H locs cells slots Q (F0 m pc ls (.int v :: .ref (a 99) :: rest)) := by
  subst e9
  refine va_put (D := D) (ci := 8) (v := .int v) (ty := .int) (C := RX8) (T := TX8) (N := 58) C.1 C.2.1 C.2.2.2.2.1 hin tyX8 tyX8_ok nmX8 C.2.2.2.1 C.2.2.2.2.2.1 hW.1 hW.2.1 hW.2.2.1 0 rfl rfl 25 (by decide) (C.2.2.2.2.1 _ hl) (fun _ h9 => h9) rfl (by decide +kernel) rfl rfl (Nat.le_of_ble_eq_true rfl) hd (fun H1 locs1 hP hD hS => ?_)
  exact k H1 locs1 ⟨hP, hD, hS, hW.2.2.2⟩
theorem fg_8_26 (C : Cx p s m args c cc nL Ts own D cy) (hin : ∀ w ∈ u_ws RX8 TX8 58, w ∈ Ts) (hl : Cond.fieldLink own idx "SharedLambdaModel" "erased" "I" ∈ Ts) (hW : WW D A H0 (wM cy a r S) H locs) (hd : decode cc pc = .ok (.getfield idx, 3))
    (k : W p l e R s m args below meth c H locs cells slots Q (F0 m (pc + 3) ls (.int (S.1 26) :: rest))) : W p l e R s m args below meth c H locs cells slots Q (F0 m pc ls (.ref (a 99) :: rest)) :=
  va_get (D := D) (ci := 8) (v := .int (S.1 26)) (C := RX8) (T := TX8) (N := 58) C.1 C.2.1 C.2.2.2.2.1 hin C.2.2.2.1 C.2.2.2.2.2.1 hW.1 0 rfl rfl 26 (by decide) (C.2.2.2.2.1 _ hl) (fun _ h9 => h9) rfl hd k
theorem fp_8_26 (C : Cx p s m args c cc nL Ts own D cy) (hin : ∀ w ∈ u_ws RX8 TX8 58, w ∈ Ts) (hl : Cond.fieldLink own idx "SharedLambdaModel" "erased" "I" ∈ Ts) (hW : WW D A H0 (wM cy a r S) H locs) (hd : decode cc pc = .ok (.putfield idx, 3)) (e9 : S' = sI S 26 v)
    (k : ∀ (H1 : Heap) (locs1 : List Loc), WW D A H0 (wM cy a r S') H1 locs1 → W p l e R s m args below meth c H1 locs1 cells slots Q (F0 m (pc + 3) ls rest)) : W p l e R s m args below meth c H locs cells slots Q (F0 m pc ls (.int v :: .ref (a 99) :: rest)) := by
  subst e9
  refine va_put (D := D) (ci := 8) (v := .int v) (ty := .int) (C := RX8) (T := TX8) (N := 58) C.1 C.2.1 C.2.2.2.2.1 hin tyX8 tyX8_ok nmX8 C.2.2.2.1 C.2.2.2.2.2.1 hW.1 hW.2.1 hW.2.2.1 0 rfl rfl 26 (by decide) (C.2.2.2.2.1 _ hl) (fun _ h9 => h9) rfl (by decide +kernel) rfl rfl (Nat.le_of_ble_eq_true rfl) hd (fun H1 locs1 hP hD hS => ?_)
  exact k H1 locs1 ⟨hP, hD, hS, hW.2.2.2⟩
theorem fg_8_27 (C : Cx p s m args c cc nL Ts own D cy) (hin : ∀ w ∈ u_ws RX8 TX8 58, w ∈ Ts) (hl : Cond.fieldLink own idx "SharedLambdaModel" "restless" "[I" ∈ Ts) (hW : WW D A H0 (wM cy a r S) H locs) (hd : decode cc pc = .ok (.getfield idx, 3))
    (k : W p l e R s m args below meth c H locs cells slots Q (F0 m (pc + 3) ls (.ref (a 27) :: rest))) : W p l e R s m args below meth c H locs cells slots Q (F0 m pc ls (.ref (a 99) :: rest)) :=
  va_get (D := D) (ci := 8) (v := .ref (a 27)) (C := RX8) (T := TX8) (N := 58) C.1 C.2.1 C.2.2.2.2.1 hin C.2.2.2.1 C.2.2.2.2.2.1 hW.1 0 rfl rfl 27 (by decide) (C.2.2.2.2.1 _ hl) (fun _ h9 => h9) rfl hd k
theorem al_8_27 (C : Cx p s m args c cc nL Ts own D cy) (hW : WW D A H0 (wM cy a r S) H locs) (h : vp_in i 12000) (hd : decode cc pc = .ok (.iaload, 1))
    (k : W p l e R s m args below meth c H locs cells slots Q (F0 m (pc + 1) ls (.int (S.2.1 27 i.toNatClampNeg) :: rest))) : W p l e R s m args below meth c H locs cells slots Q (F0 m pc ls (.int i :: .ref (a 27) :: rest)) :=
  va_iald C.1 C.2.1 C.2.2.2.2.2.1 hW.1 13 0 rfl rfl h hd k
theorem as_8_27 (C : Cx p s m args c cc nL Ts own D cy) (hW : WW D A H0 (wM cy a r S) H locs) (h : vp_in i 12000) (hd : decode cc pc = .ok (.iastore, 1)) (e9 : S' = sA S 27 (upd (S.2.1 27) i.toNatClampNeg x))
    (k : ∀ (H1 : Heap) (locs1 : List Loc), WW D A H0 (wM cy a r S') H1 locs1 → W p l e R s m args below meth c H1 locs1 cells slots Q (F0 m (pc + 1) ls rest)) : W p l e R s m args below meth c H locs cells slots Q (F0 m pc ls (.int x :: .int i :: .ref (a 27) :: rest)) := by
  subst e9
  exact va_iast C.1 C.2.1 C.2.2.2.2.2.1 hW.1 hW.2.1 hW.2.2.1 13 0 rfl rfl h hd (fun H1 locs1 hP hD hS => k H1 locs1 ⟨hP, hD, hS, hW.2.2.2⟩)
theorem an_8_27 (C : Cx p s m args c cc nL Ts own D cy) (hW : WW D A H0 (wM cy a r S) H locs) (hd : decode cc pc = .ok (.arraylength, 1))
    (k : W p l e R s m args below meth c H locs cells slots Q (F0 m (pc + 1) ls (.int (Int32.ofNat 12000) :: rest))) : W p l e R s m args below meth c H locs cells slots Q (F0 m pc ls (.ref (a 27) :: rest)) :=
  va_alen C.1 C.2.1 C.2.2.2.2.2.1 hW.1 13 0 rfl rfl rfl hd k
theorem fg_8_28 (C : Cx p s m args c cc nL Ts own D cy) (hin : ∀ w ∈ u_ws RX8 TX8 58, w ∈ Ts) (hl : Cond.fieldLink own idx "SharedLambdaModel" "restlessCount" "I" ∈ Ts) (hW : WW D A H0 (wM cy a r S) H locs) (hd : decode cc pc = .ok (.getfield idx, 3))
    (k : W p l e R s m args below meth c H locs cells slots Q (F0 m (pc + 3) ls (.int (S.1 28) :: rest))) : W p l e R s m args below meth c H locs cells slots Q (F0 m pc ls (.ref (a 99) :: rest)) :=
  va_get (D := D) (ci := 8) (v := .int (S.1 28)) (C := RX8) (T := TX8) (N := 58) C.1 C.2.1 C.2.2.2.2.1 hin C.2.2.2.1 C.2.2.2.2.2.1 hW.1 0 rfl rfl 28 (by decide) (C.2.2.2.2.1 _ hl) (fun _ h9 => h9) rfl hd k
theorem fp_8_28 (C : Cx p s m args c cc nL Ts own D cy) (hin : ∀ w ∈ u_ws RX8 TX8 58, w ∈ Ts) (hl : Cond.fieldLink own idx "SharedLambdaModel" "restlessCount" "I" ∈ Ts) (hW : WW D A H0 (wM cy a r S) H locs) (hd : decode cc pc = .ok (.putfield idx, 3)) (e9 : S' = sI S 28 v)
    (k : ∀ (H1 : Heap) (locs1 : List Loc), WW D A H0 (wM cy a r S') H1 locs1 → W p l e R s m args below meth c H1 locs1 cells slots Q (F0 m (pc + 3) ls rest)) : W p l e R s m args below meth c H locs cells slots Q (F0 m pc ls (.int v :: .ref (a 99) :: rest)) := by
  subst e9
  refine va_put (D := D) (ci := 8) (v := .int v) (ty := .int) (C := RX8) (T := TX8) (N := 58) C.1 C.2.1 C.2.2.2.2.1 hin tyX8 tyX8_ok nmX8 C.2.2.2.1 C.2.2.2.2.2.1 hW.1 hW.2.1 hW.2.2.1 0 rfl rfl 28 (by decide) (C.2.2.2.2.1 _ hl) (fun _ h9 => h9) rfl (by decide +kernel) rfl rfl (Nat.le_of_ble_eq_true rfl) hd (fun H1 locs1 hP hD hS => ?_)
  exact k H1 locs1 ⟨hP, hD, hS, hW.2.2.2⟩
theorem fg_8_29 (C : Cx p s m args c cc nL Ts own D cy) (hin : ∀ w ∈ u_ws RX8 TX8 58, w ∈ Ts) (hl : Cond.fieldLink own idx "SharedLambdaModel" "frees" "[I" ∈ Ts) (hW : WW D A H0 (wM cy a r S) H locs) (hd : decode cc pc = .ok (.getfield idx, 3))
    (k : W p l e R s m args below meth c H locs cells slots Q (F0 m (pc + 3) ls (.ref (a 29) :: rest))) : W p l e R s m args below meth c H locs cells slots Q (F0 m pc ls (.ref (a 99) :: rest)) :=
  va_get (D := D) (ci := 8) (v := .ref (a 29)) (C := RX8) (T := TX8) (N := 58) C.1 C.2.1 C.2.2.2.2.1 hin C.2.2.2.1 C.2.2.2.2.2.1 hW.1 0 rfl rfl 29 (by decide) (C.2.2.2.2.1 _ hl) (fun _ h9 => h9) rfl hd k
theorem al_8_29 (C : Cx p s m args c cc nL Ts own D cy) (hW : WW D A H0 (wM cy a r S) H locs) (h : vp_in i 24000) (hd : decode cc pc = .ok (.iaload, 1))
    (k : W p l e R s m args below meth c H locs cells slots Q (F0 m (pc + 1) ls (.int (S.2.1 29 i.toNatClampNeg) :: rest))) : W p l e R s m args below meth c H locs cells slots Q (F0 m pc ls (.int i :: .ref (a 29) :: rest)) :=
  va_iald C.1 C.2.1 C.2.2.2.2.2.1 hW.1 14 0 rfl rfl h hd k
theorem as_8_29 (C : Cx p s m args c cc nL Ts own D cy) (hW : WW D A H0 (wM cy a r S) H locs) (h : vp_in i 24000) (hd : decode cc pc = .ok (.iastore, 1)) (e9 : S' = sA S 29 (upd (S.2.1 29) i.toNatClampNeg x))
    (k : ∀ (H1 : Heap) (locs1 : List Loc), WW D A H0 (wM cy a r S') H1 locs1 → W p l e R s m args below meth c H1 locs1 cells slots Q (F0 m (pc + 1) ls rest)) : W p l e R s m args below meth c H locs cells slots Q (F0 m pc ls (.int x :: .int i :: .ref (a 29) :: rest)) := by
  subst e9
  exact va_iast C.1 C.2.1 C.2.2.2.2.2.1 hW.1 hW.2.1 hW.2.2.1 14 0 rfl rfl h hd (fun H1 locs1 hP hD hS => k H1 locs1 ⟨hP, hD, hS, hW.2.2.2⟩)
theorem an_8_29 (C : Cx p s m args c cc nL Ts own D cy) (hW : WW D A H0 (wM cy a r S) H locs) (hd : decode cc pc = .ok (.arraylength, 1))
    (k : W p l e R s m args below meth c H locs cells slots Q (F0 m (pc + 1) ls (.int (Int32.ofNat 24000) :: rest))) : W p l e R s m args below meth c H locs cells slots Q (F0 m pc ls (.ref (a 29) :: rest)) :=
  va_alen C.1 C.2.1 C.2.2.2.2.2.1 hW.1 14 0 rfl rfl rfl hd k
theorem fg_8_30 (C : Cx p s m args c cc nL Ts own D cy) (hin : ∀ w ∈ u_ws RX8 TX8 58, w ∈ Ts) (hl : Cond.fieldLink own idx "SharedLambdaModel" "indexOf" "[I" ∈ Ts) (hW : WW D A H0 (wM cy a r S) H locs) (hd : decode cc pc = .ok (.getfield idx, 3))
    (k : W p l e R s m args below meth c H locs cells slots Q (F0 m (pc + 3) ls (.ref (a 30) :: rest))) : W p l e R s m args below meth c H locs cells slots Q (F0 m pc ls (.ref (a 99) :: rest)) :=
  va_get (D := D) (ci := 8) (v := .ref (a 30)) (C := RX8) (T := TX8) (N := 58) C.1 C.2.1 C.2.2.2.2.1 hin C.2.2.2.1 C.2.2.2.2.2.1 hW.1 0 rfl rfl 30 (by decide) (C.2.2.2.2.1 _ hl) (fun _ h9 => h9) rfl hd k
theorem al_8_30 (C : Cx p s m args c cc nL Ts own D cy) (hW : WW D A H0 (wM cy a r S) H locs) (h : vp_in i 300) (hd : decode cc pc = .ok (.iaload, 1))
    (k : W p l e R s m args below meth c H locs cells slots Q (F0 m (pc + 1) ls (.int (S.2.1 30 i.toNatClampNeg) :: rest))) : W p l e R s m args below meth c H locs cells slots Q (F0 m pc ls (.int i :: .ref (a 30) :: rest)) :=
  va_iald C.1 C.2.1 C.2.2.2.2.2.1 hW.1 15 0 rfl rfl h hd k
theorem as_8_30 (C : Cx p s m args c cc nL Ts own D cy) (hW : WW D A H0 (wM cy a r S) H locs) (h : vp_in i 300) (hd : decode cc pc = .ok (.iastore, 1)) (e9 : S' = sA S 30 (upd (S.2.1 30) i.toNatClampNeg x))
    (k : ∀ (H1 : Heap) (locs1 : List Loc), WW D A H0 (wM cy a r S') H1 locs1 → W p l e R s m args below meth c H1 locs1 cells slots Q (F0 m (pc + 1) ls rest)) : W p l e R s m args below meth c H locs cells slots Q (F0 m pc ls (.int x :: .int i :: .ref (a 30) :: rest)) := by
  subst e9
  exact va_iast C.1 C.2.1 C.2.2.2.2.2.1 hW.1 hW.2.1 hW.2.2.1 15 0 rfl rfl h hd (fun H1 locs1 hP hD hS => k H1 locs1 ⟨hP, hD, hS, hW.2.2.2⟩)
theorem an_8_30 (C : Cx p s m args c cc nL Ts own D cy) (hW : WW D A H0 (wM cy a r S) H locs) (hd : decode cc pc = .ok (.arraylength, 1))
    (k : W p l e R s m args below meth c H locs cells slots Q (F0 m (pc + 1) ls (.int (Int32.ofNat 300) :: rest))) : W p l e R s m args below meth c H locs cells slots Q (F0 m pc ls (.ref (a 30) :: rest)) :=
  va_alen C.1 C.2.1 C.2.2.2.2.2.1 hW.1 15 0 rfl rfl rfl hd k
theorem fg_8_31 (C : Cx p s m args c cc nL Ts own D cy) (hin : ∀ w ∈ u_ws RX8 TX8 58, w ∈ Ts) (hl : Cond.fieldLink own idx "SharedLambdaModel" "rootOf" "[I" ∈ Ts) (hW : WW D A H0 (wM cy a r S) H locs) (hd : decode cc pc = .ok (.getfield idx, 3))
    (k : W p l e R s m args below meth c H locs cells slots Q (F0 m (pc + 3) ls (.ref (a 31) :: rest))) : W p l e R s m args below meth c H locs cells slots Q (F0 m pc ls (.ref (a 99) :: rest)) :=
  va_get (D := D) (ci := 8) (v := .ref (a 31)) (C := RX8) (T := TX8) (N := 58) C.1 C.2.1 C.2.2.2.2.1 hin C.2.2.2.1 C.2.2.2.2.2.1 hW.1 0 rfl rfl 31 (by decide) (C.2.2.2.2.1 _ hl) (fun _ h9 => h9) rfl hd k
theorem al_8_31 (C : Cx p s m args c cc nL Ts own D cy) (hW : WW D A H0 (wM cy a r S) H locs) (h : vp_in i 300) (hd : decode cc pc = .ok (.iaload, 1))
    (k : W p l e R s m args below meth c H locs cells slots Q (F0 m (pc + 1) ls (.int (S.2.1 31 i.toNatClampNeg) :: rest))) : W p l e R s m args below meth c H locs cells slots Q (F0 m pc ls (.int i :: .ref (a 31) :: rest)) :=
  va_iald C.1 C.2.1 C.2.2.2.2.2.1 hW.1 16 0 rfl rfl h hd k
theorem as_8_31 (C : Cx p s m args c cc nL Ts own D cy) (hW : WW D A H0 (wM cy a r S) H locs) (h : vp_in i 300) (hd : decode cc pc = .ok (.iastore, 1)) (e9 : S' = sA S 31 (upd (S.2.1 31) i.toNatClampNeg x))
    (k : ∀ (H1 : Heap) (locs1 : List Loc), WW D A H0 (wM cy a r S') H1 locs1 → W p l e R s m args below meth c H1 locs1 cells slots Q (F0 m (pc + 1) ls rest)) : W p l e R s m args below meth c H locs cells slots Q (F0 m pc ls (.int x :: .int i :: .ref (a 31) :: rest)) := by
  subst e9
  exact va_iast C.1 C.2.1 C.2.2.2.2.2.1 hW.1 hW.2.1 hW.2.2.1 16 0 rfl rfl h hd (fun H1 locs1 hP hD hS => k H1 locs1 ⟨hP, hD, hS, hW.2.2.2⟩)
theorem an_8_31 (C : Cx p s m args c cc nL Ts own D cy) (hW : WW D A H0 (wM cy a r S) H locs) (hd : decode cc pc = .ok (.arraylength, 1))
    (k : W p l e R s m args below meth c H locs cells slots Q (F0 m (pc + 1) ls (.int (Int32.ofNat 300) :: rest))) : W p l e R s m args below meth c H locs cells slots Q (F0 m pc ls (.ref (a 31) :: rest)) :=
  va_alen C.1 C.2.1 C.2.2.2.2.2.1 hW.1 16 0 rfl rfl rfl hd k
theorem fg_8_32 (C : Cx p s m args c cc nL Ts own D cy) (hin : ∀ w ∈ u_ws RX8 TX8 58, w ∈ Ts) (hl : Cond.fieldLink own idx "SharedLambdaModel" "passer" "I" ∈ Ts) (hW : WW D A H0 (wM cy a r S) H locs) (hd : decode cc pc = .ok (.getfield idx, 3))
    (k : W p l e R s m args below meth c H locs cells slots Q (F0 m (pc + 3) ls (.int (S.1 32) :: rest))) : W p l e R s m args below meth c H locs cells slots Q (F0 m pc ls (.ref (a 99) :: rest)) :=
  va_get (D := D) (ci := 8) (v := .int (S.1 32)) (C := RX8) (T := TX8) (N := 58) C.1 C.2.1 C.2.2.2.2.1 hin C.2.2.2.1 C.2.2.2.2.2.1 hW.1 0 rfl rfl 32 (by decide) (C.2.2.2.2.1 _ hl) (fun _ h9 => h9) rfl hd k
theorem fp_8_32 (C : Cx p s m args c cc nL Ts own D cy) (hin : ∀ w ∈ u_ws RX8 TX8 58, w ∈ Ts) (hl : Cond.fieldLink own idx "SharedLambdaModel" "passer" "I" ∈ Ts) (hW : WW D A H0 (wM cy a r S) H locs) (hd : decode cc pc = .ok (.putfield idx, 3)) (e9 : S' = sI S 32 v)
    (k : ∀ (H1 : Heap) (locs1 : List Loc), WW D A H0 (wM cy a r S') H1 locs1 → W p l e R s m args below meth c H1 locs1 cells slots Q (F0 m (pc + 3) ls rest)) : W p l e R s m args below meth c H locs cells slots Q (F0 m pc ls (.int v :: .ref (a 99) :: rest)) := by
  subst e9
  refine va_put (D := D) (ci := 8) (v := .int v) (ty := .int) (C := RX8) (T := TX8) (N := 58) C.1 C.2.1 C.2.2.2.2.1 hin tyX8 tyX8_ok nmX8 C.2.2.2.1 C.2.2.2.2.2.1 hW.1 hW.2.1 hW.2.2.1 0 rfl rfl 32 (by decide) (C.2.2.2.2.1 _ hl) (fun _ h9 => h9) rfl (by decide +kernel) rfl rfl (Nat.le_of_ble_eq_true rfl) hd (fun H1 locs1 hP hD hS => ?_)
  exact k H1 locs1 ⟨hP, hD, hS, hW.2.2.2⟩
theorem fg_8_33 (C : Cx p s m args c cc nL Ts own D cy) (hin : ∀ w ∈ u_ws RX8 TX8 58, w ∈ Ts) (hl : Cond.fieldLink own idx "SharedLambdaModel" "passed" "I" ∈ Ts) (hW : WW D A H0 (wM cy a r S) H locs) (hd : decode cc pc = .ok (.getfield idx, 3))
    (k : W p l e R s m args below meth c H locs cells slots Q (F0 m (pc + 3) ls (.int (S.1 33) :: rest))) : W p l e R s m args below meth c H locs cells slots Q (F0 m pc ls (.ref (a 99) :: rest)) :=
  va_get (D := D) (ci := 8) (v := .int (S.1 33)) (C := RX8) (T := TX8) (N := 58) C.1 C.2.1 C.2.2.2.2.1 hin C.2.2.2.1 C.2.2.2.2.2.1 hW.1 0 rfl rfl 33 (by decide) (C.2.2.2.2.1 _ hl) (fun _ h9 => h9) rfl hd k
theorem fp_8_33 (C : Cx p s m args c cc nL Ts own D cy) (hin : ∀ w ∈ u_ws RX8 TX8 58, w ∈ Ts) (hl : Cond.fieldLink own idx "SharedLambdaModel" "passed" "I" ∈ Ts) (hW : WW D A H0 (wM cy a r S) H locs) (hd : decode cc pc = .ok (.putfield idx, 3)) (e9 : S' = sI S 33 v)
    (k : ∀ (H1 : Heap) (locs1 : List Loc), WW D A H0 (wM cy a r S') H1 locs1 → W p l e R s m args below meth c H1 locs1 cells slots Q (F0 m (pc + 3) ls rest)) : W p l e R s m args below meth c H locs cells slots Q (F0 m pc ls (.int v :: .ref (a 99) :: rest)) := by
  subst e9
  refine va_put (D := D) (ci := 8) (v := .int v) (ty := .int) (C := RX8) (T := TX8) (N := 58) C.1 C.2.1 C.2.2.2.2.1 hin tyX8 tyX8_ok nmX8 C.2.2.2.1 C.2.2.2.2.2.1 hW.1 hW.2.1 hW.2.2.1 0 rfl rfl 33 (by decide) (C.2.2.2.2.1 _ hl) (fun _ h9 => h9) rfl (by decide +kernel) rfl rfl (Nat.le_of_ble_eq_true rfl) hd (fun H1 locs1 hP hD hS => ?_)
  exact k H1 locs1 ⟨hP, hD, hS, hW.2.2.2⟩
theorem fg_8_34 (C : Cx p s m args c cc nL Ts own D cy) (hin : ∀ w ∈ u_ws RX8 TX8 58, w ∈ Ts) (hl : Cond.fieldLink own idx "SharedLambdaModel" "instead" "[I" ∈ Ts) (hW : WW D A H0 (wM cy a r S) H locs) (hd : decode cc pc = .ok (.getfield idx, 3))
    (k : W p l e R s m args below meth c H locs cells slots Q (F0 m (pc + 3) ls (.ref (a 34) :: rest))) : W p l e R s m args below meth c H locs cells slots Q (F0 m pc ls (.ref (a 99) :: rest)) :=
  va_get (D := D) (ci := 8) (v := .ref (a 34)) (C := RX8) (T := TX8) (N := 58) C.1 C.2.1 C.2.2.2.2.1 hin C.2.2.2.1 C.2.2.2.2.2.1 hW.1 0 rfl rfl 34 (by decide) (C.2.2.2.2.1 _ hl) (fun _ h9 => h9) rfl hd k
theorem al_8_34 (C : Cx p s m args c cc nL Ts own D cy) (hW : WW D A H0 (wM cy a r S) H locs) (h : vp_in i 6) (hd : decode cc pc = .ok (.iaload, 1))
    (k : W p l e R s m args below meth c H locs cells slots Q (F0 m (pc + 1) ls (.int (S.2.1 34 i.toNatClampNeg) :: rest))) : W p l e R s m args below meth c H locs cells slots Q (F0 m pc ls (.int i :: .ref (a 34) :: rest)) :=
  va_iald C.1 C.2.1 C.2.2.2.2.2.1 hW.1 17 0 rfl rfl h hd k
theorem as_8_34 (C : Cx p s m args c cc nL Ts own D cy) (hW : WW D A H0 (wM cy a r S) H locs) (h : vp_in i 6) (hd : decode cc pc = .ok (.iastore, 1)) (e9 : S' = sA S 34 (upd (S.2.1 34) i.toNatClampNeg x))
    (k : ∀ (H1 : Heap) (locs1 : List Loc), WW D A H0 (wM cy a r S') H1 locs1 → W p l e R s m args below meth c H1 locs1 cells slots Q (F0 m (pc + 1) ls rest)) : W p l e R s m args below meth c H locs cells slots Q (F0 m pc ls (.int x :: .int i :: .ref (a 34) :: rest)) := by
  subst e9
  exact va_iast C.1 C.2.1 C.2.2.2.2.2.1 hW.1 hW.2.1 hW.2.2.1 17 0 rfl rfl h hd (fun H1 locs1 hP hD hS => k H1 locs1 ⟨hP, hD, hS, hW.2.2.2⟩)
theorem an_8_34 (C : Cx p s m args c cc nL Ts own D cy) (hW : WW D A H0 (wM cy a r S) H locs) (hd : decode cc pc = .ok (.arraylength, 1))
    (k : W p l e R s m args below meth c H locs cells slots Q (F0 m (pc + 1) ls (.int (Int32.ofNat 6) :: rest))) : W p l e R s m args below meth c H locs cells slots Q (F0 m pc ls (.ref (a 34) :: rest)) :=
  va_alen C.1 C.2.1 C.2.2.2.2.2.1 hW.1 17 0 rfl rfl rfl hd k
theorem fg_8_35 (C : Cx p s m args c cc nL Ts own D cy) (hin : ∀ w ∈ u_ws RX8 TX8 58, w ∈ Ts) (hl : Cond.fieldLink own idx "SharedLambdaModel" "levelKinds" "[I" ∈ Ts) (hW : WW D A H0 (wM cy a r S) H locs) (hd : decode cc pc = .ok (.getfield idx, 3))
    (k : W p l e R s m args below meth c H locs cells slots Q (F0 m (pc + 3) ls (.ref (a 35) :: rest))) : W p l e R s m args below meth c H locs cells slots Q (F0 m pc ls (.ref (a 99) :: rest)) :=
  va_get (D := D) (ci := 8) (v := .ref (a 35)) (C := RX8) (T := TX8) (N := 58) C.1 C.2.1 C.2.2.2.2.1 hin C.2.2.2.1 C.2.2.2.2.2.1 hW.1 0 rfl rfl 35 (by decide) (C.2.2.2.2.1 _ hl) (fun _ h9 => h9) rfl hd k
theorem al_8_35 (C : Cx p s m args c cc nL Ts own D cy) (hW : WW D A H0 (wM cy a r S) H locs) (h : vp_in i 4010) (hd : decode cc pc = .ok (.iaload, 1))
    (k : W p l e R s m args below meth c H locs cells slots Q (F0 m (pc + 1) ls (.int (S.2.1 35 i.toNatClampNeg) :: rest))) : W p l e R s m args below meth c H locs cells slots Q (F0 m pc ls (.int i :: .ref (a 35) :: rest)) :=
  va_iald C.1 C.2.1 C.2.2.2.2.2.1 hW.1 18 0 rfl rfl h hd k
theorem as_8_35 (C : Cx p s m args c cc nL Ts own D cy) (hW : WW D A H0 (wM cy a r S) H locs) (h : vp_in i 4010) (hd : decode cc pc = .ok (.iastore, 1)) (e9 : S' = sA S 35 (upd (S.2.1 35) i.toNatClampNeg x))
    (k : ∀ (H1 : Heap) (locs1 : List Loc), WW D A H0 (wM cy a r S') H1 locs1 → W p l e R s m args below meth c H1 locs1 cells slots Q (F0 m (pc + 1) ls rest)) : W p l e R s m args below meth c H locs cells slots Q (F0 m pc ls (.int x :: .int i :: .ref (a 35) :: rest)) := by
  subst e9
  exact va_iast C.1 C.2.1 C.2.2.2.2.2.1 hW.1 hW.2.1 hW.2.2.1 18 0 rfl rfl h hd (fun H1 locs1 hP hD hS => k H1 locs1 ⟨hP, hD, hS, hW.2.2.2⟩)
theorem an_8_35 (C : Cx p s m args c cc nL Ts own D cy) (hW : WW D A H0 (wM cy a r S) H locs) (hd : decode cc pc = .ok (.arraylength, 1))
    (k : W p l e R s m args below meth c H locs cells slots Q (F0 m (pc + 1) ls (.int (Int32.ofNat 4010) :: rest))) : W p l e R s m args below meth c H locs cells slots Q (F0 m pc ls (.ref (a 35) :: rest)) :=
  va_alen C.1 C.2.1 C.2.2.2.2.2.1 hW.1 18 0 rfl rfl rfl hd k
theorem fg_8_36 (C : Cx p s m args c cc nL Ts own D cy) (hin : ∀ w ∈ u_ws RX8 TX8 58, w ∈ Ts) (hl : Cond.fieldLink own idx "SharedLambdaModel" "levelAs" "[I" ∈ Ts) (hW : WW D A H0 (wM cy a r S) H locs) (hd : decode cc pc = .ok (.getfield idx, 3))
    (k : W p l e R s m args below meth c H locs cells slots Q (F0 m (pc + 3) ls (.ref (a 36) :: rest))) : W p l e R s m args below meth c H locs cells slots Q (F0 m pc ls (.ref (a 99) :: rest)) :=
  va_get (D := D) (ci := 8) (v := .ref (a 36)) (C := RX8) (T := TX8) (N := 58) C.1 C.2.1 C.2.2.2.2.1 hin C.2.2.2.1 C.2.2.2.2.2.1 hW.1 0 rfl rfl 36 (by decide) (C.2.2.2.2.1 _ hl) (fun _ h9 => h9) rfl hd k
theorem al_8_36 (C : Cx p s m args c cc nL Ts own D cy) (hW : WW D A H0 (wM cy a r S) H locs) (h : vp_in i 4010) (hd : decode cc pc = .ok (.iaload, 1))
    (k : W p l e R s m args below meth c H locs cells slots Q (F0 m (pc + 1) ls (.int (S.2.1 36 i.toNatClampNeg) :: rest))) : W p l e R s m args below meth c H locs cells slots Q (F0 m pc ls (.int i :: .ref (a 36) :: rest)) :=
  va_iald C.1 C.2.1 C.2.2.2.2.2.1 hW.1 19 0 rfl rfl h hd k
theorem as_8_36 (C : Cx p s m args c cc nL Ts own D cy) (hW : WW D A H0 (wM cy a r S) H locs) (h : vp_in i 4010) (hd : decode cc pc = .ok (.iastore, 1)) (e9 : S' = sA S 36 (upd (S.2.1 36) i.toNatClampNeg x))
    (k : ∀ (H1 : Heap) (locs1 : List Loc), WW D A H0 (wM cy a r S') H1 locs1 → W p l e R s m args below meth c H1 locs1 cells slots Q (F0 m (pc + 1) ls rest)) : W p l e R s m args below meth c H locs cells slots Q (F0 m pc ls (.int x :: .int i :: .ref (a 36) :: rest)) := by
  subst e9
  exact va_iast C.1 C.2.1 C.2.2.2.2.2.1 hW.1 hW.2.1 hW.2.2.1 19 0 rfl rfl h hd (fun H1 locs1 hP hD hS => k H1 locs1 ⟨hP, hD, hS, hW.2.2.2⟩)
theorem an_8_36 (C : Cx p s m args c cc nL Ts own D cy) (hW : WW D A H0 (wM cy a r S) H locs) (hd : decode cc pc = .ok (.arraylength, 1))
    (k : W p l e R s m args below meth c H locs cells slots Q (F0 m (pc + 1) ls (.int (Int32.ofNat 4010) :: rest))) : W p l e R s m args below meth c H locs cells slots Q (F0 m pc ls (.ref (a 36) :: rest)) :=
  va_alen C.1 C.2.1 C.2.2.2.2.2.1 hW.1 19 0 rfl rfl rfl hd k
theorem fg_8_37 (C : Cx p s m args c cc nL Ts own D cy) (hin : ∀ w ∈ u_ws RX8 TX8 58, w ∈ Ts) (hl : Cond.fieldLink own idx "SharedLambdaModel" "levelBs" "[I" ∈ Ts) (hW : WW D A H0 (wM cy a r S) H locs) (hd : decode cc pc = .ok (.getfield idx, 3))
    (k : W p l e R s m args below meth c H locs cells slots Q (F0 m (pc + 3) ls (.ref (a 37) :: rest))) : W p l e R s m args below meth c H locs cells slots Q (F0 m pc ls (.ref (a 99) :: rest)) :=
  va_get (D := D) (ci := 8) (v := .ref (a 37)) (C := RX8) (T := TX8) (N := 58) C.1 C.2.1 C.2.2.2.2.1 hin C.2.2.2.1 C.2.2.2.2.2.1 hW.1 0 rfl rfl 37 (by decide) (C.2.2.2.2.1 _ hl) (fun _ h9 => h9) rfl hd k
theorem al_8_37 (C : Cx p s m args c cc nL Ts own D cy) (hW : WW D A H0 (wM cy a r S) H locs) (h : vp_in i 4010) (hd : decode cc pc = .ok (.iaload, 1))
    (k : W p l e R s m args below meth c H locs cells slots Q (F0 m (pc + 1) ls (.int (S.2.1 37 i.toNatClampNeg) :: rest))) : W p l e R s m args below meth c H locs cells slots Q (F0 m pc ls (.int i :: .ref (a 37) :: rest)) :=
  va_iald C.1 C.2.1 C.2.2.2.2.2.1 hW.1 20 0 rfl rfl h hd k
theorem as_8_37 (C : Cx p s m args c cc nL Ts own D cy) (hW : WW D A H0 (wM cy a r S) H locs) (h : vp_in i 4010) (hd : decode cc pc = .ok (.iastore, 1)) (e9 : S' = sA S 37 (upd (S.2.1 37) i.toNatClampNeg x))
    (k : ∀ (H1 : Heap) (locs1 : List Loc), WW D A H0 (wM cy a r S') H1 locs1 → W p l e R s m args below meth c H1 locs1 cells slots Q (F0 m (pc + 1) ls rest)) : W p l e R s m args below meth c H locs cells slots Q (F0 m pc ls (.int x :: .int i :: .ref (a 37) :: rest)) := by
  subst e9
  exact va_iast C.1 C.2.1 C.2.2.2.2.2.1 hW.1 hW.2.1 hW.2.2.1 20 0 rfl rfl h hd (fun H1 locs1 hP hD hS => k H1 locs1 ⟨hP, hD, hS, hW.2.2.2⟩)
theorem an_8_37 (C : Cx p s m args c cc nL Ts own D cy) (hW : WW D A H0 (wM cy a r S) H locs) (hd : decode cc pc = .ok (.arraylength, 1))
    (k : W p l e R s m args below meth c H locs cells slots Q (F0 m (pc + 1) ls (.int (Int32.ofNat 4010) :: rest))) : W p l e R s m args below meth c H locs cells slots Q (F0 m pc ls (.ref (a 37) :: rest)) :=
  va_alen C.1 C.2.1 C.2.2.2.2.2.1 hW.1 20 0 rfl rfl rfl hd k
theorem fg_8_38 (C : Cx p s m args c cc nL Ts own D cy) (hin : ∀ w ∈ u_ws RX8 TX8 58, w ∈ Ts) (hl : Cond.fieldLink own idx "SharedLambdaModel" "levelNext" "[I" ∈ Ts) (hW : WW D A H0 (wM cy a r S) H locs) (hd : decode cc pc = .ok (.getfield idx, 3))
    (k : W p l e R s m args below meth c H locs cells slots Q (F0 m (pc + 3) ls (.ref (a 38) :: rest))) : W p l e R s m args below meth c H locs cells slots Q (F0 m pc ls (.ref (a 99) :: rest)) :=
  va_get (D := D) (ci := 8) (v := .ref (a 38)) (C := RX8) (T := TX8) (N := 58) C.1 C.2.1 C.2.2.2.2.1 hin C.2.2.2.1 C.2.2.2.2.2.1 hW.1 0 rfl rfl 38 (by decide) (C.2.2.2.2.1 _ hl) (fun _ h9 => h9) rfl hd k
theorem al_8_38 (C : Cx p s m args c cc nL Ts own D cy) (hW : WW D A H0 (wM cy a r S) H locs) (h : vp_in i 4010) (hd : decode cc pc = .ok (.iaload, 1))
    (k : W p l e R s m args below meth c H locs cells slots Q (F0 m (pc + 1) ls (.int (S.2.1 38 i.toNatClampNeg) :: rest))) : W p l e R s m args below meth c H locs cells slots Q (F0 m pc ls (.int i :: .ref (a 38) :: rest)) :=
  va_iald C.1 C.2.1 C.2.2.2.2.2.1 hW.1 21 0 rfl rfl h hd k
theorem as_8_38 (C : Cx p s m args c cc nL Ts own D cy) (hW : WW D A H0 (wM cy a r S) H locs) (h : vp_in i 4010) (hd : decode cc pc = .ok (.iastore, 1)) (e9 : S' = sA S 38 (upd (S.2.1 38) i.toNatClampNeg x))
    (k : ∀ (H1 : Heap) (locs1 : List Loc), WW D A H0 (wM cy a r S') H1 locs1 → W p l e R s m args below meth c H1 locs1 cells slots Q (F0 m (pc + 1) ls rest)) : W p l e R s m args below meth c H locs cells slots Q (F0 m pc ls (.int x :: .int i :: .ref (a 38) :: rest)) := by
  subst e9
  exact va_iast C.1 C.2.1 C.2.2.2.2.2.1 hW.1 hW.2.1 hW.2.2.1 21 0 rfl rfl h hd (fun H1 locs1 hP hD hS => k H1 locs1 ⟨hP, hD, hS, hW.2.2.2⟩)
theorem an_8_38 (C : Cx p s m args c cc nL Ts own D cy) (hW : WW D A H0 (wM cy a r S) H locs) (hd : decode cc pc = .ok (.arraylength, 1))
    (k : W p l e R s m args below meth c H locs cells slots Q (F0 m (pc + 1) ls (.int (Int32.ofNat 4010) :: rest))) : W p l e R s m args below meth c H locs cells slots Q (F0 m pc ls (.ref (a 38) :: rest)) :=
  va_alen C.1 C.2.1 C.2.2.2.2.2.1 hW.1 21 0 rfl rfl rfl hd k
theorem fg_8_39 (C : Cx p s m args c cc nL Ts own D cy) (hin : ∀ w ∈ u_ws RX8 TX8 58, w ∈ Ts) (hl : Cond.fieldLink own idx "SharedLambdaModel" "levelHeads" "[I" ∈ Ts) (hW : WW D A H0 (wM cy a r S) H locs) (hd : decode cc pc = .ok (.getfield idx, 3))
    (k : W p l e R s m args below meth c H locs cells slots Q (F0 m (pc + 3) ls (.ref (a 39) :: rest))) : W p l e R s m args below meth c H locs cells slots Q (F0 m pc ls (.ref (a 99) :: rest)) :=
  va_get (D := D) (ci := 8) (v := .ref (a 39)) (C := RX8) (T := TX8) (N := 58) C.1 C.2.1 C.2.2.2.2.1 hin C.2.2.2.1 C.2.2.2.2.2.1 hW.1 0 rfl rfl 39 (by decide) (C.2.2.2.2.1 _ hl) (fun _ h9 => h9) rfl hd k
theorem al_8_39 (C : Cx p s m args c cc nL Ts own D cy) (hW : WW D A H0 (wM cy a r S) H locs) (h : vp_in i 512) (hd : decode cc pc = .ok (.iaload, 1))
    (k : W p l e R s m args below meth c H locs cells slots Q (F0 m (pc + 1) ls (.int (S.2.1 39 i.toNatClampNeg) :: rest))) : W p l e R s m args below meth c H locs cells slots Q (F0 m pc ls (.int i :: .ref (a 39) :: rest)) :=
  va_iald C.1 C.2.1 C.2.2.2.2.2.1 hW.1 22 0 rfl rfl h hd k
theorem as_8_39 (C : Cx p s m args c cc nL Ts own D cy) (hW : WW D A H0 (wM cy a r S) H locs) (h : vp_in i 512) (hd : decode cc pc = .ok (.iastore, 1)) (e9 : S' = sA S 39 (upd (S.2.1 39) i.toNatClampNeg x))
    (k : ∀ (H1 : Heap) (locs1 : List Loc), WW D A H0 (wM cy a r S') H1 locs1 → W p l e R s m args below meth c H1 locs1 cells slots Q (F0 m (pc + 1) ls rest)) : W p l e R s m args below meth c H locs cells slots Q (F0 m pc ls (.int x :: .int i :: .ref (a 39) :: rest)) := by
  subst e9
  exact va_iast C.1 C.2.1 C.2.2.2.2.2.1 hW.1 hW.2.1 hW.2.2.1 22 0 rfl rfl h hd (fun H1 locs1 hP hD hS => k H1 locs1 ⟨hP, hD, hS, hW.2.2.2⟩)
theorem an_8_39 (C : Cx p s m args c cc nL Ts own D cy) (hW : WW D A H0 (wM cy a r S) H locs) (hd : decode cc pc = .ok (.arraylength, 1))
    (k : W p l e R s m args below meth c H locs cells slots Q (F0 m (pc + 1) ls (.int (Int32.ofNat 512) :: rest))) : W p l e R s m args below meth c H locs cells slots Q (F0 m pc ls (.ref (a 39) :: rest)) :=
  va_alen C.1 C.2.1 C.2.2.2.2.2.1 hW.1 22 0 rfl rfl rfl hd k
theorem fg_8_40 (C : Cx p s m args c cc nL Ts own D cy) (hin : ∀ w ∈ u_ws RX8 TX8 58, w ∈ Ts) (hl : Cond.fieldLink own idx "SharedLambdaModel" "levels" "I" ∈ Ts) (hW : WW D A H0 (wM cy a r S) H locs) (hd : decode cc pc = .ok (.getfield idx, 3))
    (k : W p l e R s m args below meth c H locs cells slots Q (F0 m (pc + 3) ls (.int (S.1 40) :: rest))) : W p l e R s m args below meth c H locs cells slots Q (F0 m pc ls (.ref (a 99) :: rest)) :=
  va_get (D := D) (ci := 8) (v := .int (S.1 40)) (C := RX8) (T := TX8) (N := 58) C.1 C.2.1 C.2.2.2.2.1 hin C.2.2.2.1 C.2.2.2.2.2.1 hW.1 0 rfl rfl 40 (by decide) (C.2.2.2.2.1 _ hl) (fun _ h9 => h9) rfl hd k
theorem fp_8_40 (C : Cx p s m args c cc nL Ts own D cy) (hin : ∀ w ∈ u_ws RX8 TX8 58, w ∈ Ts) (hl : Cond.fieldLink own idx "SharedLambdaModel" "levels" "I" ∈ Ts) (hW : WW D A H0 (wM cy a r S) H locs) (hd : decode cc pc = .ok (.putfield idx, 3)) (e9 : S' = sI S 40 v)
    (k : ∀ (H1 : Heap) (locs1 : List Loc), WW D A H0 (wM cy a r S') H1 locs1 → W p l e R s m args below meth c H1 locs1 cells slots Q (F0 m (pc + 3) ls rest)) : W p l e R s m args below meth c H locs cells slots Q (F0 m pc ls (.int v :: .ref (a 99) :: rest)) := by
  subst e9
  refine va_put (D := D) (ci := 8) (v := .int v) (ty := .int) (C := RX8) (T := TX8) (N := 58) C.1 C.2.1 C.2.2.2.2.1 hin tyX8 tyX8_ok nmX8 C.2.2.2.1 C.2.2.2.2.2.1 hW.1 hW.2.1 hW.2.2.1 0 rfl rfl 40 (by decide) (C.2.2.2.2.1 _ hl) (fun _ h9 => h9) rfl (by decide +kernel) rfl rfl (Nat.le_of_ble_eq_true rfl) hd (fun H1 locs1 hP hD hS => ?_)
  exact k H1 locs1 ⟨hP, hD, hS, hW.2.2.2⟩
theorem fg_8_41 (C : Cx p s m args c cc nL Ts own D cy) (hin : ∀ w ∈ u_ws RX8 TX8 58, w ∈ Ts) (hl : Cond.fieldLink own idx "SharedLambdaModel" "heads" "[I" ∈ Ts) (hW : WW D A H0 (wM cy a r S) H locs) (hd : decode cc pc = .ok (.getfield idx, 3))
    (k : W p l e R s m args below meth c H locs cells slots Q (F0 m (pc + 3) ls (.ref (a 41) :: rest))) : W p l e R s m args below meth c H locs cells slots Q (F0 m pc ls (.ref (a 99) :: rest)) :=
  va_get (D := D) (ci := 8) (v := .ref (a 41)) (C := RX8) (T := TX8) (N := 58) C.1 C.2.1 C.2.2.2.2.1 hin C.2.2.2.1 C.2.2.2.2.2.1 hW.1 0 rfl rfl 41 (by decide) (C.2.2.2.2.1 _ hl) (fun _ h9 => h9) rfl hd k
theorem al_8_41 (C : Cx p s m args c cc nL Ts own D cy) (hW : WW D A H0 (wM cy a r S) H locs) (h : vp_in i 270000) (hd : decode cc pc = .ok (.iaload, 1))
    (k : W p l e R s m args below meth c H locs cells slots Q (F0 m (pc + 1) ls (.int (S.2.1 41 i.toNatClampNeg) :: rest))) : W p l e R s m args below meth c H locs cells slots Q (F0 m pc ls (.int i :: .ref (a 41) :: rest)) :=
  va_iald C.1 C.2.1 C.2.2.2.2.2.1 hW.1 23 0 rfl rfl h hd k
theorem as_8_41 (C : Cx p s m args c cc nL Ts own D cy) (hW : WW D A H0 (wM cy a r S) H locs) (h : vp_in i 270000) (hd : decode cc pc = .ok (.iastore, 1)) (e9 : S' = sA S 41 (upd (S.2.1 41) i.toNatClampNeg x))
    (k : ∀ (H1 : Heap) (locs1 : List Loc), WW D A H0 (wM cy a r S') H1 locs1 → W p l e R s m args below meth c H1 locs1 cells slots Q (F0 m (pc + 1) ls rest)) : W p l e R s m args below meth c H locs cells slots Q (F0 m pc ls (.int x :: .int i :: .ref (a 41) :: rest)) := by
  subst e9
  exact va_iast C.1 C.2.1 C.2.2.2.2.2.1 hW.1 hW.2.1 hW.2.2.1 23 0 rfl rfl h hd (fun H1 locs1 hP hD hS => k H1 locs1 ⟨hP, hD, hS, hW.2.2.2⟩)
theorem an_8_41 (C : Cx p s m args c cc nL Ts own D cy) (hW : WW D A H0 (wM cy a r S) H locs) (hd : decode cc pc = .ok (.arraylength, 1))
    (k : W p l e R s m args below meth c H locs cells slots Q (F0 m (pc + 1) ls (.int (Int32.ofNat 270000) :: rest))) : W p l e R s m args below meth c H locs cells slots Q (F0 m pc ls (.ref (a 41) :: rest)) :=
  va_alen C.1 C.2.1 C.2.2.2.2.2.1 hW.1 23 0 rfl rfl rfl hd k
theorem fg_8_42 (C : Cx p s m args c cc nL Ts own D cy) (hin : ∀ w ∈ u_ws RX8 TX8 58, w ∈ Ts) (hl : Cond.fieldLink own idx "SharedLambdaModel" "tails" "[I" ∈ Ts) (hW : WW D A H0 (wM cy a r S) H locs) (hd : decode cc pc = .ok (.getfield idx, 3))
    (k : W p l e R s m args below meth c H locs cells slots Q (F0 m (pc + 3) ls (.ref (a 42) :: rest))) : W p l e R s m args below meth c H locs cells slots Q (F0 m pc ls (.ref (a 99) :: rest)) :=
  va_get (D := D) (ci := 8) (v := .ref (a 42)) (C := RX8) (T := TX8) (N := 58) C.1 C.2.1 C.2.2.2.2.1 hin C.2.2.2.1 C.2.2.2.2.2.1 hW.1 0 rfl rfl 42 (by decide) (C.2.2.2.2.1 _ hl) (fun _ h9 => h9) rfl hd k
theorem al_8_42 (C : Cx p s m args c cc nL Ts own D cy) (hW : WW D A H0 (wM cy a r S) H locs) (h : vp_in i 270000) (hd : decode cc pc = .ok (.iaload, 1))
    (k : W p l e R s m args below meth c H locs cells slots Q (F0 m (pc + 1) ls (.int (S.2.1 42 i.toNatClampNeg) :: rest))) : W p l e R s m args below meth c H locs cells slots Q (F0 m pc ls (.int i :: .ref (a 42) :: rest)) :=
  va_iald C.1 C.2.1 C.2.2.2.2.2.1 hW.1 24 0 rfl rfl h hd k
theorem as_8_42 (C : Cx p s m args c cc nL Ts own D cy) (hW : WW D A H0 (wM cy a r S) H locs) (h : vp_in i 270000) (hd : decode cc pc = .ok (.iastore, 1)) (e9 : S' = sA S 42 (upd (S.2.1 42) i.toNatClampNeg x))
    (k : ∀ (H1 : Heap) (locs1 : List Loc), WW D A H0 (wM cy a r S') H1 locs1 → W p l e R s m args below meth c H1 locs1 cells slots Q (F0 m (pc + 1) ls rest)) : W p l e R s m args below meth c H locs cells slots Q (F0 m pc ls (.int x :: .int i :: .ref (a 42) :: rest)) := by
  subst e9
  exact va_iast C.1 C.2.1 C.2.2.2.2.2.1 hW.1 hW.2.1 hW.2.2.1 24 0 rfl rfl h hd (fun H1 locs1 hP hD hS => k H1 locs1 ⟨hP, hD, hS, hW.2.2.2⟩)
theorem an_8_42 (C : Cx p s m args c cc nL Ts own D cy) (hW : WW D A H0 (wM cy a r S) H locs) (hd : decode cc pc = .ok (.arraylength, 1))
    (k : W p l e R s m args below meth c H locs cells slots Q (F0 m (pc + 1) ls (.int (Int32.ofNat 270000) :: rest))) : W p l e R s m args below meth c H locs cells slots Q (F0 m pc ls (.ref (a 42) :: rest)) :=
  va_alen C.1 C.2.1 C.2.2.2.2.2.1 hW.1 24 0 rfl rfl rfl hd k
theorem fg_8_43 (C : Cx p s m args c cc nL Ts own D cy) (hin : ∀ w ∈ u_ws RX8 TX8 58, w ∈ Ts) (hl : Cond.fieldLink own idx "SharedLambdaModel" "cells" "I" ∈ Ts) (hW : WW D A H0 (wM cy a r S) H locs) (hd : decode cc pc = .ok (.getfield idx, 3))
    (k : W p l e R s m args below meth c H locs cells slots Q (F0 m (pc + 3) ls (.int (S.1 43) :: rest))) : W p l e R s m args below meth c H locs cells slots Q (F0 m pc ls (.ref (a 99) :: rest)) :=
  va_get (D := D) (ci := 8) (v := .int (S.1 43)) (C := RX8) (T := TX8) (N := 58) C.1 C.2.1 C.2.2.2.2.1 hin C.2.2.2.1 C.2.2.2.2.2.1 hW.1 0 rfl rfl 43 (by decide) (C.2.2.2.2.1 _ hl) (fun _ h9 => h9) rfl hd k
theorem fp_8_43 (C : Cx p s m args c cc nL Ts own D cy) (hin : ∀ w ∈ u_ws RX8 TX8 58, w ∈ Ts) (hl : Cond.fieldLink own idx "SharedLambdaModel" "cells" "I" ∈ Ts) (hW : WW D A H0 (wM cy a r S) H locs) (hd : decode cc pc = .ok (.putfield idx, 3)) (e9 : S' = sI S 43 v)
    (k : ∀ (H1 : Heap) (locs1 : List Loc), WW D A H0 (wM cy a r S') H1 locs1 → W p l e R s m args below meth c H1 locs1 cells slots Q (F0 m (pc + 3) ls rest)) : W p l e R s m args below meth c H locs cells slots Q (F0 m pc ls (.int v :: .ref (a 99) :: rest)) := by
  subst e9
  refine va_put (D := D) (ci := 8) (v := .int v) (ty := .int) (C := RX8) (T := TX8) (N := 58) C.1 C.2.1 C.2.2.2.2.1 hin tyX8 tyX8_ok nmX8 C.2.2.2.1 C.2.2.2.2.2.1 hW.1 hW.2.1 hW.2.2.1 0 rfl rfl 43 (by decide) (C.2.2.2.2.1 _ hl) (fun _ h9 => h9) rfl (by decide +kernel) rfl rfl (Nat.le_of_ble_eq_true rfl) hd (fun H1 locs1 hP hD hS => ?_)
  exact k H1 locs1 ⟨hP, hD, hS, hW.2.2.2⟩
theorem fg_8_44 (C : Cx p s m args c cc nL Ts own D cy) (hin : ∀ w ∈ u_ws RX8 TX8 58, w ∈ Ts) (hl : Cond.fieldLink own idx "SharedLambdaModel" "front" "[I" ∈ Ts) (hW : WW D A H0 (wM cy a r S) H locs) (hd : decode cc pc = .ok (.getfield idx, 3))
    (k : W p l e R s m args below meth c H locs cells slots Q (F0 m (pc + 3) ls (.ref (a 44) :: rest))) : W p l e R s m args below meth c H locs cells slots Q (F0 m pc ls (.ref (a 99) :: rest)) :=
  va_get (D := D) (ci := 8) (v := .ref (a 44)) (C := RX8) (T := TX8) (N := 58) C.1 C.2.1 C.2.2.2.2.1 hin C.2.2.2.1 C.2.2.2.2.2.1 hW.1 0 rfl rfl 44 (by decide) (C.2.2.2.2.1 _ hl) (fun _ h9 => h9) rfl hd k
theorem al_8_44 (C : Cx p s m args c cc nL Ts own D cy) (hW : WW D A H0 (wM cy a r S) H locs) (h : vp_in i 64) (hd : decode cc pc = .ok (.iaload, 1))
    (k : W p l e R s m args below meth c H locs cells slots Q (F0 m (pc + 1) ls (.int (S.2.1 44 i.toNatClampNeg) :: rest))) : W p l e R s m args below meth c H locs cells slots Q (F0 m pc ls (.int i :: .ref (a 44) :: rest)) :=
  va_iald C.1 C.2.1 C.2.2.2.2.2.1 hW.1 25 0 rfl rfl h hd k
theorem as_8_44 (C : Cx p s m args c cc nL Ts own D cy) (hW : WW D A H0 (wM cy a r S) H locs) (h : vp_in i 64) (hd : decode cc pc = .ok (.iastore, 1)) (e9 : S' = sA S 44 (upd (S.2.1 44) i.toNatClampNeg x))
    (k : ∀ (H1 : Heap) (locs1 : List Loc), WW D A H0 (wM cy a r S') H1 locs1 → W p l e R s m args below meth c H1 locs1 cells slots Q (F0 m (pc + 1) ls rest)) : W p l e R s m args below meth c H locs cells slots Q (F0 m pc ls (.int x :: .int i :: .ref (a 44) :: rest)) := by
  subst e9
  exact va_iast C.1 C.2.1 C.2.2.2.2.2.1 hW.1 hW.2.1 hW.2.2.1 25 0 rfl rfl h hd (fun H1 locs1 hP hD hS => k H1 locs1 ⟨hP, hD, hS, hW.2.2.2⟩)
theorem an_8_44 (C : Cx p s m args c cc nL Ts own D cy) (hW : WW D A H0 (wM cy a r S) H locs) (hd : decode cc pc = .ok (.arraylength, 1))
    (k : W p l e R s m args below meth c H locs cells slots Q (F0 m (pc + 1) ls (.int (Int32.ofNat 64) :: rest))) : W p l e R s m args below meth c H locs cells slots Q (F0 m pc ls (.ref (a 44) :: rest)) :=
  va_alen C.1 C.2.1 C.2.2.2.2.2.1 hW.1 25 0 rfl rfl rfl hd k
theorem fg_8_45 (C : Cx p s m args c cc nL Ts own D cy) (hin : ∀ w ∈ u_ws RX8 TX8 58, w ∈ Ts) (hl : Cond.fieldLink own idx "SharedLambdaModel" "told" "[B" ∈ Ts) (hW : WW D A H0 (wM cy a r S) H locs) (hd : decode cc pc = .ok (.getfield idx, 3))
    (k : W p l e R s m args below meth c H locs cells slots Q (F0 m (pc + 3) ls (.ref (a 45) :: rest))) : W p l e R s m args below meth c H locs cells slots Q (F0 m pc ls (.ref (a 99) :: rest)) :=
  va_get (D := D) (ci := 8) (v := .ref (a 45)) (C := RX8) (T := TX8) (N := 58) C.1 C.2.1 C.2.2.2.2.1 hin C.2.2.2.1 C.2.2.2.2.2.1 hW.1 0 rfl rfl 45 (by decide) (C.2.2.2.2.1 _ hl) (fun _ h9 => h9) rfl hd k
theorem al_8_45 (C : Cx p s m args c cc nL Ts own D cy) (hW : WW D A H0 (wM cy a r S) H locs) (h : vp_in i 4000) (hd : decode cc pc = .ok (.baload, 1))
    (k : W p l e R s m args below meth c H locs cells slots Q (F0 m (pc + 1) ls (.int (S.2.1 45 i.toNatClampNeg) :: rest))) : W p l e R s m args below meth c H locs cells slots Q (F0 m pc ls (.int i :: .ref (a 45) :: rest)) :=
  va_bald C.1 C.2.1 C.2.2.2.2.2.1 hW.1 26 3 rfl rfl h hd k
theorem as_8_45 (C : Cx p s m args c cc nL Ts own D cy) (hW : WW D A H0 (wM cy a r S) H locs) (h : vp_in i 4000) (hd : decode cc pc = .ok (.bastore, 1)) (e9 : S' = sA S 45 (upd (S.2.1 45) i.toNatClampNeg (vp_nar .byte x)))
    (k : ∀ (H1 : Heap) (locs1 : List Loc), WW D A H0 (wM cy a r S') H1 locs1 → W p l e R s m args below meth c H1 locs1 cells slots Q (F0 m (pc + 1) ls rest)) : W p l e R s m args below meth c H locs cells slots Q (F0 m pc ls (.int x :: .int i :: .ref (a 45) :: rest)) := by
  subst e9
  exact va_bast C.1 C.2.1 C.2.2.2.2.2.1 hW.1 hW.2.1 hW.2.2.1 26 3 rfl rfl h hd (fun H1 locs1 hP hD hS => k H1 locs1 ⟨hP, hD, hS, hW.2.2.2⟩)
theorem an_8_45 (C : Cx p s m args c cc nL Ts own D cy) (hW : WW D A H0 (wM cy a r S) H locs) (hd : decode cc pc = .ok (.arraylength, 1))
    (k : W p l e R s m args below meth c H locs cells slots Q (F0 m (pc + 1) ls (.int (Int32.ofNat 4000) :: rest))) : W p l e R s m args below meth c H locs cells slots Q (F0 m pc ls (.ref (a 45) :: rest)) :=
  va_alen C.1 C.2.1 C.2.2.2.2.2.1 hW.1 26 3 rfl rfl rfl hd k
theorem fg_8_46 (C : Cx p s m args c cc nL Ts own D cy) (hin : ∀ w ∈ u_ws RX8 TX8 58, w ∈ Ts) (hl : Cond.fieldLink own idx "SharedLambdaModel" "tells" "I" ∈ Ts) (hW : WW D A H0 (wM cy a r S) H locs) (hd : decode cc pc = .ok (.getfield idx, 3))
    (k : W p l e R s m args below meth c H locs cells slots Q (F0 m (pc + 3) ls (.int (S.1 46) :: rest))) : W p l e R s m args below meth c H locs cells slots Q (F0 m pc ls (.ref (a 99) :: rest)) :=
  va_get (D := D) (ci := 8) (v := .int (S.1 46)) (C := RX8) (T := TX8) (N := 58) C.1 C.2.1 C.2.2.2.2.1 hin C.2.2.2.1 C.2.2.2.2.2.1 hW.1 0 rfl rfl 46 (by decide) (C.2.2.2.2.1 _ hl) (fun _ h9 => h9) rfl hd k
theorem fp_8_46 (C : Cx p s m args c cc nL Ts own D cy) (hin : ∀ w ∈ u_ws RX8 TX8 58, w ∈ Ts) (hl : Cond.fieldLink own idx "SharedLambdaModel" "tells" "I" ∈ Ts) (hW : WW D A H0 (wM cy a r S) H locs) (hd : decode cc pc = .ok (.putfield idx, 3)) (e9 : S' = sI S 46 v)
    (k : ∀ (H1 : Heap) (locs1 : List Loc), WW D A H0 (wM cy a r S') H1 locs1 → W p l e R s m args below meth c H1 locs1 cells slots Q (F0 m (pc + 3) ls rest)) : W p l e R s m args below meth c H locs cells slots Q (F0 m pc ls (.int v :: .ref (a 99) :: rest)) := by
  subst e9
  refine va_put (D := D) (ci := 8) (v := .int v) (ty := .int) (C := RX8) (T := TX8) (N := 58) C.1 C.2.1 C.2.2.2.2.1 hin tyX8 tyX8_ok nmX8 C.2.2.2.1 C.2.2.2.2.2.1 hW.1 hW.2.1 hW.2.2.1 0 rfl rfl 46 (by decide) (C.2.2.2.2.1 _ hl) (fun _ h9 => h9) rfl (by decide +kernel) rfl rfl (Nat.le_of_ble_eq_true rfl) hd (fun H1 locs1 hP hD hS => ?_)
  exact k H1 locs1 ⟨hP, hD, hS, hW.2.2.2⟩
theorem fg_8_47 (C : Cx p s m args c cc nL Ts own D cy) (hin : ∀ w ∈ u_ws RX8 TX8 58, w ∈ Ts) (hl : Cond.fieldLink own idx "SharedLambdaModel" "letters" "I" ∈ Ts) (hW : WW D A H0 (wM cy a r S) H locs) (hd : decode cc pc = .ok (.getfield idx, 3))
    (k : W p l e R s m args below meth c H locs cells slots Q (F0 m (pc + 3) ls (.int (S.1 47) :: rest))) : W p l e R s m args below meth c H locs cells slots Q (F0 m pc ls (.ref (a 99) :: rest)) :=
  va_get (D := D) (ci := 8) (v := .int (S.1 47)) (C := RX8) (T := TX8) (N := 58) C.1 C.2.1 C.2.2.2.2.1 hin C.2.2.2.1 C.2.2.2.2.2.1 hW.1 0 rfl rfl 47 (by decide) (C.2.2.2.2.1 _ hl) (fun _ h9 => h9) rfl hd k
theorem fp_8_47 (C : Cx p s m args c cc nL Ts own D cy) (hin : ∀ w ∈ u_ws RX8 TX8 58, w ∈ Ts) (hl : Cond.fieldLink own idx "SharedLambdaModel" "letters" "I" ∈ Ts) (hW : WW D A H0 (wM cy a r S) H locs) (hd : decode cc pc = .ok (.putfield idx, 3)) (e9 : S' = sI S 47 v)
    (k : ∀ (H1 : Heap) (locs1 : List Loc), WW D A H0 (wM cy a r S') H1 locs1 → W p l e R s m args below meth c H1 locs1 cells slots Q (F0 m (pc + 3) ls rest)) : W p l e R s m args below meth c H locs cells slots Q (F0 m pc ls (.int v :: .ref (a 99) :: rest)) := by
  subst e9
  refine va_put (D := D) (ci := 8) (v := .int v) (ty := .int) (C := RX8) (T := TX8) (N := 58) C.1 C.2.1 C.2.2.2.2.1 hin tyX8 tyX8_ok nmX8 C.2.2.2.1 C.2.2.2.2.2.1 hW.1 hW.2.1 hW.2.2.1 0 rfl rfl 47 (by decide) (C.2.2.2.2.1 _ hl) (fun _ h9 => h9) rfl (by decide +kernel) rfl rfl (Nat.le_of_ble_eq_true rfl) hd (fun H1 locs1 hP hD hS => ?_)
  exact k H1 locs1 ⟨hP, hD, hS, hW.2.2.2⟩
theorem fg_8_48 (C : Cx p s m args c cc nL Ts own D cy) (hin : ∀ w ∈ u_ws RX8 TX8 58, w ∈ Ts) (hl : Cond.fieldLink own idx "SharedLambdaModel" "context" "I" ∈ Ts) (hW : WW D A H0 (wM cy a r S) H locs) (hd : decode cc pc = .ok (.getfield idx, 3))
    (k : W p l e R s m args below meth c H locs cells slots Q (F0 m (pc + 3) ls (.int (S.1 48) :: rest))) : W p l e R s m args below meth c H locs cells slots Q (F0 m pc ls (.ref (a 99) :: rest)) :=
  va_get (D := D) (ci := 8) (v := .int (S.1 48)) (C := RX8) (T := TX8) (N := 58) C.1 C.2.1 C.2.2.2.2.1 hin C.2.2.2.1 C.2.2.2.2.2.1 hW.1 0 rfl rfl 48 (by decide) (C.2.2.2.2.1 _ hl) (fun _ h9 => h9) rfl hd k
theorem fp_8_48 (C : Cx p s m args c cc nL Ts own D cy) (hin : ∀ w ∈ u_ws RX8 TX8 58, w ∈ Ts) (hl : Cond.fieldLink own idx "SharedLambdaModel" "context" "I" ∈ Ts) (hW : WW D A H0 (wM cy a r S) H locs) (hd : decode cc pc = .ok (.putfield idx, 3)) (e9 : S' = sI S 48 v)
    (k : ∀ (H1 : Heap) (locs1 : List Loc), WW D A H0 (wM cy a r S') H1 locs1 → W p l e R s m args below meth c H1 locs1 cells slots Q (F0 m (pc + 3) ls rest)) : W p l e R s m args below meth c H locs cells slots Q (F0 m pc ls (.int v :: .ref (a 99) :: rest)) := by
  subst e9
  refine va_put (D := D) (ci := 8) (v := .int v) (ty := .int) (C := RX8) (T := TX8) (N := 58) C.1 C.2.1 C.2.2.2.2.1 hin tyX8 tyX8_ok nmX8 C.2.2.2.1 C.2.2.2.2.2.1 hW.1 hW.2.1 hW.2.2.1 0 rfl rfl 48 (by decide) (C.2.2.2.2.1 _ hl) (fun _ h9 => h9) rfl (by decide +kernel) rfl rfl (Nat.le_of_ble_eq_true rfl) hd (fun H1 locs1 hP hD hS => ?_)
  exact k H1 locs1 ⟨hP, hD, hS, hW.2.2.2⟩
theorem fg_8_49 (C : Cx p s m args c cc nL Ts own D cy) (hin : ∀ w ∈ u_ws RX8 TX8 58, w ∈ Ts) (hl : Cond.fieldLink own idx "SharedLambdaModel" "out" "I" ∈ Ts) (hW : WW D A H0 (wM cy a r S) H locs) (hd : decode cc pc = .ok (.getfield idx, 3))
    (k : W p l e R s m args below meth c H locs cells slots Q (F0 m (pc + 3) ls (.int (S.1 49) :: rest))) : W p l e R s m args below meth c H locs cells slots Q (F0 m pc ls (.ref (a 99) :: rest)) :=
  va_get (D := D) (ci := 8) (v := .int (S.1 49)) (C := RX8) (T := TX8) (N := 58) C.1 C.2.1 C.2.2.2.2.1 hin C.2.2.2.1 C.2.2.2.2.2.1 hW.1 0 rfl rfl 49 (by decide) (C.2.2.2.2.1 _ hl) (fun _ h9 => h9) rfl hd k
theorem fp_8_49 (C : Cx p s m args c cc nL Ts own D cy) (hin : ∀ w ∈ u_ws RX8 TX8 58, w ∈ Ts) (hl : Cond.fieldLink own idx "SharedLambdaModel" "out" "I" ∈ Ts) (hW : WW D A H0 (wM cy a r S) H locs) (hd : decode cc pc = .ok (.putfield idx, 3)) (e9 : S' = sI S 49 v)
    (k : ∀ (H1 : Heap) (locs1 : List Loc), WW D A H0 (wM cy a r S') H1 locs1 → W p l e R s m args below meth c H1 locs1 cells slots Q (F0 m (pc + 3) ls rest)) : W p l e R s m args below meth c H locs cells slots Q (F0 m pc ls (.int v :: .ref (a 99) :: rest)) := by
  subst e9
  refine va_put (D := D) (ci := 8) (v := .int v) (ty := .int) (C := RX8) (T := TX8) (N := 58) C.1 C.2.1 C.2.2.2.2.1 hin tyX8 tyX8_ok nmX8 C.2.2.2.1 C.2.2.2.2.2.1 hW.1 hW.2.1 hW.2.2.1 0 rfl rfl 49 (by decide) (C.2.2.2.2.1 _ hl) (fun _ h9 => h9) rfl (by decide +kernel) rfl rfl (Nat.le_of_ble_eq_true rfl) hd (fun H1 locs1 hP hD hS => ?_)
  exact k H1 locs1 ⟨hP, hD, hS, hW.2.2.2⟩
theorem fg_8_50 (C : Cx p s m args c cc nL Ts own D cy) (hin : ∀ w ∈ u_ws RX8 TX8 58, w ∈ Ts) (hl : Cond.fieldLink own idx "SharedLambdaModel" "one" "I" ∈ Ts) (hW : WW D A H0 (wM cy a r S) H locs) (hd : decode cc pc = .ok (.getfield idx, 3))
    (k : W p l e R s m args below meth c H locs cells slots Q (F0 m (pc + 3) ls (.int (S.1 50) :: rest))) : W p l e R s m args below meth c H locs cells slots Q (F0 m pc ls (.ref (a 99) :: rest)) :=
  va_get (D := D) (ci := 8) (v := .int (S.1 50)) (C := RX8) (T := TX8) (N := 58) C.1 C.2.1 C.2.2.2.2.1 hin C.2.2.2.1 C.2.2.2.2.2.1 hW.1 0 rfl rfl 50 (by decide) (C.2.2.2.2.1 _ hl) (fun _ h9 => h9) rfl hd k
theorem fp_8_50 (C : Cx p s m args c cc nL Ts own D cy) (hin : ∀ w ∈ u_ws RX8 TX8 58, w ∈ Ts) (hl : Cond.fieldLink own idx "SharedLambdaModel" "one" "I" ∈ Ts) (hW : WW D A H0 (wM cy a r S) H locs) (hd : decode cc pc = .ok (.putfield idx, 3)) (e9 : S' = sI S 50 v)
    (k : ∀ (H1 : Heap) (locs1 : List Loc), WW D A H0 (wM cy a r S') H1 locs1 → W p l e R s m args below meth c H1 locs1 cells slots Q (F0 m (pc + 3) ls rest)) : W p l e R s m args below meth c H locs cells slots Q (F0 m pc ls (.int v :: .ref (a 99) :: rest)) := by
  subst e9
  refine va_put (D := D) (ci := 8) (v := .int v) (ty := .int) (C := RX8) (T := TX8) (N := 58) C.1 C.2.1 C.2.2.2.2.1 hin tyX8 tyX8_ok nmX8 C.2.2.2.1 C.2.2.2.2.2.1 hW.1 hW.2.1 hW.2.2.1 0 rfl rfl 50 (by decide) (C.2.2.2.2.1 _ hl) (fun _ h9 => h9) rfl (by decide +kernel) rfl rfl (Nat.le_of_ble_eq_true rfl) hd (fun H1 locs1 hP hD hS => ?_)
  exact k H1 locs1 ⟨hP, hD, hS, hW.2.2.2⟩
theorem fg_8_51 (C : Cx p s m args c cc nL Ts own D cy) (hin : ∀ w ∈ u_ws RX8 TX8 58, w ∈ Ts) (hl : Cond.fieldLink own idx "SharedLambdaModel" "other" "I" ∈ Ts) (hW : WW D A H0 (wM cy a r S) H locs) (hd : decode cc pc = .ok (.getfield idx, 3))
    (k : W p l e R s m args below meth c H locs cells slots Q (F0 m (pc + 3) ls (.int (S.1 51) :: rest))) : W p l e R s m args below meth c H locs cells slots Q (F0 m pc ls (.ref (a 99) :: rest)) :=
  va_get (D := D) (ci := 8) (v := .int (S.1 51)) (C := RX8) (T := TX8) (N := 58) C.1 C.2.1 C.2.2.2.2.1 hin C.2.2.2.1 C.2.2.2.2.2.1 hW.1 0 rfl rfl 51 (by decide) (C.2.2.2.2.1 _ hl) (fun _ h9 => h9) rfl hd k
theorem fp_8_51 (C : Cx p s m args c cc nL Ts own D cy) (hin : ∀ w ∈ u_ws RX8 TX8 58, w ∈ Ts) (hl : Cond.fieldLink own idx "SharedLambdaModel" "other" "I" ∈ Ts) (hW : WW D A H0 (wM cy a r S) H locs) (hd : decode cc pc = .ok (.putfield idx, 3)) (e9 : S' = sI S 51 v)
    (k : ∀ (H1 : Heap) (locs1 : List Loc), WW D A H0 (wM cy a r S') H1 locs1 → W p l e R s m args below meth c H1 locs1 cells slots Q (F0 m (pc + 3) ls rest)) : W p l e R s m args below meth c H locs cells slots Q (F0 m pc ls (.int v :: .ref (a 99) :: rest)) := by
  subst e9
  refine va_put (D := D) (ci := 8) (v := .int v) (ty := .int) (C := RX8) (T := TX8) (N := 58) C.1 C.2.1 C.2.2.2.2.1 hin tyX8 tyX8_ok nmX8 C.2.2.2.1 C.2.2.2.2.2.1 hW.1 hW.2.1 hW.2.2.1 0 rfl rfl 51 (by decide) (C.2.2.2.2.1 _ hl) (fun _ h9 => h9) rfl (by decide +kernel) rfl rfl (Nat.le_of_ble_eq_true rfl) hd (fun H1 locs1 hP hD hS => ?_)
  exact k H1 locs1 ⟨hP, hD, hS, hW.2.2.2⟩
theorem fg_8_52 (C : Cx p s m args c cc nL Ts own D cy) (hin : ∀ w ∈ u_ws RX8 TX8 58, w ∈ Ts) (hl : Cond.fieldLink own idx "SharedLambdaModel" "abstractions" "[I" ∈ Ts) (hW : WW D A H0 (wM cy a r S) H locs) (hd : decode cc pc = .ok (.getfield idx, 3))
    (k : W p l e R s m args below meth c H locs cells slots Q (F0 m (pc + 3) ls (.ref (a 52) :: rest))) : W p l e R s m args below meth c H locs cells slots Q (F0 m pc ls (.ref (a 99) :: rest)) :=
  va_get (D := D) (ci := 8) (v := .ref (a 52)) (C := RX8) (T := TX8) (N := 58) C.1 C.2.1 C.2.2.2.2.1 hin C.2.2.2.1 C.2.2.2.2.2.1 hW.1 0 rfl rfl 52 (by decide) (C.2.2.2.2.1 _ hl) (fun _ h9 => h9) rfl hd k
theorem al_8_52 (C : Cx p s m args c cc nL Ts own D cy) (hW : WW D A H0 (wM cy a r S) H locs) (h : vp_in i 4010) (hd : decode cc pc = .ok (.iaload, 1))
    (k : W p l e R s m args below meth c H locs cells slots Q (F0 m (pc + 1) ls (.int (S.2.1 52 i.toNatClampNeg) :: rest))) : W p l e R s m args below meth c H locs cells slots Q (F0 m pc ls (.int i :: .ref (a 52) :: rest)) :=
  va_iald C.1 C.2.1 C.2.2.2.2.2.1 hW.1 27 0 rfl rfl h hd k
theorem as_8_52 (C : Cx p s m args c cc nL Ts own D cy) (hW : WW D A H0 (wM cy a r S) H locs) (h : vp_in i 4010) (hd : decode cc pc = .ok (.iastore, 1)) (e9 : S' = sA S 52 (upd (S.2.1 52) i.toNatClampNeg x))
    (k : ∀ (H1 : Heap) (locs1 : List Loc), WW D A H0 (wM cy a r S') H1 locs1 → W p l e R s m args below meth c H1 locs1 cells slots Q (F0 m (pc + 1) ls rest)) : W p l e R s m args below meth c H locs cells slots Q (F0 m pc ls (.int x :: .int i :: .ref (a 52) :: rest)) := by
  subst e9
  exact va_iast C.1 C.2.1 C.2.2.2.2.2.1 hW.1 hW.2.1 hW.2.2.1 27 0 rfl rfl h hd (fun H1 locs1 hP hD hS => k H1 locs1 ⟨hP, hD, hS, hW.2.2.2⟩)
theorem an_8_52 (C : Cx p s m args c cc nL Ts own D cy) (hW : WW D A H0 (wM cy a r S) H locs) (hd : decode cc pc = .ok (.arraylength, 1))
    (k : W p l e R s m args below meth c H locs cells slots Q (F0 m (pc + 1) ls (.int (Int32.ofNat 4010) :: rest))) : W p l e R s m args below meth c H locs cells slots Q (F0 m pc ls (.ref (a 52) :: rest)) :=
  va_alen C.1 C.2.1 C.2.2.2.2.2.1 hW.1 27 0 rfl rfl rfl hd k
theorem fg_8_53 (C : Cx p s m args c cc nL Ts own D cy) (hin : ∀ w ∈ u_ws RX8 TX8 58, w ∈ Ts) (hl : Cond.fieldLink own idx "SharedLambdaModel" "contexts" "[I" ∈ Ts) (hW : WW D A H0 (wM cy a r S) H locs) (hd : decode cc pc = .ok (.getfield idx, 3))
    (k : W p l e R s m args below meth c H locs cells slots Q (F0 m (pc + 3) ls (.ref (a 53) :: rest))) : W p l e R s m args below meth c H locs cells slots Q (F0 m pc ls (.ref (a 99) :: rest)) :=
  va_get (D := D) (ci := 8) (v := .ref (a 53)) (C := RX8) (T := TX8) (N := 58) C.1 C.2.1 C.2.2.2.2.1 hin C.2.2.2.1 C.2.2.2.2.2.1 hW.1 0 rfl rfl 53 (by decide) (C.2.2.2.2.1 _ hl) (fun _ h9 => h9) rfl hd k
theorem al_8_53 (C : Cx p s m args c cc nL Ts own D cy) (hW : WW D A H0 (wM cy a r S) H locs) (h : vp_in i 4010) (hd : decode cc pc = .ok (.iaload, 1))
    (k : W p l e R s m args below meth c H locs cells slots Q (F0 m (pc + 1) ls (.int (S.2.1 53 i.toNatClampNeg) :: rest))) : W p l e R s m args below meth c H locs cells slots Q (F0 m pc ls (.int i :: .ref (a 53) :: rest)) :=
  va_iald C.1 C.2.1 C.2.2.2.2.2.1 hW.1 28 0 rfl rfl h hd k
theorem as_8_53 (C : Cx p s m args c cc nL Ts own D cy) (hW : WW D A H0 (wM cy a r S) H locs) (h : vp_in i 4010) (hd : decode cc pc = .ok (.iastore, 1)) (e9 : S' = sA S 53 (upd (S.2.1 53) i.toNatClampNeg x))
    (k : ∀ (H1 : Heap) (locs1 : List Loc), WW D A H0 (wM cy a r S') H1 locs1 → W p l e R s m args below meth c H1 locs1 cells slots Q (F0 m (pc + 1) ls rest)) : W p l e R s m args below meth c H locs cells slots Q (F0 m pc ls (.int x :: .int i :: .ref (a 53) :: rest)) := by
  subst e9
  exact va_iast C.1 C.2.1 C.2.2.2.2.2.1 hW.1 hW.2.1 hW.2.2.1 28 0 rfl rfl h hd (fun H1 locs1 hP hD hS => k H1 locs1 ⟨hP, hD, hS, hW.2.2.2⟩)
theorem an_8_53 (C : Cx p s m args c cc nL Ts own D cy) (hW : WW D A H0 (wM cy a r S) H locs) (hd : decode cc pc = .ok (.arraylength, 1))
    (k : W p l e R s m args below meth c H locs cells slots Q (F0 m (pc + 1) ls (.int (Int32.ofNat 4010) :: rest))) : W p l e R s m args below meth c H locs cells slots Q (F0 m pc ls (.ref (a 53) :: rest)) :=
  va_alen C.1 C.2.1 C.2.2.2.2.2.1 hW.1 28 0 rfl rfl rfl hd k
theorem fg_8_54 (C : Cx p s m args c cc nL Ts own D cy) (hin : ∀ w ∈ u_ws RX8 TX8 58, w ∈ Ts) (hl : Cond.fieldLink own idx "SharedLambdaModel" "abstracted" "I" ∈ Ts) (hW : WW D A H0 (wM cy a r S) H locs) (hd : decode cc pc = .ok (.getfield idx, 3))
    (k : W p l e R s m args below meth c H locs cells slots Q (F0 m (pc + 3) ls (.int (S.1 54) :: rest))) : W p l e R s m args below meth c H locs cells slots Q (F0 m pc ls (.ref (a 99) :: rest)) :=
  va_get (D := D) (ci := 8) (v := .int (S.1 54)) (C := RX8) (T := TX8) (N := 58) C.1 C.2.1 C.2.2.2.2.1 hin C.2.2.2.1 C.2.2.2.2.2.1 hW.1 0 rfl rfl 54 (by decide) (C.2.2.2.2.1 _ hl) (fun _ h9 => h9) rfl hd k
theorem fp_8_54 (C : Cx p s m args c cc nL Ts own D cy) (hin : ∀ w ∈ u_ws RX8 TX8 58, w ∈ Ts) (hl : Cond.fieldLink own idx "SharedLambdaModel" "abstracted" "I" ∈ Ts) (hW : WW D A H0 (wM cy a r S) H locs) (hd : decode cc pc = .ok (.putfield idx, 3)) (e9 : S' = sI S 54 v)
    (k : ∀ (H1 : Heap) (locs1 : List Loc), WW D A H0 (wM cy a r S') H1 locs1 → W p l e R s m args below meth c H1 locs1 cells slots Q (F0 m (pc + 3) ls rest)) : W p l e R s m args below meth c H locs cells slots Q (F0 m pc ls (.int v :: .ref (a 99) :: rest)) := by
  subst e9
  refine va_put (D := D) (ci := 8) (v := .int v) (ty := .int) (C := RX8) (T := TX8) (N := 58) C.1 C.2.1 C.2.2.2.2.1 hin tyX8 tyX8_ok nmX8 C.2.2.2.1 C.2.2.2.2.2.1 hW.1 hW.2.1 hW.2.2.1 0 rfl rfl 54 (by decide) (C.2.2.2.2.1 _ hl) (fun _ h9 => h9) rfl (by decide +kernel) rfl rfl (Nat.le_of_ble_eq_true rfl) hd (fun H1 locs1 hP hD hS => ?_)
  exact k H1 locs1 ⟨hP, hD, hS, hW.2.2.2⟩
theorem fg_8_55 (C : Cx p s m args c cc nL Ts own D cy) (hin : ∀ w ∈ u_ws RX8 TX8 58, w ∈ Ts) (hl : Cond.fieldLink own idx "SharedLambdaModel" "later" "[I" ∈ Ts) (hW : WW D A H0 (wM cy a r S) H locs) (hd : decode cc pc = .ok (.getfield idx, 3))
    (k : W p l e R s m args below meth c H locs cells slots Q (F0 m (pc + 3) ls (.ref (a 55) :: rest))) : W p l e R s m args below meth c H locs cells slots Q (F0 m pc ls (.ref (a 99) :: rest)) :=
  va_get (D := D) (ci := 8) (v := .ref (a 55)) (C := RX8) (T := TX8) (N := 58) C.1 C.2.1 C.2.2.2.2.1 hin C.2.2.2.1 C.2.2.2.2.2.1 hW.1 0 rfl rfl 55 (by decide) (C.2.2.2.2.1 _ hl) (fun _ h9 => h9) rfl hd k
theorem al_8_55 (C : Cx p s m args c cc nL Ts own D cy) (hW : WW D A H0 (wM cy a r S) H locs) (h : vp_in i 8010) (hd : decode cc pc = .ok (.iaload, 1))
    (k : W p l e R s m args below meth c H locs cells slots Q (F0 m (pc + 1) ls (.int (S.2.1 55 i.toNatClampNeg) :: rest))) : W p l e R s m args below meth c H locs cells slots Q (F0 m pc ls (.int i :: .ref (a 55) :: rest)) :=
  va_iald C.1 C.2.1 C.2.2.2.2.2.1 hW.1 29 0 rfl rfl h hd k
theorem as_8_55 (C : Cx p s m args c cc nL Ts own D cy) (hW : WW D A H0 (wM cy a r S) H locs) (h : vp_in i 8010) (hd : decode cc pc = .ok (.iastore, 1)) (e9 : S' = sA S 55 (upd (S.2.1 55) i.toNatClampNeg x))
    (k : ∀ (H1 : Heap) (locs1 : List Loc), WW D A H0 (wM cy a r S') H1 locs1 → W p l e R s m args below meth c H1 locs1 cells slots Q (F0 m (pc + 1) ls rest)) : W p l e R s m args below meth c H locs cells slots Q (F0 m pc ls (.int x :: .int i :: .ref (a 55) :: rest)) := by
  subst e9
  exact va_iast C.1 C.2.1 C.2.2.2.2.2.1 hW.1 hW.2.1 hW.2.2.1 29 0 rfl rfl h hd (fun H1 locs1 hP hD hS => k H1 locs1 ⟨hP, hD, hS, hW.2.2.2⟩)
theorem an_8_55 (C : Cx p s m args c cc nL Ts own D cy) (hW : WW D A H0 (wM cy a r S) H locs) (hd : decode cc pc = .ok (.arraylength, 1))
    (k : W p l e R s m args below meth c H locs cells slots Q (F0 m (pc + 1) ls (.int (Int32.ofNat 8010) :: rest))) : W p l e R s m args below meth c H locs cells slots Q (F0 m pc ls (.ref (a 55) :: rest)) :=
  va_alen C.1 C.2.1 C.2.2.2.2.2.1 hW.1 29 0 rfl rfl rfl hd k
theorem fg_8_56 (C : Cx p s m args c cc nL Ts own D cy) (hin : ∀ w ∈ u_ws RX8 TX8 58, w ∈ Ts) (hl : Cond.fieldLink own idx "SharedLambdaModel" "laterContexts" "[I" ∈ Ts) (hW : WW D A H0 (wM cy a r S) H locs) (hd : decode cc pc = .ok (.getfield idx, 3))
    (k : W p l e R s m args below meth c H locs cells slots Q (F0 m (pc + 3) ls (.ref (a 56) :: rest))) : W p l e R s m args below meth c H locs cells slots Q (F0 m pc ls (.ref (a 99) :: rest)) :=
  va_get (D := D) (ci := 8) (v := .ref (a 56)) (C := RX8) (T := TX8) (N := 58) C.1 C.2.1 C.2.2.2.2.1 hin C.2.2.2.1 C.2.2.2.2.2.1 hW.1 0 rfl rfl 56 (by decide) (C.2.2.2.2.1 _ hl) (fun _ h9 => h9) rfl hd k
theorem al_8_56 (C : Cx p s m args c cc nL Ts own D cy) (hW : WW D A H0 (wM cy a r S) H locs) (h : vp_in i 8010) (hd : decode cc pc = .ok (.iaload, 1))
    (k : W p l e R s m args below meth c H locs cells slots Q (F0 m (pc + 1) ls (.int (S.2.1 56 i.toNatClampNeg) :: rest))) : W p l e R s m args below meth c H locs cells slots Q (F0 m pc ls (.int i :: .ref (a 56) :: rest)) :=
  va_iald C.1 C.2.1 C.2.2.2.2.2.1 hW.1 30 0 rfl rfl h hd k
theorem as_8_56 (C : Cx p s m args c cc nL Ts own D cy) (hW : WW D A H0 (wM cy a r S) H locs) (h : vp_in i 8010) (hd : decode cc pc = .ok (.iastore, 1)) (e9 : S' = sA S 56 (upd (S.2.1 56) i.toNatClampNeg x))
    (k : ∀ (H1 : Heap) (locs1 : List Loc), WW D A H0 (wM cy a r S') H1 locs1 → W p l e R s m args below meth c H1 locs1 cells slots Q (F0 m (pc + 1) ls rest)) : W p l e R s m args below meth c H locs cells slots Q (F0 m pc ls (.int x :: .int i :: .ref (a 56) :: rest)) := by
  subst e9
  exact va_iast C.1 C.2.1 C.2.2.2.2.2.1 hW.1 hW.2.1 hW.2.2.1 30 0 rfl rfl h hd (fun H1 locs1 hP hD hS => k H1 locs1 ⟨hP, hD, hS, hW.2.2.2⟩)
theorem an_8_56 (C : Cx p s m args c cc nL Ts own D cy) (hW : WW D A H0 (wM cy a r S) H locs) (hd : decode cc pc = .ok (.arraylength, 1))
    (k : W p l e R s m args below meth c H locs cells slots Q (F0 m (pc + 1) ls (.int (Int32.ofNat 8010) :: rest))) : W p l e R s m args below meth c H locs cells slots Q (F0 m pc ls (.ref (a 56) :: rest)) :=
  va_alen C.1 C.2.1 C.2.2.2.2.2.1 hW.1 30 0 rfl rfl rfl hd k
theorem fg_8_57 (C : Cx p s m args c cc nL Ts own D cy) (hin : ∀ w ∈ u_ws RX8 TX8 58, w ∈ Ts) (hl : Cond.fieldLink own idx "SharedLambdaModel" "laters" "I" ∈ Ts) (hW : WW D A H0 (wM cy a r S) H locs) (hd : decode cc pc = .ok (.getfield idx, 3))
    (k : W p l e R s m args below meth c H locs cells slots Q (F0 m (pc + 3) ls (.int (S.1 57) :: rest))) : W p l e R s m args below meth c H locs cells slots Q (F0 m pc ls (.ref (a 99) :: rest)) :=
  va_get (D := D) (ci := 8) (v := .int (S.1 57)) (C := RX8) (T := TX8) (N := 58) C.1 C.2.1 C.2.2.2.2.1 hin C.2.2.2.1 C.2.2.2.2.2.1 hW.1 0 rfl rfl 57 (by decide) (C.2.2.2.2.1 _ hl) (fun _ h9 => h9) rfl hd k
theorem fp_8_57 (C : Cx p s m args c cc nL Ts own D cy) (hin : ∀ w ∈ u_ws RX8 TX8 58, w ∈ Ts) (hl : Cond.fieldLink own idx "SharedLambdaModel" "laters" "I" ∈ Ts) (hW : WW D A H0 (wM cy a r S) H locs) (hd : decode cc pc = .ok (.putfield idx, 3)) (e9 : S' = sI S 57 v)
    (k : ∀ (H1 : Heap) (locs1 : List Loc), WW D A H0 (wM cy a r S') H1 locs1 → W p l e R s m args below meth c H1 locs1 cells slots Q (F0 m (pc + 3) ls rest)) : W p l e R s m args below meth c H locs cells slots Q (F0 m pc ls (.int v :: .ref (a 99) :: rest)) := by
  subst e9
  refine va_put (D := D) (ci := 8) (v := .int v) (ty := .int) (C := RX8) (T := TX8) (N := 58) C.1 C.2.1 C.2.2.2.2.1 hin tyX8 tyX8_ok nmX8 C.2.2.2.1 C.2.2.2.2.2.1 hW.1 hW.2.1 hW.2.2.1 0 rfl rfl 57 (by decide) (C.2.2.2.2.1 _ hl) (fun _ h9 => h9) rfl (by decide +kernel) rfl rfl (Nat.le_of_ble_eq_true rfl) hd (fun H1 locs1 hP hD hS => ?_)
  exact k H1 locs1 ⟨hP, hD, hS, hW.2.2.2⟩
end FR
