theorem lk_ne {x : Int32} {k : Int} (hk : -2147483648 ≤ k) (hk2 : k < 2147483648) (h : ¬ x = Int32.ofInt k) : ¬ k = x.toInt := fun e => lk_el hk hk2 h e.symm
/-! arraycopy within one row; the rows of freePorts -/
def ckc {β : Type} (sp dp n : Int32) (L0 L1 : Nat) (K : Option β) : Option β := if sp < 0 ∨ dp < 0 ∨ n < 0 ∨ L0 < sp.toNatClampNeg + n.toNatClampNeg ∨ L1 < dp.toNatClampNeg + n.toNatClampNeg then none else K
theorem ckc_el {β : Type} {sp dp n : Int32} {L0 L1 : Nat} {K : Option β} {R : β} (h : ckc sp dp n L0 L1 K = some R) : (¬ sp < 0 ∧ ¬ dp < 0 ∧ ¬ n < 0 ∧ sp.toNatClampNeg + n.toNatClampNeg ≤ L0 ∧ dp.toNatClampNeg + n.toNatClampNeg ≤ L1) ∧ K = some R := by
  unfold ckc at h
  by_cases c : sp < 0 ∨ dp < 0 ∨ n < 0 ∨ L0 < sp.toNatClampNeg + n.toNatClampNeg ∨ L1 < dp.toNatClampNeg + n.toNatClampNeg
  · rw [if_pos c] at h; cases h
  · rw [if_neg c] at h
    exact ⟨⟨fun q => c (Or.inl q), fun q => c (Or.inr (Or.inl q)), fun q => c (Or.inr (Or.inr (Or.inl q))), Nat.not_lt.mp (fun q => c (Or.inr (Or.inr (Or.inr (Or.inl q))))), Nat.not_lt.mp (fun q => c (Or.inr (Or.inr (Or.inr (Or.inr q)))))⟩, h⟩
theorem vp_ltN {i : Int32} {n : Nat} (h : vp_in i n) : i.toNatClampNeg < n := Nat.not_le.mp fun q => h (Or.inr q)
theorem wC0_len {cy : Nat → ClassId} {a r : Nat → Nat} {S : St} : (wC0 cy a r S).length = 42 := rfl
theorem wC_row {cy : Nat → ClassId} {a r : Nat → Nat} {S : St} {i : Nat} (hi : i < 43) : (wC cy a r S)[42 + i]? = some (r i, .inl (cy 0, 40, .inl (S.2.2.1 i))) := by
  unfold wC
  rw [List.getElem?_append_right (by rw [wC0_len]; omega), wC0_len, Nat.add_sub_cancel_left, List.getElem?_map, List.getElem?_range hi]
  rfl
theorem wC_rowset {cy : Nat → ClassId} {a r : Nat → Nat} {S : St} {i : Nat} (hi : i < 43) (f : Nat → Int32) : (wC cy a r S).set (42 + i) (r i, .inl (cy 0, 40, .inl f)) = wC cy a r (sF S i f) := by
  unfold wC
  rw [List.set_append_right _ _ (by rw [wC0_len]; omega), wC0_len, Nat.add_sub_cancel_left]
  show wC0 cy a r S ++ _ = wC0 cy a r S ++ _
  congr 1
  apply List.ext_getElem?
  intro j
  rw [List.getElem?_set, List.getElem?_map, List.getElem?_map, List.length_map, List.length_range]
  by_cases e : i = j
  · subst e
    rw [if_pos rfl, if_pos hi, List.getElem?_range hi]
    simp [sF, updF]
  · rw [if_neg e]
    cases h : (List.range 43)[j]? with
    | none => rfl
    | some q =>
      have hq : q = j := by
        have h2 := (List.getElem?_eq_some_iff.mp h).2
        rw [List.getElem_range] at h2
        exact h2.symm
      subst hq
      simp [sF, updF, Ne.symm e]
section FR2
variable {p : Program} {l : Launch} {e : Env} {R : Room} {s : State} {m : MethodId} {args : Array Value} {below : List Frame} {meth : Method} {c : Code} {H : Heap} {locs : List Loc} {cells slots : Nat} {Q : State → Prop}
variable {cc : ByteArray} {pc nL idx : Nat} {ls : Array Slot} {rest : List Value} {D : va_G} {cy : Nat → ClassId} {a r : Nat → Nat} {A : Nat → Prop} {H0 : Heap} {Ts : List Cond} {own : String} {S S' : St} {v i x sp dp n : Int32}
theorem cp_1_1 (C : Cx p s m args c cc nL Ts own D cy) (hW : WW D A H0 (wC cy a r S) H locs) (hlink : Cond.methodLink own idx arraycopyName ∈ Ts) (hnat : Cond.native arraycopyName ∈ Ts) (hst : Cond.static arraycopyName ∈ Ts) (hini : Cond.initialized "java/lang/System" ∈ Ts)
    (h : ¬ sp < 0 ∧ ¬ dp < 0 ∧ ¬ n < 0 ∧ sp.toNatClampNeg + n.toNatClampNeg ≤ 4067 ∧ dp.toNatClampNeg + n.toNatClampNeg ≤ 4067) (hls : ls.size = nL) (hfr : 1 ≤ R.frames) (hlo : (rest.map fun v => v.category).sum + (nativeFrameWords "java/lang/System" "arraycopy" 5 + 11) ≤ R.locals) (hd : decode cc pc = .ok (.invokestatic idx, 3))
    (e9 : S' = sA S 21 (va_cpy (S.2.1 21) (S.2.1 21) sp.toNatClampNeg dp.toNatClampNeg n.toNatClampNeg))
    (k : ∀ (H1 : Heap) (locs1 : List Loc), WW D A H0 (wC cy a r S') H1 locs1 → W p l e R s m args below meth c H1 locs1 cells slots Q (F0 m (pc + 3) ls rest)) : W p l e R s m args below meth c H locs cells slots Q (F0 m pc ls (.int n :: .int dp :: .ref (a 21) :: .int sp :: .ref (a 21) :: rest)) := by
  subst e9
  exact va_copyi C.1 C.2.1 (C.2.2.1.trans hls.symm) C.2.2.2.1 (C.2.2.2.2.1 _ hlink) (C.2.2.2.2.1 _ hnat) (C.2.2.2.2.1 _ hst) (C.2.2.2.2.1 _ hini) C.2.2.2.2.2.1 hW.1 hW.2.1 hW.2.2.1 9 9 0 0 rfl rfl rfl rfl rfl h.1 h.2.1 h.2.2.1 h.2.2.2.1 h.2.2.2.2 (fun _ _ => rfl) hfr hlo hd (fun H1 locs1 hP hD hS => k H1 locs1 ⟨hP, hD, hS, hW.2.2.2⟩)
theorem va_aldA {ad n : Nat} {cl : List vw_C} {tys : List (ClassId × FieldType)} {ws : va_W} (hexec : p.tables.exec = Jvm.exec) (hb : c.code = cc) (hK : va_K D cl tys s) (hP : va_P D cl ws H) (q0 t0 : Nat) {cA : ClassId} {f : Nat → Option Nat} (ha : ws[q0]? = some (ad, .inl (cA, n, .inr (.inr (.inr (.inr f)))))) (ht : tys[t0]? = some (cA, .array .int)) {i : Int32} (hin : vp_in i n) (hdg : decode cc pc = .ok (.aaload, 1))
    (kk : W p l e R s m args below meth c H locs cells slots Q (F0 m (pc + 1) ls (va_rf (f i.toNatClampNeg) :: rest))) : W p l e R s m args below meth c H locs cells slots Q (F0 m pc ls (.int i :: .ref ad :: rest)) := by
  have hlt : i.toNatClampNeg < n := Nat.not_le.mp fun q => hin (Or.inr q)
  exact W.aald (v := va_rf (f i.toNatClampNeg)) (ty := .array .int) hexec hb (hP q0 _ ha) ((hK.2 t0 _ ht).1 n (fun j => va_rf (f j))) rfl (fun q => by cases q) (by show ¬ (i < 0 ∨ (arrV _ _ _).slots.size ≤ _); rw [arrV_size]; exact hin) (by show (arrV _ _ _).slots[_]? = _; rw [arrV_read _ _ hlt]) rfl rfl hdg kk
theorem aa_0_2 (C : Cx p s m args c cc nL Ts own D cy) (hW : WW D A H0 (wC cy a r S) H locs) (h : vp_in i 43) (hd : decode cc pc = .ok (.aaload, 1))
    (k : W p l e R s m args below meth c H locs cells slots Q (F0 m (pc + 1) ls (.ref (r i.toNatClampNeg) :: rest))) : W p l e R s m args below meth c H locs cells slots Q (F0 m pc ls (.int i :: .ref (a 2) :: rest)) := by
  have hlt := vp_ltN h
  have h40 : (wC cy a r S)[40]? = some (a 2, .inl (cy 4, 43, .inr (.inr (.inr (.inr (fun i => if i < 43 then some (r i) else none)))))) := rfl
  refine va_aldA C.1 C.2.1 C.2.2.2.2.2.1 hW.1 40 4 h40 rfl h hd ?_
  have e9 : va_rf (if i.toNatClampNeg < 43 then some (r i.toNatClampNeg) else none) = .ref (r i.toNatClampNeg) := by rw [if_pos hlt]; rfl
  rw [e9]
  exact k
theorem ar_ld {j : Nat} (C : Cx p s m args c cc nL Ts own D cy) (hW : WW D A H0 (wC cy a r S) H locs) (hj : j < 43) (h : vp_in i 40) (hd : decode cc pc = .ok (.iaload, 1))
    (k : W p l e R s m args below meth c H locs cells slots Q (F0 m (pc + 1) ls (.int (S.2.2.1 j i.toNatClampNeg) :: rest))) : W p l e R s m args below meth c H locs cells slots Q (F0 m pc ls (.int i :: .ref (r j) :: rest)) :=
  va_iald C.1 C.2.1 C.2.2.2.2.2.1 hW.1 (42 + j) 0 (wC_row hj) rfl h hd k
theorem ar_st {j : Nat} (C : Cx p s m args c cc nL Ts own D cy) (hW : WW D A H0 (wC cy a r S) H locs) (hj : j < 43) (h : vp_in i 40) (hd : decode cc pc = .ok (.iastore, 1)) (e9 : S' = sF S j (upd (S.2.2.1 j) i.toNatClampNeg x))
    (k : ∀ (H1 : Heap) (locs1 : List Loc), WW D A H0 (wC cy a r S') H1 locs1 → W p l e R s m args below meth c H1 locs1 cells slots Q (F0 m (pc + 1) ls rest)) : W p l e R s m args below meth c H locs cells slots Q (F0 m pc ls (.int x :: .int i :: .ref (r j) :: rest)) := by
  subst e9
  refine va_iast C.1 C.2.1 C.2.2.2.2.2.1 hW.1 hW.2.1 hW.2.2.1 (42 + j) 0 (wC_row hj) rfl h hd (fun H1 locs1 hP hD hS => ?_)
  rw [wC_rowset hj] at hP hD
  exact k H1 locs1 ⟨hP, hD, hS, hW.2.2.2⟩
end FR2
