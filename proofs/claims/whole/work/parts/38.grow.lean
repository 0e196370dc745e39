/-! methods that may make a grown row: cells and slots made so far are counted in the state -/
abbrev gc (S : St) : Nat := S.2.2.2.2.2.1
abbrev gs (S : St) : Nat := S.2.2.2.2.2.2
def Ge (u S : St) : Prop := gc S ≤ gc u ∧ gs S ≤ gs u
theorem Ge.rf {S : St} : Ge S S := ⟨Nat.le_refl _, Nat.le_refl _⟩
theorem Ge.trans {a b c : St} (h : Ge a b) (g : Ge b c) : Ge a c := ⟨Nat.le_trans g.1 h.1, Nat.le_trans g.2 h.2⟩
theorem Ge.of {u S : St} (t : tl u = tl S) : Ge u S := ⟨Nat.le_of_eq (congrArg (fun z : Nat × Nat × Nat × Nat => z.2.2.1) t).symm, Nat.le_of_eq (congrArg (fun z : Nat × Nat × Nat × Nat => z.2.2.2) t).symm⟩
def Acc (cells slots c0 s0 : Nat) (S : St) : Prop := cells + c0 = gc S ∧ slots + s0 = gs S
section AC
variable {cells slots c0 s0 : Nat} {S u Rq : St}
theorem Acc.of (h : Acc cells slots c0 s0 S) (t : tl u = tl S) : Acc cells slots c0 s0 u := ⟨h.1.trans (congrArg (fun z : Nat × Nat × Nat × Nat => z.2.2.1) t).symm, h.2.trans (congrArg (fun z : Nat × Nat × Nat × Nat => z.2.2.2) t).symm⟩
theorem Acc.cap (h : Acc cells slots c0 s0 S) (g : Ge Rq S) : cells ≤ gc Rq - c0 ∧ slots ≤ gs Rq - s0 := by
  have h1 := h.1; have h2 := h.2; have g1 := g.1; have g2 := g.2
  constructor <;> omega
theorem Acc.call (h : Acc cells slots c0 s0 S) (g : Ge u S) : Acc (cells + (gc u - gc S)) (slots + (gs u - gs S)) c0 s0 u := by
  have h1 := h.1; have h2 := h.2; have g1 := g.1; have g2 := g.2
  constructor <;> omega
theorem Acc.callcap (h : Acc cells slots c0 s0 S) (g : Ge u S) (g2 : Ge Rq u) : cells + (gc u - gc S) ≤ gc Rq - c0 ∧ slots + (gs u - gs S) ≤ gs Rq - s0 := by
  have h1 := h.1; have h2 := h.2; have g1 := g.1; have g3 := g.2; have g4 := g2.1; have g5 := g2.2
  constructor <;> omega
end AC
/-- the world behind such a method: the grown row may be another cell -/
def posX (D : va_G) (cy : Nat → ClassId) (a : Nat → Nat) (A : Nat → Prop) (u : St) (t : State) : Prop := ∃ r : Nat → Nat, posW D cy (wC cy a r) A u t
abbrev QIx (D : va_G) (cy : Nat → ClassId) (a : Nat → Nat) (A : Nat → Prop) (R : Int32 × St) : Array Value → State → Outcome → State → Prop := va_Qi (fun v u => (v, u) = R) (posX D cy a A) A
abbrev QVx (D : va_G) (cy : Nat → ClassId) (a : Nat → Nat) (A : Nat → Prop) (R : St) : Array Value → State → Outcome → State → Prop := va_Qv (fun u => u = R) (posX D cy a A) A
section MG
variable {p : Program} {l : Launch} {e : Env} {R : Room} {s : State} {m : MethodId} {args : Array Value} {below : List Frame} {meth : Method} {c : Code} {H : Heap} {locs : List Loc} {cells slots : Nat} {Q : State → Prop}
variable {cc : ByteArray} {pc nL : Nat} {ls : Array Slot} {rest st : List Value} {D : va_G} {cy : Nat → ClassId} {A : Nat → Prop} {H0 : Heap} {Ts : List Cond} {own : String} {S u' : St} {a r : Nat → Nat} {v' : Int32}
variable {y : MethodName} {bytes : ByteArray} {maxL n index mc ms c0 s0 : Nat} {ret : Option FieldType} {ws : List Cond} {rm : Room} {As : List Value} {b q0 ci : Nat} {Cn : String} {T : u_T} {NN : Nat} {fs : List Value}
theorem mcViG (C : Cx p s m args c cc nL Ts own D cy) (hM : Met l y ws rm (va_Pc (.ref b :: As) (preW D cy (wC cy a r S) H.size)) (QIx D cy a (va_A (wC cy a r S) H.size) (v', u')) mc ms (va_A (wC cy a r S) H.size))
    (cw : CallW R s args own Cn index y bytes maxL ret ws rm mc ms n) (hq : (wC cy a r S)[q0]? = some (b, .inr (ci, fs))) (hc : vwCl[ci]? = some (Cn, T, NN)) (hn : As.length = n) (hls : ls.size = nL) (hrest : (rest.map fun v => v.category).sum ≤ 8)
    (hW : WW D A H0 (wC cy a r S) H locs) (hd : decode cc pc = .ok (.invokevirtual index, 3)) (hcs : cells + mc ≤ R.cells ∧ slots + ms ≤ R.slots) (hst : st = As.reverse ++ .ref b :: rest)
    (k : ∀ (r : Nat → Nat) (H1 : Heap) (locs1 : List Loc), WW D A H0 (wC cy a r u') H1 locs1 → W p l e R s m args below meth c H1 locs1 (cells + mc) (slots + ms) Q (F0 m (pc + 3) ls (.int v' :: rest))) : W p l e R s m args below meth c H locs cells slots Q (F0 m pc ls st) := by
  refine va_calli (va_runV (As := As) (rest := rest) ⟨C.1, C.2.1, C.2.2.1, C.2.2.2.1, C.2.2.2.2.1⟩ hM cw ⟨pre_blind, va_recv C.2.2.2.2.2.1 hW.1 hc hq, pre_at (w := wC cy a r) C hW⟩ rfl hn hls hst (lv_room hrest) hd hcs) hW.2.2.1 (fun q _ h => ww_free (w := wC cy a r) hW q h) (ww_free (w := wC cy a r) hW) (fun v u t H1 locs1 ht hvm hw hB hz1 hk1 hS => ?_)
  cases hw
  obtain ⟨r2, hB⟩ := hB
  exact k r2 H1 locs1 ⟨ht ▸ hB.1, hB.2.2.1.weaken (fun _ q _ h => ww_free (w := wC cy a r) hW q.1 h), hS, hW.2.2.2⟩
theorem mcVvG (C : Cx p s m args c cc nL Ts own D cy) (hM : Met l y ws rm (va_Pc (.ref b :: As) (preW D cy (wC cy a r S) H.size)) (QVx D cy a (va_A (wC cy a r S) H.size) u') mc ms (va_A (wC cy a r S) H.size))
    (cw : CallW R s args own Cn index y bytes maxL ret ws rm mc ms n) (hq : (wC cy a r S)[q0]? = some (b, .inr (ci, fs))) (hc : vwCl[ci]? = some (Cn, T, NN)) (hn : As.length = n) (hls : ls.size = nL) (hrest : (rest.map fun v => v.category).sum ≤ 8)
    (hW : WW D A H0 (wC cy a r S) H locs) (hd : decode cc pc = .ok (.invokevirtual index, 3)) (hcs : cells + mc ≤ R.cells ∧ slots + ms ≤ R.slots) (hst : st = As.reverse ++ .ref b :: rest)
    (k : ∀ (r : Nat → Nat) (H1 : Heap) (locs1 : List Loc), WW D A H0 (wC cy a r u') H1 locs1 → W p l e R s m args below meth c H1 locs1 (cells + mc) (slots + ms) Q (F0 m (pc + 3) ls rest)) : W p l e R s m args below meth c H locs cells slots Q (F0 m pc ls st) := by
  refine va_callv (va_runV (As := As) (rest := rest) ⟨C.1, C.2.1, C.2.2.1, C.2.2.2.1, C.2.2.2.2.1⟩ hM cw ⟨pre_blind, va_recv C.2.2.2.2.2.1 hW.1 hc hq, pre_at (w := wC cy a r) C hW⟩ rfl hn hls hst (lv_room hrest) hd hcs) hW.2.2.1 (fun q _ h => ww_free (w := wC cy a r) hW q h) (ww_free (w := wC cy a r) hW) (fun u t H1 locs1 ht hvm hw hB hz1 hk1 hS => ?_)
  cases hw
  obtain ⟨r2, hB⟩ := hB
  exact k r2 H1 locs1 ⟨ht ▸ hB.1, hB.2.2.1.weaken (fun _ q _ h => ww_free (w := wC cy a r) hW q.1 h), hS, hW.2.2.2⟩
theorem mrIG {v : Int32} {ty : FieldType} {Rr : Int32 × St} (C : Cx p s m args c cc nL Ts own D cy) (hr : meth.sig.returnType = some ty) (hlocks : meth.locks = false) (hn : narrow ty (.int v) = .int v) (hf : some (v, S) = some Rr) (hg : Acc cells slots c0 s0 S) (hW : WW D A s.heap (wC cy a r S) H locs) (hd : decode cc pc = .ok (.ireturn, 1)) :
    W p l e R s m args below meth c H locs cells slots (MQ below (QIx D cy a A Rr) args s (gc Rr.2 - c0) (gs Rr.2 - s0) A) (F0 m pc ls [.int v]) := by
  cases hf
  obtain ⟨rfl⟩ : cells = gc S - c0 := by have := hg.1; omega
  obtain ⟨rfl⟩ : slots = gs S - s0 := by have := hg.2; omega
  exact W.zret C.1 C.2.1 hr hn (fun t ht hw => ⟨⟨v, S, rfl, rfl, r, by rw [ht]; exact hW.1, va_K.moved hw.alike C.2.2.2.2.2.1, hW.2.1, NW.warm hw C.2.2.2.2.2.2⟩, hW.2.2.1.F ht⟩) hW.2.2.1.2.2 hd hlocks
theorem mrVG {Rr : St} (C : Cx p s m args c cc nL Ts own D cy) (hr : meth.sig.returnType = none) (hlocks : meth.locks = false) (hf : some S = some Rr) (hg : Acc cells slots c0 s0 S) (hW : WW D A s.heap (wC cy a r S) H locs) (hd : decode cc pc = .ok (.return_, 1)) :
    W p l e R s m args below meth c H locs cells slots (MQ below (QVx D cy a A Rr) args s (gc Rr - c0) (gs Rr - s0) A) (F0 m pc ls []) := by
  cases hf
  obtain ⟨rfl⟩ : cells = gc S - c0 := by have := hg.1; omega
  obtain ⟨rfl⟩ : slots = gs S - s0 := by have := hg.2; omega
  exact W.vret C.1 C.2.1 hr (fun t ht hw => ⟨⟨S, rfl, rfl, r, by rw [ht]; exact hW.1, va_K.moved hw.alike C.2.2.2.2.2.1, hW.2.1, NW.warm hw C.2.2.2.2.2.2⟩, hW.2.2.1.F ht⟩) hW.2.2.1.2.2 hd hlocks
end MG
def fX6_growLevels (N : Nat) (S : St) (p1 : Int32) : Option St :=
  if p1 ≤ Int32.ofNat S.2.2.2.2.1 then some S
  else
    if (252000 : Int32) < p1 then some S
    else
      bnd (if (252000 : Int32) < p1 * (2 : Int32) then (252000 : Int32) else p1 * (2 : Int32)) fun z1 =>
      ckp (decide (¬ z1 < 0 ∧ S.2.2.2.2.1 ≤ z1.toNatClampNeg ∧ z1.toNatClampNeg ≤ 252000)) <|
      some (S.1, updF S.2.1 134 (va_cpy (S.2.1 134) (fun _ => 0) (0 : Int32).toNatClampNeg (0 : Int32).toNatClampNeg (Int32.ofNat S.2.2.2.2.1).toNatClampNeg), S.2.2.1, S.2.2.2.1, z1.toNatClampNeg, gc S + 1, gs S + z1.toNatClampNeg)
theorem nX6_growLevels (N : Nat) (S : St) (p1 : Int32) : Kp (fun R => Ge R S) (fX6_growLevels N S p1) := by
  unfold fX6_growLevels
  refine kp_ite (fun _ => kp_some Ge.rf) (fun _ => kp_ite (fun _ => kp_some Ge.rf) (fun _ => kp_bnd (fun z _ => kp_ckp (fun _ => kp_some ⟨Nat.le_succ _, Nat.le_add_right _ _⟩))))
theorem kX6_growLevels_6 : ∀ w ∈ u_ws RX6 TX6 16, w ∈ wsX6_growLevels := fun _ h => List.mem_cons_of_mem _ (List.mem_append_right _ h)
theorem mX6_growLevels_41 : Cond.fieldLink RX6 41 "SharedLambda$Walk" "binderLevels" "[I" ∈ wsX6_growLevels := by decide +kernel
theorem mX6_growLevels_c180 : Cond.constant RX6 180 (252000) ∈ wsX6_growLevels := by decide +kernel
theorem mX6_growLevels_arr : Cond.arrayClass .int ∈ wsX6_growLevels := by decide +kernel
theorem g_min_hi {x : Int32} (h : (252000 : Int32) ≤ x) : (if (252000 : Int32) < x then (252000 : Int32) else x) = 252000 := by
  by_cases q : (252000 : Int32) < x
  · rw [if_pos q]
  · rw [if_neg q]; exact Int32.le_antisymm (Int32.not_lt.mp q) h
theorem g_min_lo {x : Int32} (h : ¬ (252000 : Int32) ≤ x) : (if (252000 : Int32) < x then (252000 : Int32) else x) = x := if_neg (fun q => h (Int32.le_of_lt q))
theorem wC_bl {cy : Nat → ClassId} {a r : Nat → Nat} {S : St} {q : Nat} : wC cy a (fun i => if i = 99 then q else r i) S = ((wC cy a r S).set 6 (a 139, .inr (6, [.ref (a 59), .ref (a 39), .ref (a 122), .int (S.1 123), .int (S.1 124), .ref (a 125), .int (S.1 126), .ref (a 127), .ref (a 128), .ref (a 129), .int (S.1 130), .ref (a 131), .ref (a 132), .int (S.1 133), .ref q, .int (S.1 135)]))).set 41 (q, .inl (cy 0, S.2.2.2.2.1, .inl (S.2.1 134))) := by
  have eo : (fun i : Nat => if i < 43 then some (if i = 99 then q else r i) else none) = (fun i => if i < 43 then some (r i) else none) := by
    funext i
    by_cases h : i < 43
    · rw [if_pos h, if_pos h, if_neg (by omega)]
    · rw [if_neg h, if_neg h]
  have er : (List.range 43).map (fun i => (((if i = 99 then q else r i), Sum.inl (cy 0, 40, Sum.inl (S.2.2.1 i))) : Nat × va_E)) = (List.range 43).map (fun i => (r i, Sum.inl (cy 0, 40, Sum.inl (S.2.2.1 i)))) := by
    apply List.map_congr_left
    intro i hi
    have := List.mem_range.mp hi
    rw [if_neg (by omega)]
  unfold wC
  rw [er]
  unfold wC0
  rw [eo]
  rfl
/-- the row that is made: its first k levels are copied -/
abbrev wG (cy : Nat → ClassId) (a r : Nat → Nat) (S : St) (q n k : Nat) : va_W := wC cy a r S ++ [(q, .inl (cy 0, n, .inl (va_cpy (S.2.1 134) (fun _ => 0) 0 0 k)))]
theorem cpy_none {f : Nat → Int32} : va_cpy f (fun _ => 0) 0 0 0 = fun _ => 0 := by
  funext j
  unfold va_cpy
  rw [if_neg (by omega)]
theorem cpy_next {f : Nat → Int32} {k : Nat} : upd (va_cpy f (fun _ => 0) 0 0 k) k (f k) = va_cpy f (fun _ => 0) 0 0 (k + 1) := by
  funext j
  by_cases e : j = k
  · subst e
    have h1 : upd (va_cpy f (fun _ => 0) 0 0 j) j (f j) j = f j := by simp [upd]
    have h2 : va_cpy f (fun _ => 0) 0 0 (j + 1) j = f (0 + (j - 0)) := if_pos (by omega)
    rw [h1, h2, Nat.sub_zero, Nat.zero_add]
  · have h1 : upd (va_cpy f (fun _ => 0) 0 0 k) k (f k) j = va_cpy f (fun _ => 0) 0 0 k j := by simp [upd, e]
    rw [h1]
    unfold va_cpy
    by_cases h : j < k
    · rw [if_pos (by omega), if_pos (by omega)]
    · rw [if_neg (by omega), if_neg (by omega)]
theorem wC_len {cy : Nat → ClassId} {a r : Nat → Nat} {S : St} : (wC cy a r S).length = 85 := by
  unfold wC
  rw [List.length_append, wC0_len, List.length_map, List.length_range]
theorem wG_next {cy : Nat → ClassId} {a r : Nat → Nat} {S : St} {q n k : Nat} (hk : k < 2 ^ 31) : (wG cy a r S q n k).set 85 (q, .inl (cy 0, n, .inl (upd (va_cpy (S.2.1 134) (fun _ => 0) 0 0 k) (nI k).toNatClampNeg (S.2.1 134 (nI k).toNatClampNeg)))) = wG cy a r S q n (k + 1) := by
  rw [nI_clamp hk, cpy_next, List.set_append_right _ _ (Nat.le_of_eq wC_len), wC_len]
  rfl
set_option maxHeartbeats 4000000 in
set_option maxRecDepth 100000 in
theorem lX6_growLevels_36 {p : Program} {l : Launch} {e : Env} {R : Room} {s : State} {m : MethodId} {args : Array Value} {below : List Frame} {meth : Method} {c : Code} {cells slots : Nat} {Q : State → Prop} {D : va_G} {cy : Nat → ClassId} {a r : Nat → Nat} {A : Nat → Prop} (C : Cx p s m args c cX6_growLevels 4 wsX6_growLevels RX6 D cy) (S : St) (q n : Nat) (hn : S.2.2.2.2.1 ≤ n) (hn2 : n ≤ 252000)
    (K : ∀ (H : Heap) (locs : List Loc) (ls : Array Slot), va_P D vwCl (wG cy a r S q n S.2.2.2.2.1) H → va_D A (wG cy a r S q n S.2.2.2.2.1) → va_S A s.heap H locs → lv_has ls 4 [(0, .ref (a 139)), (2, .ref q)] → W p l e R s m args below meth c H locs cells slots Q (F0 m 66 ls [])) :
    ∀ (d k : Nat), k + d = S.2.2.2.2.1 → ∀ (H : Heap) (locs : List Loc) (ls : Array Slot), va_P D vwCl (wG cy a r S q n k) H → va_D A (wG cy a r S q n k) → va_S A s.heap H locs → lv_has ls 4 [(0, .ref (a 139)), (2, .ref q), (3, .int (nI k))] → W p l e R s m args below meth c H locs cells slots Q (F0 m 36 ls []) := by
  have hts := C.2.2.2.2.1
  intro d
  induction d with
  | zero =>
    intro k hk H locs ls hP hD hS hl
    have hk : k = S.2.2.2.2.1 := hk
    subst hk
    refine lv_iload_n C.1 C.2.1 dX6_growLevels_36 rfl (lv_at hl 2 rfl) ?_
    refine lv_aload_n C.1 C.2.1 dX6_growLevels_37 rfl (lv_at hl 0 rfl) ?_
    refine va_get (D := D) (ci := 6) (v := .ref (r 99)) (C := RX6) (T := TX6) (N := 16) C.1 C.2.1 hts kX6_growLevels_6 C.2.2.2.1 C.2.2.2.2.2.1 hP 6 rfl rfl 14 (by decide) (hts _ mX6_growLevels_41) (fun _ h9 => h9) rfl dX6_growLevels_38 ?_
    refine va_alen (v := Int32.ofNat S.2.2.2.2.1) C.1 C.2.1 C.2.2.2.2.2.1 hP 41 0 rfl rfl rfl dX6_growLevels_41 ?_
    exact lv_icmp_ge (tgt := 66) C.1 C.2.1 dX6_growLevels_42 (by decide) (fun _ => K _ _ _ hP hD hS (lv_sub hl [0, 1] rfl)) (fun q1 => absurd (Int32.le_refl _) q1)
  | succ d ih =>
    intro k hk H locs ls hP hD hS hl
    have hat0 : (wG cy a r S q n k)[41]? = some (r 99, .inl (cy 0, S.2.2.2.2.1, .inl (S.2.1 134))) := rfl
    have hat : (wG cy a r S q n k)[85]? = some (q, .inl (cy 0, n, .inl (va_cpy (S.2.1 134) (fun _ => 0) 0 0 k))) := rfl
    refine lv_iload_n C.1 C.2.1 dX6_growLevels_36 rfl (lv_at hl 2 rfl) ?_
    refine lv_aload_n C.1 C.2.1 dX6_growLevels_37 rfl (lv_at hl 0 rfl) ?_
    refine va_get (D := D) (ci := 6) (v := .ref (r 99)) (C := RX6) (T := TX6) (N := 16) C.1 C.2.1 hts kX6_growLevels_6 C.2.2.2.1 C.2.2.2.2.2.1 hP 6 rfl rfl 14 (by decide) (hts _ mX6_growLevels_41) (fun _ h9 => h9) rfl dX6_growLevels_38 ?_
    refine va_alen (v := nI S.2.2.2.2.1) C.1 C.2.1 C.2.2.2.2.2.1 hP 41 0 hat0 rfl rfl dX6_growLevels_41 ?_
    refine lv_icmp_ge (tgt := 66) C.1 C.2.1 dX6_growLevels_42 (by decide) (fun q1 => absurd q1 (nI_ge (by omega) (by omega))) (fun _ => ?_)
    refine lv_iload_n C.1 C.2.1 dX6_growLevels_45 rfl (lv_at hl 2 rfl) ?_
    refine lv_aload_n C.1 C.2.1 dX6_growLevels_46 rfl (lv_at hl 1 rfl) ?_
    refine va_alen (v := nI n) C.1 C.2.1 C.2.2.2.2.2.1 hP 85 0 hat rfl rfl dX6_growLevels_47 ?_
    refine lv_icmp_ge (tgt := 66) C.1 C.2.1 dX6_growLevels_48 (by decide) (fun q1 => absurd q1 (nI_ge (by omega) (by omega))) (fun _ => ?_)
    refine lv_aload_n C.1 C.2.1 dX6_growLevels_51 rfl (lv_at hl 1 rfl) ?_
    refine lv_iload_n C.1 C.2.1 dX6_growLevels_52 rfl (lv_at hl 2 rfl) ?_
    refine lv_aload_n C.1 C.2.1 dX6_growLevels_53 rfl (lv_at hl 0 rfl) ?_
    refine va_get (D := D) (ci := 6) (v := .ref (r 99)) (C := RX6) (T := TX6) (N := 16) C.1 C.2.1 hts kX6_growLevels_6 C.2.2.2.1 C.2.2.2.2.2.1 hP 6 rfl rfl 14 (by decide) (hts _ mX6_growLevels_41) (fun _ h9 => h9) rfl dX6_growLevels_54 ?_
    refine lv_iload_n C.1 C.2.1 dX6_growLevels_57 rfl (lv_at hl 2 rfl) ?_
    refine va_iald C.1 C.2.1 C.2.2.2.2.2.1 hP 41 0 hat0 rfl (nI_in (by omega) (by omega)) dX6_growLevels_58 ?_
    refine va_iast C.1 C.2.1 C.2.2.2.2.2.1 hP hD hS 85 0 hat rfl (nI_in (by omega) (by omega)) dX6_growLevels_59 (fun H locs hP hD hS => ?_)
    rw [wG_next (by omega)] at hP hD
    refine lv_iinc (v := nI (k + 1)) (lv' := [(3, .int (nI (k + 1))), (0, .ref (a 139)), (2, .ref q)]) C.1 C.2.1 dX6_growLevels_60 hl (k := 2) rfl (nI_succ k).symm (by decide) rfl (fun ls hl => ?_)
    refine lv_goto (tgt := 36) C.1 C.2.1 dX6_growLevels_63 (by decide) ?_
    exact ih (k + 1) (by omega) _ _ _ hP hD hS (lv_sub hl [1, 2, 0] rfl)
set_option maxHeartbeats 4000000 in
set_option maxRecDepth 100000 in
theorem cX6_growLevels_met (l : Launch) (D : va_G) (cy : Nat → ClassId) (a r : Nat → Nat) (sz N : Nat) (S : St) (p1 : Int32) (Rr : St) (hf : fX6_growLevels N S p1 = some Rr) : Met l yX6_growLevels wsX6_growLevels ({ frames := 1, cells := gc Rr - gc S, slots := gs Rr - gs S, locals := 39 } : Room) (va_Pc [.ref (a 139), .int p1] (preW D cy (wC cy a r S) sz)) (QVx D cy a (va_A (wC cy a r S) sz) Rr) (gc Rr - gc S) (gs Rr - gs S) (va_A (wC cy a r S) sz) := by
  refine Met.ofW (cc := cX6_growLevels) (maxL := 4) (ret := none) (by decide) rfl ?_
  intro p e s m args below meth c s₁ B hml hv
  obtain ⟨rfl, rfl, hP, hK, hD0, hN⟩ := hv
  have hlocks := B.notSynchronized
  have hr := B.returns
  have C : Cx p s m _ c cX6_growLevels 4 wsX6_growLevels RX6 D cy := ⟨B.exec, B.bytes, hml, findClass_of_methodNamed B.named, atoms_spec (ws := wsX6_growLevels) B.pre, hK, hN⟩
  have hW := ww_start (w := wC cy a r) hP hD0
  generalize va_A (wC cy a r S) s.heap.size = A at hW ⊢
  have hl := lv_entry ([.ref (a 139), .int p1]) (n := 4) (Nat.le_of_ble_eq_true rfl)
  rw [lg_entry_eq]
  generalize (lg_sl ([.ref (a 139), .int p1]) ++ List.replicate (4 - (lg_sl ([.ref (a 139), .int p1])).length) Slot.unset).toArray = ls at hl ⊢
  have hl : lv_has ls 4 [(0, .ref (a 139)), (1, .int p1)] := hl
  have hm := nX6_growLevels N S p1 Rr hf
  have hg : Acc 0 0 (gc S) (gs S) S := ⟨Nat.zero_add _, Nat.zero_add _⟩
  have hts := C.2.2.2.2.1
  unfold fX6_growLevels at hf
  refine lv_iload_n C.1 C.2.1 dX6_growLevels_0 rfl (lv_at hl 1 rfl) ?_
  refine lv_aload_n C.1 C.2.1 dX6_growLevels_1 rfl (lv_at hl 0 rfl) ?_
  refine fg_6_14 C kX6_growLevels_6 mX6_growLevels_41 hW dX6_growLevels_2 ?_
  refine an_6_14 C hW dX6_growLevels_5 ?_
  refine lv_icmp_le (tgt := 71) C.1 C.2.1 dX6_growLevels_6 (by decide) (fun q1 => ?_) (fun q1 => ?_)
  · replace hf := (if_pos q1).symm.trans hf
    exact mrVG C hr hlocks hf hg hW dX6_growLevels_71
  · replace hf := (if_neg q1).symm.trans hf
    refine lv_iload_n C.1 C.2.1 dX6_growLevels_9 rfl (lv_at hl 1 rfl) ?_
    refine lv_ldc (v := 252000) C.1 C.2.1 C.2.2.2.1 (hts _ mX6_growLevels_c180) dX6_growLevels_10 ?_
    refine lv_icmp_gt (tgt := 71) C.1 C.2.1 dX6_growLevels_12 (by decide) (fun q2 => ?_) (fun q2 => ?_)
    · replace hf := (if_pos q2).symm.trans hf
      exact mrVG C hr hlocks hf hg hW dX6_growLevels_71
    · replace hf := (if_neg q2).symm.trans hf
      obtain ⟨z1, ez1, hf⟩ := bnd_el hf
      obtain ⟨h9, hf⟩ := ckp_el hf
      have h9 := of_decide_eq_true h9
      have hbn : (Int32.ofNat S.2.2.2.2.1).toNatClampNeg = S.2.2.2.2.1 := nI_clamp (by omega)
      have h00 : (0 : Int32).toNatClampNeg = 0 := rfl
      rw [hbn, h00] at hf
      cases hf
      refine lv_iload_n C.1 C.2.1 dX6_growLevels_15 rfl (lv_at hl 1 rfl) ?_
      refine lv_iconst (v := 2) C.1 C.2.1 dX6_growLevels_16 (by decide) ?_
      refine lv_imul C.1 C.2.1 dX6_growLevels_17 ?_
      refine lv_ldc (v := 252000) C.1 C.2.1 C.2.2.2.1 (hts _ mX6_growLevels_c180) dX6_growLevels_18 ?_
      refine lv_icmp_ge (tgt := 29) C.1 C.2.1 dX6_growLevels_20 (by decide) (fun q3 => lv_ldc (v := 252000) C.1 C.2.1 C.2.2.2.1 (hts _ mX6_growLevels_c180) dX6_growLevels_29 (lv_as (ez1.trans (g_min_hi q3)) ?_)) (fun q3 => lv_iload_n C.1 C.2.1 dX6_growLevels_23 rfl (lv_at hl 1 rfl) (lv_iconst (v := 2) C.1 C.2.1 dX6_growLevels_24 (by decide) (lv_imul C.1 C.2.1 dX6_growLevels_25 (lv_goto (tgt := 31) C.1 C.2.1 dX6_growLevels_26 (by decide) (lv_as (ez1.trans (g_min_lo q3)) ?_)))))
      all_goals
        refine va_newa (atype := .int) (ty := .int) (n := z1) (N' := z1.toNatClampNeg) (a0 := (z1.toNatClampNeg, .inl (fun _ => 0))) C.1 C.2.1 (hts _ mX6_growLevels_arr) rfl C.2.2.2.2.2.1 hW.1 hW.2.1 hW.2.2.1 hW.2.2.2 (fun cA => by rw [vp_cell_i]; rfl) h9.1 rfl (by show _ * 4 ≤ _; omega) (by show 0 + 1 ≤ gc S + 1 - gc S; omega) (by show 0 + _ ≤ gs S + _ - gs S; omega) dX6_growLevels_31 (fun q cA H hK2 hP hD hS => ?_)
        have ec : cA = cy 0 := by
          have h1 := (hK2.2 0 (cy 0, .int) rfl).2
          have h2 := (hK2.2 5 (cA, .int) rfl).2
          exact Option.some.inj (h2.symm.trans h1)
        subst ec
        refine lv_astore_n (lv' := [(2, .ref q), (0, .ref (a 139)), (1, .int p1)]) C.1 C.2.1 dX6_growLevels_33 rfl hl (by decide) rfl (fun ls hl => ?_)
        have hP : va_P D vwCl (wC cy a r S ++ [(q, .inl (cy 0, z1.toNatClampNeg, .inl (fun _ => 0)))]) H := hP
        have hD : va_D A (wC cy a r S ++ [(q, .inl (cy 0, z1.toNatClampNeg, .inl (fun _ => 0)))]) := hD
        have e0 : (wC cy a r S ++ [(q, .inl (cy 0, z1.toNatClampNeg, .inl (fun _ => 0)))] : va_W) = wG cy a r S q z1.toNatClampNeg 0 := by
          unfold wG
          rw [cpy_none]
        rw [e0] at hP hD
        refine lv_iconst (v := 0) C.1 C.2.1 dX6_growLevels_34 (by decide) ?_
        refine lv_as nI_0 ?_
        refine lv_istore_n (lv' := [(3, .int (nI 0)), (2, .ref q), (0, .ref (a 139)), (1, .int p1)]) C.1 C.2.1 dX6_growLevels_35 rfl hl (by decide) rfl (fun ls hl => ?_)
        refine lX6_growLevels_36 C S q z1.toNatClampNeg h9.2.1 h9.2.2 (fun H locs ls hP hD hS hl => ?_) S.2.2.2.2.1 0 (Nat.zero_add _) _ _ _ hP hD hS (lv_sub hl [2, 1, 0] rfl)
        refine lv_aload_n C.1 C.2.1 dX6_growLevels_66 rfl (lv_at hl 0 rfl) ?_
        refine lv_aload_n C.1 C.2.1 dX6_growLevels_67 rfl (lv_at hl 1 rfl) ?_
        refine va_put (D := D) (ci := 6) (v := .ref q) (ty := .array .int) (C := RX6) (T := TX6) (N := 16) C.1 C.2.1 hts kX6_growLevels_6 tyX6 tyX6_ok nmX6 C.2.2.2.1 C.2.2.2.2.2.1 hP hD hS 6 rfl rfl 14 (by decide) (hts _ mX6_growLevels_41) (fun _ h9 => h9) rfl (by decide +kernel) rfl rfl (Nat.le_of_ble_eq_true rfl) dX6_growLevels_68 (fun H locs hP hD hS => ?_)
        have hP9 := hP.sub (ws' := wC cy a (fun i => if i = 99 then q else r i) (S.1, updF S.2.1 134 (va_cpy (S.2.1 134) (fun _ => 0) 0 0 S.2.2.2.2.1), S.2.2.1, S.2.2.2.1, z1.toNatClampNeg, gc S + 1, gs S + z1.toNatClampNeg)) (List.range 41 ++ 85 :: (List.range 43).map (fun i => 42 + i)) (by rw [wC_bl]; rfl)
        have hD9 := hD.sub (ws' := wC cy a (fun i => if i = 99 then q else r i) (S.1, updF S.2.1 134 (va_cpy (S.2.1 134) (fun _ => 0) 0 0 S.2.2.2.2.1), S.2.2.1, S.2.2.2.1, z1.toNatClampNeg, gc S + 1, gs S + z1.toNatClampNeg)) (List.range 41 ++ 85 :: (List.range 43).map (fun i => 42 + i)) (by decide) (by rw [wC_bl]; rfl)
        exact mrVG C hr hlocks rfl (⟨by show 0 + 1 + gc S = gc S + 1; omega, by show 0 + _ + gs S = gs S + _; omega⟩ : Acc _ _ _ _ _) ⟨hP9, hD9, hS, hW.2.2.2⟩ dX6_growLevels_71
