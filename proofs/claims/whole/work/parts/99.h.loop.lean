/-! the law: its loop -/
theorem end_i {L i : Nat} (hL : L ≤ 2048) (hi : i ≤ 4096) : (nI L - 4 < nI i) ↔ L < i + 4 := by
  by_cases c : 4 ≤ L
  · rw [show (4 : Int32) = nI 4 from rfl, pk_sub c]
    have := nI_ltI (a := L - 4) (b := i) (by omega) (by omega)
    exact ⟨fun z => by have := this.mp z; omega, fun z => this.mpr (by omega)⟩
  · refine ⟨fun _ => by omega, fun _ => ?_⟩
    have z : nI L - 4 < 0 := by
      have : L = 0 ∨ L = 1 ∨ L = 2 ∨ L = 3 := by omega
      rcases this with e | e | e | e <;> subst e <;> decide
    exact Int32.lt_of_lt_of_le z (nI_pos' (by omega))
section LLOOP
variable {p : Program} {l : Launch} {e : Env} {s : State} {m : MethodId} {below : List Frame} {meth : Method} {c : Code} {b : Nat} {D : va_G} {cy : Nat → ClassId} {cL : ClassId} {sa a am : Nat → Nat} {q : Nat}
set_option maxHeartbeats 4000000 in
set_option maxRecDepth 100000 in
theorem law_loop {N L : Nat} {xs : Nat → Int32} {Q : State → Prop} (K : LC p s m c b D cy cL sa) (hlS : l.stackTraces = false) (hN : Big N) (hX : va_X b L xs s s.heap) (hbl : b < s.heap.size) (hL : L ≤ 2048) {c00 s00 : Nat} (hc00 : c00 ≤ 1000) (hs00 : s00 ≤ 1000000)
    (fin : ∀ (H : Heap) (locs : List Loc) (ls : Array Slot) (cells slots : Nat), va_S (AS s) s.heap H locs → cells ≤ 601024 → slots ≤ 7293034 → W p l e room_1 s m #[Value.ref b] below meth c H locs cells slots Q (F0 m 459 ls [])) :
    ∀ (n i : Nat) (r : Nat → Nat) (f : Nat → Int64) (S M : St) (H : Heap) (locs : List Loc) (ls : Array Slot) (cells slots : Nat), i ≤ L + 4 → L + 4 ≤ i + n → LW D cy cL a r q f S am M s H locs → SIM S M → lv_has ls 7 [(0, .ref b), (1, .ref (a 159)), (2, .ref (am 99)), (3, .ref q), (4, .int (nI i))] → cells ≤ c00 + i + gc S → slots ≤ s00 + 6 * i + gs S → W p l e room_1 s m #[Value.ref b] below meth c H locs cells slots Q (F0 m 23 ls []) := by
  obtain ⟨hx, hb, hml, hown, hts, hK6, hN7, hK8, hNc, hXP⟩ := id K
  have hbA : ¬ AS s b := Nat.not_le.mpr hbl
  intro n
  induction n with
  | zero =>
    intro i r f S M H locs ls cells slots h1 h2 h hsim hl hc hs
    have hS := h.2.2.2.2.2
    have rb := hsim.2.2.2.2.2.1.b
    refine lv_iload hx hb dL_law_23 (lv_at hl 4 rfl) ?_
    refine lv_aload_n hx hb dL_law_25 rfl (lv_at hl 0 rfl) ?_
    refine va_slen hx hb hX hbl hbA hS dL_law_26 ?_
    refine lv_iconst (v := 4) hx hb dL_law_27 (by decide) ?_
    refine lv_isub hx hb dL_law_28 ?_
    refine lv_icmp_gt (tgt := 459) hx hb dL_law_29 (by decide) (fun c1 => ?_) (fun c1 => absurd ((end_i (L := L) (i := i) hL (by omega)).mpr (by omega)) c1)
    exact fin H locs ls cells slots hS (by omega) (by omega)
  | succ n ih =>
    intro i r f S M H locs ls cells slots h1 h2 h hsim hl hc hs
    have hS := h.2.2.2.2.2
    have rb := hsim.2.2.2.2.2.1.b
    refine lv_iload hx hb dL_law_23 (lv_at hl 4 rfl) ?_
    refine lv_aload_n hx hb dL_law_25 rfl (lv_at hl 0 rfl) ?_
    refine va_slen hx hb hX hbl hbA hS dL_law_26 ?_
    refine lv_iconst (v := 4) hx hb dL_law_27 (by decide) ?_
    refine lv_isub hx hb dL_law_28 ?_
    refine lv_icmp_gt (tgt := 459) hx hb dL_law_29 (by decide) (fun c1 => ?_) (fun c1 => ?_)
    · exact fin H locs ls cells slots hS (by omega) (by omega)
    · have hi : i + 4 ≤ L := Nat.not_lt.mp fun z => c1 ((end_i (L := L) (i := i) hL (by omega)).mpr z)
      have v0 : vp_in (nI i) L := vp_in_nI (by omega) (by omega)
      have go : ∀ (r' : Nat → Nat) (f' : Nat → Int64) (S' M' : St) (H1 : Heap) (locs1 : List Loc) (ls : Array Slot) (cells' slots' : Nat), LW D cy cL a r' q f' S' am M' s H1 locs1 → SIM S' M' → lv_has ls 7 [(0, .ref b), (1, .ref (a 159)), (2, .ref (am 99)), (3, .ref q), (4, .int (nI i))] → cells' ≤ c00 + i + 1 + gc S' → slots' ≤ s00 + 6 * i + 6 + gs S' → W p l e room_1 s m #[Value.ref b] below meth c H1 locs1 cells' slots' Q (F0 m 453 ls []) := fun r' f' S' M' H1 locs1 ls cells' slots' w1 w2 w3 w4 w5 => by
        refine lv_iinc (v := nI (i + 4)) (lv' := [(4, .int (nI (i + 4))), (0, .ref b), (1, .ref (a 159)), (2, .ref (am 99)), (3, .ref q)]) hx hb dL_law_453 w3 (k := 4) rfl (show nI i + (4 : Int32) = nI (i + 4) from nI_add i 4) (by decide) rfl (fun ls hl => ?_)
        refine lv_goto (tgt := 23) hx hb dL_law_456 (by decide) ?_
        exact ih (i + 4) r' f' S' M' H1 locs1 ls cells' slots' (by omega) (by omega) w1 w2 (lv_sub hl [1, 2, 3, 4, 0] rfl) (by omega) (by omega)
      refine lv_aload_n hx hb dL_law_32 rfl (lv_at hl 0 rfl) ?_
      refine lv_iload hx hb dL_law_33 (lv_at hl 4 rfl) ?_
      refine va_sld hx hb hX hbl hbA hS v0 dL_law_35 ?_
      refine lv_bipush (v := 7) hx hb dL_law_36 (by decide) ?_
      refine lv_iand hx hb dL_law_38 ?_
      obtain ⟨z, ez⟩ : ∃ z, z = xs (nI i).toNatClampNeg &&& 7 := ⟨_, rfl⟩
      rw [← ez]
      by_cases q0 : z = 0
      · refine lv_tableIn (tgt := 80) hx hb dL_law_39 (by rw [q0]; decide) (by rw [q0]; decide) (by rw [q0]; rfl) (by decide) ?_
        exact law_type K hlS hN hX hbl hL hi h hsim hl hc (by omega) hs (by omega) go
      by_cases q1 : z = 1
      · refine lv_tableIn (tgt := 180) hx hb dL_law_39 (by rw [q1]; decide) (by rw [q1]; decide) (by rw [q1]; rfl) (by decide) ?_
        exact law_keep K hlS hN hX hbl hL hi h hsim hl hc (by omega) hs (by omega) go
      by_cases q2 : z = 2
      · refine lv_tableIn (tgt := 216) hx hb dL_law_39 (by rw [q2]; decide) (by rw [q2]; decide) (by rw [q2]; rfl) (by decide) ?_
        exact law_read K hlS hN hX hbl hL hi h hsim hl hc (by omega) hs (by omega) go
      by_cases q3 : z = 3
      · refine lv_tableIn (tgt := 229) hx hb dL_law_39 (by rw [q3]; decide) (by rw [q3]; decide) (by rw [q3]; rfl) (by decide) ?_
        exact law_run K hlS hN hX hbl hL hi h hsim hl hc (by omega) hs (by omega) go
      by_cases q4 : z = 4
      · refine lv_tableIn (tgt := 285) hx hb dL_law_39 (by rw [q4]; decide) (by rw [q4]; decide) (by rw [q4]; rfl) (by decide) ?_
        exact law_count K hlS hN hX hbl hL hi h hsim hl hc (by omega) hs (by omega) go
      by_cases q5 : z = 5
      · refine lv_tableIn (tgt := 341) hx hb dL_law_39 (by rw [q5]; decide) (by rw [q5]; decide) (by rw [q5]; rfl) (by decide) ?_
        exact law_letter K hlS hN hX hbl hL hi h hsim hl hc (by omega) hs (by omega) go
      by_cases q6 : z = 6
      · refine lv_tableIn (tgt := 397) hx hb dL_law_39 (by rw [q6]; decide) (by rw [q6]; decide) (by rw [q6]; rfl) (by decide) ?_
        exact law_nodes K hlS hN hX hbl hL hi h hsim hl hc (by omega) hs (by omega) go
      · refine lv_tableOut (tgt := 453) hx hb dL_law_39 (tb_out 7 (by omega) (fun j hj => by
          have : j = 0 ∨ j = 1 ∨ j = 2 ∨ j = 3 ∨ j = 4 ∨ j = 5 ∨ j = 6 := by omega
          rcases this with e | e | e | e | e | e | e <;> subst e
          · exact q0
          · exact q1
          · exact q2
          · exact q3
          · exact q4
          · exact q5
          · exact q6)) (by decide) ?_
        exact go r f S M H locs ls cells slots h hsim (lv_sub hl [0, 1, 2, 3, 4] rfl) (by omega) (by omega)
end LLOOP
