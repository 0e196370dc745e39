/-! the law: its cases -/
theorem RmC.b {S : St} (h : RmC S) : gc S ≤ 249952 ∧ gs S ≤ 756000 := by
  obtain ⟨h1, h2, h3, h4, -⟩ := h
  exact ⟨by omega, h4⟩
theorem Ans.out {S : St} {R : Option ((Int32 × St) ⊕ (Nat × St))} {Q : Option (Int32 × St)} {km : Nat → Nat} (h : Ans S R Q km) (hm : ∀ e, 1 ≤ e → e ≤ 3 → 1 ≤ km e ∧ km e ≤ 3) : ∃ Rr bv M', R = some Rr ∧ Q = some (bv, M') ∧ SIM (stQ Rr) M' ∧ Ge (stQ Rr) S ∧ M'.1 0 = hK Rr km ∧ (hK Rr km = 0 → ∃ S', Rr = .inl (bv, S')) := by
  rcases h with ⟨v, S', M', h1, h2, h3, h4, h5⟩ | ⟨e, S', bv, M', h1, h2, h3, h4, h5, h6, h7⟩
  · exact ⟨.inl (v, S'), v, M', h1, h2, h4, h5, h3, fun _ => ⟨S', rfl⟩⟩
  · refine ⟨.inr (e, S'), bv, M', h1, h2, h6, h7, h3, fun z => ?_⟩
    have z : nI (km e) = 0 := z
    have := hm e h4 h5
    exact absurd z (nI_ne (by omega) (by omega))
theorem lcmp_self (x : Int64) : lg_cmp x x = 0 := by
  unfold lg_cmp
  simp
theorem mL_law_c40 : Cond.constantLong RL 40 4294967295 ∈ wsL_law := by decide +kernel
section LCASE
variable {p : Program} {l : Launch} {e : Env} {s : State} {m : MethodId} {below : List Frame} {meth : Method} {c : Code} {b : Nat} {D : va_G} {cy : Nat → ClassId} {cL : ClassId} {sa a r am : Nat → Nat} {q : Nat} {f : Nat → Int64} {S M : St} {H : Heap} {locs : List Loc} {cells slots : Nat} {Q : State → Prop}
set_option maxHeartbeats 4000000 in
set_option maxRecDepth 100000 in
theorem law_count {N L i : Nat} {xs : Nat → Int32} {ls : Array Slot} {c0 s0 : Nat} (K : LC p s m c b D cy cL sa) (hlS : l.stackTraces = false) (hN : Big N) (hX : va_X b L xs s s.heap) (hbl : b < s.heap.size) (hL : L ≤ 2048) (hi : i + 4 ≤ L) (h : LW D cy cL a r q f S am M s H locs) (hsim : SIM S M) (hl : lv_has ls 7 [(0, .ref b), (1, .ref (a 159)), (2, .ref (am 99)), (3, .ref q), (4, .int (nI i))]) (hc : cells ≤ c0 + gc S) (hc0 : c0 + 260000 ≤ 601024) (hs : slots ≤ s0 + gs S) (hs0 : s0 + 760000 ≤ 7293034)
    (kk : ∀ (r' : Nat → Nat) (f' : Nat → Int64) (S' M' : St) (H1 : Heap) (locs1 : List Loc) (ls : Array Slot) (cells' slots' : Nat), LW D cy cL a r' q f' S' am M' s H1 locs1 → SIM S' M' → lv_has ls 7 [(0, .ref b), (1, .ref (a 159)), (2, .ref (am 99)), (3, .ref q), (4, .int (nI i))] → cells' ≤ c0 + 1 + gc S' → slots' ≤ s0 + 6 + gs S' → W p l e room_1 s m #[Value.ref b] below meth c H1 locs1 cells' slots' Q (F0 m 453 ls [])) : W p l e room_1 s m #[Value.ref b] below meth c H locs cells slots Q (F0 m 285 ls []) := by
  obtain ⟨hx, hb, hml, hown, hts, hK6, hN7, hK8, hNc, hXP⟩ := id K
  have hbA : ¬ AS s b := Nat.not_le.mpr hbl
  have hS := h.2.2.2.2.2
  have v1 : vp_in (nI (i + 1)) L := vp_in_nI (by omega) (by omega)
  have v2 : vp_in (nI (i + 2)) L := vp_in_nI (by omega) (by omega)
  have v3 : vp_in (nI (i + 3)) L := vp_in_nI (by omega) (by omega)
  obtain ⟨Rr, bv, M', e1, e2, e3, e4, e5, e6⟩ := Ans.out (S_count (N := N) hsim (xs (i + 1))) (fun e h1 h2 => by exact ⟨by omega, by omega⟩)
  have rb := e3.2.2.2.2.2.1.b
  have g1 := e4.1
  have g2 := e4.2
  refine lv_aload_n hx hb dL_law_285 rfl (lv_at hl 1 rfl) ?_
  refine lv_aload_n hx hb dL_law_286 rfl (lv_at hl 0 rfl) ?_
  refine lv_iload hx hb dL_law_287 (lv_at hl 4 rfl) ?_
  refine lv_iconst (v := 1) hx hb dL_law_289 (by decide) ?_
  refine lv_iadd hx hb dL_law_290 ?_
  refine lv_as (show nI (i + 1) = nI i + (1 : Int32) from (nI_add i 1).symm) ?_
  refine va_sld hx hb hX hbl hbA hS v1 dL_law_291 ?_
  refine lv_as (show xs (i + 1) = xs (nI (i + 1)).toNatClampNeg by rw [nI_clamp (by omega)]) ?_
  refine lv_aload_n hx hb dL_law_292 rfl (lv_at hl 3 rfl) ?_
  refine lw_H (As := [.ref (a 159), .int (xs (i + 1)), .ref q]) (rest := []) K h (cL_count_met l hlS D cy cL a r sa q f H.size N S (xs (i + 1)) Rr e1 (fun u hu => by rw [hu] at e1; rw [cnt_e e1])) (vx_cwSW 3 hts gL_law_L_count rfl rfl rfl (by decide +kernel) ⟨Nat.le_of_ble_eq_true rfl, Nat.le_of_ble_eq_true rfl⟩) rfl hl.1 (Nat.le_of_ble_eq_true rfl) dL_law_293 (by omega) (by omega) (fun r' H1 locs1 h1 => ?_)
  have hS1 := h1.2.2.2.2.2
  refine lv_istore (lv' := [(5, .int (hK Rr (fun _ => 1))), (0, .ref b), (1, .ref (a 159)), (2, .ref (am 99)), (3, .ref q), (4, .int (nI i))]) hx hb dL_law_296 hl (by decide) rfl (fun ls hl => ?_)
  refine lv_aload_n hx hb dL_law_298 rfl (lv_at hl 3 rfl) ?_
  refine lv_aload_n hx hb dL_law_299 rfl (lv_at hl 1 rfl) ?_
  refine lv_iload hx hb dL_law_300 (lv_at hl 5 rfl) ?_
  refine lv_iconst (v := 1) hx hb dL_law_302 (by decide) ?_
  refine lv_iadd hx hb dL_law_303 ?_
  refine lv_as (show nI (i + 1) = nI i + (1 : Int32) from (nI_add i 1).symm) ?_
  refine va_sld hx hb hX hbl hbA hS1 v1 dL_law_304 ?_
  refine lv_as (show xs (i + 1) = xs (nI (i + 1)).toNatClampNeg by rw [nI_clamp (by omega)]) ?_
  refine lw_M (As := [.int (xs (i + 1))]) (rest := []) K h1 (cX8_count_met l D cy am am H1.size N M (xs (i + 1)) (bv, M') e2) (cwV 1 hts gL_law_X8_count rfl rfl rfl (by decide +kernel) ⟨Nat.le_of_ble_eq_true rfl, Nat.le_of_ble_eq_true rfl⟩) rfl hl.1 (Nat.le_of_ble_eq_true rfl) dL_law_305 (by omega) (by omega) (fun H2 locs2 h2 => ?_)
  refine lv_istore (lv' := [(6, .int bv), (5, .int (hK Rr (fun _ => 1))), (0, .ref b), (1, .ref (a 159)), (2, .ref (am 99)), (3, .ref q), (4, .int (nI i))]) hx hb dL_law_308 hl (by decide) rfl (fun ls hl => ?_)
  refine lv_aload_n hx hb dL_law_310 rfl (lv_at hl 4 rfl) ?_
  refine lw_M (As := []) (rest := []) K h2 (cX8_thrown_met l D cy am am H2.size N M' (M'.1 0, M') rfl) (cwV 0 hts gL_law_X8_thrown rfl rfl rfl (by decide +kernel) ⟨Nat.le_of_ble_eq_true rfl, Nat.le_of_ble_eq_true rfl⟩) rfl hl.1 (Nat.le_of_ble_eq_true rfl) dL_law_311 (by omega) (by omega) (fun H3 locs3 h3 => ?_)
  refine lv_iload hx hb dL_law_314 (lv_at hl 1 rfl) ?_
  refine lv_icmp_eq (tgt := 321) hx hb dL_law_316 (by decide) (fun c1 => ?_) (fun c1 => absurd e5 c1)
  refine lv_iload hx hb dL_law_321 (lv_at hl 1 rfl) ?_
  refine lv_if_ne (tgt := 338) hx hb dL_law_323 (by decide) (fun c2 => ?_) (fun c2 => ?_)
  · refine lv_goto (tgt := 453) hx hb dL_law_338 (by decide) ?_
    exact kk r' _ _ _ _ _ ls _ _ h3 e3 (lv_sub hl [2, 3, 4, 5, 6] rfl) (by omega) (by omega)
  · obtain ⟨S', eR⟩ := e6 c2
    have z0 : hF f Rr 0 = bv.toInt64 := by rw [eR]; rfl
    refine lv_aload_n hx hb dL_law_326 rfl (lv_at hl 5 rfl) ?_
    refine lv_iconst (v := 0) hx hb dL_law_327 (by decide) ?_
    refine va_lald hx hb hK8 h3.1 0 0 rfl rfl (show vp_in (0 : Int32) 1 from vp_in_nI (n := 0) (N := 1) (by omega) (by omega)) dL_law_328 ?_
    refine lv_iload hx hb dL_law_329 (lv_at hl 0 rfl) ?_
    refine lv_i2l (v := bv.toInt64) hx hb dL_law_331 rfl ?_
    refine W.lcmp hx hb dL_law_332 ?_
    refine lv_if_eq (tgt := 338) hx hb dL_law_333 (by decide) (fun c3 => ?_) (fun c3 => absurd (by show lg_cmp (hF f Rr 0) bv.toInt64 = 0; rw [z0]; exact lcmp_self _) c3)
    refine lv_goto (tgt := 453) hx hb dL_law_338 (by decide) ?_
    exact kk r' _ _ _ _ _ ls _ _ h3 e3 (lv_sub hl [2, 3, 4, 5, 6] rfl) (by omega) (by omega)
set_option maxHeartbeats 4000000 in
set_option maxRecDepth 100000 in
theorem law_letter {N L i : Nat} {xs : Nat → Int32} {ls : Array Slot} {c0 s0 : Nat} (K : LC p s m c b D cy cL sa) (hlS : l.stackTraces = false) (hN : Big N) (hX : va_X b L xs s s.heap) (hbl : b < s.heap.size) (hL : L ≤ 2048) (hi : i + 4 ≤ L) (h : LW D cy cL a r q f S am M s H locs) (hsim : SIM S M) (hl : lv_has ls 7 [(0, .ref b), (1, .ref (a 159)), (2, .ref (am 99)), (3, .ref q), (4, .int (nI i))]) (hc : cells ≤ c0 + gc S) (hc0 : c0 + 260000 ≤ 601024) (hs : slots ≤ s0 + gs S) (hs0 : s0 + 760000 ≤ 7293034)
    (kk : ∀ (r' : Nat → Nat) (f' : Nat → Int64) (S' M' : St) (H1 : Heap) (locs1 : List Loc) (ls : Array Slot) (cells' slots' : Nat), LW D cy cL a r' q f' S' am M' s H1 locs1 → SIM S' M' → lv_has ls 7 [(0, .ref b), (1, .ref (a 159)), (2, .ref (am 99)), (3, .ref q), (4, .int (nI i))] → cells' ≤ c0 + 1 + gc S' → slots' ≤ s0 + 6 + gs S' → W p l e room_1 s m #[Value.ref b] below meth c H1 locs1 cells' slots' Q (F0 m 453 ls [])) : W p l e room_1 s m #[Value.ref b] below meth c H locs cells slots Q (F0 m 341 ls []) := by
  obtain ⟨hx, hb, hml, hown, hts, hK6, hN7, hK8, hNc, hXP⟩ := id K
  have hbA : ¬ AS s b := Nat.not_le.mpr hbl
  have hS := h.2.2.2.2.2
  have v1 : vp_in (nI (i + 1)) L := vp_in_nI (by omega) (by omega)
  have v2 : vp_in (nI (i + 2)) L := vp_in_nI (by omega) (by omega)
  have v3 : vp_in (nI (i + 3)) L := vp_in_nI (by omega) (by omega)
  obtain ⟨Rr, bv, M', e1, e2, e3, e4, e5, e6⟩ := Ans.out (S_letter (N := N) hsim (xs (i + 1))) (fun e h1 h2 => by exact ⟨by omega, by omega⟩)
  have rb := e3.2.2.2.2.2.1.b
  have g1 := e4.1
  have g2 := e4.2
  refine lv_aload_n hx hb dL_law_341 rfl (lv_at hl 1 rfl) ?_
  refine lv_aload_n hx hb dL_law_342 rfl (lv_at hl 0 rfl) ?_
  refine lv_iload hx hb dL_law_343 (lv_at hl 4 rfl) ?_
  refine lv_iconst (v := 1) hx hb dL_law_345 (by decide) ?_
  refine lv_iadd hx hb dL_law_346 ?_
  refine lv_as (show nI (i + 1) = nI i + (1 : Int32) from (nI_add i 1).symm) ?_
  refine va_sld hx hb hX hbl hbA hS v1 dL_law_347 ?_
  refine lv_as (show xs (i + 1) = xs (nI (i + 1)).toNatClampNeg by rw [nI_clamp (by omega)]) ?_
  refine lv_aload_n hx hb dL_law_348 rfl (lv_at hl 3 rfl) ?_
  refine lw_H (As := [.ref (a 159), .int (xs (i + 1)), .ref q]) (rest := []) K h (cL_letter_met l hlS D cy cL a r sa q f H.size N S (xs (i + 1)) Rr e1 (fun u hu => by rw [hu] at e1; exact let_e e1)) (vx_cwSW 3 hts gL_law_L_letter rfl rfl rfl (by decide +kernel) ⟨Nat.le_of_ble_eq_true rfl, Nat.le_of_ble_eq_true rfl⟩) rfl hl.1 (Nat.le_of_ble_eq_true rfl) dL_law_349 (by omega) (by omega) (fun r' H1 locs1 h1 => ?_)
  have hS1 := h1.2.2.2.2.2
  refine lv_istore (lv' := [(5, .int (hK Rr (fun _ => 1))), (0, .ref b), (1, .ref (a 159)), (2, .ref (am 99)), (3, .ref q), (4, .int (nI i))]) hx hb dL_law_352 hl (by decide) rfl (fun ls hl => ?_)
  refine lv_aload_n hx hb dL_law_354 rfl (lv_at hl 3 rfl) ?_
  refine lv_aload_n hx hb dL_law_355 rfl (lv_at hl 1 rfl) ?_
  refine lv_iload hx hb dL_law_356 (lv_at hl 5 rfl) ?_
  refine lv_iconst (v := 1) hx hb dL_law_358 (by decide) ?_
  refine lv_iadd hx hb dL_law_359 ?_
  refine lv_as (show nI (i + 1) = nI i + (1 : Int32) from (nI_add i 1).symm) ?_
  refine va_sld hx hb hX hbl hbA hS1 v1 dL_law_360 ?_
  refine lv_as (show xs (i + 1) = xs (nI (i + 1)).toNatClampNeg by rw [nI_clamp (by omega)]) ?_
  refine lw_M (As := [.int (xs (i + 1))]) (rest := []) K h1 (cX8_letter_met l D cy am am H1.size N M (xs (i + 1)) (bv, M') e2) (cwV 1 hts gL_law_X8_letter rfl rfl rfl (by decide +kernel) ⟨Nat.le_of_ble_eq_true rfl, Nat.le_of_ble_eq_true rfl⟩) rfl hl.1 (Nat.le_of_ble_eq_true rfl) dL_law_361 (by omega) (by omega) (fun H2 locs2 h2 => ?_)
  refine lv_istore (lv' := [(6, .int bv), (5, .int (hK Rr (fun _ => 1))), (0, .ref b), (1, .ref (a 159)), (2, .ref (am 99)), (3, .ref q), (4, .int (nI i))]) hx hb dL_law_364 hl (by decide) rfl (fun ls hl => ?_)
  refine lv_aload_n hx hb dL_law_366 rfl (lv_at hl 4 rfl) ?_
  refine lw_M (As := []) (rest := []) K h2 (cX8_thrown_met l D cy am am H2.size N M' (M'.1 0, M') rfl) (cwV 0 hts gL_law_X8_thrown rfl rfl rfl (by decide +kernel) ⟨Nat.le_of_ble_eq_true rfl, Nat.le_of_ble_eq_true rfl⟩) rfl hl.1 (Nat.le_of_ble_eq_true rfl) dL_law_367 (by omega) (by omega) (fun H3 locs3 h3 => ?_)
  refine lv_iload hx hb dL_law_370 (lv_at hl 1 rfl) ?_
  refine lv_icmp_eq (tgt := 377) hx hb dL_law_372 (by decide) (fun c1 => ?_) (fun c1 => absurd e5 c1)
  refine lv_iload hx hb dL_law_377 (lv_at hl 1 rfl) ?_
  refine lv_if_ne (tgt := 394) hx hb dL_law_379 (by decide) (fun c2 => ?_) (fun c2 => ?_)
  · refine lv_goto (tgt := 453) hx hb dL_law_394 (by decide) ?_
    exact kk r' _ _ _ _ _ ls _ _ h3 e3 (lv_sub hl [2, 3, 4, 5, 6] rfl) (by omega) (by omega)
  · obtain ⟨S', eR⟩ := e6 c2
    have z0 : hF f Rr 0 = bv.toInt64 := by rw [eR]; rfl
    refine lv_aload_n hx hb dL_law_382 rfl (lv_at hl 5 rfl) ?_
    refine lv_iconst (v := 0) hx hb dL_law_383 (by decide) ?_
    refine va_lald hx hb hK8 h3.1 0 0 rfl rfl (show vp_in (0 : Int32) 1 from vp_in_nI (n := 0) (N := 1) (by omega) (by omega)) dL_law_384 ?_
    refine lv_iload hx hb dL_law_385 (lv_at hl 0 rfl) ?_
    refine lv_i2l (v := bv.toInt64) hx hb dL_law_387 rfl ?_
    refine W.lcmp hx hb dL_law_388 ?_
    refine lv_if_eq (tgt := 394) hx hb dL_law_389 (by decide) (fun c3 => ?_) (fun c3 => absurd (by show lg_cmp (hF f Rr 0) bv.toInt64 = 0; rw [z0]; exact lcmp_self _) c3)
    refine lv_goto (tgt := 453) hx hb dL_law_394 (by decide) ?_
    exact kk r' _ _ _ _ _ ls _ _ h3 e3 (lv_sub hl [2, 3, 4, 5, 6] rfl) (by omega) (by omega)
set_option maxHeartbeats 4000000 in
set_option maxRecDepth 100000 in
theorem law_nodes {N L i : Nat} {xs : Nat → Int32} {ls : Array Slot} {c0 s0 : Nat} (K : LC p s m c b D cy cL sa) (hlS : l.stackTraces = false) (hN : Big N) (hX : va_X b L xs s s.heap) (hbl : b < s.heap.size) (hL : L ≤ 2048) (hi : i + 4 ≤ L) (h : LW D cy cL a r q f S am M s H locs) (hsim : SIM S M) (hl : lv_has ls 7 [(0, .ref b), (1, .ref (a 159)), (2, .ref (am 99)), (3, .ref q), (4, .int (nI i))]) (hc : cells ≤ c0 + gc S) (hc0 : c0 + 260000 ≤ 601024) (hs : slots ≤ s0 + gs S) (hs0 : s0 + 760000 ≤ 7293034)
    (kk : ∀ (r' : Nat → Nat) (f' : Nat → Int64) (S' M' : St) (H1 : Heap) (locs1 : List Loc) (ls : Array Slot) (cells' slots' : Nat), LW D cy cL a r' q f' S' am M' s H1 locs1 → SIM S' M' → lv_has ls 7 [(0, .ref b), (1, .ref (a 159)), (2, .ref (am 99)), (3, .ref q), (4, .int (nI i))] → cells' ≤ c0 + 1 + gc S' → slots' ≤ s0 + 6 + gs S' → W p l e room_1 s m #[Value.ref b] below meth c H1 locs1 cells' slots' Q (F0 m 453 ls [])) : W p l e room_1 s m #[Value.ref b] below meth c H locs cells slots Q (F0 m 397 ls []) := by
  obtain ⟨hx, hb, hml, hown, hts, hK6, hN7, hK8, hNc, hXP⟩ := id K
  have hbA : ¬ AS s b := Nat.not_le.mpr hbl
  have hS := h.2.2.2.2.2
  have v1 : vp_in (nI (i + 1)) L := vp_in_nI (by omega) (by omega)
  have v2 : vp_in (nI (i + 2)) L := vp_in_nI (by omega) (by omega)
  have v3 : vp_in (nI (i + 3)) L := vp_in_nI (by omega) (by omega)
  obtain ⟨Rr, bv, M', e1, e2, e3, e4, e5, e6⟩ := Ans.out (S_nodes (N := N) hN hsim (xs (i + 1))) (fun e h1 h2 => by exact ⟨by omega, by omega⟩)
  have rb := e3.2.2.2.2.2.1.b
  have g1 := e4.1
  have g2 := e4.2
  refine lv_aload_n hx hb dL_law_397 rfl (lv_at hl 1 rfl) ?_
  refine lv_aload_n hx hb dL_law_398 rfl (lv_at hl 0 rfl) ?_
  refine lv_iload hx hb dL_law_399 (lv_at hl 4 rfl) ?_
  refine lv_iconst (v := 1) hx hb dL_law_401 (by decide) ?_
  refine lv_iadd hx hb dL_law_402 ?_
  refine lv_as (show nI (i + 1) = nI i + (1 : Int32) from (nI_add i 1).symm) ?_
  refine va_sld hx hb hX hbl hbA hS v1 dL_law_403 ?_
  refine lv_as (show xs (i + 1) = xs (nI (i + 1)).toNatClampNeg by rw [nI_clamp (by omega)]) ?_
  refine lv_aload_n hx hb dL_law_404 rfl (lv_at hl 3 rfl) ?_
  refine lw_H (As := [.ref (a 159), .int (xs (i + 1)), .ref q]) (rest := []) K h (cL_nodes_met l hlS D cy cL a r sa q f H.size N S (xs (i + 1)) Rr e1 (fun u hu => by rw [hu] at e1; exact nod_e e1)) (vx_cwSW 3 hts gL_law_L_nodes rfl rfl rfl (by decide +kernel) ⟨Nat.le_of_ble_eq_true rfl, Nat.le_of_ble_eq_true rfl⟩) rfl hl.1 (Nat.le_of_ble_eq_true rfl) dL_law_405 (by omega) (by omega) (fun r' H1 locs1 h1 => ?_)
  have hS1 := h1.2.2.2.2.2
  refine lv_istore (lv' := [(5, .int (hK Rr (fun _ => 1))), (0, .ref b), (1, .ref (a 159)), (2, .ref (am 99)), (3, .ref q), (4, .int (nI i))]) hx hb dL_law_408 hl (by decide) rfl (fun ls hl => ?_)
  refine lv_aload_n hx hb dL_law_410 rfl (lv_at hl 3 rfl) ?_
  refine lv_aload_n hx hb dL_law_411 rfl (lv_at hl 1 rfl) ?_
  refine lv_iload hx hb dL_law_412 (lv_at hl 5 rfl) ?_
  refine lv_iconst (v := 1) hx hb dL_law_414 (by decide) ?_
  refine lv_iadd hx hb dL_law_415 ?_
  refine lv_as (show nI (i + 1) = nI i + (1 : Int32) from (nI_add i 1).symm) ?_
  refine va_sld hx hb hX hbl hbA hS1 v1 dL_law_416 ?_
  refine lv_as (show xs (i + 1) = xs (nI (i + 1)).toNatClampNeg by rw [nI_clamp (by omega)]) ?_
  refine lw_M (As := [.int (xs (i + 1))]) (rest := []) K h1 (cX8_nodes_met l D cy am am H1.size N M (xs (i + 1)) (bv, M') e2) (cwV 1 hts gL_law_X8_nodes rfl rfl rfl (by decide +kernel) ⟨Nat.le_of_ble_eq_true rfl, Nat.le_of_ble_eq_true rfl⟩) rfl hl.1 (Nat.le_of_ble_eq_true rfl) dL_law_417 (by omega) (by omega) (fun H2 locs2 h2 => ?_)
  refine lv_istore (lv' := [(6, .int bv), (5, .int (hK Rr (fun _ => 1))), (0, .ref b), (1, .ref (a 159)), (2, .ref (am 99)), (3, .ref q), (4, .int (nI i))]) hx hb dL_law_420 hl (by decide) rfl (fun ls hl => ?_)
  refine lv_aload_n hx hb dL_law_422 rfl (lv_at hl 4 rfl) ?_
  refine lw_M (As := []) (rest := []) K h2 (cX8_thrown_met l D cy am am H2.size N M' (M'.1 0, M') rfl) (cwV 0 hts gL_law_X8_thrown rfl rfl rfl (by decide +kernel) ⟨Nat.le_of_ble_eq_true rfl, Nat.le_of_ble_eq_true rfl⟩) rfl hl.1 (Nat.le_of_ble_eq_true rfl) dL_law_423 (by omega) (by omega) (fun H3 locs3 h3 => ?_)
  refine lv_iload hx hb dL_law_426 (lv_at hl 1 rfl) ?_
  refine lv_icmp_eq (tgt := 433) hx hb dL_law_428 (by decide) (fun c1 => ?_) (fun c1 => absurd e5 c1)
  refine lv_iload hx hb dL_law_433 (lv_at hl 1 rfl) ?_
  refine lv_if_ne (tgt := 450) hx hb dL_law_435 (by decide) (fun c2 => ?_) (fun c2 => ?_)
  · refine lv_goto (tgt := 453) hx hb dL_law_450 (by decide) ?_
    exact kk r' _ _ _ _ _ ls _ _ h3 e3 (lv_sub hl [2, 3, 4, 5, 6] rfl) (by omega) (by omega)
  · obtain ⟨S', eR⟩ := e6 c2
    have z0 : hF f Rr 0 = bv.toInt64 := by rw [eR]; rfl
    refine lv_aload_n hx hb dL_law_438 rfl (lv_at hl 5 rfl) ?_
    refine lv_iconst (v := 0) hx hb dL_law_439 (by decide) ?_
    refine va_lald hx hb hK8 h3.1 0 0 rfl rfl (show vp_in (0 : Int32) 1 from vp_in_nI (n := 0) (N := 1) (by omega) (by omega)) dL_law_440 ?_
    refine lv_iload hx hb dL_law_441 (lv_at hl 0 rfl) ?_
    refine lv_i2l (v := bv.toInt64) hx hb dL_law_443 rfl ?_
    refine W.lcmp hx hb dL_law_444 ?_
    refine lv_if_eq (tgt := 450) hx hb dL_law_445 (by decide) (fun c3 => ?_) (fun c3 => absurd (by show lg_cmp (hF f Rr 0) bv.toInt64 = 0; rw [z0]; exact lcmp_self _) c3)
    refine lv_goto (tgt := 453) hx hb dL_law_450 (by decide) ?_
    exact kk r' _ _ _ _ _ ls _ _ h3 e3 (lv_sub hl [2, 3, 4, 5, 6] rfl) (by omega) (by omega)
set_option maxHeartbeats 4000000 in
set_option maxRecDepth 100000 in
theorem law_run {N L i : Nat} {xs : Nat → Int32} {ls : Array Slot} {c0 s0 : Nat} (K : LC p s m c b D cy cL sa) (hlS : l.stackTraces = false) (hN : Big N) (hX : va_X b L xs s s.heap) (hbl : b < s.heap.size) (hL : L ≤ 2048) (hi : i + 4 ≤ L) (h : LW D cy cL a r q f S am M s H locs) (hsim : SIM S M) (hl : lv_has ls 7 [(0, .ref b), (1, .ref (a 159)), (2, .ref (am 99)), (3, .ref q), (4, .int (nI i))]) (hc : cells ≤ c0 + gc S) (hc0 : c0 + 260000 ≤ 601024) (hs : slots ≤ s0 + gs S) (hs0 : s0 + 760000 ≤ 7293034)
    (kk : ∀ (r' : Nat → Nat) (f' : Nat → Int64) (S' M' : St) (H1 : Heap) (locs1 : List Loc) (ls : Array Slot) (cells' slots' : Nat), LW D cy cL a r' q f' S' am M' s H1 locs1 → SIM S' M' → lv_has ls 7 [(0, .ref b), (1, .ref (a 159)), (2, .ref (am 99)), (3, .ref q), (4, .int (nI i))] → cells' ≤ c0 + 1 + gc S' → slots' ≤ s0 + 6 + gs S' → W p l e room_1 s m #[Value.ref b] below meth c H1 locs1 cells' slots' Q (F0 m 453 ls [])) : W p l e room_1 s m #[Value.ref b] below meth c H locs cells slots Q (F0 m 229 ls []) := by
  obtain ⟨hx, hb, hml, hown, hts, hK6, hN7, hK8, hNc, hXP⟩ := id K
  have hbA : ¬ AS s b := Nat.not_le.mpr hbl
  have hS := h.2.2.2.2.2
  have v1 : vp_in (nI (i + 1)) L := vp_in_nI (by omega) (by omega)
  have v2 : vp_in (nI (i + 2)) L := vp_in_nI (by omega) (by omega)
  have v3 : vp_in (nI (i + 3)) L := vp_in_nI (by omega) (by omega)
  have ans1 : Ans S (fX7_run N S (xs (i + 1))) (fX8_run N M (xs (i + 1))) (fun _ => 1) := by
    rcases S_run (N := N) hN hsim (xs (i + 1)) with z | ⟨e, S', bv, M', z1, z2, z3, z4, z5, z6, z7⟩
    · exact Or.inl z
    · have ee : e = 1 := congrArg Prod.fst (run_e z1)
      exact Or.inr ⟨e, S', bv, M', z1, z2, by rw [z3, ee], z4, z5, z6, z7⟩
  obtain ⟨Rr, bv, M', e1, e2, e3, e4, e5, e6⟩ := Ans.out (ans1) (fun e h1 h2 => by exact ⟨by omega, by omega⟩)
  have rb := e3.2.2.2.2.2.1.b
  have g1 := e4.1
  have g2 := e4.2
  refine lv_aload_n hx hb dL_law_229 rfl (lv_at hl 1 rfl) ?_
  refine lv_aload_n hx hb dL_law_230 rfl (lv_at hl 0 rfl) ?_
  refine lv_iload hx hb dL_law_231 (lv_at hl 4 rfl) ?_
  refine lv_iconst (v := 1) hx hb dL_law_233 (by decide) ?_
  refine lv_iadd hx hb dL_law_234 ?_
  refine lv_as (show nI (i + 1) = nI i + (1 : Int32) from (nI_add i 1).symm) ?_
  refine va_sld hx hb hX hbl hbA hS v1 dL_law_235 ?_
  refine lv_as (show xs (i + 1) = xs (nI (i + 1)).toNatClampNeg by rw [nI_clamp (by omega)]) ?_
  refine lv_aload_n hx hb dL_law_236 rfl (lv_at hl 3 rfl) ?_
  refine lw_H (As := [.ref (a 159), .int (xs (i + 1)), .ref q]) (rest := []) K h (cL_run_met l hlS D cy cL a r sa q f H.size N S (xs (i + 1)) Rr e1 (fun u hu => by rw [hu] at e1; rw [run_e e1])) (vx_cwSW 3 hts gL_law_L_run rfl rfl rfl (by decide +kernel) ⟨Nat.le_of_ble_eq_true rfl, Nat.le_of_ble_eq_true rfl⟩) rfl hl.1 (Nat.le_of_ble_eq_true rfl) dL_law_237 (by omega) (by omega) (fun r' H1 locs1 h1 => ?_)
  have hS1 := h1.2.2.2.2.2
  refine lv_istore (lv' := [(5, .int (hK Rr (fun _ => 1))), (0, .ref b), (1, .ref (a 159)), (2, .ref (am 99)), (3, .ref q), (4, .int (nI i))]) hx hb dL_law_240 hl (by decide) rfl (fun ls hl => ?_)
  refine lv_aload_n hx hb dL_law_242 rfl (lv_at hl 3 rfl) ?_
  refine lv_aload_n hx hb dL_law_243 rfl (lv_at hl 1 rfl) ?_
  refine lv_iload hx hb dL_law_244 (lv_at hl 5 rfl) ?_
  refine lv_iconst (v := 1) hx hb dL_law_246 (by decide) ?_
  refine lv_iadd hx hb dL_law_247 ?_
  refine lv_as (show nI (i + 1) = nI i + (1 : Int32) from (nI_add i 1).symm) ?_
  refine va_sld hx hb hX hbl hbA hS1 v1 dL_law_248 ?_
  refine lv_as (show xs (i + 1) = xs (nI (i + 1)).toNatClampNeg by rw [nI_clamp (by omega)]) ?_
  refine lw_M (As := [.int (xs (i + 1))]) (rest := []) K h1 (cX8_run_met l D cy am am H1.size N M (xs (i + 1)) (bv, M') e2) (cwV 1 hts gL_law_X8_run rfl rfl rfl (by decide +kernel) ⟨Nat.le_of_ble_eq_true rfl, Nat.le_of_ble_eq_true rfl⟩) rfl hl.1 (Nat.le_of_ble_eq_true rfl) dL_law_249 (by omega) (by omega) (fun H2 locs2 h2 => ?_)
  refine lv_istore (lv' := [(6, .int bv), (5, .int (hK Rr (fun _ => 1))), (0, .ref b), (1, .ref (a 159)), (2, .ref (am 99)), (3, .ref q), (4, .int (nI i))]) hx hb dL_law_252 hl (by decide) rfl (fun ls hl => ?_)
  refine lv_aload_n hx hb dL_law_254 rfl (lv_at hl 4 rfl) ?_
  refine lw_M (As := []) (rest := []) K h2 (cX8_thrown_met l D cy am am H2.size N M' (M'.1 0, M') rfl) (cwV 0 hts gL_law_X8_thrown rfl rfl rfl (by decide +kernel) ⟨Nat.le_of_ble_eq_true rfl, Nat.le_of_ble_eq_true rfl⟩) rfl hl.1 (Nat.le_of_ble_eq_true rfl) dL_law_255 (by omega) (by omega) (fun H3 locs3 h3 => ?_)
  refine lv_iload hx hb dL_law_258 (lv_at hl 1 rfl) ?_
  refine lv_icmp_eq (tgt := 265) hx hb dL_law_260 (by decide) (fun c1 => ?_) (fun c1 => absurd e5 c1)
  refine lv_iload hx hb dL_law_265 (lv_at hl 1 rfl) ?_
  refine lv_if_ne (tgt := 282) hx hb dL_law_267 (by decide) (fun c2 => ?_) (fun c2 => ?_)
  · refine lv_goto (tgt := 453) hx hb dL_law_282 (by decide) ?_
    exact kk r' _ _ _ _ _ ls _ _ h3 e3 (lv_sub hl [2, 3, 4, 5, 6] rfl) (by omega) (by omega)
  · obtain ⟨S', eR⟩ := e6 c2
    have z0 : hF f Rr 0 = bv.toInt64 := by rw [eR]; rfl
    refine lv_aload_n hx hb dL_law_270 rfl (lv_at hl 5 rfl) ?_
    refine lv_iconst (v := 0) hx hb dL_law_271 (by decide) ?_
    refine va_lald hx hb hK8 h3.1 0 0 rfl rfl (show vp_in (0 : Int32) 1 from vp_in_nI (n := 0) (N := 1) (by omega) (by omega)) dL_law_272 ?_
    refine lv_iload hx hb dL_law_273 (lv_at hl 0 rfl) ?_
    refine lv_i2l (v := bv.toInt64) hx hb dL_law_275 rfl ?_
    refine W.lcmp hx hb dL_law_276 ?_
    refine lv_if_eq (tgt := 282) hx hb dL_law_277 (by decide) (fun c3 => ?_) (fun c3 => absurd (by show lg_cmp (hF f Rr 0) bv.toInt64 = 0; rw [z0]; exact lcmp_self _) c3)
    refine lv_goto (tgt := 453) hx hb dL_law_282 (by decide) ?_
    exact kk r' _ _ _ _ _ ls _ _ h3 e3 (lv_sub hl [2, 3, 4, 5, 6] rfl) (by omega) (by omega)
set_option maxHeartbeats 4000000 in
set_option maxRecDepth 100000 in
theorem law_type {N L i : Nat} {xs : Nat → Int32} {ls : Array Slot} {c0 s0 : Nat} (K : LC p s m c b D cy cL sa) (hlS : l.stackTraces = false) (hN : Big N) (hX : va_X b L xs s s.heap) (hbl : b < s.heap.size) (hL : L ≤ 2048) (hi : i + 4 ≤ L) (h : LW D cy cL a r q f S am M s H locs) (hsim : SIM S M) (hl : lv_has ls 7 [(0, .ref b), (1, .ref (a 159)), (2, .ref (am 99)), (3, .ref q), (4, .int (nI i))]) (hc : cells ≤ c0 + gc S) (hc0 : c0 + 260000 ≤ 601024) (hs : slots ≤ s0 + gs S) (hs0 : s0 + 760000 ≤ 7293034)
    (kk : ∀ (r' : Nat → Nat) (f' : Nat → Int64) (S' M' : St) (H1 : Heap) (locs1 : List Loc) (ls : Array Slot) (cells' slots' : Nat), LW D cy cL a r' q f' S' am M' s H1 locs1 → SIM S' M' → lv_has ls 7 [(0, .ref b), (1, .ref (a 159)), (2, .ref (am 99)), (3, .ref q), (4, .int (nI i))] → cells' ≤ c0 + 1 + gc S' → slots' ≤ s0 + 6 + gs S' → W p l e room_1 s m #[Value.ref b] below meth c H1 locs1 cells' slots' Q (F0 m 453 ls [])) : W p l e room_1 s m #[Value.ref b] below meth c H locs cells slots Q (F0 m 80 ls []) := by
  obtain ⟨hx, hb, hml, hown, hts, hK6, hN7, hK8, hNc, hXP⟩ := id K
  have hbA : ¬ AS s b := Nat.not_le.mpr hbl
  have hS := h.2.2.2.2.2
  have v1 : vp_in (nI (i + 1)) L := vp_in_nI (by omega) (by omega)
  have v2 : vp_in (nI (i + 2)) L := vp_in_nI (by omega) (by omega)
  have v3 : vp_in (nI (i + 3)) L := vp_in_nI (by omega) (by omega)
  obtain ⟨w0, ew⟩ : ∃ z : Int64, z = ((xs (i + 1)).toInt64 <<< ((32 : Int32).toInt64 &&& 63)) ||| ((xs (i + 2)).toInt64 &&& 4294967295) := ⟨_, rfl⟩
  obtain ⟨Rr, bv, M', e1, e2, e3, e4, e5, e6⟩ := Ans.out (S_type (N := N) hN hsim w0 (xs (i + 3))) (fun e h1 h2 => by exact ⟨by omega, by omega⟩)
  have rb := e3.2.2.2.2.2.1.b
  have g1 := e4.1
  have g2 := e4.2
  refine lv_aload_n hx hb dL_law_80 rfl (lv_at hl 1 rfl) ?_
  refine lv_aload_n hx hb dL_law_81 rfl (lv_at hl 0 rfl) ?_
  refine lv_iload hx hb dL_law_82 (lv_at hl 4 rfl) ?_
  refine lv_iconst (v := 1) hx hb dL_law_84 (by decide) ?_
  refine lv_iadd hx hb dL_law_85 ?_
  refine lv_as (show nI (i + 1) = nI i + (1 : Int32) from (nI_add i 1).symm) ?_
  refine va_sld hx hb hX hbl hbA hS v1 dL_law_86 ?_
  refine lv_as (show xs (i + 1) = xs (nI (i + 1)).toNatClampNeg by rw [nI_clamp (by omega)]) ?_
  refine lv_i2l (v := (xs (i + 1)).toInt64) hx hb dL_law_87 rfl ?_
  refine lv_bipush (v := 32) hx hb dL_law_88 (by decide) ?_
  refine lv_lshl (v := (xs (i + 1)).toInt64 <<< ((32 : Int32).toInt64 &&& 63)) hx hb dL_law_90 rfl ?_
  refine lv_aload_n hx hb dL_law_91 rfl (lv_at hl 0 rfl) ?_
  refine lv_iload hx hb dL_law_92 (lv_at hl 4 rfl) ?_
  refine lv_iconst (v := 2) hx hb dL_law_94 (by decide) ?_
  refine lv_iadd hx hb dL_law_95 ?_
  refine lv_as (show nI (i + 2) = nI i + (2 : Int32) from (nI_add i 2).symm) ?_
  refine va_sld hx hb hX hbl hbA hS v2 dL_law_96 ?_
  refine lv_as (show xs (i + 2) = xs (nI (i + 2)).toNatClampNeg by rw [nI_clamp (by omega)]) ?_
  refine lv_i2l (v := (xs (i + 2)).toInt64) hx hb dL_law_97 rfl ?_
  refine lv_ldc2 (v := 4294967295) hx hb hown (hts _ mL_law_c40) dL_law_98 ?_
  refine lv_land hx hb dL_law_101 ?_
  refine lv_lor hx hb dL_law_102 ?_
  rw [← ew]
  refine lv_aload_n hx hb dL_law_103 rfl (lv_at hl 0 rfl) ?_
  refine lv_iload hx hb dL_law_104 (lv_at hl 4 rfl) ?_
  refine lv_iconst (v := 3) hx hb dL_law_106 (by decide) ?_
  refine lv_iadd hx hb dL_law_107 ?_
  refine lv_as (show nI (i + 3) = nI i + (3 : Int32) from (nI_add i 3).symm) ?_
  refine va_sld hx hb hX hbl hbA hS v3 dL_law_108 ?_
  refine lv_as (show xs (i + 3) = xs (nI (i + 3)).toNatClampNeg by rw [nI_clamp (by omega)]) ?_
  refine lv_aload_n hx hb dL_law_109 rfl (lv_at hl 3 rfl) ?_
  refine lw_H (As := [.ref (a 159), .long w0, .int (xs (i + 3)), .ref q]) (rest := []) K h (cL_type_met l hlS D cy cL a r sa q f H.size N S w0 (xs (i + 3)) Rr e1) (vx_cwSW 4 hts gL_law_L_type rfl rfl rfl (by decide +kernel) ⟨Nat.le_of_ble_eq_true rfl, Nat.le_of_ble_eq_true rfl⟩) rfl hl.1 (Nat.le_of_ble_eq_true rfl) dL_law_110 (by omega) (by omega) (fun r' H1 locs1 h1 => ?_)
  have hS1 := h1.2.2.2.2.2
  refine lv_istore (lv' := [(5, .int (hK Rr (fun e => e))), (0, .ref b), (1, .ref (a 159)), (2, .ref (am 99)), (3, .ref q), (4, .int (nI i))]) hx hb dL_law_113 hl (by decide) rfl (fun ls hl => ?_)
  refine lv_aload_n hx hb dL_law_115 rfl (lv_at hl 3 rfl) ?_
  refine lv_aload_n hx hb dL_law_116 rfl (lv_at hl 1 rfl) ?_
  refine lv_iload hx hb dL_law_117 (lv_at hl 5 rfl) ?_
  refine lv_iconst (v := 1) hx hb dL_law_119 (by decide) ?_
  refine lv_iadd hx hb dL_law_120 ?_
  refine lv_as (show nI (i + 1) = nI i + (1 : Int32) from (nI_add i 1).symm) ?_
  refine va_sld hx hb hX hbl hbA hS1 v1 dL_law_121 ?_
  refine lv_as (show xs (i + 1) = xs (nI (i + 1)).toNatClampNeg by rw [nI_clamp (by omega)]) ?_
  refine lv_i2l (v := (xs (i + 1)).toInt64) hx hb dL_law_122 rfl ?_
  refine lv_bipush (v := 32) hx hb dL_law_123 (by decide) ?_
  refine lv_lshl (v := (xs (i + 1)).toInt64 <<< ((32 : Int32).toInt64 &&& 63)) hx hb dL_law_125 rfl ?_
  refine lv_aload_n hx hb dL_law_126 rfl (lv_at hl 1 rfl) ?_
  refine lv_iload hx hb dL_law_127 (lv_at hl 5 rfl) ?_
  refine lv_iconst (v := 2) hx hb dL_law_129 (by decide) ?_
  refine lv_iadd hx hb dL_law_130 ?_
  refine lv_as (show nI (i + 2) = nI i + (2 : Int32) from (nI_add i 2).symm) ?_
  refine va_sld hx hb hX hbl hbA hS1 v2 dL_law_131 ?_
  refine lv_as (show xs (i + 2) = xs (nI (i + 2)).toNatClampNeg by rw [nI_clamp (by omega)]) ?_
  refine lv_i2l (v := (xs (i + 2)).toInt64) hx hb dL_law_132 rfl ?_
  refine lv_ldc2 (v := 4294967295) hx hb hown (hts _ mL_law_c40) dL_law_133 ?_
  refine lv_land hx hb dL_law_136 ?_
  refine lv_lor hx hb dL_law_137 ?_
  rw [← ew]
  refine lv_aload_n hx hb dL_law_138 rfl (lv_at hl 1 rfl) ?_
  refine lv_iload hx hb dL_law_139 (lv_at hl 5 rfl) ?_
  refine lv_iconst (v := 3) hx hb dL_law_141 (by decide) ?_
  refine lv_iadd hx hb dL_law_142 ?_
  refine lv_as (show nI (i + 3) = nI i + (3 : Int32) from (nI_add i 3).symm) ?_
  refine va_sld hx hb hX hbl hbA hS1 v3 dL_law_143 ?_
  refine lv_as (show xs (i + 3) = xs (nI (i + 3)).toNatClampNeg by rw [nI_clamp (by omega)]) ?_
  refine lw_M (As := [.long w0, .int (xs (i + 3))]) (rest := []) K h1 (cX8_type_met l D cy am am H1.size N M w0 (xs (i + 3)) (bv, M') e2) (cwV 2 hts gL_law_X8_type rfl rfl rfl (by decide +kernel) ⟨Nat.le_of_ble_eq_true rfl, Nat.le_of_ble_eq_true rfl⟩) rfl hl.1 (Nat.le_of_ble_eq_true rfl) dL_law_144 (by omega) (by omega) (fun H2 locs2 h2 => ?_)
  refine lv_istore (lv' := [(6, .int bv), (5, .int (hK Rr (fun e => e))), (0, .ref b), (1, .ref (a 159)), (2, .ref (am 99)), (3, .ref q), (4, .int (nI i))]) hx hb dL_law_147 hl (by decide) rfl (fun ls hl => ?_)
  refine lv_aload_n hx hb dL_law_149 rfl (lv_at hl 4 rfl) ?_
  refine lw_M (As := []) (rest := []) K h2 (cX8_thrown_met l D cy am am H2.size N M' (M'.1 0, M') rfl) (cwV 0 hts gL_law_X8_thrown rfl rfl rfl (by decide +kernel) ⟨Nat.le_of_ble_eq_true rfl, Nat.le_of_ble_eq_true rfl⟩) rfl hl.1 (Nat.le_of_ble_eq_true rfl) dL_law_150 (by omega) (by omega) (fun H3 locs3 h3 => ?_)
  refine lv_iload hx hb dL_law_153 (lv_at hl 1 rfl) ?_
  refine lv_icmp_eq (tgt := 160) hx hb dL_law_155 (by decide) (fun c1 => ?_) (fun c1 => absurd e5 c1)
  refine lv_iload hx hb dL_law_160 (lv_at hl 1 rfl) ?_
  refine lv_if_ne (tgt := 177) hx hb dL_law_162 (by decide) (fun c2 => ?_) (fun c2 => ?_)
  · refine lv_goto (tgt := 453) hx hb dL_law_177 (by decide) ?_
    exact kk r' _ _ _ _ _ ls _ _ h3 e3 (lv_sub hl [2, 3, 4, 5, 6] rfl) (by omega) (by omega)
  · obtain ⟨S', eR⟩ := e6 c2
    have z0 : hF f Rr 0 = bv.toInt64 := by rw [eR]; rfl
    refine lv_aload_n hx hb dL_law_165 rfl (lv_at hl 5 rfl) ?_
    refine lv_iconst (v := 0) hx hb dL_law_166 (by decide) ?_
    refine va_lald hx hb hK8 h3.1 0 0 rfl rfl (show vp_in (0 : Int32) 1 from vp_in_nI (n := 0) (N := 1) (by omega) (by omega)) dL_law_167 ?_
    refine lv_iload hx hb dL_law_168 (lv_at hl 0 rfl) ?_
    refine lv_i2l (v := bv.toInt64) hx hb dL_law_170 rfl ?_
    refine W.lcmp hx hb dL_law_171 ?_
    refine lv_if_eq (tgt := 177) hx hb dL_law_172 (by decide) (fun c3 => ?_) (fun c3 => absurd (by show lg_cmp (hF f Rr 0) bv.toInt64 = 0; rw [z0]; exact lcmp_self _) c3)
    refine lv_goto (tgt := 453) hx hb dL_law_177 (by decide) ?_
    exact kk r' _ _ _ _ _ ls _ _ h3 e3 (lv_sub hl [2, 3, 4, 5, 6] rfl) (by omega) (by omega)
set_option maxHeartbeats 4000000 in
set_option maxRecDepth 100000 in
theorem law_keep {N L i : Nat} {xs : Nat → Int32} {ls : Array Slot} {c0 s0 : Nat} (K : LC p s m c b D cy cL sa) (hlS : l.stackTraces = false) (hN : Big N) (hX : va_X b L xs s s.heap) (hbl : b < s.heap.size) (hL : L ≤ 2048) (hi : i + 4 ≤ L) (h : LW D cy cL a r q f S am M s H locs) (hsim : SIM S M) (hl : lv_has ls 7 [(0, .ref b), (1, .ref (a 159)), (2, .ref (am 99)), (3, .ref q), (4, .int (nI i))]) (hc : cells ≤ c0 + gc S) (hc0 : c0 + 260000 ≤ 601024) (hs : slots ≤ s0 + gs S) (hs0 : s0 + 760000 ≤ 7293034)
    (kk : ∀ (r' : Nat → Nat) (f' : Nat → Int64) (S' M' : St) (H1 : Heap) (locs1 : List Loc) (ls : Array Slot) (cells' slots' : Nat), LW D cy cL a r' q f' S' am M' s H1 locs1 → SIM S' M' → lv_has ls 7 [(0, .ref b), (1, .ref (a 159)), (2, .ref (am 99)), (3, .ref q), (4, .int (nI i))] → cells' ≤ c0 + 1 + gc S' → slots' ≤ s0 + 6 + gs S' → W p l e room_1 s m #[Value.ref b] below meth c H1 locs1 cells' slots' Q (F0 m 453 ls [])) : W p l e room_1 s m #[Value.ref b] below meth c H locs cells slots Q (F0 m 180 ls []) := by
  obtain ⟨hx, hb, hml, hown, hts, hK6, hN7, hK8, hNc, hXP⟩ := id K
  have hbA : ¬ AS s b := Nat.not_le.mpr hbl
  have hS := h.2.2.2.2.2
  have v1 : vp_in (nI (i + 1)) L := vp_in_nI (by omega) (by omega)
  have v2 : vp_in (nI (i + 2)) L := vp_in_nI (by omega) (by omega)
  have v3 : vp_in (nI (i + 3)) L := vp_in_nI (by omega) (by omega)
  obtain ⟨Rr, M', e1, e2, e3, e4, e5⟩ : ∃ Rr M', fX7_keep N S (xs (i + 1)) = some Rr ∧ fX8_keep N M (xs (i + 1)) = some M' ∧ SIM (kS Rr) M' ∧ Ge (kS Rr) S ∧ M'.1 0 = kK Rr := by
    rcases S_keep (N := N) hsim (xs (i + 1)) with ⟨S', M', z1, z2, z3, z4, z5⟩ | ⟨M', z1, z2, z3, z4⟩
    · exact ⟨.inl S', M', z1, z2, z4, z5, z3⟩
    · exact ⟨.inr (1, S), M', z1, z2, z4, Ge.rf, z3⟩
  have rb := e3.2.2.2.2.2.1.b
  have g1 := e4.1
  have g2 := e4.2
  refine lv_aload_n hx hb dL_law_180 rfl (lv_at hl 1 rfl) ?_
  refine lv_aload_n hx hb dL_law_181 rfl (lv_at hl 0 rfl) ?_
  refine lv_iload hx hb dL_law_182 (lv_at hl 4 rfl) ?_
  refine lv_iconst (v := 1) hx hb dL_law_184 (by decide) ?_
  refine lv_iadd hx hb dL_law_185 ?_
  refine lv_as (show nI (i + 1) = nI i + (1 : Int32) from (nI_add i 1).symm) ?_
  refine va_sld hx hb hX hbl hbA hS v1 dL_law_186 ?_
  refine lv_as (show xs (i + 1) = xs (nI (i + 1)).toNatClampNeg by rw [nI_clamp (by omega)]) ?_
  refine lw_K (As := [.ref (a 159), .int (xs (i + 1))]) (rest := []) K h (cL_keep_met l hlS D cy a r sa H.size N S (xs (i + 1)) Rr e1) (vx_cwSW 2 hts gL_law_L_keep rfl rfl rfl (by decide +kernel) ⟨Nat.le_of_ble_eq_true rfl, Nat.le_of_ble_eq_true rfl⟩) rfl hl.1 (Nat.le_of_ble_eq_true rfl) dL_law_187 (by omega) (by omega) (fun H1 locs1 h1 => ?_)
  have hS1 := h1.2.2.2.2.2
  refine lv_istore (lv' := [(5, .int (kK Rr)), (0, .ref b), (1, .ref (a 159)), (2, .ref (am 99)), (3, .ref q), (4, .int (nI i))]) hx hb dL_law_190 hl (by decide) rfl (fun ls hl => ?_)
  refine lv_aload_n hx hb dL_law_192 rfl (lv_at hl 3 rfl) ?_
  refine lv_aload_n hx hb dL_law_193 rfl (lv_at hl 1 rfl) ?_
  refine lv_iload hx hb dL_law_194 (lv_at hl 5 rfl) ?_
  refine lv_iconst (v := 1) hx hb dL_law_196 (by decide) ?_
  refine lv_iadd hx hb dL_law_197 ?_
  refine lv_as (show nI (i + 1) = nI i + (1 : Int32) from (nI_add i 1).symm) ?_
  refine va_sld hx hb hX hbl hbA hS1 v1 dL_law_198 ?_
  refine lv_as (show xs (i + 1) = xs (nI (i + 1)).toNatClampNeg by rw [nI_clamp (by omega)]) ?_
  refine lw_MV (As := [.int (xs (i + 1))]) (rest := []) K h1 (cX8_keep_met l D cy am am H1.size N M (xs (i + 1)) M' e2) (cwV 1 hts gL_law_X8_keep rfl rfl rfl (by decide +kernel) ⟨Nat.le_of_ble_eq_true rfl, Nat.le_of_ble_eq_true rfl⟩) rfl hl.1 (Nat.le_of_ble_eq_true rfl) dL_law_199 (by omega) (by omega) (fun H2 locs2 h2 => ?_)
  refine lv_aload_n hx hb dL_law_202 rfl (lv_at hl 3 rfl) ?_
  refine lw_M (As := []) (rest := []) K h2 (cX8_thrown_met l D cy am am H2.size N M' (M'.1 0, M') rfl) (cwV 0 hts gL_law_X8_thrown rfl rfl rfl (by decide +kernel) ⟨Nat.le_of_ble_eq_true rfl, Nat.le_of_ble_eq_true rfl⟩) rfl hl.1 (Nat.le_of_ble_eq_true rfl) dL_law_203 (by omega) (by omega) (fun H3 locs3 h3 => ?_)
  refine lv_iload hx hb dL_law_206 (lv_at hl 0 rfl) ?_
  refine lv_icmp_eq (tgt := 213) hx hb dL_law_208 (by decide) (fun c1 => ?_) (fun c1 => absurd e5 c1)
  refine lv_goto (tgt := 453) hx hb dL_law_213 (by decide) ?_
  exact kk r _ _ _ _ _ ls _ _ h3 e3 (lv_sub hl [1, 2, 3, 4, 5] rfl) (by omega) (by omega)
set_option maxHeartbeats 4000000 in
set_option maxRecDepth 100000 in
theorem law_read {N L i : Nat} {xs : Nat → Int32} {ls : Array Slot} {c0 s0 : Nat} (K : LC p s m c b D cy cL sa) (hlS : l.stackTraces = false) (hN : Big N) (hX : va_X b L xs s s.heap) (hbl : b < s.heap.size) (hL : L ≤ 2048) (hi : i + 4 ≤ L) (h : LW D cy cL a r q f S am M s H locs) (hsim : SIM S M) (hl : lv_has ls 7 [(0, .ref b), (1, .ref (a 159)), (2, .ref (am 99)), (3, .ref q), (4, .int (nI i))]) (hc : cells ≤ c0 + gc S) (hc0 : c0 + 260000 ≤ 601024) (hs : slots ≤ s0 + gs S) (hs0 : s0 + 760000 ≤ 7293034)
    (kk : ∀ (r' : Nat → Nat) (f' : Nat → Int64) (S' M' : St) (H1 : Heap) (locs1 : List Loc) (ls : Array Slot) (cells' slots' : Nat), LW D cy cL a r' q f' S' am M' s H1 locs1 → SIM S' M' → lv_has ls 7 [(0, .ref b), (1, .ref (a 159)), (2, .ref (am 99)), (3, .ref q), (4, .int (nI i))] → cells' ≤ c0 + 1 + gc S' → slots' ≤ s0 + 6 + gs S' → W p l e room_1 s m #[Value.ref b] below meth c H1 locs1 cells' slots' Q (F0 m 453 ls [])) : W p l e room_1 s m #[Value.ref b] below meth c H locs cells slots Q (F0 m 216 ls []) := by
  obtain ⟨hx, hb, hml, hown, hts, hK6, hN7, hK8, hNc, hXP⟩ := id K
  have hbA : ¬ AS s b := Nat.not_le.mpr hbl
  have hS := h.2.2.2.2.2
  have v1 : vp_in (nI (i + 1)) L := vp_in_nI (by omega) (by omega)
  have v2 : vp_in (nI (i + 2)) L := vp_in_nI (by omega) (by omega)
  have v3 : vp_in (nI (i + 3)) L := vp_in_nI (by omega) (by omega)
  obtain ⟨v, S', M', e1, e2, e3, e4⟩ := S_read (N := N) hN hsim
  have rb := e3.2.2.2.2.2.1.b
  have g1 := e4.1
  have g2 := e4.2
  refine lv_aload_n hx hb dL_law_216 rfl (lv_at hl 1 rfl) ?_
  refine lw_R (As := []) (rest := []) K h (cX7_read_met l D cy a r H.size N S (v, S') e1) (cwV 0 hts gL_law_X7_read rfl rfl rfl (by decide +kernel) ⟨Nat.le_of_ble_eq_true rfl, Nat.le_of_ble_eq_true rfl⟩) rfl hl.1 (Nat.le_of_ble_eq_true rfl) dL_law_217 (by omega) (by omega) (fun H1 locs1 h1 => ?_)
  refine lv_aload_n hx hb dL_law_220 rfl (lv_at hl 2 rfl) ?_
  refine lw_M (As := []) (rest := [.int v]) K h1 (cX8_read_met l D cy am am H1.size N M (v, M') e2) (cwV 0 hts gL_law_X8_read rfl rfl rfl (by decide +kernel) ⟨Nat.le_of_ble_eq_true rfl, Nat.le_of_ble_eq_true rfl⟩) rfl hl.1 (Nat.le_of_ble_eq_true rfl) dL_law_221 (by omega) (by omega) (fun H2 locs2 h2 => ?_)
  refine lv_icmp_eq (tgt := 453) hx hb dL_law_224 (by decide) (fun c1 => ?_) (fun c1 => absurd rfl c1)
  exact kk r _ _ _ _ _ ls _ _ h2 e3 (lv_sub hl [0, 1, 2, 3, 4] rfl) (by omega) (by omega)
end LCASE
