/-! the law, from its entry -/
def R_law : String := "SharedLambdaLaw"
def lw_P (b : Addr) (xs : List Int32) (args : Array Value) (s : State) : Prop := args = #[.ref b] ∧ s.IntsAt b xs ∧ xs.length ≤ 2048 ∧ (Jvm.Cond.and given_1 narrow_1).before args s = true
def lw_Q (_ : Array Value) (s : State) (o : Outcome) (t : State) : Prop := o = .returned (some (.int 1)) ∧ Framed s o t [] 601024 7293034
def lw_Z (below : List Frame) (a : Array Value) (s : State) : State → Prop := fun t => ∃ o, t.status = .running ∧ Ended t below o ∧ lw_Q a s o t
/-- the law's own end, with 1 on the stack, nothing written that was there before, its room as the claim has it -/
theorem lw_ret {p : Program} {l : Launch} {e : Env} {s : State} {m : MethodId} {below : List Frame} {meth : Method} {c : Code} {b : Nat} (hx : p.tables.exec = Jvm.exec) (hb : c.code = code) (hr : meth.sig.returnType = ret) (hlocks : meth.locks = false) {pc : Nat} {H : Heap} {ls : Array Slot} (hdg : decode code pc = .ok (.ireturn, 1)) : W p l e room_1 s m #[Value.ref b] below meth c H [] 601024 7293034 (lw_Z below #[Value.ref b] s) (F0 m pc ls [.int 1]) := by
  intro T hT X
  obtain ⟨fs, hret, hrun, hended, hW, hframe⟩ := X.leave (v := some (.int 1)) (hlocks := hlocks) (fun h => by rw [hr] at h; cases h)
  have hmeth' : T.vm.method? m = some meth := X.method'
  refine ⟨T.setFrames fs, ?_, .returned (some (.int 1)), hrun, hended, rfl, ⟨_, rfl⟩, hW, hframe⟩
  jvm_step X.here [X.here.top, hx, hb, hdg, hmeth', hr, ret, narrow_b1]
  (try refine ⟨rfl, ?_⟩); (try refine ⟨rfl, ?_⟩)
  first | (intro acts; rw [hret _ acts rfl rfl rfl]) | rw [hret _ _ rfl rfl rfl]
  exact Steps.refl _
/-- what holds at the law's entry: the machine, the code, the tables' words (any of lw_tbl by 'hts w (by decide +kernel)'), the script of L ints xs at the cell b, what the Statement gives of the start (any of its parts by flat_of_before) -/
def lw_At (p : Program) (s : State) (m : MethodId) (meth : Method) (c : Code) (b L : Nat) (xs : Nat → Int32) : Prop :=
  p.tables.exec = Jvm.exec ∧ c.code = code ∧ meth.sig.returnType = ret ∧ c.maxLocals = 7 ∧ s.vm.findClass R_law = some m.cls ∧ (∀ w ∈ lw_tbl, w.before #[Value.ref b] s = true) ∧ va_X b L xs s s.heap ∧ b < s.heap.size ∧ meth.locks = false ∧ (Jvm.Cond.and given_1 narrow_1).before #[Value.ref b] s = true
theorem st_ib0 : Cond.instantiable RX0 4 ∈ lw_tbl := by decide +kernel
theorem st_ib1 : Cond.instantiable RX1 8 ∈ lw_tbl := by decide +kernel
theorem st_ib2 : Cond.instantiable RX2 10 ∈ lw_tbl := by decide +kernel
theorem st_ib3 : Cond.instantiable RX3 4 ∈ lw_tbl := by decide +kernel
theorem st_ib4 : Cond.instantiable RX4 15 ∈ lw_tbl := by decide +kernel
theorem st_ib5 : Cond.instantiable RX5 6 ∈ lw_tbl := by decide +kernel
theorem st_ib6 : Cond.instantiable RX6 16 ∈ lw_tbl := by decide +kernel
theorem st_ib7 : Cond.instantiable RX7 9 ∈ lw_tbl := by decide +kernel
theorem st_ib8 : Cond.instantiable RX8 58 ∈ lw_tbl := by decide +kernel
theorem st_nest : ∀ q ∈ nestQ, Cond.methodLinkNest q.1 q.2.1 q.2.2 RX7 ∈ lw_tbl := by decide +kernel
theorem st_str : ∀ q ∈ strQ, Cond.stringRef RX7 q.1 q.2 ∈ lw_tbl := by decide +kernel
theorem st_bad : ∀ k ∈ [1, 2, 3], ∀ w ∈ xBad k, w ∈ lw_tbl := by decide +kernel
theorem st_aI : Cond.arrayClass .int ∈ lw_tbl := by decide +kernel
theorem st_aZ : Cond.arrayClass .boolean ∈ lw_tbl := by decide +kernel
theorem st_aC : Cond.arrayClass .char ∈ lw_tbl := by decide +kernel
theorem st_aB : Cond.arrayClass .byte ∈ lw_tbl := by decide +kernel
theorem st_aJ : Cond.arrayClass .long ∈ lw_tbl := by decide +kernel
theorem st_aII : Cond.arrayOver (.array .int) ∈ lw_tbl := by decide +kernel
theorem st_ls1 : Cond.laysStatic Bundle.tN "UNASSIGNED_STACK" Bundle.steD ∈ lw_tbl := by decide +kernel
theorem st_ls2 : Cond.laysStatic Bundle.tN "SUPPRESSED_SENTINEL" Bundle.listD ∈ lw_tbl := by decide +kernel
theorem st_in0 : Cond.initialized Bundle.tN ∈ lw_tbl := by decide +kernel
theorem st_cl7 : Cond.classLink RL 8 RX7 ∈ lw_tbl := by decide +kernel
theorem st_cl8 : Cond.classLink RL 37 RX8 ∈ lw_tbl := by decide +kernel
theorem st_in7 : Cond.initialized RX7 ∈ lw_tbl := by decide +kernel
theorem st_in8 : Cond.initialized RX8 ∈ lw_tbl := by decide +kernel
theorem st_ml7 : Cond.methodLink RL 36 yX7_init ∈ lw_tbl := by decide +kernel
theorem st_ml8 : Cond.methodLink RL 39 yX8_init ∈ lw_tbl := by decide +kernel
theorem st_im7 : Cond.instanceMethod yX7_init ∈ lw_tbl := by decide +kernel
theorem st_im8 : Cond.instanceMethod yX8_init ∈ lw_tbl := by decide +kernel
theorem w_spP {D : va_G} {cl : List vw_C} {X Y : va_W} {H : Heap} (h : va_P D cl (X ++ Y) H) : va_P D cl X H ∧ va_P D cl Y H := ⟨fun k q hk => h k q (by rw [List.getElem?_append_left (List.getElem?_eq_some_iff.mp hk).1]; exact hk), fun k q hk => h (X.length + k) q (by rw [List.getElem?_append_right (Nat.le_add_right _ _), Nat.add_sub_cancel_left]; exact hk)⟩
theorem w_spD {A : Nat → Prop} {X Y : va_W} (h : va_D A (X ++ Y)) : va_D A X ∧ va_D A Y ∧ Dj X Y := by
  have l : ∀ {k : Nat} {q : Nat × va_E}, X[k]? = some q → (X ++ Y)[k]? = some q := fun hk => by rw [List.getElem?_append_left (List.getElem?_eq_some_iff.mp hk).1]; exact hk
  have r : ∀ {k : Nat} {q : Nat × va_E}, Y[k]? = some q → (X ++ Y)[X.length + k]? = some q := fun hk => by rw [List.getElem?_append_right (Nat.le_add_right _ _), Nat.add_sub_cancel_left]; exact hk
  refine ⟨⟨fun i j p q h1 h2 e => h.1 i j p q (l h1) (l h2) e, fun k q hk => h.2 k q (l hk)⟩, ⟨fun i j p q h1 h2 e => by
    have := h.1 _ _ p q (r h1) (r h2) e
    omega, fun k q hk => h.2 _ q (r hk)⟩, fun i j p q h1 h2 e => ?_⟩
  have := h.1 _ _ p q (l h1) (r h2) e
  have := (List.getElem?_eq_some_iff.mp h1).1
  omega
/-- what the texts are -/
theorem st_sa {b : Nat} {s : State} (hgv : (Jvm.Cond.and given_1 narrow_1).before #[Value.ref b] s = true) : ∃ sa : Nat → Nat, ∀ q ∈ strQ, (Term.string RX7 q.1).eval #[Value.ref b] s none [] s = some (.ref (sa q.1)) := by
  have hfl := flat_of_before _ hgv
  have ex : ∀ q ∈ strQ, ∃ a, (Term.string RX7 q.1).eval #[Value.ref b] s none [] s = some (.ref a) := by
    have mem : ∀ q ∈ strQ, (Cond.exactly (.string RX7 q.1) "java/lang/String").before #[Value.ref b] s = true := by
      intro q hq
      have : q = (59, "1 to 8 bytes") ∨ q = (70, "the tape is full") ∨ q = (73, "the tape has not so many bytes") ∨ q = (86, "fuel is 0 to 100000") ∨ q = (112, "no such what") ∨ q = (115, "no such letter") ∨ q = (120, "no such kind") := by
        simpa [strQ] using hq
      rcases this with e | e | e | e | e | e | e <;> subst e <;> exact hfl _ (by decide +kernel)
    intro q hq
    obtain ⟨a, c, cell, k, h1, -⟩ := Cond.exactly_spec (mem q hq)
    exact ⟨a, h1⟩
  refine ⟨fun k => match (Term.string RX7 k).eval #[Value.ref b] s none [] s with | some (.ref a) => a | _ => 0, fun q hq => ?_⟩
  obtain ⟨a, ha⟩ := ex q hq
  dsimp only
  rw [ha]
theorem st_arr {s : State} {cA : ClassId} {k : Class} {comp : ClassId} {t : FieldType} (h1 : s.vm.classes[cA]? = some k) (h2 : k.kind = .array comp t) : ArrOfT s cA t := fun n z => ⟨fun k h => (by cases h), k, h1, comp, h2⟩
set_option maxHeartbeats 8000000 in
set_option maxRecDepth 100000 in
theorem law_start {p : Program} {e : Env} {s : State} {m : MethodId} {below : List Frame} {meth : Method} {c : Code} (l : Launch) (hlS : l.stackTraces = false) {b L : Nat} {xs : Nat → Int32} (hL : L ≤ 2048) (C0 : lw_At p s m meth c b L xs) : W p l e room_1 s m #[Value.ref b] below meth c s.heap [] 0 0 (lw_Z below #[Value.ref b] s) (entryFrame m ([Value.ref b] : List Value).toArray 7) := by
  obtain ⟨hx, hb, hr, hml, hown, hts, hX, hbl, hlocks, hgv⟩ := id C0
  have hx : p.tables.exec = Jvm.exec := hx
  have hb : c.code = cL_law := hb
  have hown : s.vm.findClass RL = some m.cls := hown
  have htl : ∀ w ∈ wsL_law, w.before #[Value.ref b] s = true := fun w hw => hts w (wsL_law_in w hw)
  have hfl := flat_of_before _ hgv
  obtain ⟨c0, iS0, hKn0⟩ := u_known (C := RX0) (T := TX0) (N := 4) (n := 4) hts wsL_in_45 (hts _ st_ib0)
  obtain ⟨c1, iS1, hKn1⟩ := u_known (C := RX1) (T := TX1) (N := 8) (n := 8) hts wsL_in_48 (hts _ st_ib1)
  obtain ⟨c2, iS2, hKn2⟩ := u_known (C := RX2) (T := TX2) (N := 10) (n := 10) hts wsL_in_44 (hts _ st_ib2)
  obtain ⟨c3, iS3, hKn3⟩ := u_known (C := RX3) (T := TX3) (N := 4) (n := 4) hts wsL_in_46 (hts _ st_ib3)
  obtain ⟨c4, iS4, hKn4⟩ := u_known (C := RX4) (T := TX4) (N := 15) (n := 15) hts wsL_in_43 (hts _ st_ib4)
  obtain ⟨c5, iS5, hKn5⟩ := u_known (C := RX5) (T := TX5) (N := 6) (n := 6) hts wsL_in_49 (hts _ st_ib5)
  obtain ⟨c6, iS6, hKn6⟩ := u_known (C := RX6) (T := TX6) (N := 16) (n := 16) hts wsL_in_47 (hts _ st_ib6)
  obtain ⟨c7, iS7, hKn7⟩ := u_known (C := RX7) (T := TX7) (N := 9) (n := 9) hts wsL_in_41 (hts _ st_ib7)
  obtain ⟨c8, iS8, hKn8⟩ := u_known (C := RX8) (T := TX8) (N := 58) (n := 58) hts wsL_in_42 (hts _ st_ib8)
  obtain ⟨D, hKc⟩ : ∃ D : va_G, ∀ (k : Nat) (q : vw_C), vwCl[k]? = some q → u_Kn s q.1 q.2.1 q.2.2 (D.1 k) (D.2 k) := by
    refine ⟨(fun k => [c0, c1, c2, c3, c4, c5, c6, c7, c8].getD k c0, fun k => [iS0, iS1, iS2, iS3, iS4, iS5, iS6, iS7, iS8].getD k iS0), ?_⟩
    intro k q hq
    match k, hq with
    | 0, hq => cases hq; exact hKn0
    | 1, hq => cases hq; exact hKn1
    | 2, hq => cases hq; exact hKn2
    | 3, hq => cases hq; exact hKn3
    | 4, hq => cases hq; exact hKn4
    | 5, hq => cases hq; exact hKn5
    | 6, hq => cases hq; exact hKn6
    | 7, hq => cases hq; exact hKn7
    | 8, hq => cases hq; exact hKn8
    | k + 9, hq => simp [vwCl] at hq
  obtain ⟨y0, k0, p0, f0, g0, h0⟩ := Cond.arrayClass_spec (hts _ st_aI)
  obtain ⟨y1, k1, p1, f1, g1, h1⟩ := Cond.arrayClass_spec (hts _ st_aZ)
  obtain ⟨y2, k2, p2, f2, g2, h2⟩ := Cond.arrayClass_spec (hts _ st_aC)
  obtain ⟨y3, k3, p3, f3, g3, h3⟩ := Cond.arrayClass_spec (hts _ st_aB)
  obtain ⟨pII, y4, k4, -, -, g4, h4, f4⟩ := arrayOver_specB (hts _ st_aII)
  obtain ⟨cL, kL, pL, fL, gL, hkL⟩ := Cond.arrayClass_spec (hts _ st_aJ)
  obtain ⟨cy, ecy⟩ : ∃ cy : Nat → ClassId, cy = fun k => [y0, y1, y2, y3, y4].getD k y0 := ⟨_, rfl⟩
  have hK : va_K D vwCl (kC cy) s := by
    rw [ecy]
    refine ⟨hKc, fun k q hq => ?_⟩
    match k, hq with
    | 0, hq => cases hq; exact ⟨st_arr g0 h0, f0⟩
    | 1, hq => cases hq; exact ⟨st_arr g1 h1, f1⟩
    | 2, hq => cases hq; exact ⟨st_arr g2 h2, f2⟩
    | 3, hq => cases hq; exact ⟨st_arr g3 h3, f3⟩
    | 4, hq => cases hq; exact ⟨st_arr g4 h4, f4⟩
    | k + 5, hq => simp [kC] at hq
  have hKL : va_K D vwCl [(cL, .long)] s := ⟨hKc, fun k q hq => by
    match k, hq with
    | 0, hq => cases hq; exact ⟨st_arr gL hkL, fL⟩
    | k + 1, hq => simp at hq⟩
  have hN7 : NW s := fun q hq => va_Nw.of rfl (hts _ (st_nest q hq))
  have hAO : va_AOA .int s := (show (Cond.arrayOver (.array .int)).before #[] s = true from hts _ st_aII)
  have hNc : va_Nc (xn 2) (xn 1) s := va_Nc.of (hfl (Cond.not (.castable (xn 2) (xn 1))) (by decide +kernel))
  obtain ⟨sa, hsa⟩ := st_sa hgv
  have hA0 : ∀ z : Nat, z < s.heap.size → ¬ AS s z := fun z h => Nat.not_le.mpr h
  have hXP : XP sa (AS s) s s.heap := ⟨fun q hq => vk_R.of (hts _ (st_str q hq)) (hsa q hq), vx_Zqof (hts _ st_ls1) (hts _ st_in0) (hfl (Cond.isRef (.static Bundle.tN "UNASSIGNED_STACK" Bundle.steD)) (by decide +kernel)) hA0, vx_Zqof (hts _ st_ls2) (hts _ st_in0) (hfl (Cond.isRef (.static Bundle.tN "SUPPRESSED_SENTINEL" Bundle.listD)) (by decide +kernel)) hA0, fun k hk w hw => va_Nw.of (xBad_ot hw) (hts _ (st_bad k hk w hw))⟩
  have K : LC p s m c b D cy cL sa := ⟨hx, hb, hml, hown, htl, hK, hN7, hKL, hNc, hXP⟩
  obtain ⟨N, hN⟩ : ∃ N, Big N := ⟨2000000, by unfold Big; omega⟩
  obtain ⟨S, M, eS, eM, hsim⟩ := S_init hN
  have gcS := hsim.2.2.2.2.2.1
  have hA : ∀ z : Nat, s.heap.size ≤ z → AS s z := fun _ h => h
  have hbA : ¬ AS s b := Nat.not_le.mpr hbl
  have hS : va_S (AS s) s.heap s.heap [] := va_S.rf
  have hP : va_P D vwCl [] s.heap := fun k q h => by simp at h
  have hD : va_D (AS s) [] := ⟨fun i j p q h => by simp at h, fun k q h => by simp at h⟩
  have hl := lv_entry ([.ref b]) (n := 7) (Nat.le_of_ble_eq_true rfl)
  rw [lg_entry_eq]
  generalize (lg_sl ([.ref b]) ++ List.replicate (7 - (lg_sl ([.ref b])).length) Slot.unset).toArray = ls at hl ⊢
  have hl : lv_has ls 7 [(0, .ref b)] := hl
  -- the class
  refine va_new (ci := 7) (fs := [.null, .int 0, .int 0, .int 0, .null, .null, .null, .null, .null]) (C := RX7) (T := TX7) (N := 9) hx hb hts wsL_in_41 tyX7 tyX7_ok hown (hts _ st_cl7) (hts _ st_ib7) (hts _ st_in7) hK hP hD hS hA rfl (fun j hj => by rcases (show j = 0 ∨ j = 1 ∨ j = 2 ∨ j = 3 ∨ j = 4 ∨ j = 5 ∨ j = 6 ∨ j = 7 ∨ j = 8 by omega) with rfl | rfl | rfl | rfl | rfl | rfl | rfl | rfl | rfl <;> rfl) (Nat.le_of_ble_eq_true rfl) (Nat.le_of_ble_eq_true rfl) dL_law_0 (fun q7 H hP hD hS => ?_)
  have hP : va_P D vwCl [(q7, .inr (7, [.null, .int 0, .int 0, .int 0, .null, .null, .null, .null, .null]))] H := hP
  have hD : va_D (AS s) [(q7, .inr (7, [.null, .int 0, .int 0, .int 0, .null, .null, .null, .null, .null]))] := hD
  refine W.widen (k := 1) (n := 9) (Nat.le_of_ble_eq_true rfl) (Nat.le_of_ble_eq_true rfl) ?_
  refine lv_dup hx hb dL_law_3 rfl ?_
  have hFc := w_as hD hS
  refine va_callv (va_runI (As := []) (rest := [.ref q7]) ⟨hx, hb, hml, hown, htl⟩ (cX7_init_met l D cy q7 H.size N S eS) (cwI 0 htl gL_law_X7_init rfl rfl rfl (hts _ st_in7) (hts _ st_ml7) (hts _ st_im7) rfl (by decide +kernel) ⟨Nat.le_of_ble_eq_true rfl, Nat.le_of_ble_eq_true rfl⟩) ⟨preA_blind, fun U hU hW => ⟨rfl, ⟨by rw [hU], by rw [hU]; exact hP, va_K.moved hW.alike hK, hD.weaken (fun _ _ _ _ => trivial), NW.warm hW hN7⟩, va_AOA.moved hW.alike hAO⟩⟩ rfl rfl hl.1 rfl (lv_room (Nat.le_of_ble_eq_true rfl)) dL_law_4 ⟨Nat.le_of_ble_eq_true rfl, Nat.le_of_ble_eq_true rfl⟩) hS (fun z _ h => hFc z h) hFc (fun u t H1 locs1 ht hvm hw hB hz1 hk1 hS => ?_)
  obtain ⟨a, r⟩ := u
  have hw : a 159 = q7 := hw
  obtain ⟨hP1, -, hD1, -⟩ := hB
  rw [ht] at hP1
  have hPC : va_P D vwCl (wC cy a r S) H1 := hP1
  have hDC : va_D (AS s) (wC cy a r S) := hD1.weaken (fun k z _ h => hFc z.1 h)
  rw [← hw]
  refine W.widen (k := 100) (n := 110000) (Nat.le_of_ble_eq_true rfl) (Nat.le_of_ble_eq_true rfl) ?_
  refine lv_astore_n (lv' := [(1, .ref (a 159)), (0, .ref b)]) hx hb dL_law_7 rfl hl (by decide) rfl (fun ls hl => ?_)
  -- the reference
  have hP0 : va_P D vwCl [] H1 := fun k q h => by simp at h
  refine va_new (ci := 8) (fs := [.int 0, .null, .int 0, .null, .null, .null, .int 0, .int 0, .int 0, .int 0, .int 0, .null, .null, .int 0, .int 0, .null, .null, .null, .null, .null, .null, .int 0, .int 0, .int 0, .int 0, .int 0, .int 0, .null, .int 0, .null, .null, .null, .int 0, .int 0, .null, .null, .null, .null, .null, .null, .int 0, .null, .null, .int 0, .null, .null, .int 0, .int 0, .int 0, .int 0, .int 0, .int 0, .null, .null, .int 0, .null, .null, .int 0]) (C := RX8) (T := TX8) (N := 58) hx hb hts wsL_in_42 tyX8 tyX8_ok hown (hts _ st_cl8) (hts _ st_ib8) (hts _ st_in8) hK hPC hDC hS hA rfl (fun j hj => by rcases (show j = 0 ∨ j = 1 ∨ j = 2 ∨ j = 3 ∨ j = 4 ∨ j = 5 ∨ j = 6 ∨ j = 7 ∨ j = 8 ∨ j = 9 ∨ j = 10 ∨ j = 11 ∨ j = 12 ∨ j = 13 ∨ j = 14 ∨ j = 15 ∨ j = 16 ∨ j = 17 ∨ j = 18 ∨ j = 19 ∨ j = 20 ∨ j = 21 ∨ j = 22 ∨ j = 23 ∨ j = 24 ∨ j = 25 ∨ j = 26 ∨ j = 27 ∨ j = 28 ∨ j = 29 ∨ j = 30 ∨ j = 31 ∨ j = 32 ∨ j = 33 ∨ j = 34 ∨ j = 35 ∨ j = 36 ∨ j = 37 ∨ j = 38 ∨ j = 39 ∨ j = 40 ∨ j = 41 ∨ j = 42 ∨ j = 43 ∨ j = 44 ∨ j = 45 ∨ j = 46 ∨ j = 47 ∨ j = 48 ∨ j = 49 ∨ j = 50 ∨ j = 51 ∨ j = 52 ∨ j = 53 ∨ j = 54 ∨ j = 55 ∨ j = 56 ∨ j = 57 by omega) with rfl | rfl | rfl | rfl | rfl | rfl | rfl | rfl | rfl | rfl | rfl | rfl | rfl | rfl | rfl | rfl | rfl | rfl | rfl | rfl | rfl | rfl | rfl | rfl | rfl | rfl | rfl | rfl | rfl | rfl | rfl | rfl | rfl | rfl | rfl | rfl | rfl | rfl | rfl | rfl | rfl | rfl | rfl | rfl | rfl | rfl | rfl | rfl | rfl | rfl | rfl | rfl | rfl | rfl | rfl | rfl | rfl | rfl <;> rfl) (Nat.le_of_ble_eq_true rfl) (Nat.le_of_ble_eq_true rfl) dL_law_8 (fun q8 H2 hP hD hS => ?_)
  obtain ⟨hPC, hP8⟩ := w_spP hP
  obtain ⟨hDC, hD8, hj8⟩ := w_spD hD
  refine W.widen (k := 101) (n := 110058) (Nat.le_of_ble_eq_true rfl) (Nat.le_of_ble_eq_true rfl) ?_
  refine lv_dup hx hb dL_law_11 rfl ?_
  have hF8 := w_as hD8 hS
  refine va_callv (va_runI (As := []) (rest := [.ref q8]) ⟨hx, hb, hml, hown, htl⟩ (cX8_init_met l D cy q8 H2.size N M eM) (cwI 0 htl gL_law_X8_init rfl rfl rfl (hts _ st_in8) (hts _ st_ml8) (hts _ st_im8) rfl (by decide +kernel) ⟨Nat.le_of_ble_eq_true rfl, Nat.le_of_ble_eq_true rfl⟩) ⟨pre_blind, fun U hU hW => ⟨rfl, by rw [hU], by rw [hU]; exact hP8, va_K.moved hW.alike hK, hD8.weaken (fun _ _ _ _ => trivial), NW.warm hW hN7⟩⟩ rfl rfl hl.1 rfl (lv_room (Nat.le_of_ble_eq_true rfl)) dL_law_12 ⟨Nat.le_of_ble_eq_true rfl, Nat.le_of_ble_eq_true rfl⟩) hS (fun z _ h => hF8 z h) hF8 (fun am t H3 locs3 ht hvm hw8 hB hz1 hk1 hS => ?_)
  have hw8 : am 99 = q8 := hw8
  obtain ⟨hP1, -, hD1, -⟩ := hB
  rw [ht] at hP1
  have hPM : va_P D vwCl (wM cy am am M) H3 := hP1
  obtain ⟨hPC, hjM⟩ := w_two hPC hj8.sym hk1 hD1
  have hDM : va_D (AS s) (wM cy am am M) := hD1.weaken (fun k z _ h => hF8 z.1 h)
  have hjM : Dj (wM cy am am M) (wC cy a r S) := hjM
  rw [← hw8]
  refine W.widen (k := 200) (n := 900000) (Nat.le_of_ble_eq_true rfl) (Nat.le_of_ble_eq_true rfl) ?_
  refine lv_astore_n (lv' := [(2, .ref (am 99)), (1, .ref (a 159)), (0, .ref b)]) hx hb dL_law_15 rfl hl (by decide) rfl (fun ls hl => ?_)
  -- the cell of an answer
  refine lv_iconst (v := 1) hx hb dL_law_16 (by decide) ?_
  refine va_newa (atype := .long) (ty := .long) (n := 1) (N' := 1) (a0 := (1, .inr (.inl (fun _ => 0)))) hx hb (hts _ st_aJ) rfl hK (va_P.app hPC hPM) (va_D.app hDC hDM hjM.sym) hS hA (fun cA => by rw [vp_cell_l]; rfl) (by decide) (by decide) (by decide) (Nat.le_of_ble_eq_true rfl) (Nat.le_of_ble_eq_true rfl) dL_law_17 (fun q cA H4 hK2 hP hD hS => ?_)
  have ec : cA = cL := by
    have z : s.vm.findClass ("[" ++ (FieldType.long).toString) = some cA := (hK2.2 5 (cA, .long) rfl).2
    exact Option.some.inj (z.symm.trans fL)
  subst ec
  obtain ⟨hPX, hPo⟩ := w_spP hP
  obtain ⟨hDX, hDo, hjo⟩ := w_spD hD
  obtain ⟨hPC, hPM⟩ := w_spP hPX
  obtain ⟨hDC, hDM, hjM⟩ := w_spD hDX
  have hjoC : Dj (oW cA q (fun _ => 0)) (wC cy a r S) := fun i j x y h1 h2 => fun e => hjo j i y x (by rw [List.getElem?_append_left (List.getElem?_eq_some_iff.mp h2).1]; exact h2) h1 e.symm
  have hjoM : Dj (oW cA q (fun _ => 0)) (wM cy am am M) := fun i j x y h1 h2 => fun e => hjo ((wC cy a r S).length + j) i y x (by rw [List.getElem?_append_right (Nat.le_add_right _ _), Nat.add_sub_cancel_left]; exact h2) h1 e.symm
  have hw : LW D cy cA a r q (fun _ => 0) S am M s H4 locs3 := ⟨va_P.app hPo hPC, va_D.app hDo hDC hjoC, hPM, hDM, fun i j x y h1 h2 => by
    by_cases c : i < 1
    · rw [List.getElem?_append_left (show i < (oW cA q (fun _ => 0)).length from c)] at h1
      exact hjoM i j x y h1 h2
    · rw [List.getElem?_append_right (show (oW cA q (fun _ => 0)).length ≤ i from Nat.not_lt.mp c)] at h1
      exact hjM _ j x y h1 h2, hS⟩
  refine W.widen (k := 300) (n := 950000) (Nat.le_of_ble_eq_true rfl) (Nat.le_of_ble_eq_true rfl) ?_
  refine lv_astore_n (lv' := [(3, .ref q), (2, .ref (am 99)), (1, .ref (a 159)), (0, .ref b)]) hx hb dL_law_19 rfl hl (by decide) rfl (fun ls hl => ?_)
  refine lv_iconst (v := 0) hx hb dL_law_20 (by decide) ?_
  refine lv_istore (lv' := [(4, .int 0), (3, .ref q), (2, .ref (am 99)), (1, .ref (a 159)), (0, .ref b)]) hx hb dL_law_21 hl (by decide) rfl (fun ls hl => ?_)
  refine law_loop (N := N) K hlS hN hX hbl hL (c00 := 1000) (s00 := 1000000) (Nat.le_refl _) (Nat.le_refl _) (fun H locs ls cells slots hS hc hs => ?_) (L + 4) 0 r _ S M H4 locs3 ls 300 950000 (by omega) (by omega) hw hsim (lv_sub hl [4, 3, 2, 1, 0] rfl) (by omega) (by omega)
  refine lv_iconst (v := 1) hx hb dL_law_459 (by decide) ?_
  refine va_forget (fun q hq => hS.2.2 q hq) ?_
  refine W.widen (k := 601024) (n := 7293034) hc hs ?_
  exact lw_ret hx hb hr hlocks dL_law_460
