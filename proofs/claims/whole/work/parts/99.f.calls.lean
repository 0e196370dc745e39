/-! the law: its calls -/
def AS (s : State) : Nat → Prop := fun z => s.heap.size ≤ z
def Dj (X Y : va_W) : Prop := ∀ (i j : Nat) (p q : Nat × va_E), X[i]? = some p → Y[j]? = some q → p.1 ≠ q.1
def LC (p : Program) (s : State) (m : MethodId) (c : Code) (b : Nat) (D : va_G) (cy : Nat → ClassId) (cL : ClassId) (sa : Nat → Nat) : Prop := p.tables.exec = Jvm.exec ∧ c.code = cL_law ∧ c.maxLocals = 7 ∧ s.vm.findClass RL = some m.cls ∧ (∀ w ∈ wsL_law, w.before #[Value.ref b] s = true) ∧ va_K D vwCl (kC cy) s ∧ NW s ∧ va_K D vwCl [(cL, .long)] s ∧ va_Nc (xn 2) (xn 1) s ∧ XP sa (AS s) s s.heap
def LW (D : va_G) (cy : Nat → ClassId) (cL : ClassId) (a r : Nat → Nat) (q : Nat) (f : Nat → Int64) (S : St) (am : Nat → Nat) (M : St) (s : State) (H : Heap) (locs : List Loc) : Prop := va_P D vwCl (oW cL q f ++ wC cy a r S) H ∧ va_D (AS s) (oW cL q f ++ wC cy a r S) ∧ va_P D vwCl (wM cy am am M) H ∧ va_D (AS s) (wM cy am am M) ∧ Dj (oW cL q f ++ wC cy a r S) (wM cy am am M) ∧ va_S (AS s) s.heap H locs
theorem w_two {D : va_G} {cl : List vw_C} {X X1 Y : va_W} {H H1 : Heap} (hY : va_P D cl Y H) (hd : Dj X Y) (hk : ∀ q : Nat, q < H.size → ¬ va_A X H.size q → H1[q]? = H[q]?) (hD1 : va_D (va_A X H.size) X1) : va_P D cl Y H1 ∧ Dj X1 Y := by
  refine ⟨fun k q h => ?_, fun i j p q h1 h2 e => ?_⟩
  · have l := (hY k q h).lt
    refine (hY k q h).kept (hk q.1 l (fun z => ?_))
    rcases z with ⟨k2, e, z⟩ | z
    · exact hd k2 k (q.1, e) q z h rfl
    · omega
  · have l := (hY j q h2).lt
    rcases hD1.2 i p h1 with ⟨k2, e2, z⟩ | z
    · exact hd k2 j (p.1, e2) q z h2 e
    · omega
theorem w_as {s : State} {X : va_W} {H : Heap} {locs : List Loc} (hD : va_D (AS s) X) (hS : va_S (AS s) s.heap H locs) : ∀ q, va_A X H.size q → AS s q := fun q h => by
  rcases h with ⟨k, e, h⟩ | h
  · exact hD.2 k (q, e) h
  · exact Nat.le_trans hS.1 h
theorem Dj.sym {X Y : va_W} (h : Dj X Y) : Dj Y X := fun i j p q h1 h2 e => h j i q p h2 h1 e.symm
section LCALL
variable {p : Program} {l : Launch} {e : Env} {s : State} {m : MethodId} {below : List Frame} {meth : Method} {c : Code} {b : Nat} {D : va_G} {cy : Nat → ClassId} {cL : ClassId} {sa a r am : Nat → Nat} {q : Nat} {f : Nat → Int64} {S M : St} {H : Heap} {locs : List Loc} {cells slots : Nat} {Q : State → Prop}
variable {y : MethodName} {bytes : ByteArray} {maxL n index pc : Nat} {ret : Option FieldType} {ws : List Cond} {rm : Room} {As rest : List Value} {ls : Array Slot} {hh : List (Nat × Nat × Nat × Nat)} {mc ms : Nat}
theorem lw_M {M' : St} {v : Int32} (K : LC p s m c b D cy cL sa) (h : LW D cy cL a r q f S am M s H locs) (hM : Met l y ws rm (va_Pc (.ref (am 99) :: As) (preW D cy (wM cy am am M) H.size)) (QI D cy (wM cy am am) (va_A (wM cy am am M) H.size) (v, M')) 0 0 (va_A (wM cy am am M) H.size)) (cw : CallW room_1 s #[Value.ref b] RL RX8 index y bytes maxL ret ws rm 0 0 n) (hn : As.length = n) (hls : ls.size = 7) (hro : (rest.map fun v => v.category).sum ≤ 8) (hd : decode cL_law pc = .ok (.invokevirtual index, 3)) (hc : cells ≤ 601024) (hs : slots ≤ 7293034)
    (kk : ∀ (H1 : Heap) (locs1 : List Loc), LW D cy cL a r q f S am M' s H1 locs1 → W p l e room_1 s m #[Value.ref b] below meth c H1 locs1 cells slots Q (F0 m (pc + 3) ls (.int v :: rest))) : W p l e room_1 s m #[Value.ref b] below meth c H locs cells slots Q (F0 m pc ls (As.reverse ++ .ref (am 99) :: rest)) := by
  obtain ⟨k1, k2, k3, k4, k5, k6, k7, k8, k9, k10⟩ := K
  obtain ⟨hP, hD, hP2, hD2, hj, hS⟩ := h
  have hF := w_as hD2 hS
  refine va_calli (va_runV (As := As) (rest := rest) ⟨k1, k2, k3, k4, k5⟩ hM cw ⟨pre_blind, va_recv k6 hP2 (ci := 8) (q0 := 0) rfl rfl, fun U hU hW => ⟨rfl, by rw [hU], by rw [hU]; exact hP2, va_K.moved hW.alike k6, hD2.weaken (fun _ _ _ _ => trivial), NW.warm hW k7⟩⟩ rfl hn hls rfl (lv_room hro) hd ⟨hc, hs⟩) hS (fun z _ h => hF z h) hF (fun v' u t H1 locs1 ht hvm hu hB hz1 hk1 hS1 => ?_)
  cases hu
  obtain ⟨hP1, hK1, hD1, hN1⟩ := hB
  rw [ht] at hP1
  obtain ⟨w1, w2⟩ := w_two hP hj.sym hk1 hD1
  exact kk H1 locs1 ⟨w1, hD, hP1, hD1.weaken (fun k z _ h => hF z.1 h), w2.sym, hS1⟩
theorem lw_MV {M' : St} (K : LC p s m c b D cy cL sa) (h : LW D cy cL a r q f S am M s H locs) (hM : Met l y ws rm (va_Pc (.ref (am 99) :: As) (preW D cy (wM cy am am M) H.size)) (QV D cy (wM cy am am) (va_A (wM cy am am M) H.size) M') 0 0 (va_A (wM cy am am M) H.size)) (cw : CallW room_1 s #[Value.ref b] RL RX8 index y bytes maxL ret ws rm 0 0 n) (hn : As.length = n) (hls : ls.size = 7) (hro : (rest.map fun v => v.category).sum ≤ 8) (hd : decode cL_law pc = .ok (.invokevirtual index, 3)) (hc : cells ≤ 601024) (hs : slots ≤ 7293034)
    (kk : ∀ (H1 : Heap) (locs1 : List Loc), LW D cy cL a r q f S am M' s H1 locs1 → W p l e room_1 s m #[Value.ref b] below meth c H1 locs1 cells slots Q (F0 m (pc + 3) ls rest)) : W p l e room_1 s m #[Value.ref b] below meth c H locs cells slots Q (F0 m pc ls (As.reverse ++ .ref (am 99) :: rest)) := by
  obtain ⟨k1, k2, k3, k4, k5, k6, k7, k8, k9, k10⟩ := K
  obtain ⟨hP, hD, hP2, hD2, hj, hS⟩ := h
  have hF := w_as hD2 hS
  refine va_callv (va_runV (As := As) (rest := rest) ⟨k1, k2, k3, k4, k5⟩ hM cw ⟨pre_blind, va_recv k6 hP2 (ci := 8) (q0 := 0) rfl rfl, fun U hU hW => ⟨rfl, by rw [hU], by rw [hU]; exact hP2, va_K.moved hW.alike k6, hD2.weaken (fun _ _ _ _ => trivial), NW.warm hW k7⟩⟩ rfl hn hls rfl (lv_room hro) hd ⟨hc, hs⟩) hS (fun z _ h => hF z h) hF (fun u t H1 locs1 ht hvm hu hB hz1 hk1 hS1 => ?_)
  cases hu
  obtain ⟨hP1, hK1, hD1, hN1⟩ := hB
  rw [ht] at hP1
  obtain ⟨w1, w2⟩ := w_two hP hj.sym hk1 hD1
  exact kk H1 locs1 ⟨w1, hD, hP1, hD1.weaken (fun k z _ h => hF z.1 h), w2.sym, hS1⟩
/-- read() of the class -/
theorem lw_R {S' : St} {v : Int32} (K : LC p s m c b D cy cL sa) (h : LW D cy cL a r q f S am M s H locs) (hM : Met l y ws rm (va_Pc (.ref (a 159) :: As) (preW D cy (wC cy a r S) H.size)) (QI D cy (wC cy a r) (va_A (wC cy a r S) H.size) (v, S')) 0 0 (va_A (wC cy a r S) H.size)) (cw : CallW room_1 s #[Value.ref b] RL RX7 index y bytes maxL ret ws rm 0 0 n) (hn : As.length = n) (hls : ls.size = 7) (hro : (rest.map fun v => v.category).sum ≤ 8) (hd : decode cL_law pc = .ok (.invokevirtual index, 3)) (hc : cells ≤ 601024) (hs : slots ≤ 7293034)
    (kk : ∀ (H1 : Heap) (locs1 : List Loc), LW D cy cL a r q f S' am M s H1 locs1 → W p l e room_1 s m #[Value.ref b] below meth c H1 locs1 cells slots Q (F0 m (pc + 3) ls (.int v :: rest))) : W p l e room_1 s m #[Value.ref b] below meth c H locs cells slots Q (F0 m pc ls (As.reverse ++ .ref (a 159) :: rest)) := by
  obtain ⟨k1, k2, k3, k4, k5, k6, k7, k8, k9, k10⟩ := K
  obtain ⟨hP, hD, hP2, hD2, hj, hS⟩ := h
  have hP : va_P D vwCl ((q, .inl (cL, 1, .inr (.inl f))) :: wC cy a r S) H := hP
  have hD : va_D (AS s) ((q, .inl (cL, 1, .inr (.inl f))) :: wC cy a r S) := hD
  have hPc := w_tail hP
  have hDc := w_tailD hD
  have hF := w_as hDc hS
  refine va_calli (va_runV (As := As) (rest := rest) ⟨k1, k2, k3, k4, k5⟩ hM cw ⟨pre_blind, va_recv k6 hPc (ci := 7) (q0 := 7) rfl rfl, fun U hU hW => ⟨rfl, by rw [hU], by rw [hU]; exact hPc, va_K.moved hW.alike k6, hDc.weaken (fun _ _ _ _ => trivial), NW.warm hW k7⟩⟩ rfl hn hls rfl (lv_room hro) hd ⟨hc, hs⟩) hS (fun z _ h => hF z h) hF (fun v' u t H1 locs1 ht hvm hu hB hz1 hk1 hS1 => ?_)
  cases hu
  obtain ⟨hP1, hK1, hD1, hN1⟩ := hB
  rw [ht] at hP1
  obtain ⟨j1, j2⟩ := w_join hP hD hk1 hF hP1 hD1
  have hD' := hD.self (sz := H.size)
  have sub : ∀ z, va_A (wC cy a r S) H.size z → va_A ((q, .inl (cL, 1, .inr (.inl f))) :: wC cy a r S) H.size z := fun z hz => by
    rcases hz with ⟨k, e2, hz⟩ | hz
    · exact Or.inl ⟨k + 1, e2, hz⟩
    · exact Or.inr hz
  obtain ⟨j3, j4⟩ := w_join hP hD' hk1 sub hP1 hD1
  obtain ⟨w1, w2⟩ := w_two hP2 hj (fun z h1 h2 => hk1 z h1 (fun h3 => h2 (sub z h3))) j4
  exact kk H1 locs1 ⟨j1, j2, w1, hD2, w2, hS1⟩
/-- a helper with the cell of its answer -/
theorem lw_H {Rr : (Int32 × St) ⊕ (Nat × St)} {km : Nat → Nat} (K : LC p s m c b D cy cL sa) (h : LW D cy cL a r q f S am M s H locs) (hM : vx_Met l y ws rm (va_Pc As (preH D cy cL (oW cL q f ++ wC cy a r S) H.size sa)) (QH D cy cL a q f (va_A (oW cL q f ++ wC cy a r S) H.size) km Rr) X0 mc ms (va_A (oW cL q f ++ wC cy a r S) H.size)) (cw : vx_CSW room_1 s #[Value.ref b] RL index y bytes maxL ret hh ws rm mc ms n) (hn : As.length = n) (hls : ls.size = 7) (hro : (rest.map fun v => v.category).sum ≤ 8) (hd : decode cL_law pc = .ok (.invokestatic index, 3)) (hc : cells + mc ≤ 601024) (hs : slots + ms ≤ 7293034)
    (kk : ∀ (r' : Nat → Nat) (H1 : Heap) (locs1 : List Loc), LW D cy cL a r' q (hF f Rr) (stQ Rr) am M s H1 locs1 → W p l e room_1 s m #[Value.ref b] below meth c H1 locs1 (cells + mc) (slots + ms) Q (F0 m (pc + 3) ls (.int (hK Rr km) :: rest))) : W p l e room_1 s m #[Value.ref b] below meth c H locs cells slots Q (F0 m pc ls (As.reverse ++ rest)) := by
  obtain ⟨k1, k2, k3, k4, k5, k6, k7, k8, k9, k10⟩ := K
  obtain ⟨hP, hD, hP2, hD2, hj, hS⟩ := h
  have hFr := w_as hD hS
  refine vx_calli (vx_runSX (As := As) (rest := rest) ⟨k1, k2, k3, k4, k5⟩ hM cw ⟨preH_blind, fun U hU hW => ⟨rfl, ⟨⟨by rw [hU], by rw [hU]; exact hP, va_K.moved hW.alike k6, hD.weaken (fun _ _ _ _ => trivial), NW.warm hW k7⟩, k10.go hW hFr (fun z h1 h2 => by rw [hU]; exact hS.2.1 z h1 h2)⟩, va_K.moved hW.alike k8, va_Nc.moved hW.alike k9⟩⟩ rfl hn hls rfl (lv_room hro) hd ⟨hc, hs⟩) hS (fun z _ h => hFr z h) hFr (fun z _ (h : False) => h.elim) (fun E ce q9 u t H1 locs1 ht hvm (hu : False) hBX hz1 hk1 hS1 hcell hcv hcl => hu.elim) (fun v' u t H1 locs1 ht hvm hu hB hz1 hk1 hS1 => ?_)
  obtain ⟨e1, e2⟩ := hu
  subst e1 e2
  obtain ⟨r', hP1, hD1⟩ := hB
  rw [ht] at hP1
  obtain ⟨w1, w2⟩ := w_two hP2 hj hk1 hD1
  exact kk r' H1 locs1 ⟨hP1, hD1.weaken (fun k z _ h => hFr z.1 h), w1, hD2, w2, hS1⟩
/-- keep's helper -/
theorem lw_K {Rr : St ⊕ (Nat × St)} (K : LC p s m c b D cy cL sa) (h : LW D cy cL a r q f S am M s H locs) (hM : vx_Met l y ws rm (va_Pc As (preX D cy (wC cy a r S) H.size sa)) (QK D cy a r (va_A (wC cy a r S) H.size) Rr) X0 mc ms (va_A (wC cy a r S) H.size)) (cw : vx_CSW room_1 s #[Value.ref b] RL index y bytes maxL ret hh ws rm mc ms n) (hn : As.length = n) (hls : ls.size = 7) (hro : (rest.map fun v => v.category).sum ≤ 8) (hd : decode cL_law pc = .ok (.invokestatic index, 3)) (hc : cells + mc ≤ 601024) (hs : slots + ms ≤ 7293034)
    (kk : ∀ (H1 : Heap) (locs1 : List Loc), LW D cy cL a r q f (kS Rr) am M s H1 locs1 → W p l e room_1 s m #[Value.ref b] below meth c H1 locs1 (cells + mc) (slots + ms) Q (F0 m (pc + 3) ls (.int (kK Rr) :: rest))) : W p l e room_1 s m #[Value.ref b] below meth c H locs cells slots Q (F0 m pc ls (As.reverse ++ rest)) := by
  obtain ⟨k1, k2, k3, k4, k5, k6, k7, k8, k9, k10⟩ := K
  obtain ⟨hP, hD, hP2, hD2, hj, hS⟩ := h
  have hP : va_P D vwCl ((q, .inl (cL, 1, .inr (.inl f))) :: wC cy a r S) H := hP
  have hD : va_D (AS s) ((q, .inl (cL, 1, .inr (.inl f))) :: wC cy a r S) := hD
  have hPc := w_tail hP
  have hDc := w_tailD hD
  have hFr := w_as hDc hS
  refine vx_calli (vx_runSX (As := As) (rest := rest) ⟨k1, k2, k3, k4, k5⟩ hM cw ⟨preX_blind, fun U hU hW => ⟨rfl, ⟨by rw [hU], by rw [hU]; exact hPc, va_K.moved hW.alike k6, hDc.weaken (fun _ _ _ _ => trivial), NW.warm hW k7⟩, k10.go hW hFr (fun z h1 h2 => by rw [hU]; exact hS.2.1 z h1 h2)⟩⟩ rfl hn hls rfl (lv_room hro) hd ⟨hc, hs⟩) hS (fun z _ h => hFr z h) hFr (fun z _ (h : False) => h.elim) (fun E ce q9 u t H1 locs1 ht hvm (hu : False) hBX hz1 hk1 hS1 hcell hcv hcl => hu.elim) (fun v' u t H1 locs1 ht hvm hu hB hz1 hk1 hS1 => ?_)
  obtain ⟨e1, e2⟩ := hu
  subst e1 e2
  obtain ⟨hP1, hK1, hD1⟩ := hB
  rw [ht] at hP1
  obtain ⟨j1, j2⟩ := w_join hP hD hk1 hFr hP1 hD1
  have hD' := hD.self (sz := H.size)
  have sub : ∀ z, va_A (wC cy a r S) H.size z → va_A ((q, .inl (cL, 1, .inr (.inl f))) :: wC cy a r S) H.size z := fun z hz => by
    rcases hz with ⟨k, e2, hz⟩ | hz
    · exact Or.inl ⟨k + 1, e2, hz⟩
    · exact Or.inr hz
  obtain ⟨j3, j4⟩ := w_join hP hD' hk1 sub hP1 hD1
  obtain ⟨w1, w2⟩ := w_two hP2 hj (fun z h1 h2 => hk1 z h1 (fun h3 => h2 (sub z h3))) j4
  exact kk H1 locs1 ⟨j1, j2, w1, hD2, w2, hS1⟩
end LCALL
