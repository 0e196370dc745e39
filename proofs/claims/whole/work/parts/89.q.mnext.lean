/-! a meeting: what comes over it -/
theorem Mt_next {n : Nat} {G G1 G' : Gr} {l r : Nat} {lab : Nat → Nat → Nat} (hG : GVr n G) (hW : WG G) (hl : l < n) (hr : r < n) (kl : G.1 l < 5) (kr : G.1 r < 5) (ne : l ≠ r) (hcu : G.2.2.1 l 0 = r ∧ G.2.2.2 l 0 = 0 ∧ G.2.2.1 r 0 = l ∧ G.2.2.2 r 0 = 0) (hM : MtR n G l r G1) (hG1 : GVr n G1) (hE : ESp n G1 G') (hG' : GVr n G') (hL : LbG n G lab) :
    WG G1 ∧ WG G' ∧ Agr2 n l r G G1 ∧ ∃ lab', LbG n G' lab' ∧ ∀ v k, lv n G v → v ≠ l → v ≠ r → stay n G1 v → lab' v k = lab v k := by
  have fin : WG G1 → Agr2 n l r G G1 → (∃ lab1, LbG n G1 lab1 ∧ ∀ v k, G.1 v ≠ 7 → lab1 v k = lab v k) → WG G1 ∧ WG G' ∧ Agr2 n l r G G1 ∧ ∃ lab', LbG n G' lab' ∧ ∀ v k, lv n G v → v ≠ l → v ≠ r → stay n G1 v → lab' v k = lab v k := by
    rintro w1 a1 ⟨lab1, b1, b2⟩
    obtain ⟨lab', c1, c2⟩ := LB_erase hG1 hG' hE b1
    refine ⟨w1, WG_erase hG1 w1 hE, a1, lab', c1, fun v k hv _ _ hs => ?_⟩
    have k5 : G'.1 v ≠ 5 := by
      rw [(hE.1 v hs).1]
      rcases hs.2.1 with q | q <;> omega
    rw [c2 v k k5, b2 v k (lv_7 hv)]
  rcases hM with ⟨m, hX⟩ | ⟨m, o, lk, hX, h5⟩
  · obtain ⟨mx, mk⟩ := mOf_lt m
    have hop : Hop G l r ∧ Hop G r l := by
      rcases mk with (⟨a, b⟩ | ⟨a, b⟩) | ⟨a, b⟩
      · exact ⟨Hop_lam hG hW ⟨hcu.1, hcu.2.1⟩ b a mx.symm, Hop_app hG hW ⟨hcu.2.2.1, hcu.2.2.2⟩ b a⟩
      · exact ⟨Hop_app hG hW ⟨hcu.1, hcu.2.1⟩ a b, Hop_lam hG hW ⟨hcu.2.2.1, hcu.2.2.2⟩ a b mx⟩
      · exact ⟨Hop_ann hG hW ⟨hcu.1, hcu.2.1⟩ a b.symm mx.symm, Hop_ann hG hW ⟨hcu.2.2.1, hcu.2.2.2⟩ (by rw [← b]; exact a) b mx⟩
    have hJ : JH n G l r := ⟨hG, hl, hr, ne, hcu, mOf_nP m, lv_p (n := n) ⟨hl, Or.inl kl⟩⟩
    exact fin (WG_join hG hcu (by omega) (by omega) hop.1 hop.2 hX.1 hW) hX.1.agr ⟨lab, LB_join hJ hX m hL, fun _ _ _ => rfl⟩
  · obtain ⟨x1, x2⟩ := mOf_2 m
    have hij := lohi_x x1
    have lh := lohi (G := G) (l := l) (r := r) (fun c u => (G.2.2.1 c 0 = u ∧ G.2.2.2 c 0 = 0 ∧ G.2.2.1 u 0 = c ∧ G.2.2.2 u 0 = 0) ∧ G.1 u < 5 ∧ lv n G c ∧ lv n G u ∧ c ≠ u ∧ (Agr2 n c u G G1 → Agr2 n l r G G1)) ⟨hcu, kr, ⟨hl, Or.inl kl⟩, ⟨hr, Or.inl kr⟩, ne, id⟩ ⟨⟨hcu.2.2.1, hcu.2.2.2, hcu.1, hcu.2.1⟩, kl, ⟨hr, Or.inl kr⟩, ⟨hl, Or.inl kl⟩, fun q => ne q.symm, fun h v hv h1 h2 h0 => by
      obtain ⟨a, b, c⟩ := h v hv h2 h1 h0
      exact ⟨a, b, fun k hk e1 e2 => c k hk e2 e1⟩⟩
    obtain ⟨c1, c2, c3, c4, c5, c6⟩ := lh
    obtain ⟨lab1, b1, b2⟩ := LB_pass hG c1 x2 c3 c4 c2 c5 hij hX h5 hL
    exact fin (WG_pass hG hW c1 x2 (by omega) hij hX.1) (c6 hX.1.agr) ⟨lab1, b1, b2⟩
theorem wk_stay {n : Nat} {G : Gr} (hG : GVr n G) (hW : WG G) : ∀ (t : Nat) (c : Cf), wkTo G t aStart c → CQ (stay n G) c
  | 0, c, h => by
    have h : aStart = c := h
    rw [← h]
    refine ⟨⟨hG.2.2, Or.inr hG.2.1, fun q => ?_⟩, (fun _ h => (List.not_mem_nil h).elim), (fun _ h => (List.not_mem_nil h).elim)⟩
    have : G.1 0 < 5 := q.2.1
    have := hG.2.1
    omega
  | t + 1, c, ⟨c1, h1, h2, h3⟩ => CQ_step (G := G) (wk_stay hG hW t c1 h1) (fun _ => (Vis.nern hG hW (RW_to hW t c1 h1).1).2.2) h2
theorem LLt_congr {lab lab' : Nat → Nat → Nat} {tr : List Te} : ∀ (lat : List Lt) (ms : List Nat), (∀ it ∈ lat, it.1 ≠ 1 → it.1 ≠ 2 → lab' it.2.1 2 = lab it.2.1 2) → LLt lab tr lat ms → LLt lab' tr lat ms
  | [], _, _, _ => trivial
  | it :: r, ms, h, ⟨h1, h2⟩ => ⟨fun c1 c2 => by rw [h it (List.mem_cons_self ..) c1 c2]; exact h1 c1 c2, LLt_congr r ms.tail (fun x hx => h x (List.mem_cons_of_mem _ hx)) h2⟩
theorem HW.map {G G' : Gr} : ∀ (H : List XS) (t : Nat) (c c' : Cf), (∀ t c c', wkTo G t aStart c → gStep G c = (6, c') → wkTo G' t aStart c) → gStep G c = (6, c') → HW G t c H → HW G' t c H
  | [], t, c, c', f, h6, h => f t c c' h h6
  | y :: H, t, c, c', f, h6, ⟨h1, t1, e, h2⟩ => by
    refine ⟨f t c c' h1 h6, t1, e, ?_⟩
    subst e
    obtain ⟨c1, d1, d2, d3⟩ := h1
    have ec := wkTo_det _ _ _ d1 h2.hd
    subst ec
    exact HW.map H t1 _ c f d2 h2
/-- each state that can be gone back to has gone on -/
theorem HW.on {G : Gr} : ∀ (H : List XS) (t : Nat) (c : Cf), HW G t c H → ∀ y ∈ H, ∃ t1 c', wkTo G t1 aStart y.1 ∧ gStep G y.1 = (6, c')
  | [], _, _, _, _, hy => (List.not_mem_nil hy).elim
  | z :: H, t, c, ⟨h1, t1, e, h2⟩, y, hy => by
    subst e
    obtain ⟨c1, d1, d2, d3⟩ := h1
    have ec := wkTo_det _ _ _ d1 h2.hd
    rcases List.mem_cons.mp hy with q | q
    · rw [q, ← ec]; exact ⟨t1, c, d1, d2⟩
    · exact HW.on H t1 _ h2 y q
