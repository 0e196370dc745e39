/-! a meeting: what comes over it -/
theorem Mt_next {n : Nat} {G G1 G' : Gr} {l r : Nat} {lab : Nat → Nat → Nat} (hG : GVr n G) (hW : WG G) (hl : l < n) (hr : r < n) (kl : G.1 l < 5) (kr : G.1 r < 5) (ne : l ≠ r) (hcu : G.2.2.1 l 0 = r ∧ G.2.2.2 l 0 = 0 ∧ G.2.2.1 r 0 = l ∧ G.2.2.2 r 0 = 0) (hM : MtR n G l r G1) (hG1 : GVr n G1) (hE : ESp n G1 G') (hG' : GVr n G') (hL : LbG n G lab) :
    WG G1 ∧ WG G' ∧ Agr2 n l r G G1 ∧ ∃ lab', LbG n G' lab' ∧ ∀ v k, lv n G v → v ≠ l → v ≠ r → stay n G1 v → lab' v k = lab v k := by
  have fin : WG G1 → Agr2 n l r G G1 → (∃ lab1, LbG n G1 lab1 ∧ ∀ v k, G.1 v ≠ 7 → lab1 v k = lab v k) → WG G1 ∧ WG G' ∧ Agr2 n l r G G1 ∧ ∃ lab', LbG n G' lab' ∧ ∀ v k, lv n G v → v ≠ l → v ≠ r → stay n G1 v → lab' v k = lab v k := by
    rintro w1 a1 ⟨lab1, b1, b2⟩
    obtain ⟨lab', c1, c2⟩ := LB_erase hG1 hG' hE b1
    refine ⟨w1, WG_erase hG1 w1 hE, a1, lab', c1, fun v k hv _ _ hs => ?_⟩
    have k5 : G'.1 v ≠ 5 := by
      rw [(hE.1 v hs).1]
      rcases hs.2.1 with q | q <;> omega
    rw [c2 v k k5, b2 v k (lv_7 hv)]
  rcases hM with ⟨m, hX⟩ | ⟨m, o, lk, hX, h5⟩
  · obtain ⟨mx, mk⟩ := mOf_lt m
    have hop : Hop G l r ∧ Hop G r l := by
      rcases mk with (⟨a, b⟩ | ⟨a, b⟩) | ⟨a, b⟩
      · exact ⟨Hop_lam hG hW ⟨hcu.1, hcu.2.1⟩ b a mx.symm, Hop_app hG hW ⟨hcu.2.2.1, hcu.2.2.2⟩ b a⟩
      · exact ⟨Hop_app hG hW ⟨hcu.1, hcu.2.1⟩ a b, Hop_lam hG hW ⟨hcu.2.2.1, hcu.2.2.2⟩ a b mx⟩
      · exact ⟨Hop_ann hG hW ⟨hcu.1, hcu.2.1⟩ a b.symm mx.symm, Hop_ann hG hW ⟨hcu.2.2.1, hcu.2.2.2⟩ (by rw [← b]; exact a) b mx⟩
    have hJ : JH n G l r := ⟨hG, hl, hr, ne, hcu, mOf_nP m, lv_p (n := n) ⟨hl, Or.inl kl⟩⟩
    exact fin (WG_join hG hcu (by omega) (by omega) hop.1 hop.2 hX.1 hW) hX.1.agr ⟨lab, LB_join hJ hX m hL, fun _ _ _ => rfl⟩
  · obtain ⟨x1, x2⟩ := mOf_2 m
    have hij := lohi_x x1
    have lh := lohi (G := G) (l := l) (r := r) (fun c u => (G.2.2.1 c 0 = u ∧ G.2.2.2 c 0 = 0 ∧ G.2.2.1 u 0 = c ∧ G.2.2.2 u 0 = 0) ∧ G.1 u < 5 ∧ lv n G c ∧ lv n G u ∧ c ≠ u ∧ (Agr2 n c u G G1 → Agr2 n l r G G1)) ⟨hcu, kr, ⟨hl, Or.inl kl⟩, ⟨hr, Or.inl kr⟩, ne, id⟩ ⟨⟨hcu.2.2.1, hcu.2.2.2, hcu.1, hcu.2.1⟩, kl, ⟨hr, Or.inl kr⟩, ⟨hl, Or.inl kl⟩, fun q => ne q.symm, fun h v hv h1 h2 h0 => by
      obtain ⟨a, b, c⟩ := h v hv h2 h1 h0
      exact ⟨a, b, fun k hk e1 e2 => c k hk e2 e1⟩⟩
    obtain ⟨c1, c2, c3, c4, c5, c6⟩ := lh
    obtain ⟨lab1, b1, b2⟩ := LB_pass hG c1 x2 c3 c4 c2 c5 hij hX h5 hL
    exact fin (WG_pass hG hW c1 x2 (by omega) hij hX.1) (c6 hX.1.agr) ⟨lab1, b1, b2⟩
theorem wk_stay {n : Nat} {G : Gr} (hG : GVr n G) (hW : WG G) : ∀ (t : Nat) (c : Cf), wkTo G t aStart c → CQ (stay n G) c
  | 0, c, h => by
    have h : aStart = c := h
    rw [← h]
    refine ⟨⟨hG.2.2, Or.inr hG.2.1, fun q => ?_⟩, (fun _ h => (List.not_mem_nil h).elim), (fun _ h => (List.not_mem_nil h).elim)⟩
    have : G.1 0 < 5 := q.2.1
    have := hG.2.1
    omega
  | t + 1, c, ⟨c1, h1, h2, h3⟩ => CQ_step (G := G) (wk_stay hG hW t c1 h1) (fun _ => (Vis.nern hG hW (RW_to hW t c1 h1).1).2.2) h2
theorem LLt_congr {lab lab' : Nat → Nat → Nat} {tr : List Te} : ∀ (lat : List Lt) (ms : List Nat), (∀ it ∈ lat, it.1 ≠ 1 → it.1 ≠ 2 → lab' it.2.1 2 = lab it.2.1 2) → LLt lab tr lat ms → LLt lab' tr lat ms
  | [], _, _, _ => trivial
  | it :: r, ms, h, ⟨h1, h2⟩ => ⟨fun c1 c2 => by rw [h it (List.mem_cons_self ..) c1 c2]; exact h1 c1 c2, LLt_congr r ms.tail (fun x hx => h x (List.mem_cons_of_mem _ hx)) h2⟩
theorem HW.map {G G' : Gr} : ∀ (H : List XS) (t : Nat) (c c' : Cf), (∀ t c c', wkTo G t aStart c → gStep G c = (6, c') → wkTo G' t aStart c) → gStep G c = (6, c') → HW G t c H → HW G' t c H
  | [], t, c, c', f, h6, h => f t c c' h h6
  | y :: H, t, c, c', f, h6, ⟨h1, t1, e, h2⟩ => by
    refine ⟨f t c c' h1 h6, t1, e, ?_⟩
    subst e
    obtain ⟨c1, d1, d2, d3⟩ := h1
    have ec := wkTo_det _ _ _ d1 h2.hd
    subst ec
    exact HW.map H t1 _ c f d2 h2
/-- each state that can be gone back to has gone on -/
theorem HW.on {G : Gr} : ∀ (H : List XS) (t : Nat) (c : Cf), HW G t c H → ∀ y ∈ H, ∃ t1 c', wkTo G t1 aStart y.1 ∧ gStep G y.1 = (6, c')
  | [], _, _, _, _, hy => (List.not_mem_nil hy).elim
  | z :: H, t, c, ⟨h1, t1, e, h2⟩, y, hy => by
    subst e
    obtain ⟨c1, d1, d2, d3⟩ := h1
    have ec := wkTo_det _ _ _ d1 h2.hd
    rcases List.mem_cons.mp hy with q | q
    · rw [q, ← ec]; exact ⟨t1, c, d1, d2⟩
    · exact HW.on H t1 _ h2 y q
theorem mOf_iso {n n' : Nat} {φ ψ : Nat → Nat} {G G' : Gr} {l r : Nat} (hI : Iso n n' φ ψ G G') (hl : l < n) (hr : r < n) (kl : G.1 l < 5) (kr : G.1 r < 5) : mOf G' (φ l) (φ r) = mOf G l r ∧ loN G' (φ l) (φ r) = φ (loN G l r) ∧ hiN G' (φ l) (φ r) = φ (hiN G l r) := by
  obtain ⟨-, -, a1, a2, -⟩ := hI.1 l ⟨hl, Or.inl kl⟩
  obtain ⟨-, -, b1, b2, -⟩ := hI.1 r ⟨hr, Or.inl kr⟩
  have a2 := a2 kl
  have b2 := b2 kr
  have e1 : loN G' (φ l) (φ r) = φ (loN G l r) := by
    unfold loN
    rw [a2, b2]
    by_cases c : G.2.1 l < G.2.1 r
    · rw [if_pos c, if_pos c]
    · rw [if_neg c, if_neg c]
  have e2 : hiN G' (φ l) (φ r) = φ (hiN G l r) := by
    unfold hiN
    rw [a2, b2]
    by_cases c : G.2.1 l < G.2.1 r
    · rw [if_pos c, if_pos c]
    · rw [if_neg c, if_neg c]
  refine ⟨?_, e1, e2⟩
  have e3 : G'.1 (loN G' (φ l) (φ r)) = G.1 (loN G l r) := by
    rw [e1]
    exact lohi (G := G) (l := l) (r := r) (fun c _ => G'.1 (φ c) = G.1 c) a1 b1
  by_cases c : G.2.1 l = G.2.1 r
  · have c' : G'.2.1 (φ l) = G'.2.1 (φ r) := by rw [a2, b2]; exact c
    by_cases d : (G.1 l = 0 ∧ G.1 r = 1) ∨ (G.1 l = 1 ∧ G.1 r = 0)
    · rw [mOf_b c d, mOf_b c' (by rw [a1, b1]; exact d)]
    · by_cases e : isC (G.1 l) ∧ G.1 l = G.1 r
      · rw [mOf_a c e, mOf_a c' (by rw [a1, b1]; exact e)]
      · rw [mOf_w c d e, mOf_w c' (by rw [a1, b1]; exact d) (by rw [a1, b1]; exact e)]
  · have c' : G'.2.1 (φ l) ≠ G'.2.1 (φ r) := by rw [a2, b2]; exact c
    by_cases d : isC (G.1 (loN G l r))
    · rw [mOf_p c d, mOf_p c' (by rw [e3]; exact d)]
    · rw [mOf_n c d, mOf_n c' (by rw [e3]; exact d)]
theorem Mt_iso {n n' : Nat} {φ ψ : Nat → Nat} {G G1 G2 G' G1' G2' : Gr} {l r : Nat} (hG : GVr n G) (hG' : GVr n' G') (hI : Iso n n' φ ψ G G') (hl : l < n) (hr : r < n) (kl : G.1 l < 5) (kr : G.1 r < 5) (hcu : G.2.2.1 l 0 = r ∧ G.2.2.2 l 0 = 0 ∧ G.2.2.1 r 0 = l ∧ G.2.2.2 r 0 = 0) (hM : MtR n G l r G1) (hM' : MtR n' G' (φ l) (φ r) G1') (v1 : GVr n G1) (v1' : GVr n' G1') (hE : ESp n G1 G2) (hE' : ESp n' G1' G2') (v2 : GVr n G2) (v2' : GVr n' G2') : ∃ φ1 ψ1, Iso n n' φ1 ψ1 G2 G2' := by
  obtain ⟨e1, e2, e3⟩ := mOf_iso hI hl hr kl kr
  have h : ∃ φ1 ψ1, Iso n n' φ1 ψ1 G1 G1' := by
    rcases hM with ⟨m, hX⟩ | ⟨m, o, lk, hX, h5⟩
    · rcases hM' with ⟨m', hX'⟩ | ⟨m', o', lk', hX', h5'⟩
      · exact ⟨φ, ψ, Iso_join hG hG' hI ⟨hl, Or.inl kl⟩ ⟨hr, Or.inl kr⟩ (mOf_nP m) hX hX' v1.1 v1'.1⟩
      · rw [e1] at m'; omega
    · rcases hM' with ⟨m', hX'⟩ | ⟨m', o', lk', hX', h5'⟩
      · rw [e1] at m'; omega
      · rw [e2, e3] at hX'
        obtain ⟨x1, x2⟩ := mOf_2 m
        have lh := lohi (G := G) (l := l) (r := r) (fun c u => (G.2.2.1 c 0 = u ∧ G.2.2.2 c 0 = 0 ∧ G.2.2.1 u 0 = c ∧ G.2.2.2 u 0 = 0) ∧ G.1 u < 5 ∧ lv n G c ∧ lv n G u) ⟨hcu, kr, ⟨hl, Or.inl kl⟩, ⟨hr, Or.inl kr⟩⟩ ⟨⟨hcu.2.2.1, hcu.2.2.2, hcu.1, hcu.2.1⟩, kl, ⟨hr, Or.inl kr⟩, ⟨hl, Or.inl kl⟩⟩
        exact Iso_pass hG hG' hI lh.1 x2 lh.2.2.1 lh.2.2.2 lh.2.1 hX hX'
  obtain ⟨φ1, ψ1, h⟩ := h
  exact ⟨φ1, ψ1, Iso_erase v1 v1' h hE hE' v2.1 v2'.1⟩
/-- the two programs' graphs, and their counts -/
def LK (S M : St) (φ ψ : Nat → Nat) : Prop := CGd S ∧ MGd M ∧ WG (Gc S) ∧ Iso 3002 3010 φ ψ (Gc S) (Gm M) ∧ S.1 61 = M.1 23 ∧ S.1 62 = M.1 24 ∧ S.1 63 = M.1 25 ∧ ∃ a, S.1 49 = nI a ∧ M.1 26 = nI a
theorem CGd.w {S S' : St} {is as : List Nat} (h : CGd S) (hf : FrW S S' is as) (h1 : 44 ∉ is ∧ 48 ∉ is) (h2 : 40 ∉ as ∧ 41 ∉ as ∧ 42 ∉ as ∧ 43 ∉ as ∧ 45 ∉ as ∧ 46 ∉ as ∧ 47 ∉ as) : CGd S' ∧ Gc S' = Gc S := by
  obtain ⟨g1, g2, g3, g4, g5, g6⟩ := h
  obtain ⟨a1, a2, a3, a4, a5, a6, a7⟩ := h2
  obtain ⟨b, c⟩ := g1.w hf h1.1 ⟨a1, a2, a3, a4, a5⟩
  have k : cK S' = cK S := congrArg Prod.fst c
  refine ⟨⟨b, by rw [c]; exact g2, by rw [c]; exact g3, by rw [c]; exact g4, ?_, by rw [k]; exact g6⟩, c⟩
  unfold RcR Rc
  rw [hf.1 48 h1.2, hf.2.1 46 a6, hf.2.1 47 a7]
  exact g5
theorem LK.w {S S' M : St} {φ ψ : Nat → Nat} (h : LK S M φ ψ) (hf : FrW S S' (126 :: WI) (125 :: WA)) : LK S' M φ ψ := by
  obtain ⟨h1, h2, h3, h4, h5, h6, h7, a, h8, h9⟩ := h
  obtain ⟨b, c⟩ := h1.w hf (by decide) (by decide)
  exact ⟨b, h2, by rw [c]; exact h3, by rw [c]; exact h4, by rw [hf.1 61 (by decide)]; exact h5, by rw [hf.1 62 (by decide)]; exact h6, by rw [hf.1 63 (by decide)]; exact h7, a, by rw [hf.1 49 (by decide)]; exact h8, h9⟩
theorem LK.m {S M M' : St} {φ ψ : Nat → Nat} (h : LK S M φ ψ) (hf : Fr M M' FI2 FA) : LK S M' φ ψ := by
  obtain ⟨h1, h2, h3, h4, h5, h6, h7, a, h8, h9⟩ := h
  obtain ⟨b, c⟩ := h2.of hf (by decide) (by decide)
  exact ⟨h1, b, h3, by rw [c]; exact h4, by rw [hf.1 23 (by decide)]; exact h5, by rw [hf.1 24 (by decide)]; exact h6, by rw [hf.1 25 (by decide)]; exact h7, a, h8, by rw [hf.1 26 (by decide)]; exact h9⟩
theorem LK.cnt {S M : St} {φ ψ : Nat → Nat} (h : LK S M φ ψ) {j : Nat} (hj : j < 7) : cnt 3002 (cK S) j = cnt 3010 (gK M) j := Iso_cnt h.1.2.1 h.2.1.2.1 h.1.2.2.2.1 h.2.1.2.2.2.1 h.2.2.2.1 hj
theorem LK.tg {S M : St} {φ ψ : Nat → Nat} (h : LK S M φ ψ) {c u : Nat} (hc : c < 3002) (hu : u < 3002) (kc : cK S c < 5) (ku : cK S u < 5) : (tgt M (φ c) (φ u) ↔ tgtc S c u) ∧ mor M (φ c) (φ u) = morc S c u := by
  obtain ⟨-, -, a1, a2, -⟩ := h.2.2.2.1.1 c ⟨hc, Or.inl kc⟩
  obtain ⟨-, -, b1, b2, -⟩ := h.2.2.2.1.1 u ⟨hu, Or.inl ku⟩
  have a1 : gK M (φ c) = cK S c := a1
  have b1 : gK M (φ u) = cK S u := b1
  have b2 : gX M (φ u) = cX S u := b2 ku
  have em : mor M (φ c) (φ u) = morc S c u := by unfold mor morc; rw [a1, b1]
  refine ⟨?_, em⟩
  have ec : cntA 3010 (gK M) = cntA 3002 (cK S) := by
    unfold cntA
    rw [h.cnt (j := 0) (by decide), h.cnt (j := 1) (by decide), h.cnt (j := 2) (by decide), h.cnt (j := 3) (by decide), h.cnt (j := 4) (by decide), h.cnt (j := 5) (by decide), h.cnt (j := 6) (by decide)]
  unfold tgt tgtc
  rw [em, ec, a1, b2]
theorem LK.cl {S M : St} {φ ψ : Nat → Nat} (h : LK S M φ ψ) : cntL 3010 (gK M) = cntL 3002 (cK S) := by
  unfold cntL
  rw [h.cnt (j := 0) (by decide), h.cnt (j := 1) (by decide), h.cnt (j := 2) (by decide), h.cnt (j := 3) (by decide), h.cnt (j := 4) (by decide)]
