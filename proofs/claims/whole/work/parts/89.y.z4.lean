/-! an application: all names -/
theorem AP_one {S M : St} {N n c bn : Nat} {r : List Itm} {x t t1 t2 ap : Nat} {sc : Sc} {f1 f2 g h : Nat → Option Pt} {s i : Nat} {lab : Nat → Nat → Nat} {E : Nat → Nat → Nat → Prop} {tag : Nat → Nat → Nat × Nat} {xh be : Nat → Nat} {U : Nat → Prop} (hA : AF bn r x t t1 t2 sc xh) (hm : (s, i) ∈ sc) (hL : AL S M n c bn r x t t1 t2 ap sc f1 f2 g h i lab E tag xh be U) (hn : n + 1 < 3000) (hc : c + 2 ≤ 12000) :
    ∃ S' M' n' g' h' lab' E' tag', (∀ kk, fX0_buildApplication_87s N kk S (nI x) (nI (r.length + 1)) (nI r.length) (nI s) = kk (S', nI x, nI (r.length + 1), nI r.length, nI (s + 1))) ∧ (∀ kk, fX8_ofApplied_55s N kk M (nI t) (nI x) (nI ap) (nI i) = kk (M', nI t, nI x, nI ap, nI (i + 1))) ∧ AL S' M' n' c bn r x t t1 t2 ap sc f1 f2 g' h' (i + 1) lab' E' tag' xh be U ∧ FrB S S' ∧ Fr M M' [21, 22, 28] [17, 18, 19, 27, 29] ∧ n' + cfn g' sc + cfn h' sc ≤ n + cfn g sc + cfn h sc + 1 := by
  obtain ⟨y1, y2, y3⟩ := hA.1.2 _ hm
  cases e : f2 i with
  | none => exact ⟨S, _, n, g, h, lab, E, tag, fun kk => C_skip hA hL y1 (by rw [scI_in hA.1.1 hm]; exact e) kk, fun kk => M_skip hA hL y2 e kk, AL_skip hA hL y2 e, FrB.rf, Fr.A (by decide), by omega⟩
  | some y => exact AP_step hA hm hL hn hc e
def Lc (N : Nat) : (St × Int32 × Int32 × Int32 × Int32 → Option St) → St × Int32 × Int32 × Int32 × Int32 → Option St := fun k x => fX0_buildApplication_87s N k x.1 x.2.1 x.2.2.1 x.2.2.2.1 x.2.2.2.2
def Lm (N : Nat) : (St × Int32 × Int32 × Int32 × Int32 → Option (Int32 × St)) → St × Int32 × Int32 × Int32 × Int32 → Option (Int32 × St) := fun k x => fX8_ofApplied_55s N k x.1 x.2.1 x.2.2.1 x.2.2.2.1 x.2.2.2.2
theorem C_skips {S M : St} {N n c bn : Nat} {r : List Itm} {x t t1 t2 ap : Nat} {sc : Sc} {f1 f2 g h : Nat → Option Pt} {i : Nat} {lab : Nat → Nat → Nat} {E : Nat → Nat → Nat → Prop} {tag : Nat → Nat → Nat × Nat} {xh be : Nat → Nat} {U : Nat → Prop} (hA : AF bn r x t t1 t2 sc xh) (hL : AL S M n c bn r x t t1 t2 ap sc f1 f2 g h i lab E tag xh be U) (f : Nat) : ∀ (d s0 : Nat), s0 + d ≤ 40 → (∀ s', s0 ≤ s' → s' < s0 + d → (scI sc s').bind f2 = none) → loopN (Lc N) (f + d) (S, nI x, nI (r.length + 1), nI r.length, nI s0) = loopN (Lc N) f (S, nI x, nI (r.length + 1), nI r.length, nI (s0 + d))
  | 0, s0, _, _ => rfl
  | d + 1, s0, h1, h2 => by
    show fX0_buildApplication_87s N (loopN (Lc N) (f + d)) S (nI x) (nI (r.length + 1)) (nI r.length) (nI s0) = _
    rw [C_skip hA hL (by omega) (h2 s0 (Nat.le_refl _) (by omega)), C_skips hA hL f d (s0 + 1) (by omega) (fun s' q1 q2 => h2 s' (by omega) (by omega)), show s0 + 1 + d = s0 + (d + 1) by omega]
theorem M_skips {S : St} {N n c bn : Nat} {r : List Itm} {x t t1 t2 ap : Nat} {sc : Sc} {f1 f2 g h : Nat → Option Pt} {lab : Nat → Nat → Nat} {E : Nat → Nat → Nat → Prop} {tag : Nat → Nat → Nat × Nat} {xh be : Nat → Nat} {U : Nat → Prop} (hA : AF bn r x t t1 t2 sc xh) (f : Nat) : ∀ (d i0 : Nat) (M : St), AL S M n c bn r x t t1 t2 ap sc f1 f2 g h i0 lab E tag xh be U → i0 + d ≤ bn → (∀ i', i0 ≤ i' → i' < i0 + d → f2 i' = none) → ∃ M', loopN (Lm N) (f + d) (M, nI t, nI x, nI ap, nI i0) = loopN (Lm N) f (M', nI t, nI x, nI ap, nI (i0 + d)) ∧ AL S M' n c bn r x t t1 t2 ap sc f1 f2 g h (i0 + d) lab E tag xh be U ∧ Fr M M' [21, 22, 28] [17, 18, 19, 27, 29]
  | 0, i0, M, hL, _, _ => ⟨M, rfl, hL, Fr.rf⟩
  | d + 1, i0, M, hL, h1, h2 => by
    have z := h2 i0 (Nat.le_refl _) (by omega)
    obtain ⟨M', a1, a2, a3⟩ := M_skips hA f d (i0 + 1) _ (AL_skip hA hL (by omega) z) (by omega) (fun i' q1 q2 => h2 i' (by omega) (by omega))
    rw [show i0 + 1 + d = i0 + (d + 1) by omega] at a1 a2
    refine ⟨M', ?_, a2, Fr.trans (Fr.A (by decide)) a3⟩
    show fX8_ofApplied_55s N (loopN (Lm N) (f + d)) M (nI t) (nI x) (nI ap) (nI i0) = _
    rw [M_skip hA hL (by omega) z, a1]
theorem AP_loop {N c bn : Nat} {r : List Itm} {x t t1 t2 ap : Nat} {sc : Sc} {f1 f2 : Nat → Option Pt} {xh be : Nat → Nat} {U : Nat → Prop} (hA : AF bn r x t t1 t2 sc xh) (hc : c + 2 ≤ 12000) (hap : ap < 3010) : ∀ (l : Sc) (S M : St) (n : Nat) (g h : Nat → Option Pt) (lab : Nat → Nat → Nat) (E : Nat → Nat → Nat → Prop) (tag : Nat → Nat → Nat × Nat) (s0 i0 fc fm : Nat), AL S M n c bn r x t t1 t2 ap sc f1 f2 g h i0 lab E tag xh be U → (∀ e ∈ l, e ∈ sc ∧ s0 ≤ e.1 ∧ i0 ≤ e.2) → ScO l → (∀ e ∈ sc, e ∈ l ∨ (e.1 < s0 ∧ e.2 < i0)) → s0 ≤ 40 → i0 ≤ bn → 40 - s0 < fc → bn - i0 < fm → n + cfn g sc + cfn h sc + l.length + 2 ≤ 3000 →
    ∃ S' M' n' g' h' lab' E' tag', loopN (Lc N) fc (S, nI x, nI (r.length + 1), nI r.length, nI s0) = some (sI S' 3 (nI (r.length + 1))) ∧ loopN (Lm N) fm (M, nI t, nI x, nI ap, nI i0) = some (nI (3 * ap + 1), M') ∧ AL S' M' n' c bn r x t t1 t2 ap sc f1 f2 g' h' bn lab' E' tag' xh be U ∧ FrB S S' ∧ Fr M M' [21, 22, 28] [17, 18, 19, 27, 29] ∧ n' + cfn g' sc + cfn h' sc ≤ n + cfn g sc + cfn h sc + l.length
  | [], S, M, n, g, h, lab, E, tag, s0, i0, fc, fm, hL, h1, h2, h3, h4, h5, h6, h7, h8 => by
    obtain ⟨M', a1, a2, a3⟩ := M_skips (N := N) hA (fm - (bn - i0)) (bn - i0) i0 M hL (by omega) (fun i' q1 q2 => by
      cases e : f2 i' with
      | none => rfl
      | some y =>
        exfalso
        obtain ⟨-, -, -, -, -, -, -, s, hs⟩ := hL.2.2.1 i' y (by rw [(hL.2.2.2.2.2.1.1 i' q1).2]; exact e)
        rcases h3 _ hs with q | ⟨q, q'⟩
        · exact List.not_mem_nil q
        · have q' : i' < i0 := q'
          omega)
    have b1 := C_skips (N := N) hA a2 (fc - (40 - s0)) (40 - s0) s0 (by omega) (fun s' q1 q2 => by
      cases e : scI sc s' with
      | none => rfl
      | some i =>
        exfalso
        rcases h3 _ (scI_some e) with q | ⟨q, q'⟩
        · exact List.not_mem_nil q
        · have q : s' < s0 := q
          omega)
    rw [show fc - (40 - s0) + (40 - s0) = fc by omega, show s0 + (40 - s0) = 40 by omega] at b1
    rw [show fm - (bn - i0) + (bn - i0) = fm by omega, show i0 + (bn - i0) = bn by omega] at a1
    rw [show i0 + (bn - i0) = bn by omega] at a2
    refine ⟨S, M', n, g, h, lab, E, tag, ?_, ?_, a2, FrB.rf, a3, Nat.le_add_right _ _⟩
    · rw [b1]
      obtain ⟨f', ef⟩ : ∃ f', fc - (40 - s0) = f' + 1 := ⟨fc - (40 - s0) - 1, by omega⟩
      rw [ef]
      show fX0_buildApplication_87s N (loopN (Lc N) f') S (nI x) (nI (r.length + 1)) (nI r.length) (nI 40) = _
      unfold fX0_buildApplication_87s
      rw [show (40 : Int32) = nI 40 from rfl, if_pos (nI_le (by omega) (by omega)), bnd_eq]
    · rw [a1]
      obtain ⟨f', ef⟩ : ∃ f', fm - (bn - i0) = f' + 1 := ⟨fm - (bn - i0) - 1, by omega⟩
      rw [ef]
      show fX8_ofApplied_55s N (loopN (Lm N) f') M' (nI t) (nI x) (nI ap) (nI bn) = _
      have hb := hA.2.2.2.2.2.2.2.2.1
      unfold fX8_ofApplied_55s
      rw [a2.2.2.2.2.1.2.2.1, if_pos (nI_le (by omega) (by omega)), show (3 : Int32) = nI 3 from rfl, pk_mul, show nI (3 * ap) + (1 : Int32) = nI (3 * ap + 1) from nI_1 _]
  | e :: l, S, M, n, g, h, lab, E, tag, s0, i0, fc, fm, hL, h1, h2, h3, h4, h5, h6, h7, h8 => by
    obtain ⟨o1, o2⟩ := List.pairwise_cons.mp h2
    obtain ⟨m1, m2, m3⟩ := h1 e (List.mem_cons_self ..)
    obtain ⟨w1, w2, w3⟩ := hA.1.2 _ m1
    have ll : (e :: l).length = l.length + 1 := rfl
    rw [ll] at h8
    obtain ⟨M1, a1, a2, a3⟩ := M_skips (N := N) hA (fm - (e.2 - i0)) (e.2 - i0) i0 M hL (by omega) (fun i' q1 q2 => by
      cases e' : f2 i' with
      | none => rfl
      | some y =>
        exfalso
        obtain ⟨-, -, -, -, -, -, -, s, hs⟩ := hL.2.2.1 i' y (by rw [(hL.2.2.2.2.2.1.1 i' q1).2]; exact e')
        rcases h3 _ hs with q | ⟨q, q'⟩
        · rcases List.mem_cons.mp q with z | z
          · have : i' = e.2 := congrArg Prod.snd z
            omega
          · have := (o1 _ z).2
            have this : e.2 < i' := this
            omega
        · have q' : i' < i0 := q'
          omega)
    have b1 := C_skips (N := N) hA a2 (fc - (e.1 - s0)) (e.1 - s0) s0 (by omega) (fun s' q1 q2 => by
      cases e' : scI sc s' with
      | none => rfl
      | some i =>
        exfalso
        rcases h3 _ (scI_some e') with q | ⟨q, q'⟩
        · rcases List.mem_cons.mp q with z | z
          · have : s' = e.1 := congrArg Prod.fst z
            omega
          · have := (o1 _ z).1
            have this : e.1 < s' := this
            omega
        · have q : s' < s0 := q
          omega)
    rw [show fc - (e.1 - s0) + (e.1 - s0) = fc by omega, show s0 + (e.1 - s0) = e.1 by omega] at b1
    rw [show fm - (e.2 - i0) + (e.2 - i0) = fm by omega, show i0 + (e.2 - i0) = e.2 by omega] at a1
    rw [show i0 + (e.2 - i0) = e.2 by omega] at a2
    obtain ⟨S2, M2, n2, g2, k2, lab2, E2, tag2, c1, c2, c3, c4, c5, c6⟩ := AP_one (N := N) (s := e.1) (i := e.2) hA m1 a2 (by omega) hc
    obtain ⟨fc', ec⟩ : ∃ f', fc - (e.1 - s0) = f' + 1 := ⟨fc - (e.1 - s0) - 1, by omega⟩
    obtain ⟨fm', em⟩ : ∃ f', fm - (e.2 - i0) = f' + 1 := ⟨fm - (e.2 - i0) - 1, by omega⟩
    obtain ⟨S3, M3, n3, g3, k3, lab3, E3, tag3, d1, d2, d3, d4, d5, d6⟩ := AP_loop (N := N) hA hc hap l S2 M2 n2 g2 k2 lab2 E2 tag2 (e.1 + 1) (e.2 + 1) fc' fm' c3 (fun a ha => by
      have y1 := (h1 a (List.mem_cons_of_mem _ ha)).1
      have y2 := o1 a ha
      exact ⟨y1, by omega, by omega⟩) o2 (fun a ha => by
      rcases h3 a ha with q | q
      · rcases List.mem_cons.mp q with z | z
        · right; rw [z]; exact ⟨by omega, by omega⟩
        · exact Or.inl z
      · right; exact ⟨by omega, by omega⟩) (by omega) (by omega) (by omega) (by omega) (by omega)
    refine ⟨S3, M3, n3, g3, k3, lab3, E3, tag3, ?_, ?_, d3, c4.trans d4, (a3.trans c5).trans d5, by rw [ll]; omega⟩
    · rw [b1, ec]
      show fX0_buildApplication_87s N (loopN (Lc N) fc') S (nI x) (nI (r.length + 1)) (nI r.length) (nI e.1) = _
      rw [c1, d1]
    · rw [a1, em]
      show fX8_ofApplied_55s N (loopN (Lm N) fm') M1 (nI t) (nI x) (nI ap) (nI e.2) = _
      rw [c2, d2]
