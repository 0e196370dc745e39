/-! both programs read: bytes, blanks, names -/
def sb (b : Nat) : Int32 := (nI b).toInt8.toInt32
theorem sb_lo : ∀ b, b < 128 → sb b = nI b := by decide +kernel
theorem sb_hi : ∀ b, b < 256 → 128 ≤ b → sb b < 0 := by decide +kernel
theorem sb_255 : ∀ b, b < 256 → sb b &&& 255 = nI b := sc_k8
abbrev isB (b : Nat) : Prop := b = 9 ∨ b = 10 ∨ b = 13 ∨ b = 32
abbrev isL (b : Nat) : Prop := 97 ≤ b ∧ b ≤ 122
abbrev isD (b : Nat) : Prop := 48 ≤ b ∧ b ≤ 57
theorem sb_eq {b k : Nat} (hb : b < 256) (hk : k < 128) : sb b = nI k ↔ b = k := by
  by_cases h : b < 128
  · rw [sb_lo b h]; exact nI_eq (by omega) (by omega)
  · refine ⟨fun q => ?_, fun q => by omega⟩
    have z := sb_hi b hb (by omega)
    rw [q] at z
    exact absurd z (nI_pos (by omega))
/-- tape and its length -/
def TP (S M : St) (bs : Nat → Nat) (L : Nat) : Prop := L ≤ 600 ∧ S.1 89 = nI L ∧ S.1 88 ≠ 0 ∧ M.1 2 = nI L ∧ ∀ p, p < L → bs p < 256 ∧ S.2.1 140 p = nI (bs p) ∧ M.2.1 1 p = sb (bs p)
def CI4 : List Nat := [83, 87, 90, 91, 92, 93, 94]
def CA4 : List Nat := [80, 81, 82, 84, 85, 86]
def MI4 : List Nat := [6, 7, 8, 9, 10, 13, 14]
def MA4 : List Nat := [3, 4, 5, 11, 12, 15, 16]
theorem TP.of {S S' M M' : St} {bs : Nat → Nat} {L : Nat} {is as is' as' : List Nat} (h : TP S M bs L) (f : Fr S S' is as) (g : Fr M M' is' as') (h1 : 88 ∉ is ∧ 89 ∉ is) (h2 : 140 ∉ as) (h3 : 2 ∉ is') (h4 : 1 ∉ as') : TP S' M' bs L := by
  obtain ⟨a1, a2, a3, a4, a5⟩ := h
  exact ⟨a1, by rw [f.1 89 h1.2]; exact a2, by rw [f.1 88 h1.1]; exact a3, by rw [g.1 2 h3]; exact a4, fun p hp => by rw [f.2.1 140 h2, g.2.1 1 h4]; exact a5 p hp⟩
theorem C_byte {S M : St} {bs : Nat → Nat} {L N q : Nat} (h : TP S M bs L) (hq : q < 2000) : fX4_byteAt N S (nI q) = some (if q < L then nI (bs q) else -1, S) := by
  obtain ⟨a1, a2, a3, a4, a5⟩ := h
  have a3' : (!(S.1 88 == 0)) = true := by
    cases e : S.1 88 == 0 with
    | false => rfl
    | true => exact absurd (eq_of_beq e) a3
  unfold fX4_byteAt
  rw [if_neg (nI_pos (by omega)), a2]
  by_cases c : q < L
  · rw [if_neg (fun z => absurd ((nI_leI (by omega) (by omega)).mp z) (by omega)), ckp_ok a3', show Int32.ofNat 600 = nI 600 from rfl, if_neg (fun z => absurd ((nI_leI (by omega) (by omega)).mp z) (by omega)), ckp_ok a3', ckx_ok (vp_in_nI (by omega) (by omega)), nI_clamp (by omega), (a5 q c).2.1, if_pos c]
  · rw [if_pos (nI_le (by omega) (by omega)), if_neg c]
theorem C_blank {b : Nat} (hb : b < 256) : fX4_isBlank (nI b) = some (if isB b then 1 else 0) := by
  unfold fX4_isBlank isB
  rw [show (9 : Int32) = nI 9 from rfl, show (10 : Int32) = nI 10 from rfl, show (13 : Int32) = nI 13 from rfl, show (32 : Int32) = nI 32 from rfl]
  have e9 := nI_eq (a := b) (b := 9) (by omega) (by omega)
  have e10 := nI_eq (a := b) (b := 10) (by omega) (by omega)
  have e13 := nI_eq (a := b) (b := 13) (by omega) (by omega)
  have e32 := nI_eq (a := b) (b := 32) (by omega) (by omega)
  by_cases h9 : b = 9
  · rw [if_pos (e9.mpr h9), if_pos (Or.inl h9)]
  · rw [if_neg (fun z => h9 (e9.mp z))]
    by_cases h10 : b = 10
    · rw [if_pos (e10.mpr h10), if_pos (Or.inr (Or.inl h10))]
    · rw [if_neg (fun z => h10 (e10.mp z))]
      by_cases h13 : b = 13
      · rw [if_pos (e13.mpr h13), if_pos (Or.inr (Or.inr (Or.inl h13)))]
      · rw [if_neg (fun z => h13 (e13.mp z))]
        by_cases h32 : b = 32
        · rw [if_pos (e32.mpr h32), if_pos (Or.inr (Or.inr (Or.inr h32)))]
        · rw [if_neg (fun z => h32 (e32.mp z)), if_neg (by omega)]
theorem C_blank_m : fX4_isBlank (-1) = some 0 := by decide
theorem C_letter {b : Nat} (hb : b < 256) : fX4_isLetter (nI b) = some (if isL b then 1 else 0) := by
  unfold fX4_isLetter isL
  rw [show (97 : Int32) = nI 97 from rfl, show (122 : Int32) = nI 122 from rfl]
  by_cases h1 : b < 97
  · rw [if_pos (nI_lt h1 (by omega)), if_neg (by omega)]
  · rw [if_neg (nI_nlt (by omega) (by omega))]
    by_cases h2 : 122 < b
    · rw [if_pos (nI_lt h2 (by omega)), if_neg (by omega)]
    · rw [if_neg (nI_nlt (by omega) (by omega)), if_pos (by omega)]
theorem M_letter_n {b : Nat} (hb : b < 256) : fX8_isLetter (nI b) = some (if isL b then 1 else 0) := C_letter hb
theorem C_letter_m : fX4_isLetter (-1) = some 0 := by decide
theorem M_letter {b : Nat} (hb : b < 256) : fX8_isLetter (sb b) = some (if isL b then 1 else 0) := by
  by_cases h : b < 128
  · rw [sb_lo b h]; exact C_letter hb
  · have z := sb_hi b hb (by omega)
    unfold fX8_isLetter isL
    rw [if_pos (Int32.lt_trans z (by decide)), if_neg (by omega)]
theorem C_digit {b : Nat} (hb : b < 256) : fX4_isDigit (nI b) = some (if isD b then 1 else 0) := by
  unfold fX4_isDigit isD
  rw [show (48 : Int32) = nI 48 from rfl, show (57 : Int32) = nI 57 from rfl]
  by_cases h1 : b < 48
  · rw [if_pos (nI_lt h1 (by omega)), if_neg (by omega)]
  · rw [if_neg (nI_nlt (by omega) (by omega))]
    by_cases h2 : 57 < b
    · rw [if_pos (nI_lt h2 (by omega)), if_neg (by omega)]
    · rw [if_neg (nI_nlt (by omega) (by omega)), if_pos (by omega)]
/-- where the blanks from p on end, d bytes ahead -/
def sk (bs : Nat → Nat) : Nat → Nat → Nat
  | 0, p => p
  | d + 1, p => if isB (bs p) then sk bs d (p + 1) else p
theorem sk_ge {bs : Nat → Nat} : ∀ d p, p ≤ sk bs d p ∧ sk bs d p ≤ p + d ∧ (sk bs d p < p + d → ¬ isB (bs (sk bs d p))) ∧ ∀ i, p ≤ i → i < sk bs d p → isB (bs i)
  | 0, p => ⟨Nat.le_refl _, Nat.le_refl _, fun h => absurd h (Nat.lt_irrefl _), fun i h1 h2 => by
    have h2 : i < p := h2
    omega⟩
  | d + 1, p => by
    have e : sk bs (d + 1) p = if isB (bs p) then sk bs d (p + 1) else p := rfl
    by_cases c : isB (bs p)
    · rw [e, if_pos c]
      obtain ⟨h1, h2, h3, h4⟩ := sk_ge (bs := bs) d (p + 1)
      refine ⟨by omega, by omega, fun h => h3 (by omega), fun i i1 i2 => ?_⟩
      by_cases z : i = p
      · rw [z]; exact c
      · exact h4 i (by omega) i2
    · rw [e, if_neg c]
      exact ⟨Nat.le_refl _, by omega, fun _ => c, fun i h1 h2 => by omega⟩
theorem sI_sI {S : St} {k : Nat} {u v : Int32} : sI (sI S k u) k v = sI S k v := by
  refine Prod.ext ?_ rfl
  funext j
  show (if j = k then v else if j = k then u else S.1 j) = if j = k then v else S.1 j
  by_cases c : j = k
  · rw [if_pos c, if_pos c]
  · rw [if_neg c, if_neg c, if_neg c]
theorem sI_self {S : St} {k : Nat} {v : Int32} (h : S.1 k = v) : sI S k v = S := by
  refine Prod.ext ?_ rfl
  funext j
  show (if j = k then v else S.1 j) = S.1 j
  by_cases c : j = k
  · rw [if_pos c, c, h]
  · rw [if_neg c]
theorem TP.i {S M : St} {bs : Nat → Nat} {L : Nat} (h : TP S M bs L) {k : Nat} {v : Int32} (hk : 88 ≠ k ∧ 89 ≠ k) : TP (sI S k v) M bs L := h.of (Fr.I (is := [k]) (as := []) (List.mem_singleton.mpr rfl)) (Fr.rf (is := []) (as := [])) ⟨fun q => hk.1 (List.mem_singleton.mp q), fun q => hk.2 (List.mem_singleton.mp q)⟩ (by decide) (by decide) (by decide)
theorem TP.j {S M : St} {bs : Nat → Nat} {L : Nat} (h : TP S M bs L) {k : Nat} {v : Int32} (hk : 2 ≠ k) : TP S (sI M k v) bs L := h.of (Fr.rf (is := []) (as := [])) (Fr.I (is := [k]) (as := []) (List.mem_singleton.mpr rfl)) (by decide) (by decide) (fun q => hk (List.mem_singleton.mp q)) (by decide)
theorem CB_loop {M : St} {bs : Nat → Nat} {L N : Nat} : ∀ (d p f : Nat) (S : St), p + d = L → d < f → TP S M bs L → S.1 90 = nI p → loopN (fun k x => fX4_skipBlanks_0s N k x) f S = some (sI S 90 (nI (sk bs d p)))
  | 0, p, f, S, hd, hf, h, h90 => by
    obtain ⟨f, rfl⟩ : ∃ f', f = f' + 1 := ⟨f - 1, by omega⟩
    have hL := h.1
    show fX4_skipBlanks_0s N _ S = _
    unfold fX4_skipBlanks_0s
    rw [h.2.1, h90, if_pos (nI_le (by omega) (by omega))]
    show _ = some (sI S 90 (nI p))
    rw [sI_self h90]
  | d + 1, p, f, S, hd, hf, h, h90 => by
    obtain ⟨f, rfl⟩ : ∃ f', f = f' + 1 := ⟨f - 1, by omega⟩
    have hL := h.1
    have hb := (h.2.2.2.2 p (by omega)).1
    have e : sk bs (d + 1) p = if isB (bs p) then sk bs d (p + 1) else p := rfl
    show fX4_skipBlanks_0s N (loopN (fun k x => fX4_skipBlanks_0s N k x) f) S = _
    obtain ⟨Lp, eL⟩ : ∃ Lp, Lp = loopN (fun k x => fX4_skipBlanks_0s N k x) f := ⟨_, rfl⟩
    rw [← eL]
    unfold fX4_skipBlanks_0s
    rw [h.2.1, h90, if_neg (fun z => absurd ((nI_leI (by omega) (by omega)).mp z) (by omega)), bd2_ok (C_byte h (by omega)), if_pos (show p < L by omega), bdo_ok (C_blank hb), e]
    by_cases c : isB (bs p)
    · rw [if_pos c, if_pos c, if_neg (by decide), h90, bnd_eq, show nI p + (1 : Int32) = nI (p + 1) from nI_1 _, eL, CB_loop d (p + 1) f (sI S 90 (nI (p + 1))) (by omega) (by omega) (h.i (by decide)) sI_at, sI_sI]
    · rw [if_neg c, if_neg c, if_pos rfl, sI_self h90]
theorem X4_skip {S M : St} {bs : Nat → Nat} {L N p : Nat} (hN : Big N) (h : TP S M bs L) (hp : p ≤ L) (h90 : S.1 90 = nI p) : fX4_skipBlanks N S = some (sI S 90 (nI (sk bs (L - p) p))) := by
  have hb := hN
  unfold Big at hb
  have := h.1
  exact CB_loop (N := N) (L - p) p N S (by omega) (by omega) h h90
theorem MB_loop {S : St} {bs : Nat → Nat} {L N : Nat} : ∀ (d p f : Nat) (M : St), p + d = L → d < f → TP S M bs L → M.1 7 = nI p → loopN (fun k x => fX8_look_0s N k x) f M = some (if sk bs d p < L then nI (bs (sk bs d p)) else -1, sI M 7 (nI (sk bs d p)))
  | 0, p, f, M, hd, hf, h, h7 => by
    obtain ⟨f, rfl⟩ : ∃ f', f = f' + 1 := ⟨f - 1, by omega⟩
    have hL := h.1
    show fX8_look_0s N _ M = some (if p < L then nI (bs p) else -1, sI M 7 (nI p))
    unfold fX8_look_0s
    rw [h.2.2.2.1, h7, if_pos (nI_le (by omega) (by omega))]
    unfold fX8_look_80
    rw [h.2.2.2.1, h7, if_pos (nI_le (by omega) (by omega)), if_neg (by omega), sI_self h7]
  | d + 1, p, f, M, hd, hf, h, h7 => by
    obtain ⟨f, rfl⟩ : ∃ f', f = f' + 1 := ⟨f - 1, by omega⟩
    have hL := h.1
    obtain ⟨hb, -, h1⟩ := h.2.2.2.2 p (by omega)
    have e : sk bs (d + 1) p = if isB (bs p) then sk bs d (p + 1) else p := rfl
    show fX8_look_0s N (loopN (fun k x => fX8_look_0s N k x) f) M = _
    have lk : isB (bs p) → fX8_look_67 N (loopN (fun k x => fX8_look_0s N k x) f) M = some (if sk bs d (p + 1) < L then nI (bs (sk bs d (p + 1))) else -1, sI M 7 (nI (sk bs d (p + 1)))) := fun c => by
      unfold fX8_look_67
      rw [bnd_eq, h7, show nI p + (1 : Int32) = nI (p + 1) from nI_1 _, MB_loop d (p + 1) f (sI M 7 (nI (p + 1))) (by omega) (by omega) (h.j (by decide)) sI_at, sI_sI]
    obtain ⟨Lp, eL⟩ : ∃ Lp, Lp = loopN (fun k x => fX8_look_0s N k x) f := ⟨_, rfl⟩
    rw [← eL] at lk ⊢
    unfold fX8_look_0s
    rw [h.2.2.2.1, h7, if_neg (fun z => absurd ((nI_leI (by omega) (by omega)).mp z) (by omega)), ckx_ok (vp_in_nI (by omega) (by omega)), nI_clamp (by omega), h1, show (9 : Int32) = nI 9 from rfl, show (10 : Int32) = nI 10 from rfl, show (13 : Int32) = nI 13 from rfl, show (32 : Int32) = nI 32 from rfl, e]
    by_cases h9 : bs p = 9
    · have c : isB (bs p) := Or.inl h9
      rw [if_pos ((sb_eq hb (by omega)).mpr h9), lk c, if_pos c]
    · rw [if_neg (fun z => h9 ((sb_eq hb (by omega)).mp z)), ckx_ok (vp_in_nI (by omega) (by omega))]
      by_cases h10 : bs p = 10
      · have c : isB (bs p) := Or.inr (Or.inl h10)
        rw [if_pos ((sb_eq hb (by omega)).mpr h10), lk c, if_pos c]
      · rw [if_neg (fun z => h10 ((sb_eq hb (by omega)).mp z)), ckx_ok (vp_in_nI (by omega) (by omega))]
        by_cases h13 : bs p = 13
        · have c : isB (bs p) := Or.inr (Or.inr (Or.inl h13))
          rw [if_pos ((sb_eq hb (by omega)).mpr h13), lk c, if_pos c]
        · rw [if_neg (fun z => h13 ((sb_eq hb (by omega)).mp z)), ckx_ok (vp_in_nI (by omega) (by omega))]
          by_cases h32 : bs p = 32
          · have c : isB (bs p) := Or.inr (Or.inr (Or.inr h32))
            rw [if_pos ((sb_eq hb (by omega)).mpr h32), lk c, if_pos c]
          · have c : ¬ isB (bs p) := by unfold isB; omega
            rw [if_neg (fun z => h32 ((sb_eq hb (by omega)).mp z)), if_neg c]
            unfold fX8_look_80
            rw [h.2.2.2.1, h7, if_neg (fun z => absurd ((nI_leI (by omega) (by omega)).mp z) (by omega)), ckx_ok (vp_in_nI (by omega) (by omega)), nI_clamp (by omega), h1, sb_255 _ hb, if_pos (by omega), sI_self h7]
theorem X8_look {S M : St} {bs : Nat → Nat} {L N p : Nat} (hN : Big N) (h : TP S M bs L) (hp : p ≤ L) (h7 : M.1 7 = nI p) : fX8_look N M = some (if sk bs (L - p) p < L then nI (bs (sk bs (L - p) p)) else -1, sI M 7 (nI (sk bs (L - p) p))) := by
  have hb := hN
  unfold Big at hb
  have := h.1
  exact MB_loop (N := N) (L - p) p N M (by omega) (by omega) h h7
