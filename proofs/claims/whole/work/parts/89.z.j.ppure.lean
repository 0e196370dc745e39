/-! reading: what the words so far mean -/
def SKo : List Ent → List SI
  | [] => []
  | .inl _ :: o => SKo o
  | .inr e :: o => (if e.2.1 = 0 then [] else [(e.1, scope o, e.2.2)]) ++ SKo o
def SK (o : List Ent) (x p t : Nat) : List SI := (if p = 0 then [] else [(x, scope o, t)]) ++ SKo o
def IXo (xh : Nat → Nat) : List Ent → Nat → Prop
  | [], x => x = 0
  | .inl e :: o, x => xh e.2 = x ∧ IXo xh o x
  | .inr e :: o, x => x = e.1 + (if e.2.1 = 0 then 0 else 1) ∧ IXo xh o e.1
def OI (bn : Nat) (us : List Nat) (q : Nat) : List Ent → Prop
  | [] => True
  | .inl e :: o => (e.2 < bn ∧ e.2 ∉ us ∧ ∀ a ∈ scope o, a.2 < e.2) ∧ OI bn us q o
  | .inr e :: o => e.2.1 ≤ q ∧ OI bn us q o
theorem scope_lt : ∀ (o : List Ent), ∀ e ∈ scope o, e.1 < o.length
  | [], e, h => (List.not_mem_nil h).elim
  | .inl a :: o, e, h => by
    have h : e ∈ scope o ++ [(o.length, a.2)] := h
    show e.1 < o.length + 1
    rcases List.mem_append.mp h with q | q
    · have := scope_lt o e q
      omega
    · rw [List.mem_singleton.mp q]
      show o.length < o.length + 1
      omega
  | .inr a :: o, e, h => by
    have := scope_lt o e h
    show e.1 < o.length + 1
    omega
theorem OI.sc {bn : Nat} {us : List Nat} {q : Nat} : ∀ {o : List Ent}, OI bn us q o → ScO (scope o) ∧ ∀ e ∈ scope o, e.2 < bn ∧ e.2 ∉ us
  | [], _ => ⟨List.Pairwise.nil, fun e h => (List.not_mem_nil h).elim⟩
  | .inl a :: o, ⟨⟨h1, h2, h3⟩, ho⟩ => by
    obtain ⟨i1, i2⟩ := ho.sc
    refine ⟨?_, fun e he => ?_⟩
    · show ScO (scope o ++ [(o.length, a.2)])
      refine List.pairwise_append.mpr ⟨i1, List.pairwise_singleton .., fun e he b hb => ?_⟩
      rw [List.mem_singleton.mp hb]
      exact ⟨scope_lt o e he, h3 e he⟩
    · have he : e ∈ scope o ++ [(o.length, a.2)] := he
      rcases List.mem_append.mp he with q | q
      · exact i2 e q
      · rw [List.mem_singleton.mp q]; exact ⟨h1, h2⟩
  | .inr a :: o, ⟨_, ho⟩ => by
    have := ho.sc
    exact this
theorem OI.b {bn : Nat} {us : List Nat} {q : Nat} {o : List Ent} (h : OI bn us q o) (hl : o.length ≤ 40) : ScB bn (scope o) := ⟨h.sc.1, fun e he => ⟨by have := scope_lt o e he; omega, (h.sc.2 e he).1⟩⟩
theorem OI.mono {bn bn' : Nat} {us us' : List Nat} {q q' : Nat} (hb : bn ≤ bn') (hq : q ≤ q') : ∀ {o : List Ent}, (∀ e ∈ scope o, e.2 ∉ us') → OI bn us q o → OI bn' us' q' o
  | [], _, _ => trivial
  | .inl a :: o, hu, ⟨⟨h1, h2, h3⟩, ho⟩ => ⟨⟨by omega, hu (o.length, a.2) (List.mem_append_right _ (List.mem_singleton.mpr rfl)), h3⟩, OI.mono hb hq (fun e he => hu e (List.mem_append_left _ he)) ho⟩
  | .inr a :: o, hu, ⟨h1, ho⟩ => ⟨by omega, OI.mono hb hq (o := o) hu ho⟩
theorem IXo.le {xh : Nat → Nat} : ∀ {o : List Ent} {x : Nat}, IXo xh o x → x ≤ o.length ∧ ∀ e ∈ scope o, xh e.2 ≤ x
  | [], x, h => by
    have h : x = 0 := h
    exact ⟨by omega, fun e he => (List.not_mem_nil he).elim⟩
  | .inl a :: o, x, ⟨h1, ho⟩ => by
    obtain ⟨i1, i2⟩ := ho.le
    refine ⟨by show x ≤ o.length + 1; omega, fun e he => ?_⟩
    have he : e ∈ scope o ++ [(o.length, a.2)] := he
    rcases List.mem_append.mp he with q | q
    · exact i2 e q
    · rw [List.mem_singleton.mp q]
      show xh a.2 ≤ x
      omega
  | .inr a :: o, x, ⟨h1, ho⟩ => by
    obtain ⟨i1, i2⟩ := ho.le
    have : x ≤ a.1 + 1 ∧ a.1 ≤ x := by
      rw [h1]
      split <;> omega
    refine ⟨by show x ≤ o.length + 1; omega, fun e he => ?_⟩
    have := i2 e he
    omega
theorem IXo.mono {xh xh' : Nat → Nat} : ∀ {o : List Ent} {x : Nat}, (∀ e ∈ scope o, xh' e.2 = xh e.2) → IXo xh o x → IXo xh' o x
  | [], x, _, h => h
  | .inl a :: o, x, hx, ⟨h1, ho⟩ => ⟨by rw [hx (o.length, a.2) (List.mem_append_right _ (List.mem_singleton.mpr rfl))]; exact h1, IXo.mono (fun e he => hx e (List.mem_append_left _ he)) ho⟩
  | .inr a :: o, x, hx, ⟨h1, ho⟩ => ⟨h1, IXo.mono (o := o) hx ho⟩
theorem lkE_in : ∀ {o : List Ent} {z : Int32} {e : Nat × Nat}, lkE o z = some e → e ∈ scope o
  | [], z, e, h => by cases h
  | .inl a :: o, z, e, h => by
    have h : (if a.1 = z then some (o.length, a.2) else lkE o z) = some e := h
    show e ∈ scope o ++ [(o.length, a.2)]
    by_cases c : a.1 = z
    · rw [if_pos c] at h
      rw [← Option.some.inj h]
      exact List.mem_append_right _ (List.mem_singleton.mpr rfl)
    · rw [if_neg c] at h
      exact List.mem_append_left _ (lkE_in h)
  | .inr a :: o, z, e, h => lkE_in (o := o) h
theorem SKo_len : ∀ o : List Ent, (SKo o).length ≤ o.length
  | [] => Nat.le_refl _
  | .inl a :: o => Nat.le_succ_of_le (SKo_len o)
  | .inr a :: o => by
    have := SKo_len o
    show ((if a.2.1 = 0 then [] else [(a.1, scope o, a.2.2)]) ++ SKo o).length ≤ o.length + 1
    rw [List.length_append]
    split
    · show 0 + _ ≤ _; omega
    · show 1 + _ ≤ _; omega
theorem SK_len {o : List Ent} {x p t : Nat} : (SK o x p t).length ≤ o.length + 1 := by
  have := SKo_len o
  unfold SK
  rw [List.length_append]
  split
  · show 0 + _ ≤ _; omega
  · show 1 + _ ≤ _; omega
def updW (wd : Nat → Wd) (w : Nat) (a : Wd) : Nat → Wd := fun k => if k = w then a else wd k
theorem updW_at {wd : Nat → Wd} {w : Nat} {a : Wd} : updW wd w a w = a := if_pos rfl
theorem updW_ne {wd : Nat → Wd} {w k : Nat} {a : Wd} (h : k ≠ w) : updW wd w a k = wd k := if_neg h
theorem Run.add {wd : Nat → Wd} {xh : Nat → Nat} {bn w : Nat} {st st' : List SI} {us us' : List Nat} {v v' : Nat} {a : Wd} (h : Run wd xh bn w st us v) (hs : WS xh bn w a st us v st' us' v') : Run (updW wd w a) xh bn (w + 1) st' us' v' :=
  ⟨st, us, v, Run.mono (Nat.le_refl _) (fun _ _ => rfl) (fun j hj => updW_ne (by omega)) h, by rw [updW_at]; exact hs⟩
/-- words, counts and what is open, in accord -/
def PV (o : List Ent) (x p t w nm bn : Nat) (wd : Nat → Wd) (xh : Nat → Nat) (us : List Nat) (v q : Nat) : Prop := o.length ≤ 40 ∧ Run wd xh bn w (SK o x p t) us v ∧ IXo xh o x ∧ OI bn us q o ∧ nm = v + bn ∧ nm ≤ 80 ∧ us.length + lams o = bn ∧ p ≤ q
theorem PV.w {o : List Ent} {x p t w nm bn : Nat} {wd : Nat → Wd} {xh : Nat → Nat} {us : List Nat} {v q : Nat} (h : PV o x p t w nm bn wd xh us v q) : w ≤ 158 ∨ (p = 0 ∧ w ≤ 160) := by
  obtain ⟨h1, h2, h3, h4, h5, h6, h7, h8⟩ := h
  obtain ⟨l1, l2, -⟩ := h2.len
  by_cases c : p = 0
  · right; exact ⟨c, by omega⟩
  · left
    have : 1 ≤ (SK o x p t).length := by
      unfold SK
      rw [if_neg c]
      show 1 ≤ ([(x, scope o, t)] ++ SKo o).length
      rw [List.length_append]
      show 1 ≤ 1 + _
      omega
    -- a name needs an abstraction
    have b1 : 1 ≤ bn := by
      refine Classical.byContradiction fun z => ?_
      have : bn = 0 := by omega
      subst this
      have key : ∀ {k : Nat} {st : List SI} {us : List Nat} {v : Nat}, Run wd xh 0 k st us v → v = 0 := by
        intro k
        induction k with
        | zero => intro st us v h; exact h.2.2
        | succ k ih =>
          intro st us v h
          obtain ⟨st0, us0, v0, g1, g2⟩ := h
          have := ih g1
          rcases g2 with ⟨-, ⟨sc, -, a6, a7⟩, -⟩ | ⟨-, -, -, -, -, a4⟩ | ⟨-, -, -, a4⟩
          · exact absurd (a7.2 _ a6).2 (by omega)
          · omega
          · omega
      have := key h2
      omega
    omega
theorem PV.q {o : List Ent} {x p t w nm bn : Nat} {wd : Nat → Wd} {xh : Nat → Nat} {us : List Nat} {v q q' : Nat} (h : PV o x p t w nm bn wd xh us v q) (hq : q ≤ q') : PV o x p t w nm bn wd xh us v q' := by
  obtain ⟨h1, h2, h3, h4, h5, h6, h7, h8⟩ := h
  exact ⟨h1, h2, h3, OI.mono (Nat.le_refl _) hq (fun e he => (h4.sc.2 e he).2) h4, h5, h6, h7, by omega⟩
theorem PV_lam {o : List Ent} {x t w nm bn : Nat} {wd : Nat → Wd} {xh : Nat → Nat} {us : List Nat} {v q : Nat} (h : PV o x 0 t w nm bn wd xh us v q) (hl : o.length < 40) (hn : nm < 80) (z : Int32) : PV (.inl (z, bn) :: o) x 0 t w (nm + 1) (bn + 1) wd (updN xh bn x) us v q := by
  obtain ⟨h1, h2, h3, h4, h5, h6, h7, h8⟩ := h
  have hu := h2.scb.2
  have hx : ∀ j, j < bn → updN xh bn x j = xh j := fun j hj => by rw [updN_at, if_neg (by omega)]
  refine ⟨by show o.length + 1 ≤ 40; omega, Run.mono (by omega) hx (fun _ _ => rfl) h2, ⟨by show updN xh bn x bn = x; rw [updN_at, if_pos rfl], IXo.mono (fun e he => hx _ (h4.sc.2 e he).1) h3⟩, ⟨⟨by show bn < bn + 1; omega, fun q => absurd (hu _ q) (by show ¬ bn < bn; omega), fun a ha => (h4.sc.2 a ha).1⟩, OI.mono (by omega) (Nat.le_refl _) (fun e he => (h4.sc.2 e he).2) h4⟩, by omega, by omega, by show us.length + (lams o + 1) = bn + 1; omega, h8⟩
theorem PV_par {o : List Ent} {x p t w nm bn : Nat} {wd : Nat → Wd} {xh : Nat → Nat} {us : List Nat} {v q : Nat} (h : PV o x p t w nm bn wd xh us v q) (hl : o.length < 40) : PV (.inr (x, p, t) :: o) (x + (if p = 0 then 0 else 1)) 0 0 w nm bn wd xh us v q := by
  obtain ⟨h1, h2, h3, h4, h5, h6, h7, h8⟩ := h
  exact ⟨by show o.length + 1 ≤ 40; omega, h2, ⟨rfl, h3⟩, ⟨h8, h4⟩, h5, h6, h7, Nat.zero_le _⟩
theorem PV_var {o : List Ent} {x p t w nm bn : Nat} {wd : Nat → Wd} {xh : Nat → Nat} {us : List Nat} {v q : Nat} (h : PV o x p t w nm bn wd xh us v q) (hn : nm < 80) {z : Int32} {e : Nat × Nat} (he : lkE o z = some e) :
    (p = 0 → PV o x 1 w (w + 1) (nm + 1) bn (updW wd w (0, x, e.1, e.2, 0)) xh us (v + 1) (q + 1)) ∧
    (p ≠ 0 → PV o x (p + 1) (w + 1) (w + 2) (nm + 1) bn (updW (updW wd w (0, x + 1, e.1, e.2, 0)) (w + 1) (2, x, 0, t, w)) xh us (v + 1) (q + 1)) := by
  obtain ⟨h1, h2, h3, h4, h5, h6, h7, h8⟩ := h
  have hin := lkE_in he
  obtain ⟨i1, i2⟩ := h3.le
  have sl := SK_len (o := o) (x := x) (p := p) (t := t)
  have mo : OI bn us (q + 1) o := OI.mono (Nat.le_refl _) (by omega) (fun e he => (h4.sc.2 e he).2) h4
  have nw : ∀ y, x ≤ y → y ≤ 62 → Run (updW wd w (0, y, e.1, e.2, 0)) xh bn (w + 1) ((y, scope o, w) :: SK o x p t) us (v + 1) := fun y hy hy2 => h2.add (Or.inl ⟨rfl, ⟨scope o, rfl, hin, h4.b h1⟩, Nat.le_trans (i2 e hin) hy, hy2, by omega, rfl, rfl⟩)
  refine ⟨fun p0 => ?_, fun p0 => ?_⟩
  · have := nw x (Nat.le_refl _) (by omega)
    have es : SK o x p t = SKo o := by unfold SK; rw [if_pos p0]; rfl
    rw [es] at this
    exact ⟨h1, this, h3, mo, by omega, by omega, h7, by omega⟩
  · have := nw (x + 1) (by omega) (by omega)
    have es : SK o x p t = (x, scope o, t) :: SKo o := by unfold SK; rw [if_neg p0]; rfl
    rw [es] at this
    have r := this.add (a := (2, x, 0, t, w)) (st' := (x, scope o, w + 1) :: SKo o) (us' := us) (v' := v + 1) (Or.inr (Or.inr ⟨rfl, ⟨scope o, SKo o, rfl, rfl, fun a ha => i2 a ha⟩, rfl, rfl⟩))
    refine ⟨h1, ?_, h3, mo, by omega, by omega, h7, by omega⟩
    have es : SK o x (p + 1) (w + 1) = (x, scope o, w + 1) :: SKo o := by unfold SK; rw [if_neg (by omega)]; rfl
    rw [es]; exact r
theorem PV_clam {o : List Ent} {a : Int32 × Nat} {x p t w nm bn : Nat} {wd : Nat → Wd} {xh : Nat → Nat} {us : List Nat} {v q : Nat} (h : PV (.inl a :: o) x p t w nm bn wd xh us v q) (hp : p ≠ 0) : PV o x p w (w + 1) nm bn (updW wd w (1, x, o.length, a.2, t)) xh (a.2 :: us) v q := by
  obtain ⟨h1, h2, ⟨h3, h3'⟩, ⟨⟨h4, h4', h4''⟩, h4o⟩, h5, h6, h7, h8⟩ := h
  have h1 : o.length + 1 ≤ 40 := h1
  have h7 : us.length + (lams o + 1) = bn := h7
  have es : SK (.inl a :: o) x p t = (x, scope o ++ [(o.length, a.2)], t) :: SKo o := by unfold SK; rw [if_neg hp]; rfl
  have es' : SK o x p w = (x, scope o, w) :: SKo o := by unfold SK; rw [if_neg hp]; rfl
  rw [es] at h2
  refine ⟨by omega, ?_, h3', OI.mono (Nat.le_refl _) (Nat.le_refl _) (fun e he q => ?_) h4o, h5, h6, by show us.length + 1 + lams o = bn; omega, h8⟩
  · rw [es']
    exact h2.add (Or.inr (Or.inl ⟨rfl, ⟨scope o, SKo o, rfl, rfl⟩, h3, h4', rfl, rfl⟩))
  · rcases List.mem_cons.mp q with z | z
    · have := h4'' e he
      omega
    · exact (h4o.sc.2 e he).2 z
theorem PV_cpar {o : List Ent} {a : Nat × Nat × Nat} {x p t w nm bn : Nat} {wd : Nat → Wd} {xh : Nat → Nat} {us : List Nat} {v q : Nat} (h : PV (.inr a :: o) x p t w nm bn wd xh us v q) (hp : p ≠ 0) :
    (a.2.1 = 0 → PV o a.1 1 t w nm bn wd xh us v (q + 1)) ∧ (a.2.1 ≠ 0 → PV o a.1 (a.2.1 + 1) w (w + 1) nm bn (updW wd w (2, a.1, 0, a.2.2, t)) xh us v (q + 1)) := by
  obtain ⟨h1, h2, ⟨h3, h3'⟩, ⟨h4, h4o⟩, h5, h6, h7, h8⟩ := h
  have h1 : o.length + 1 ≤ 40 := h1
  have h7 : us.length + lams o = bn := h7
  have mo : OI bn us (q + 1) o := OI.mono (Nat.le_refl _) (by omega) (fun e he => (h4o.sc.2 e he).2) h4o
  obtain ⟨i1, i2⟩ := h3'.le
  refine ⟨fun p0 => ?_, fun p0 => ?_⟩
  · rw [if_pos p0] at h3
    have es : SK (.inr a :: o) x p t = (x, scope o, t) :: SKo o := by
      unfold SK
      rw [if_neg hp]
      show [(x, scope o, t)] ++ ((if a.2.1 = 0 then [] else [(a.1, scope o, a.2.2)]) ++ SKo o) = _
      rw [if_pos p0]; rfl
    rw [es, show x = a.1 by omega] at h2
    exact ⟨by omega, h2, h3', mo, h5, h6, h7, by omega⟩
  · rw [if_neg p0] at h3
    have es : SK (.inr a :: o) x p t = (x, scope o, t) :: (a.1, scope o, a.2.2) :: SKo o := by
      unfold SK
      rw [if_neg hp]
      show [(x, scope o, t)] ++ ((if a.2.1 = 0 then [] else [(a.1, scope o, a.2.2)]) ++ SKo o) = _
      rw [if_neg p0]; rfl
    rw [es, h3] at h2
    have r := h2.add (a := (2, a.1, 0, a.2.2, t)) (st' := (a.1, scope o, w) :: SKo o) (us' := us) (v' := v) (Or.inr (Or.inr ⟨rfl, ⟨scope o, SKo o, rfl, rfl, fun e he => i2 e he⟩, rfl, rfl⟩))
    refine ⟨by omega, ?_, h3', mo, h5, h6, h7, by omega⟩
    have es' : SK o a.1 (a.2.1 + 1) w = (a.1, scope o, w) :: SKo o := by unfold SK; rw [if_neg (by omega)]; rfl
    rw [es']; exact r
