/-! the own methods as functions -/
def fX7_type_48s (N : Nat) (k48 : St × Int64 × Int32 → Option ((Int32 × St) ⊕ (Nat × St))) (S : St) (x1 : Int64) (x4 : Int32) : Option ((Int32 × St) ⊕ (Nat × St)) :=
  if x4 < 0 then
    some (.inl (S.1 141, S))
  else
    ckx (S.1 141) 600 <|
    bnd (sA S 140 (upd (S.2.1 140) (S.1 141 : Int32).toNatClampNeg ((((x1 >>> ((((8 : Int32) * x4)).toInt64 &&& 63)) : Int64).toInt32 &&& (255 : Int32))))) fun S3 =>
    bnd (sI S3 141 ((S3.1 141 + (1 : Int32)))) fun S4 =>
    bnd (x4 + (-1 : Int32)) fun z5 =>
    k48 (S4, x1, z5)
def fX7_type_48 (N : Nat) : St × Int64 × Int32 → Option ((Int32 × St) ⊕ (Nat × St)) := loopN (fun k x => fX7_type_48s N k x.1 x.2.1 x.2.2) N
def fX7_type_11 (N : Nat) (S : St) : Option ((Int32 × St) ⊕ (Nat × St)) :=
  some (.inr (1, S))
def fX7_type (N : Nat) (S : St) (p1 : Int64) (p3 : Int32) : Option ((Int32 × St) ⊕ (Nat × St)) :=
  if p3 < (1 : Int32) then
    fX7_type_11 N S
  else
    if p3 ≤ (8 : Int32) then
      if (S.1 141 + p3) ≤ (600 : Int32) then
        bnd ((p3 - (1 : Int32))) fun z4 =>
        fX7_type_48 N (S, p1, z4)
      else
        some (.inr (2, S))
    else
      fX7_type_11 N S
def fX7_keep_12 (N : Nat) (S : St) : Option (St ⊕ (Nat × St)) :=
  some (.inr (1, S))
def fX7_keep (N : Nat) (S : St) (p1 : Int32) : Option (St ⊕ (Nat × St)) :=
  if p1 < 0 then
    fX7_keep_12 N S
  else
    if p1 ≤ S.1 141 then
      bnd (sI S 141 p1) fun S3 =>
      some (.inl S3)
    else
      fX7_keep_12 N S
def fX7_count (N : Nat) (S : St) (p1 : Int32) : Option ((Int32 × St) ⊕ (Nat × St)) :=
  if p1 = 0 then
    some (.inl (S.1 142, S))
  else
    if p1 = 1 then
      bd2 (fX3_betas N S) fun v3 S5 =>
      some (.inl (v3, S5))
    else
      if p1 = 2 then
        bd2 (fX3_annihilations N S) fun v7 S9 =>
        some (.inl (v7, S9))
      else
        if p1 = 3 then
          bd2 (fX3_passings N S) fun v11 S13 =>
          some (.inl (v11, S13))
        else
          if p1 = 4 then
            bd2 (fX2_erasedNodes N S) fun v15 S17 =>
            some (.inl (v15, S17))
          else
            if p1 = 5 then
              bd2 (fX2_size N S) fun v19 S21 =>
              some (.inl (v19, S21))
            else
              if p1 = 6 then
                some (.inl (S.1 143, S))
              else
                if p1 = 7 then
                  some (.inl (S.1 141, S))
                else
                  some (.inr (3, S))
def fX7_letter_12 (N : Nat) (S : St) : Option ((Int32 × St) ⊕ (Nat × St)) :=
  some (.inr (3, S))
def fX7_letter (N : Nat) (S : St) (p1 : Int32) : Option ((Int32 × St) ⊕ (Nat × St)) :=
  if p1 < 0 then
    fX7_letter_12 N S
  else
    if p1 < S.1 143 then
      bd2 (fX6_letterAt N S p1) fun v3 S5 =>
      some (.inl (v3, S5))
    else
      fX7_letter_12 N S
def fX7_nodes_9 (N : Nat) (S : St) : Option ((Int32 × St) ⊕ (Nat × St)) :=
  some (.inr (3, S))
def fX7_nodes (N : Nat) (S : St) (p1 : Int32) : Option ((Int32 × St) ⊕ (Nat × St)) :=
  if p1 < 0 then
    fX7_nodes_9 N S
  else
    if p1 ≤ (5 : Int32) then
      bd2 (fX2_population N S p1) fun v3 S5 =>
      some (.inl (v3, S5))
    else
      fX7_nodes_9 N S
def fX7_run (N : Nat) (S : St) (p1 : Int32) : Option ((Int32 × St) ⊕ (Nat × St)) :=
  if p1 < 0 then some (.inr (1, S))
  else
    if p1 ≤ (100000 : Int32) then
      bd2 (fX7_reduce N S p1) fun v2 S2 =>
      if v2 = 0 then
        bd2 (fX6_told N S2) fun v3 S3 =>
        bnd (sI S3 143 v3) fun S4 =>
        some (.inl (v2, S4))
      else
        bnd (sI S2 143 (0 : Int32)) fun S4 =>
        some (.inl (v2, S4))
    else some (.inr (1, S))
def StC0 : St := ((fun k => if k = 105 then 1 else 0), (fun _ _ => 0), (fun _ _ => 0), 0, 2048, 0, 0)
def fX7_init (N : Nat) : Option St :=
  ckx (0 : Int32) 600 <|
  bnd (sA StC0 140 (upd (StC0.2.1 140) ((0 : Int32) : Int32).toNatClampNeg (92 : Int32))) fun S2 =>
  ckx (1 : Int32) 600 <|
  bnd (sA S2 140 (upd (S2.2.1 140) ((1 : Int32) : Int32).toNatClampNeg (120 : Int32))) fun S4 =>
  ckx (2 : Int32) 600 <|
  bnd (sA S4 140 (upd (S4.2.1 140) ((2 : Int32) : Int32).toNatClampNeg (46 : Int32))) fun S6 =>
  ckx (3 : Int32) 600 <|
  bnd (sA S6 140 (upd (S6.2.1 140) ((3 : Int32) : Int32).toNatClampNeg (120 : Int32))) fun S8 =>
  bd2 (fX4_scan N S8 (4 : Int32)) fun v9 S11 =>
  bdo (fX7_takeTerm N S11) fun S14 =>
  some S14
