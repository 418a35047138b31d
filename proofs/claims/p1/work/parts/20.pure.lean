def X10_found (σ : mS) (a1 : Int32) : Option (Int32 × mS) :=
  if vin a1 6 = true then
    if vin a1 6 = true then
      some ((-3), mwI (mwI σ 0 16 a1) 208 a1.toNatClampNeg (((mwI σ 0 16 a1).1 208 a1.toNatClampNeg) + 1))
    else none
  else none
def X10_isRow (a1 : Int32) : Int32 :=
  if a1 < 0 then
    0
  else
    if 6 ≤ a1 then
      0
    else
      1
def J7_fill_53178_b5 (k : Nat) (z : Nat) (a2 : Int32) (s1 : mS) (x2 : Int32) : Option ((mS × Int32) ⊕ (mS)) :=
  if (Int32.ofNat z) ≤ x2 then
    some (.inr s1)
  else
    if vin x2 z = true then
      some (.inl (mwI s1 k x2.toNatClampNeg a2, (x2 + 1)))
    else none
def J7_fill_53178 (σ : mS) (k : Nat) (z : Nat) (a2 : Int32) : Option (Unit × mS) :=
  (lp big (un2 (J7_fill_53178_b5 k z a2)) (σ, 0)).bind (un1 (fun s3 =>
    some ((), s3)))
def X10_row (σ : mS) (a1 : Int32) (a2 : Int32) : Option (Int32 × mS) :=
  if (X10_isRow a1) = 0 then
    some ((-1), σ)
  else
    if a2 ≤ 40 then
      if 0 ≤ a2 then
        if vin a1 6 = true then
          bd (J7_fill_53178 σ (16 + a1.toNatClampNeg) 40 (0)) (fun r6 s8 =>
            if vin a1 6 = true then
              some (a2, mwI s8 24 a1.toNatClampNeg a2)
            else none)
        else none
      else
        bd (X10_found σ (5)) (fun r10 s12 =>
          some (r10, s12))
    else
      some ((-1), σ)
