def X0_heard (a1 : Int32) (a2 : Int32) (a3 : Int32) : Int32 :=
  if (a3 - a3 / 3 * 3) = 2 then
    0
  else
    ((1 : Int32) <<< (a1 &&& 31))
def X0_callsTillDeaf (a1 : Int32) : Int32 :=
  ((2 : Int32) - (a1 - a1 / 3 * 3))
def X1_add (σ : mS) (i : Nat) (a1 : Int32) : Option (Unit × mS) :=
  if 40 ≤ (σ.1 (160 + i) 1) then
    some ((), σ)
  else
    if vin (σ.1 (160 + i) 1) 40 = true then
      some ((), mwI (mwI σ (168 + i) (σ.1 (160 + i) 1).toNatClampNeg a1) (160 + i) 1 (((mwI σ (168 + i) (σ.1 (160 + i) 1).toNatClampNeg a1).1 (160 + i) 1) + 1))
    else none
def X1_take_b10 (i : Nat) (i1 : Nat) (s1 : mS) (x2 : Int32) : Option ((mS × Int32) ⊕ (mS)) :=
  if (s1.1 (160 + i) 1) ≤ x2 then
    some (.inr s1)
  else
    if vin x2 40 = true then
      if vin x2 40 = true then
        some (.inl (mwI s1 (168 + i) x2.toNatClampNeg (s1.1 (168 + i1) x2.toNatClampNeg), (x2 + 1)))
      else none
    else none
def X1_take (σ : mS) (i : Nat) (i1 : Nat) : Option (Unit × mS) :=
  (lp big (un2 (X1_take_b10 i i1)) (mwI σ (160 + i) 1 (σ.1 (160 + i1) 1), 0)).bind (un1 (fun s3 =>
    some ((), s3)))
def J7_fill_53178_b5 (k : Nat) (z : Nat) (a2 : Int32) (s1 : mS) (x2 : Int32) : Option ((mS × Int32) ⊕ (mS)) :=
  if (Int32.ofNat z) ≤ x2 then
    some (.inr s1)
  else
    if vin x2 z = true then
      some (.inl (mwI s1 k x2.toNatClampNeg a2, (x2 + 1)))
    else none
def J7_fill_53178 (σ : mS) (k : Nat) (z : Nat) (a2 : Int32) : Option (Unit × mS) :=
  (lp big (un2 (J7_fill_53178_b5 k z a2)) (σ, 0)).bind (un1 (fun s3 =>
    some ((), s3)))
def X2_begin (σ : mS) (i : Nat) : Option (Unit × mS) :=
  bd (J7_fill_53178 σ (152 + i) 4 (0)) (fun r1 s3 =>
    un1 (fun v6 =>
      some ((), mwI (mwI (mwI (mwI s3 (144 + i) 2 0) (144 + i) 3 v6) (144 + i) 4 0) (144 + i) 5 0)
    ) (
      if ((mwI s3 (144 + i) 2 0).1 88 4) = 0 then
        (0 : Int32)
      else
        (8190 : Int32)))
def X2_take_b2 (i : Nat) (i1 : Nat) (s1 : mS) (x2 : Int32) : Option ((mS × Int32) ⊕ (mS)) :=
  if 4 ≤ x2 then
    some (.inr s1)
  else
    if vin x2 4 = true then
      if vin x2 4 = true then
        some (.inl (mwI s1 (152 + i) x2.toNatClampNeg (s1.1 (152 + i1) x2.toNatClampNeg), (x2 + 1)))
      else none
    else none
def X2_take (σ : mS) (i : Nat) (i1 : Nat) : Option (Unit × mS) :=
  (lp big (un2 (X2_take_b2 i i1)) (σ, 0)).bind (un1 (fun s3 =>
    some ((), mwI (mwI (mwI (mwI s3 (144 + i) 2 (s3.1 (144 + i1) 2)) (144 + i) 3 ((mwI s3 (144 + i) 2 (s3.1 (144 + i1) 2)).1 (144 + i1) 3)) (144 + i) 4 ((mwI (mwI s3 (144 + i) 2 (s3.1 (144 + i1) 2)) (144 + i) 3 ((mwI s3 (144 + i) 2 (s3.1 (144 + i1) 2)).1 (144 + i1) 3)).1 (144 + i1) 4)) (144 + i) 5 ((mwI (mwI (mwI s3 (144 + i) 2 (s3.1 (144 + i1) 2)) (144 + i) 3 ((mwI s3 (144 + i) 2 (s3.1 (144 + i1) 2)).1 (144 + i1) 3)) (144 + i) 4 ((mwI (mwI s3 (144 + i) 2 (s3.1 (144 + i1) 2)) (144 + i) 3 ((mwI s3 (144 + i) 2 (s3.1 (144 + i1) 2)).1 (144 + i1) 3)).1 (144 + i1) 4)).1 (144 + i1) 5))))
def X2_holds (σ : mS) (i : Nat) (a1 : Int32) : Int32 :=
  if (((σ.1 (144 + i) 3) >>> (a1 &&& 31)) &&& 1) = 1 then
    1
  else
    0
def X2_hasWon (σ : mS) (i : Nat) (a1 : Int32) : Int32 :=
  if (((σ.1 (144 + i) 2) >>> (a1 &&& 31)) &&& 1) = 1 then
    1
  else
    0
def X7_kindAt (σ : mS) (a1 : Int32) : Option Nat :=
  if vin a1 4 = true then
    if vin (σ.1 112 a1.toNatClampNeg) 6 = true then
      some (σ.1 112 a1.toNatClampNeg).toNatClampNeg
    else none
  else none
def X4_heard (a1 : Int32) (a2 : Int32) (a3 : Int32) : Int32 :=
  if a2 = 0 then
    0
  else
    ((1 : Int32) <<< (a2 &&& 31))
def X5_heard (a1 : Int32) (a2 : Int32) (a3 : Int32) : Int32 :=
  ((1 : Int32) <<< (a1 &&& 31))
def X8_behind (a1 : Int32) : Int32 :=
  ((a1 - a1 / 12 * 12) + 1)
def X8_heard (a1 : Int32) (a2 : Int32) (a3 : Int32) : Int32 :=
  if (X0_heard a1 a2 a3) = 0 then
    0
  else
    ((X0_heard a1 a2 a3) ||| ((1 : Int32) <<< ((X8_behind a1) &&& 31)))
def kd_X5_heard (r : Nat) (a1 : Int32) (a2 : Int32) (a3 : Int32) : Int32 :=
  if r = 2 then X0_heard a1 a2 a3 else if r = 4 then X4_heard a1 a2 a3 else if r = 5 then X8_heard a1 a2 a3 else X5_heard a1 a2 a3
def X7_marked_b17 (σ : mS) (a1 : Int32) (a3 : Int32) (x4 : Int32) (x5 : Int32) : Option ((Int32 × Int32) ⊕ (Int32)) :=
  if 6 ≤ x5 then
    some (.inr x4)
  else
    if vin a1 4 = true then
      if vin x5 6 = true then
        some (.inl ((x4 ||| (((a3 >>> ((σ.1 (128 + a1.toNatClampNeg) x5.toNatClampNeg) &&& 31)) &&& 1) <<< (x5 &&& 31))), (x5 + 1)))
      else none
    else none
def X7_marked (σ : mS) (a1 : Int32) (a2 : Int32) (a3 : Int32) : Option Int32 :=
  if vin a1 4 = true then
    if (a3 &&& (σ.1 136 a1.toNatClampNeg)) = 0 then
      some a2
    else
      (lp big (un2 (X7_marked_b17 σ a1 a3)) (a2, 0)).bind (un1 (fun y6 =>
        some y6))
  else none
def J6_bitCount_0f7a4 (a1 : Int32) : Int32 :=
  ((((((((a1 - (((a1).toUInt32 >>> ((1 : Int32).toUInt32 &&& Int32.toUInt32 31)).toInt32 &&& 1431655765)) &&& 858993459) + ((((a1 - (((a1).toUInt32 >>> ((1 : Int32).toUInt32 &&& Int32.toUInt32 31)).toInt32 &&& 1431655765))).toUInt32 >>> ((2 : Int32).toUInt32 &&& Int32.toUInt32 31)).toInt32 &&& 858993459)) + (((((a1 - (((a1).toUInt32 >>> ((1 : Int32).toUInt32 &&& Int32.toUInt32 31)).toInt32 &&& 1431655765)) &&& 858993459) + ((((a1 - (((a1).toUInt32 >>> ((1 : Int32).toUInt32 &&& Int32.toUInt32 31)).toInt32 &&& 1431655765))).toUInt32 >>> ((2 : Int32).toUInt32 &&& Int32.toUInt32 31)).toInt32 &&& 858993459))).toUInt32 >>> ((4 : Int32).toUInt32 &&& Int32.toUInt32 31)).toInt32) &&& 252645135) + (((((((a1 - (((a1).toUInt32 >>> ((1 : Int32).toUInt32 &&& Int32.toUInt32 31)).toInt32 &&& 1431655765)) &&& 858993459) + ((((a1 - (((a1).toUInt32 >>> ((1 : Int32).toUInt32 &&& Int32.toUInt32 31)).toInt32 &&& 1431655765))).toUInt32 >>> ((2 : Int32).toUInt32 &&& Int32.toUInt32 31)).toInt32 &&& 858993459)) + (((((a1 - (((a1).toUInt32 >>> ((1 : Int32).toUInt32 &&& Int32.toUInt32 31)).toInt32 &&& 1431655765)) &&& 858993459) + ((((a1 - (((a1).toUInt32 >>> ((1 : Int32).toUInt32 &&& Int32.toUInt32 31)).toInt32 &&& 1431655765))).toUInt32 >>> ((2 : Int32).toUInt32 &&& Int32.toUInt32 31)).toInt32 &&& 858993459))).toUInt32 >>> ((4 : Int32).toUInt32 &&& Int32.toUInt32 31)).toInt32) &&& 252645135)).toUInt32 >>> ((8 : Int32).toUInt32 &&& Int32.toUInt32 31)).toInt32) + ((((((((a1 - (((a1).toUInt32 >>> ((1 : Int32).toUInt32 &&& Int32.toUInt32 31)).toInt32 &&& 1431655765)) &&& 858993459) + ((((a1 - (((a1).toUInt32 >>> ((1 : Int32).toUInt32 &&& Int32.toUInt32 31)).toInt32 &&& 1431655765))).toUInt32 >>> ((2 : Int32).toUInt32 &&& Int32.toUInt32 31)).toInt32 &&& 858993459)) + (((((a1 - (((a1).toUInt32 >>> ((1 : Int32).toUInt32 &&& Int32.toUInt32 31)).toInt32 &&& 1431655765)) &&& 858993459) + ((((a1 - (((a1).toUInt32 >>> ((1 : Int32).toUInt32 &&& Int32.toUInt32 31)).toInt32 &&& 1431655765))).toUInt32 >>> ((2 : Int32).toUInt32 &&& Int32.toUInt32 31)).toInt32 &&& 858993459))).toUInt32 >>> ((4 : Int32).toUInt32 &&& Int32.toUInt32 31)).toInt32) &&& 252645135) + (((((((a1 - (((a1).toUInt32 >>> ((1 : Int32).toUInt32 &&& Int32.toUInt32 31)).toInt32 &&& 1431655765)) &&& 858993459) + ((((a1 - (((a1).toUInt32 >>> ((1 : Int32).toUInt32 &&& Int32.toUInt32 31)).toInt32 &&& 1431655765))).toUInt32 >>> ((2 : Int32).toUInt32 &&& Int32.toUInt32 31)).toInt32 &&& 858993459)) + (((((a1 - (((a1).toUInt32 >>> ((1 : Int32).toUInt32 &&& Int32.toUInt32 31)).toInt32 &&& 1431655765)) &&& 858993459) + ((((a1 - (((a1).toUInt32 >>> ((1 : Int32).toUInt32 &&& Int32.toUInt32 31)).toInt32 &&& 1431655765))).toUInt32 >>> ((2 : Int32).toUInt32 &&& Int32.toUInt32 31)).toInt32 &&& 858993459))).toUInt32 >>> ((4 : Int32).toUInt32 &&& Int32.toUInt32 31)).toInt32) &&& 252645135)).toUInt32 >>> ((8 : Int32).toUInt32 &&& Int32.toUInt32 31)).toInt32)).toUInt32 >>> ((16 : Int32).toUInt32 &&& Int32.toUInt32 31)).toInt32) &&& 63)
def X5_inUpper (a1 : Int32) : Int32 :=
  (J6_bitCount_0f7a4 (a1 &&& 7))

def X5_inLower (a1 : Int32) : Int32 :=
  (J6_bitCount_0f7a4 (a1 &&& 56))



def X5_lacks (a1 : Int32) : Int32 :=
  (jmin ((3 : Int32) - (X5_inUpper a1)) ((3 : Int32) - (X5_inLower a1)))
def X3_lacks (a1 : Int32) : Int32 :=
  (jmin ((jmax 0 ((2 : Int32) - (X5_inUpper a1))) + (jmax 0 ((2 : Int32) - (X5_inLower a1)))) (X5_lacks a1))


def X9_lacks (a1 : Int32) : Int32 :=
  (((6 : Int32) - (X5_inUpper a1)) - (X5_inLower a1))
def kd_X5_lacks (r : Nat) (a1 : Int32) : Int32 :=
  if r = 1 then X9_lacks a1 else if r = 3 then X3_lacks a1 else if r = 4 then X9_lacks a1 else X5_lacks a1
def X2_ring_b8 (i : Nat) (a1 : Int32) (a2 : Int32) (s1 : mS) (x2 : Int32) : Option ((mS × Int32) ⊕ (mS)) :=
  if (s1.1 88 4) ≤ x2 then
    some (.inr s1)
  else
    if ((a2 >>> (x2 &&& 31)) &&& 1) = 1 then
      (X7_kindAt s1 x2).bind (fun r8 =>
        if vin x2 4 = true then
          (X7_marked s1 x2 (s1.1 (152 + i) x2.toNatClampNeg) (kd_X5_heard r8 a1 (s1.1 (144 + i) 4) (s1.1 (144 + i) 5))).bind (fun r11 =>
            if vin x2 4 = true then
              if vin x2 4 = true then
                if (kd_X5_lacks r8 ((mwI s1 (152 + i) x2.toNatClampNeg r11).1 (152 + i) x2.toNatClampNeg)) = 0 then
                  some (.inl (mwI (mwI s1 (152 + i) x2.toNatClampNeg r11) (144 + i) 2 (((mwI s1 (152 + i) x2.toNatClampNeg r11).1 (144 + i) 2) ||| ((1 : Int32) <<< (x2 &&& 31))), (x2 + 1)))
                else
                  some (.inl (mwI s1 (152 + i) x2.toNatClampNeg r11, (x2 + 1)))
              else none
            else none)
        else none)
    else
      some (.inl (s1, (x2 + 1)))
def X2_ring (σ : mS) (i : Nat) (a1 : Int32) (a2 : Int32) : Option (Int32 × mS) :=
  (lp big (un2 (X2_ring_b8 i a1 a2)) (σ, 0)).bind (un1 (fun s3 =>
    some ((((mwI (mwI (mwI s3 (144 + i) 3 ((s3.1 (144 + i) 3) &&& (((1 : Int32) <<< (a1 &&& 31)) ^^^ (-1)))) (144 + i) 4 a1) (144 + i) 5 (((mwI (mwI s3 (144 + i) 3 ((s3.1 (144 + i) 3) &&& (((1 : Int32) <<< (a1 &&& 31)) ^^^ (-1)))) (144 + i) 4 a1).1 (144 + i) 5) + 1)).1 (144 + i) 2) &&& ((σ.1 (144 + i) 2) ^^^ (-1))), mwI (mwI (mwI s3 (144 + i) 3 ((s3.1 (144 + i) 3) &&& (((1 : Int32) <<< (a1 &&& 31)) ^^^ (-1)))) (144 + i) 4 a1) (144 + i) 5 (((mwI (mwI s3 (144 + i) 3 ((s3.1 (144 + i) 3) &&& (((1 : Int32) <<< (a1 &&& 31)) ^^^ (-1)))) (144 + i) 4 a1).1 (144 + i) 5) + 1))))
def X2_turn (σ : mS) (i : Nat) (a1 : Int32) (a2 : Int32) : Option (Unit × mS) :=
  if vin a1 4 = true then
    if vin a1 4 = true then
      some ((), mwI σ (152 + i) a1.toNatClampNeg ((σ.1 (152 + i) a1.toNatClampNeg) ^^^ ((1 : Int32) <<< (a2 &&& 31))))
    else none
  else none
def X2_allMarks_b4 (σ : mS) (i : Nat) (x1 : Int32) (x2 : Int32) : Option ((Int32 × Int32) ⊕ (Int32)) :=
  if (σ.1 88 4) ≤ x2 then
    some (.inr x1)
  else
    if vin x2 4 = true then
      some (.inl ((x1 + (J6_bitCount_0f7a4 (σ.1 (152 + i) x2.toNatClampNeg))), (x2 + 1)))
    else none
def X2_allMarks (σ : mS) (i : Nat) : Option Int32 :=
  (lp big (un2 (X2_allMarks_b4 σ i)) (0, 0)).bind (un1 (fun y3 =>
    some y3))
def X2_worth (σ : mS) (i : Nat) (a1 : Int32) : Option Int32 :=
  if vin a1 4 = true then
    if (X2_hasWon σ i a1) = 0 then
      some ((J6_bitCount_0f7a4 (σ.1 (152 + i) a1.toNatClampNeg)) + 0)
    else
      some ((J6_bitCount_0f7a4 (σ.1 (152 + i) a1.toNatClampNeg)) + 10)
  else none
def X3_linesOfTwo (a1 : Int32) : Int32 :=
  un1 (fun v3 =>
    if (X5_inLower a1) < 2 then
      (v3 + 0)
    else
      (v3 + 1)
  ) (
    if (X5_inUpper a1) < 2 then
      (0 : Int32)
    else
      (1 : Int32))
def X6_kindBy_b2 (a1 : Int32) (x1 : Int32) : Option ((Int32) ⊕ ((Unit) ⊕ Int32)) :=
  if 6 ≤ x1 then
    some (.inr (.inl ()))
  else
    if vin x1 6 = true then
      if (mLet x1.toNatClampNeg) = a1 then
        some (.inr (.inr x1))
      else
        some (.inl (x1 + 1))
    else none
def X6_kindBy (σ : mS) (a1 : Int32) : Option Int32 :=
  (lp big (un1 (X6_kindBy_b2 a1)) 0).bind (sm1 (fun (_ : Unit) =>
    some (-1)))
def X6_readCard_b25 (i1 : Nat) (a2 : Int32) (a3 : Int32) (s1 : mS) (x3 : Int32) (x7 : Int32) : Option ((Int32) ⊕ ((Unit) ⊕ ((mS × Int32 × Int32) ⊕ ((mS) ⊕ (Int32 × mS))))) :=
  if ((a3 + ((2 : Int32) * x3)) + 1) < x7 then
    some (.inr (.inl ()))
  else
    if x7 < a2 then
      if vin x7 60 = true then
        if (s1.1 (40 + i1) x7.toNatClampNeg) < 48 then
          some (.inr (.inr (.inr (.inr (x7, s1)))))
        else
          if vin x7 60 = true then
            if (s1.1 (40 + i1) x7.toNatClampNeg) ≤ 57 then
              some (.inl (x7 + 1))
            else
              some (.inr (.inr (.inr (.inr (x7, s1)))))
          else none
      else none
    else
      some (.inr (.inr (.inr (.inr (a2, s1)))))
def X6_readCard_b6 (i1 : Nat) (a2 : Int32) (a3 : Int32) (s1 : mS) (x2 : Int32) (x3 : Int32) : Option ((mS × Int32 × Int32) ⊕ ((mS) ⊕ (Int32 × mS))) :=
  if 6 ≤ x3 then
    some (.inr (.inl s1))
  else
    (lp big (un1 (X6_readCard_b25 i1 a2 a3 s1 x3)) (a3 + ((2 : Int32) * x3))).bind (sm1 (fun (_ : Unit) =>
      if vin (a3 + ((2 : Int32) * x3)) 60 = true then
        if vin ((a3 + ((2 : Int32) * x3)) + 1) 60 = true then
          if (((((s1.1 (40 + i1) (a3 + ((2 : Int32) * x3)).toNatClampNeg) - 48) * 10) + (s1.1 (40 + i1) ((a3 + ((2 : Int32) * x3)) + 1).toNatClampNeg)) - 48) < 1 then
            some (.inr (.inr ((a3 + ((2 : Int32) * x3)), s1)))
          else
            if 12 < (((((s1.1 (40 + i1) (a3 + ((2 : Int32) * x3)).toNatClampNeg) - 48) * 10) + (s1.1 (40 + i1) ((a3 + ((2 : Int32) * x3)) + 1).toNatClampNeg)) - 48) then
              some (.inr (.inr ((a3 + ((2 : Int32) * x3)), s1)))
            else
              if ((x2 >>> ((((((s1.1 (40 + i1) (a3 + ((2 : Int32) * x3)).toNatClampNeg) - 48) * 10) + (s1.1 (40 + i1) ((a3 + ((2 : Int32) * x3)) + 1).toNatClampNeg)) - 48) &&& 31)) &&& 1) = 1 then
                some (.inr (.inr ((a3 + ((2 : Int32) * x3)), s1)))
              else
                if vin (s1.1 56 2) 4 = true then
                  if vin x3 6 = true then
                    some (.inl (mwI s1 (80 + (s1.1 56 2).toNatClampNeg) x3.toNatClampNeg (((((s1.1 (40 + i1) (a3 + ((2 : Int32) * x3)).toNatClampNeg) - 48) * 10) + (s1.1 (40 + i1) ((a3 + ((2 : Int32) * x3)) + 1).toNatClampNeg)) - 48), (x2 ||| ((1 : Int32) <<< ((((((s1.1 (40 + i1) (a3 + ((2 : Int32) * x3)).toNatClampNeg) - 48) * 10) + (s1.1 (40 + i1) ((a3 + ((2 : Int32) * x3)) + 1).toNatClampNeg)) - 48) &&& 31))), (x3 + 1)))
                  else none
                else none
        else none
      else none))
def X6_readCard (σ : mS) (i1 : Nat) (a2 : Int32) (a3 : Int32) : Option (Int32 × mS) :=
  (lp big (un3 (X6_readCard_b6 i1 a2 a3)) (σ, 0, 0)).bind (sm1 (fun s4 =>
    some ((-9), s4)))
def X6_read_b7 (i1 : Nat) (a2 : Int32) (s1 : mS) (x2 : Int32) : Option ((mS × Int32) ⊕ ((mS) ⊕ (Int32 × mS))) :=
  if a2 ≤ x2 then
    some (.inr (.inl s1))
  else
    if vin x2 60 = true then
      if (s1.1 (40 + i1) x2.toNatClampNeg) = 32 then
        some (.inl (s1, (x2 + 1)))
      else
        if vin x2 60 = true then
          (X6_kindBy s1 (s1.1 (40 + i1) x2.toNatClampNeg)).bind (fun r12 =>
            if r12 < 0 then
              some (.inr (.inr (x2, s1)))
            else
              if (s1.1 56 2) < 4 then
                bd (X6_readCard s1 i1 a2 (x2 + 1)) (fun r18 s20 =>
                  if r18 = (-9) then
                    if vin (s20.1 56 2) 4 = true then
                      some (.inl (mwI (mwI s20 64 (s20.1 56 2).toNatClampNeg r12) 56 2 (((mwI s20 64 (s20.1 56 2).toNatClampNeg r12).1 56 2) + 1), (x2 + 13)))
                    else none
                  else
                    some (.inr (.inr (r18, s20))))
              else
                some (.inr (.inr (x2, s1))))
        else none
    else none
def X6_read (σ : mS) (i1 : Nat) (a2 : Int32) : Option (Int32 × mS) :=
  (lp big (un2 (X6_read_b7 i1 a2)) (mwI σ 56 2 0, 0)).bind (sm1 (fun s3 =>
    if (s3.1 56 2) = 0 then
      some (a2, s3)
    else
      some ((-9), s3)))
def X7_fillBy_b39 (x2 : Int32) (s9 : mS) (x10 : Int32) : Option ((mS × Int32) ⊕ (mS)) :=
  if 6 ≤ x10 then
    some (.inr s9)
  else
    if vin x2 4 = true then
      if vin x2 4 = true then
        if vin x10 6 = true then
          if vin x10 6 = true then
            if vin x2 4 = true then
              if vin x2 4 = true then
                if vin x10 6 = true then
                  if vin x2 4 = true then
                    some (.inl (mwI (mwI s9 (128 + x2.toNatClampNeg) x10.toNatClampNeg (s9.1 (80 + x2.toNatClampNeg) x10.toNatClampNeg)) 136 x2.toNatClampNeg (((mwI s9 (128 + x2.toNatClampNeg) x10.toNatClampNeg (s9.1 (80 + x2.toNatClampNeg) x10.toNatClampNeg)).1 136 x2.toNatClampNeg) ||| ((1 : Int32) <<< (((mwI s9 (128 + x2.toNatClampNeg) x10.toNatClampNeg (s9.1 (80 + x2.toNatClampNeg) x10.toNatClampNeg)).1 (128 + x2.toNatClampNeg) x10.toNatClampNeg) &&& 31))), (x10 + 1)))
                  else none
                else none
              else none
            else none
          else none
        else none
      else none
    else none
def X7_fillBy_b10 (s1 : mS) (x2 : Int32) : Option ((mS × Int32) ⊕ (mS)) :=
  if (s1.1 88 4) ≤ x2 then
    some (.inr s1)
  else
    if vin x2 4 = true then
      if vin x2 4 = true then
        if vin x2 4 = true then
          (lp big (un2 (X7_fillBy_b39 x2)) (mwI (mwI s1 112 x2.toNatClampNeg (s1.1 64 x2.toNatClampNeg)) 136 x2.toNatClampNeg 0, 0)).bind (un1 (fun s11 =>
            some (.inl (s11, (x2 + 1)))))
        else none
      else none
    else none
def X7_fillBy (σ : mS) : Option (Unit × mS) :=
  (lp big (un2 X7_fillBy_b10) (mwI σ 88 4 (σ.1 56 2), 0)).bind (un1 (fun s3 =>
    some ((), s3)))
def ki_X9 (r : Nat) : Int32 := if r = 1 then 1 else if r = 4 then 1 else 0
def X7_wholeOnes_b4 (σ : mS) (x1 : Int32) (x2 : Int32) : Option ((Int32 × Int32) ⊕ (Int32)) :=
  if (σ.1 88 4) ≤ x2 then
    some (.inr x1)
  else
    (X7_kindAt σ x2).bind (fun r6 =>
      if (ki_X9 r6) = 0 then
        some (.inl (x1, (x2 + 1)))
      else
        some (.inl ((x1 + 1), (x2 + 1))))
def X7_wholeOnes (σ : mS) : Option Int32 :=
  (lp big (un2 (X7_wholeOnes_b4 σ)) (0, 0)).bind (un1 (fun y3 =>
    some y3))
def ki_X0 (r : Nat) : Int32 := if r = 2 then 1 else if r = 5 then 1 else 0
def X7_deafOnes_b4 (σ : mS) (x1 : Int32) (x2 : Int32) : Option ((Int32 × Int32) ⊕ (Int32)) :=
  if (σ.1 88 4) ≤ x2 then
    some (.inr x1)
  else
    (X7_kindAt σ x2).bind (fun r6 =>
      if (ki_X0 r6) = 0 then
        some (.inl (x1, (x2 + 1)))
      else
        some (.inl ((x1 + 1), (x2 + 1))))
def X7_deafOnes (σ : mS) : Option Int32 :=
  (lp big (un2 (X7_deafOnes_b4 σ)) (0, 0)).bind (un1 (fun y3 =>
    some y3))
def X8_pairsOn_b4 (a1 : Int32) (x1 : Int32) (x2 : Int32) : Option ((Int32 × Int32) ⊕ (Int32)) :=
  if 12 < x2 then
    some (.inr x1)
  else
    if ((a1 >>> (x2 &&& 31)) &&& 1) = 1 then
      if ((a1 >>> ((X8_behind x2) &&& 31)) &&& 1) = 1 then
        some (.inl ((x1 + 1), (x2 + 1)))
      else
        some (.inl (x1, (x2 + 1)))
    else
      some (.inl (x1, (x2 + 1)))
def X8_pairsOn (a1 : Int32) : Option Int32 :=
  (lp big (un2 (X8_pairsOn_b4 a1)) (0, 1)).bind (un1 (fun y3 =>
    some y3))
def X10_isRow (a1 : Int32) : Int32 :=
  if a1 < 0 then
    0
  else
    if 6 ≤ a1 then
      0
    else
      1
def X10_found (σ : mS) (a1 : Int32) : Option (Int32 × mS) :=
  if vin a1 6 = true then
    if vin a1 6 = true then
      some ((-3), mwI (mwI σ 0 16 a1) 208 a1.toNatClampNeg (((mwI σ 0 16 a1).1 208 a1.toNatClampNeg) + 1))
    else none
  else none
def X10_row (σ : mS) (a1 : Int32) (a2 : Int32) : Option (Int32 × mS) :=
  if (X10_isRow a1) = 0 then
    some ((-1), σ)
  else
    if a2 ≤ 40 then
      if 0 ≤ a2 then
        if vin a1 6 = true then
          bd (J7_fill_53178 σ (16 + a1.toNatClampNeg) 40 (0)) (fun r9 s11 =>
            if vin a1 6 = true then
              some (a2, mwI s11 24 a1.toNatClampNeg a2)
            else none)
        else none
      else
        bd (X10_found σ (5)) (fun r13 s15 =>
          some (r13, s15))
    else
      some ((-1), σ)
def X10_refusedRow (σ : mS) (a1 : Int32) : Option (Int32 × mS) :=
  if (X10_isRow a1) = 0 then
    some ((-1), σ)
  else
    if vin a1 6 = true then
      if 0 ≤ (σ.1 24 a1.toNatClampNeg) then
        some (0, σ)
      else
        bd (X10_found σ (1)) (fun r7 s9 =>
          some (r7, s9))
    else none
def X10_refusedPlace (σ : mS) (a1 : Int32) (a2 : Int32) : Option (Int32 × mS) :=
  bd (X10_refusedRow σ a1) (fun r1 s3 =>
    if r1 = 0 then
      if a2 < 0 then
        bd (X10_found s3 (2)) (fun r8 s10 =>
          some (r8, s10))
      else
        if vin a1 6 = true then
          if a2 < (s3.1 24 a1.toNatClampNeg) then
            some (0, s3)
          else
            bd (X10_found s3 (2)) (fun r14 s16 =>
              some (r14, s16))
        else none
    else
      some (r1, s3))
def X10_lay (σ : mS) (a1 : Int32) (a2 : Int32) (a3 : Int32) : Option (Int32 × mS) :=
  bd (X10_refusedPlace σ a1 a2) (fun r1 s3 =>
    if r1 = 0 then
      if vin a1 6 = true then
        if vin a2 40 = true then
          if vin a1 6 = true then
            if vin a2 40 = true then
              some (1, mwI (mwI s3 0 13 (s3.1 (16 + a1.toNatClampNeg) a2.toNatClampNeg)) (16 + a1.toNatClampNeg) a2.toNatClampNeg a3)
            else none
          else none
        else none
      else none
    else
      some (r1, s3))
def X10_at (σ : mS) (a1 : Int32) (a2 : Int32) : Option (Int32 × mS) :=
  bd (X10_refusedPlace σ a1 a2) (fun r1 s3 =>
    if r1 = 0 then
      if vin a1 6 = true then
        if vin a2 40 = true then
          some (1, mwI s3 0 13 (s3.1 (16 + a1.toNatClampNeg) a2.toNatClampNeg))
        else none
      else none
    else
      some (r1, s3))
def X10_tear (σ : mS) (a1 : Int32) : Option (Int32 × mS) :=
  bd (X10_refusedRow σ a1) (fun r1 s3 =>
    if r1 = 0 then
      if vin a1 6 = true then
        some (1, mwI s3 24 a1.toNatClampNeg (-1))
      else none
    else
      some (r1, s3))
def X10_reaches (σ : mS) (a1 : Int32) (a2 : Int32) (a3 : Int32) : Option Int32 :=
  if a2 < 0 then
    some 0
  else
    if vin a1 6 = true then
      if ((σ.1 24 a1.toNatClampNeg)).toInt64 < ((a2).toInt64 + (a3).toInt64) then
        some 0
      else
        some 1
    else none
def X10_copy (σ : mS) (a1 : Int32) (a2 : Int32) (a3 : Int32) (a4 : Int32) (a5 : Int32) : Option (Int32 × mS) :=
  if (X10_isRow a1) = 0 then
    some ((-1), σ)
  else
    if (X10_isRow a3) = 0 then
      some ((-1), σ)
    else
      if 0 ≤ a5 then
        if vin a1 6 = true then
          if (σ.1 24 a1.toNatClampNeg) < 0 then
            bd (X10_found σ (1)) (fun r12 s14 =>
              some (r12, s14))
          else
            if vin a3 6 = true then
              if 0 ≤ (σ.1 24 a3.toNatClampNeg) then
                (X10_reaches σ a1 a2 a5).bind (fun r18 =>
                  if r18 = 0 then
                    bd (X10_found σ (2)) (fun r22 s24 =>
                      some (r22, s24))
                  else
                    (X10_reaches σ a3 a4 a5).bind (fun r25 =>
                      if r25 = 0 then
                        bd (X10_found σ (2)) (fun r32 s34 =>
                          some (r32, s34))
                      else
                        if vin a1 6 = true then
                          if vin a3 6 = true then
                            if ((¬ a2 < 0 ∧ ¬ a4 < 0) ∧ ¬ a5 < 0) ∧ a2.toNatClampNeg + a5.toNatClampNeg ≤ 40 ∧ a4.toNatClampNeg + a5.toNatClampNeg ≤ 40 then
                              some (1, mcp σ (16 + a1.toNatClampNeg) a2.toNatClampNeg (16 + a3.toNatClampNeg) a4.toNatClampNeg a5.toNatClampNeg)
                            else none
                          else none
                        else none))
              else
                bd (X10_found σ (1)) (fun r35 s37 =>
                  some (r35, s37))
            else none
        else none
      else
        bd (X10_found σ (5)) (fun r38 s40 =>
          some (r38, s40))
def X10_mean_b35 (a1 : Int32) (s3 : mS) (x9 : Int64) (x10 : Int32) : Option ((Int64 × Int32) ⊕ (Int64)) :=
  if (s3.1 24 a1.toNatClampNeg) ≤ x10 then
    some (.inr x9)
  else
    if vin a1 6 = true then
      if vin x10 40 = true then
        some (.inl ((x9 + ((s3.1 (16 + a1.toNatClampNeg) x10.toNatClampNeg)).toInt64), (x10 + 1)))
      else none
    else none
def X10_mean (σ : mS) (a1 : Int32) : Option (Int32 × mS) :=
  bd (X10_refusedRow σ a1) (fun r1 s3 =>
    if r1 = 0 then
      if vin a1 6 = true then
        if 0 < (s3.1 24 a1.toNatClampNeg) then
          (lp big (un2 (X10_mean_b35 a1 s3)) (0, 0)).bind (un1 (fun y11 =>
            if ¬ ((s3.1 24 a1.toNatClampNeg)).toInt64 = 0 then
              some (1, mwI s3 0 13 (((y11 / ((s3.1 24 a1.toNatClampNeg)).toInt64)).toInt32))
            else none))
        else
          bd (X10_found s3 (4)) (fun r19 s21 =>
            some (r19, s21))
      else none
    else
      some (r1, s3))
def X10_isText (a1 : Int32) : Int32 :=
  if a1 < 0 then
    0
  else
    if 4 ≤ a1 then
      0
    else
      1
def J7_fill_031fb_b5 (k : Nat) (z : Nat) (a2 : Int32) (s1 : mS) (x2 : Int32) : Option ((mS × Int32) ⊕ (mS)) :=
  if (Int32.ofNat z) ≤ x2 then
    some (.inr s1)
  else
    if vin x2 z = true then
      some (.inl (mwI s1 k x2.toNatClampNeg ((a2).toInt8.toInt32), (x2 + 1)))
    else none
def J7_fill_031fb (σ : mS) (k : Nat) (z : Nat) (a2 : Int32) : Option (Unit × mS) :=
  (lp big (un2 (J7_fill_031fb_b5 k z a2)) (σ, 0)).bind (un1 (fun s3 =>
    some ((), s3)))
def X10_text (σ : mS) (a1 : Int32) (a2 : Int32) : Option (Int32 × mS) :=
  if (X10_isText a1) = 0 then
    some ((-1), σ)
  else
    if a2 ≤ 60 then
      if 0 ≤ a2 then
        if vin a1 4 = true then
          bd (J7_fill_031fb σ (40 + a1.toNatClampNeg) 60 (32)) (fun r9 s11 =>
            if vin a1 4 = true then
              some (a2, mwI s11 48 a1.toNatClampNeg a2)
            else none)
        else none
      else
        bd (X10_found σ (5)) (fun r13 s15 =>
          some (r13, s15))
    else
      some ((-1), σ)
def X10_refusedText (σ : mS) (a1 : Int32) : Option (Int32 × mS) :=
  if (X10_isText a1) = 0 then
    some ((-1), σ)
  else
    if vin a1 4 = true then
      if 0 ≤ (σ.1 48 a1.toNatClampNeg) then
        some (0, σ)
      else
        bd (X10_found σ (1)) (fun r7 s9 =>
          some (r7, s9))
    else none
def X10_put (σ : mS) (a1 : Int32) (a2 : Int32) (a3 : Int32) : Option (Int32 × mS) :=
  bd (X10_refusedText σ a1) (fun r1 s3 =>
    if r1 = 0 then
      if a2 < 0 then
        bd (X10_found s3 (2)) (fun r8 s10 =>
          some (r8, s10))
      else
        if vin a1 4 = true then
          if a2 < (s3.1 48 a1.toNatClampNeg) then
            if vin a1 4 = true then
              if vin a2 60 = true then
                if vin a1 4 = true then
                  if vin a2 60 = true then
                    some (((s3.1 (40 + a1.toNatClampNeg) a2.toNatClampNeg) + 1000), mwI s3 (40 + a1.toNatClampNeg) a2.toNatClampNeg (((a3).toInt8.toInt32).toInt8.toInt32))
                  else none
                else none
              else none
            else none
          else
            bd (X10_found s3 (2)) (fun r18 s20 =>
              some (r18, s20))
        else none
    else
      some (r1, s3))
def X10_fault (σ : mS) (a1 : Int32) : Option (Int32 × mS) :=
  bd (X10_refusedText σ a1) (fun r1 s3 =>
    if r1 = 0 then
      if vin a1 4 = true then
        if vin a1 4 = true then
          bd (X6_read s3 a1.toNatClampNeg (s3.1 48 a1.toNatClampNeg)) (fun r8 s10 =>
            some (r8, s10))
        else none
      else none
    else
      some (r1, s3))
def X10_hall_b60 (s16 : mS) (x17 : Int32) : Option ((mS × Int32) ⊕ (mS)) :=
  if 3 ≤ x17 then
    some (.inr s16)
  else
    if vin x17 3 = true then
      some (.inl (mwI s16 (160 + x17.toNatClampNeg) 1 (-1), (x17 + 1)))
    else none
def X10_hall (σ : mS) (a1 : Int32) : Option (Int32 × mS) :=
  bd (X10_refusedText σ a1) (fun r1 s3 =>
    if r1 = 0 then
      if vin a1 4 = true then
        if vin a1 4 = true then
          bd (X6_read s3 a1.toNatClampNeg (s3.1 48 a1.toNatClampNeg)) (fun r8 s10 =>
            if r8 = (-9) then
              bd (X7_fillBy s10) (fun r13 s15 =>
                (lp big (un2 X10_hall_b60) (mwI s15 (160 + 3) 1 0, 0)).bind (un1 (fun s18 =>
                  bd (X2_begin s18 5) (fun r19 s21 =>
                    some ((s21.1 88 4), s21)))))
            else
              some ((-4), s10))
        else none
      else none
    else
      some (r1, s3))
def X10_isPlayer (σ : mS) (a1 : Int32) : Int32 :=
  if a1 < 0 then
    0
  else
    if (σ.1 88 4) ≤ a1 then
      0
    else
      1
def X10_ofPlayer (σ : mS) (a1 : Int32) (a2 : Int32) : Option Int32 :=
  (X7_kindAt σ a1).bind (fun r1 =>
    if vin a1 4 = true then
      if a2 = 0 then
        if vin a1 4 = true then
          some (σ.1 112 a1.toNatClampNeg)
        else none
      else if a2 = 1 then
        if vin a1 4 = true then
          some (σ.1 (152 + 5) a1.toNatClampNeg)
        else none
      else if a2 = 2 then
        some (((σ.1 (144 + 5) 2) >>> (a1 &&& 31)) &&& 1)
      else if a2 = 3 then
        if (kd_X5_lacks r1 (σ.1 (152 + 5) a1.toNatClampNeg)) = 0 then
          some 1
        else
          some 0
      else
        some (kd_X5_lacks r1 (σ.1 (152 + 5) a1.toNatClampNeg))
    else none)
def X10_player (σ : mS) (a1 : Int32) (a2 : Int32) : Option (Int32 × mS) :=
  if (X10_isPlayer σ a1) = 0 then
    some ((-1), σ)
  else
    if a2 < 0 then
      some ((-1), σ)
    else
      if a2 ≤ 4 then
        (X10_ofPlayer σ a1 a2).bind (fun r8 =>
          some (1, mwI σ 0 13 r8))
      else
        some ((-1), σ)
def X10_isPlace (a1 : Int32) : Int32 :=
  if a1 < 0 then
    0
  else
    if 6 ≤ a1 then
      0
    else
      1
def X10_card (σ : mS) (a1 : Int32) (a2 : Int32) : Option (Int32 × mS) :=
  if (X10_isPlayer σ a1) = 0 then
    some ((-1), σ)
  else
    if (X10_isPlace a2) = 0 then
      some ((-1), σ)
    else
      if vin a1 4 = true then
        if vin a2 6 = true then
          some (1, mwI σ 0 13 (σ.1 (128 + a1.toNatClampNeg) a2.toNatClampNeg))
        else none
      else none




def ki_X3 (r : Nat) : Int32 := if r = 3 then 1 else 0
def ki_X4 (r : Nat) : Int32 := if r = 4 then 1 else 0
def ki_X8 (r : Nat) : Int32 := if r = 5 then 1 else 0
def X10_mark (σ : mS) (a1 : Int32) (a2 : Int32) : Option (Int32 × mS) :=
  if (X10_isPlayer σ a1) = 0 then
    some ((-1), σ)
  else
    if a2 < 1 then
      some ((-1), σ)
    else
      if a2 ≤ 5 then
        (X7_kindAt σ a1).bind (fun r8 =>
          if a2 = 1 then
            if (ki_X9 r8) = 0 then
              if a2 = 2 then
                if (ki_X0 r8) = 0 then
                  if a2 = 3 then
                    if (ki_X3 r8) = 0 then
                      if a2 = 4 then
                        if (ki_X4 r8) = 0 then
                          if a2 = 5 then
                            if (ki_X8 r8) = 0 then
                              bd (X10_found σ (3)) (fun r275 s277 =>
                                some (r275, s277))
                            else
                              if vin a1 4 = true then
                                (X8_pairsOn (σ.1 136 a1.toNatClampNeg)).bind (fun r279 =>
                                  some (r279, σ))
                              else none
                          else
                            bd (X10_found σ (3)) (fun r270 s272 =>
                              some (r270, s272))
                        else
                          some ((σ.1 (144 + 5) 4), σ)
                      else
                        if a2 = 5 then
                          if (ki_X8 r8) = 0 then
                            bd (X10_found σ (3)) (fun r260 s262 =>
                              some (r260, s262))
                          else
                            if vin a1 4 = true then
                              (X8_pairsOn (σ.1 136 a1.toNatClampNeg)).bind (fun r264 =>
                                some (r264, σ))
                            else none
                        else
                          bd (X10_found σ (3)) (fun r255 s257 =>
                            some (r255, s257))
                    else
                      if vin a1 4 = true then
                        some ((X3_linesOfTwo (σ.1 (152 + 5) a1.toNatClampNeg)), σ)
                      else none
                  else
                    if a2 = 4 then
                      if (ki_X4 r8) = 0 then
                        if a2 = 5 then
                          if (ki_X8 r8) = 0 then
                            bd (X10_found σ (3)) (fun r243 s245 =>
                              some (r243, s245))
                          else
                            if vin a1 4 = true then
                              (X8_pairsOn (σ.1 136 a1.toNatClampNeg)).bind (fun r247 =>
                                some (r247, σ))
                            else none
                        else
                          bd (X10_found σ (3)) (fun r238 s240 =>
                            some (r238, s240))
                      else
                        some ((σ.1 (144 + 5) 4), σ)
                    else
                      if a2 = 5 then
                        if (ki_X8 r8) = 0 then
                          bd (X10_found σ (3)) (fun r228 s230 =>
                            some (r228, s230))
                        else
                          if vin a1 4 = true then
                            (X8_pairsOn (σ.1 136 a1.toNatClampNeg)).bind (fun r232 =>
                              some (r232, σ))
                          else none
                      else
                        bd (X10_found σ (3)) (fun r223 s225 =>
                          some (r223, s225))
                else
                  some ((X0_callsTillDeaf (σ.1 (144 + 5) 5)), σ)
              else
                if a2 = 3 then
                  if (ki_X3 r8) = 0 then
                    if a2 = 4 then
                      if (ki_X4 r8) = 0 then
                        if a2 = 5 then
                          if (ki_X8 r8) = 0 then
                            bd (X10_found σ (3)) (fun r208 s210 =>
                              some (r208, s210))
                          else
                            if vin a1 4 = true then
                              (X8_pairsOn (σ.1 136 a1.toNatClampNeg)).bind (fun r212 =>
                                some (r212, σ))
                            else none
                        else
                          bd (X10_found σ (3)) (fun r203 s205 =>
                            some (r203, s205))
                      else
                        some ((σ.1 (144 + 5) 4), σ)
                    else
                      if a2 = 5 then
                        if (ki_X8 r8) = 0 then
                          bd (X10_found σ (3)) (fun r193 s195 =>
                            some (r193, s195))
                        else
                          if vin a1 4 = true then
                            (X8_pairsOn (σ.1 136 a1.toNatClampNeg)).bind (fun r197 =>
                              some (r197, σ))
                          else none
                      else
                        bd (X10_found σ (3)) (fun r188 s190 =>
                          some (r188, s190))
                  else
                    if vin a1 4 = true then
                      some ((X3_linesOfTwo (σ.1 (152 + 5) a1.toNatClampNeg)), σ)
                    else none
                else
                  if a2 = 4 then
                    if (ki_X4 r8) = 0 then
                      if a2 = 5 then
                        if (ki_X8 r8) = 0 then
                          bd (X10_found σ (3)) (fun r176 s178 =>
                            some (r176, s178))
                        else
                          if vin a1 4 = true then
                            (X8_pairsOn (σ.1 136 a1.toNatClampNeg)).bind (fun r180 =>
                              some (r180, σ))
                          else none
                      else
                        bd (X10_found σ (3)) (fun r171 s173 =>
                          some (r171, s173))
                    else
                      some ((σ.1 (144 + 5) 4), σ)
                  else
                    if a2 = 5 then
                      if (ki_X8 r8) = 0 then
                        bd (X10_found σ (3)) (fun r161 s163 =>
                          some (r161, s163))
                      else
                        if vin a1 4 = true then
                          (X8_pairsOn (σ.1 136 a1.toNatClampNeg)).bind (fun r165 =>
                            some (r165, σ))
                        else none
                    else
                      bd (X10_found σ (3)) (fun r156 s158 =>
                        some (r156, s158))
            else
              if vin a1 4 = true then
                some ((X9_lacks (σ.1 (152 + 5) a1.toNatClampNeg)), σ)
              else none
          else
            if a2 = 2 then
              if (ki_X0 r8) = 0 then
                if a2 = 3 then
                  if (ki_X3 r8) = 0 then
                    if a2 = 4 then
                      if (ki_X4 r8) = 0 then
                        if a2 = 5 then
                          if (ki_X8 r8) = 0 then
                            bd (X10_found σ (3)) (fun r139 s141 =>
                              some (r139, s141))
                          else
                            if vin a1 4 = true then
                              (X8_pairsOn (σ.1 136 a1.toNatClampNeg)).bind (fun r143 =>
                                some (r143, σ))
                            else none
                        else
                          bd (X10_found σ (3)) (fun r134 s136 =>
                            some (r134, s136))
                      else
                        some ((σ.1 (144 + 5) 4), σ)
                    else
                      if a2 = 5 then
                        if (ki_X8 r8) = 0 then
                          bd (X10_found σ (3)) (fun r124 s126 =>
                            some (r124, s126))
                        else
                          if vin a1 4 = true then
                            (X8_pairsOn (σ.1 136 a1.toNatClampNeg)).bind (fun r128 =>
                              some (r128, σ))
                          else none
                      else
                        bd (X10_found σ (3)) (fun r119 s121 =>
                          some (r119, s121))
                  else
                    if vin a1 4 = true then
                      some ((X3_linesOfTwo (σ.1 (152 + 5) a1.toNatClampNeg)), σ)
                    else none
                else
                  if a2 = 4 then
                    if (ki_X4 r8) = 0 then
                      if a2 = 5 then
                        if (ki_X8 r8) = 0 then
                          bd (X10_found σ (3)) (fun r107 s109 =>
                            some (r107, s109))
                        else
                          if vin a1 4 = true then
                            (X8_pairsOn (σ.1 136 a1.toNatClampNeg)).bind (fun r111 =>
                              some (r111, σ))
                          else none
                      else
                        bd (X10_found σ (3)) (fun r102 s104 =>
                          some (r102, s104))
                    else
                      some ((σ.1 (144 + 5) 4), σ)
                  else
                    if a2 = 5 then
                      if (ki_X8 r8) = 0 then
                        bd (X10_found σ (3)) (fun r92 s94 =>
                          some (r92, s94))
                      else
                        if vin a1 4 = true then
                          (X8_pairsOn (σ.1 136 a1.toNatClampNeg)).bind (fun r96 =>
                            some (r96, σ))
                        else none
                    else
                      bd (X10_found σ (3)) (fun r87 s89 =>
                        some (r87, s89))
              else
                some ((X0_callsTillDeaf (σ.1 (144 + 5) 5)), σ)
            else
              if a2 = 3 then
                if (ki_X3 r8) = 0 then
                  if a2 = 4 then
                    if (ki_X4 r8) = 0 then
                      if a2 = 5 then
                        if (ki_X8 r8) = 0 then
                          bd (X10_found σ (3)) (fun r72 s74 =>
                            some (r72, s74))
                        else
                          if vin a1 4 = true then
                            (X8_pairsOn (σ.1 136 a1.toNatClampNeg)).bind (fun r76 =>
                              some (r76, σ))
                          else none
                      else
                        bd (X10_found σ (3)) (fun r67 s69 =>
                          some (r67, s69))
                    else
                      some ((σ.1 (144 + 5) 4), σ)
                  else
                    if a2 = 5 then
                      if (ki_X8 r8) = 0 then
                        bd (X10_found σ (3)) (fun r57 s59 =>
                          some (r57, s59))
                      else
                        if vin a1 4 = true then
                          (X8_pairsOn (σ.1 136 a1.toNatClampNeg)).bind (fun r61 =>
                            some (r61, σ))
                        else none
                    else
                      bd (X10_found σ (3)) (fun r52 s54 =>
                        some (r52, s54))
                else
                  if vin a1 4 = true then
                    some ((X3_linesOfTwo (σ.1 (152 + 5) a1.toNatClampNeg)), σ)
                  else none
              else
                if a2 = 4 then
                  if (ki_X4 r8) = 0 then
                    if a2 = 5 then
                      if (ki_X8 r8) = 0 then
                        bd (X10_found σ (3)) (fun r40 s42 =>
                          some (r40, s42))
                      else
                        if vin a1 4 = true then
                          (X8_pairsOn (σ.1 136 a1.toNatClampNeg)).bind (fun r44 =>
                            some (r44, σ))
                        else none
                    else
                      bd (X10_found σ (3)) (fun r35 s37 =>
                        some (r35, s37))
                  else
                    some ((σ.1 (144 + 5) 4), σ)
                else
                  if a2 = 5 then
                    if (ki_X8 r8) = 0 then
                      bd (X10_found σ (3)) (fun r25 s27 =>
                        some (r25, s27))
                    else
                      if vin a1 4 = true then
                        (X8_pairsOn (σ.1 136 a1.toNatClampNeg)).bind (fun r29 =>
                          some (r29, σ))
                      else none
                  else
                    bd (X10_found σ (3)) (fun r20 s22 =>
                      some (r20, s22)))
      else
        some ((-1), σ)
def X10_isNumber (a1 : Int32) : Int32 :=
  if a1 < 1 then
    0
  else
    if 12 < a1 then
      0
    else
      1
def X10_doCall (σ : mS) (a1 : Int32) : Option (Int32 × mS) :=
  bd (X1_add σ 3 a1) (fun r1 s3 =>
    bd (X2_ring s3 5 a1 (15)) (fun r4 s6 =>
      some (r4, s6)))
def X10_call (σ : mS) (a1 : Int32) : Option (Int32 × mS) :=
  if (X10_isNumber a1) = 0 then
    some ((-1), σ)
  else
    if (σ.1 88 4) = 0 then
      some ((-4), σ)
    else
      if (X2_holds σ 5 a1) = 0 then
        some ((-4), σ)
      else
        if (σ.1 (160 + 3) 1) < 40 then
          bd (X10_doCall σ a1) (fun r11 s13 =>
            some (r11, s13))
        else
          some ((-2), σ)
def X10_doRub (σ : mS) (a1 : Int32) (a2 : Int32) : Option (Unit × mS) :=
  bd (X1_add σ 3 (((16 : Int32) + (a1 * 6)) + a2)) (fun r1 s3 =>
    bd (X2_turn s3 5 a1 a2) (fun r4 s6 =>
      some ((), s6)))
def X10_rub (σ : mS) (a1 : Int32) (a2 : Int32) : Option (Int32 × mS) :=
  if (X10_isPlayer σ a1) = 0 then
    some ((-1), σ)
  else
    if (X10_isPlace a2) = 0 then
      some ((-1), σ)
    else
      if (σ.1 (160 + 3) 1) < 40 then
        bd (X10_doRub σ a1 a2) (fun r9 s11 =>
          if vin a1 4 = true then
            some ((s11.1 (152 + 5) a1.toNatClampNeg), s11)
          else none)
      else
        some ((-2), σ)
def X10_doAgain_b9 (s4 : mS) (x5 : Int32) : Option ((mS × Int32) ⊕ (mS)) :=
  if (s4.1 (160 + 3) 1) ≤ x5 then
    some (.inr s4)
  else
    if vin x5 40 = true then
      if 16 ≤ (s4.1 (168 + 3) x5.toNatClampNeg) then
        bd (X2_turn s4 5 (((s4.1 (168 + 3) x5.toNatClampNeg) - 16) / 6) (((s4.1 (168 + 3) x5.toNatClampNeg) - 16) - ((s4.1 (168 + 3) x5.toNatClampNeg) - 16) / 6 * 6)) (fun r12 s14 =>
          some (.inl (s14, (x5 + 1))))
      else
        bd (X2_ring s4 5 (s4.1 (168 + 3) x5.toNatClampNeg) (15)) (fun r15 s17 =>
          some (.inl (s17, (x5 + 1))))
    else none
def X10_doAgain (σ : mS) : Option (Unit × mS) :=
  bd (X2_begin σ 5) (fun r1 s3 =>
    (lp big (un2 X10_doAgain_b9) (s3, 0)).bind (un1 (fun s6 =>
      some ((), s6))))
def X10_undo (σ : mS) (a1 : Int32) : Option (Int32 × mS) :=
  if a1 < 0 then
    some ((-1), σ)
  else
    if a1 ≤ (σ.1 (160 + 3) 1) then
      bd (X10_doAgain (mwI σ (160 + 3) 1 a1)) (fun r5 s7 =>
        some (((σ.1 (160 + 3) 1) - a1), s7))
    else
      some ((-1), σ)
def X10_isKeptPlace (a1 : Int32) : Int32 :=
  if a1 < 0 then
    0
  else
    if 3 ≤ a1 then
      0
    else
      1
def X10_keep (σ : mS) (a1 : Int32) : Option (Int32 × mS) :=
  if (X10_isKeptPlace a1) = 0 then
    some ((-1), σ)
  else
    if (σ.1 88 4) = 0 then
      some ((-4), σ)
    else
      if vin a1 3 = true then
        bd (X1_take σ a1.toNatClampNeg 3) (fun r7 s9 =>
          some ((s9.1 (160 + 3) 1), s9))
      else none
def X10_on (σ : mS) (a1 : Int32) : Option (Int32 × mS) :=
  if (X10_isKeptPlace a1) = 0 then
    some ((-1), σ)
  else
    if vin a1 3 = true then
      if 0 ≤ (σ.1 (160 + a1.toNatClampNeg) 1) then
        if vin a1 3 = true then
          bd (X1_take σ 3 a1.toNatClampNeg) (fun r8 s10 =>
            bd (X10_doAgain s10) (fun r11 s13 =>
              some ((s13.1 (160 + 3) 1), s13)))
        else none
      else
        bd (X10_found σ (1)) (fun r14 s16 =>
          some (r14, s16))
    else none
def X10_hears (σ : mS) (a1 : Int32) (a2 : Int32) (a3 : Int32) (a4 : Int32) : Option Int32 :=
  if (X10_isPlayer σ a1) = 0 then
    some (-1)
  else
    if (X10_isNumber a2) = 0 then
      some (-1)
    else
      if a3 < 0 then
        some (-1)
      else
        if a3 ≤ 12 then
          if a3 = a2 then
            some (-1)
          else
            if a4 < 0 then
              some (-1)
            else
              if a4 ≤ 99 then
                (X7_kindAt σ a1).bind (fun r17 =>
                  some (kd_X5_heard r17 a2 a3 a4))
              else
                some (-1)
        else
          some (-1)
def X10_run_b101 (a1 : Int32) (s5 : mS) (s16 : mS) (x17 : Int32) : Option ((mS × Int32) ⊕ (mS × Int32)) :=
  if (s5.1 24 a1.toNatClampNeg) ≤ x17 then
    some (.inr (s16, x17))
  else
    if vin a1 6 = true then
      if vin x17 40 = true then
        if (X2_holds s16 ((0 : Int32).toNatClampNeg) (s16.1 (16 + a1.toNatClampNeg) x17.toNatClampNeg)) = 0 then
          some (.inr (s16, x17))
        else
          if vin a1 6 = true then
            if vin x17 40 = true then
              bd (X2_ring s16 ((0 : Int32).toNatClampNeg) (s16.1 (16 + a1.toNatClampNeg) x17.toNatClampNeg) (15)) (fun r29 s31 =>
                some (.inl (s31, (x17 + 1))))
            else none
          else none
      else none
    else none
def X10_run_b47 (a1 : Int32) (s5 : mS) (x11 : Int32) : Option ((Int32) ⊕ ((Unit) ⊕ (Int32 × mS))) :=
  if (s5.1 24 a1.toNatClampNeg) ≤ x11 then
    some (.inr (.inl ()))
  else
    if vin a1 6 = true then
      if vin x11 40 = true then
        if (X10_isNumber (s5.1 (16 + a1.toNatClampNeg) x11.toNatClampNeg)) = 0 then
          bd (X10_found s5 (3)) (fun r41 s43 =>
            some (.inr (.inr (r41, s43))))
        else
          some (.inl (x11 + 1))
      else none
    else none
def X10_run (σ : mS) (a1 : Int32) : Option (Int32 × mS) :=
  if (σ.1 88 4) = 0 then
    some ((-4), σ)
  else
    bd (X10_refusedRow σ a1) (fun r3 s5 =>
      if r3 = 0 then
        if vin a1 6 = true then
          if (s5.1 24 a1.toNatClampNeg) ≤ 12 then
            (lp big (un1 (X10_run_b47 a1 s5)) 0).bind (sm1 (fun (_ : Unit) =>
              if vin 0 5 = true then
                bd (X2_take s5 ((0 : Int32).toNatClampNeg) 5) (fun r13 s15 =>
                  (lp big (un2 (X10_run_b101 a1 s5)) (s15, 0)).bind (un2 (fun s18 y19 =>
                    some (((mwI s18 0 13 y19).1 (144 + (0 : Int32).toNatClampNeg) 2), mwI s18 0 13 y19))))
              else none))
          else
            bd (X10_found s5 (5)) (fun r46 s48 =>
              some (r46, s48))
        else none
      else
        some (r3, s5))
def X10_stepAhead (σ : mS) (a1 : Int32) (a2 : Int32) (a3 : Int32) : Option (Int32 × mS) :=
  if vin a1 4 = true then
    if vin (a1 + 1) 5 = true then
      if vin a1 5 = true then
        bd (X2_take (mwI σ 192 a1.toNatClampNeg a2) ((a1 + 1).toNatClampNeg) a1.toNatClampNeg) (fun r4 s6 =>
          if vin (a1 + 1) 5 = true then
            bd (X2_ring s6 ((a1 + 1).toNatClampNeg) a2 a3) (fun r8 s10 =>
              some (r8, s10))
          else none)
      else none
    else none
  else none
def X10_safe_b35 (s7 : mS) (x8 : Int32) (x9 : Int32) (x10 : Int32) (x11 : Int32) : Option ((mS × Int32 × Int32 × Int32 × Int32) ⊕ (mS × Int32 × Int32)) :=
  if 12 < x11 then
    some (.inr (s7, x8, x10))
  else
    if (X2_holds s7 5 x11) = 0 then
      some (.inl (s7, x8, x9, x10, (x11 + 1)))
    else
      bd (X10_stepAhead s7 (0) x11 (15)) (fun r20 s22 =>
        un1 (fun y26 =>
          un2 (fun y29 y30 =>
            if (J6_bitCount_0f7a4 r20) = y29 then
              some (.inl (s22, y26, y29, (y30 ||| ((1 : Int32) <<< (x11 &&& 31))), (x11 + 1)))
            else
              some (.inl (s22, y26, y29, y30, (x11 + 1)))
          ) (
            if (J6_bitCount_0f7a4 r20) ≤ x9 then
              (x9, x10)
            else
              ((J6_bitCount_0f7a4 r20), (0 : Int32)))
        ) (
          if (J6_bitCount_0f7a4 r20) = 0 then
            (x8 ||| ((1 : Int32) <<< (x11 &&& 31)))
          else
            x8))
def X10_safe (σ : mS) : Option (Int32 × mS) :=
  if (σ.1 88 4) = 0 then
    some ((-4), σ)
  else
    if vin 0 5 = true then
      bd (X2_take σ ((0 : Int32).toNatClampNeg) 5) (fun r4 s6 =>
        (lp big (un5 X10_safe_b35) (s6, 0, 0, 0, 1)).bind (un3 (fun s12 y13 y14 =>
          some (y13, mwI s12 0 13 y14))))
    else none
def X10_callsAhead (σ : mS) (a1 : Int32) : Option (Int32 × mS) :=
  if vin 0 5 = true then
    bd (X2_take σ ((0 : Int32).toNatClampNeg) 5) (fun r2 s4 =>
      some ((jmin (jmin a1 4) (J6_bitCount_0f7a4 (s4.1 (144 + 5) 3))), s4))
  else none
def X10_winsAhead_b28 (rc : mS → Int32 → Int32 → Int32 → Option (Int32 × mS)) (a1 : Int32) (a2 : Int32) (a3 : Int32) (s7 : mS) (x8 : Int32) : Option ((mS × Int32) ⊕ ((mS) ⊕ (Int32 × mS))) :=
  if 12 < x8 then
    some (.inr (.inl s7))
  else
    if (X2_holds s7 a2.toNatClampNeg x8) = 0 then
      some (.inl (s7, (x8 + 1)))
    else
      bd (X10_stepAhead s7 a2 x8 ((1 : Int32) <<< (a1 &&& 31))) (fun r15 s17 =>
        bd (rc s17 a1 (a2 + 1) a3) (fun r18 s20 =>
          if r18 = 0 then
            some (.inl (s20, (x8 + 1)))
          else
            some (.inr (.inr (1, s20)))))
def X10_winsAhead_F (rc : mS → Int32 → Int32 → Int32 → Option (Int32 × mS)) (σ : mS) (a1 : Int32) (a2 : Int32) (a3 : Int32) : Option (Int32 × mS) :=
  if vin a2 5 = true then
    if a3 ≤ a2 then
      some ((X2_hasWon σ a2.toNatClampNeg a1), σ)
    else
      if a2 < 4 then
        (lp big (un2 (X10_winsAhead_b28 rc a1 a2 a3)) (σ, 1)).bind (sm1 (fun s9 =>
          some (0, s9)))
      else
        some ((X2_hasWon σ a2.toNatClampNeg a1), σ)
  else none
def X10_winsAhead : Nat → mS → Int32 → Int32 → Int32 → Option (Int32 × mS)
  | 0 => fun _ _ _ _ => none
  | f + 1 => X10_winsAhead_F (X10_winsAhead f)
def X10_layTrail (σ : mS) (a1 : Int32) (a2 : Int32) : Option (Unit × mS) :=
  if vin a1 6 = true then
    if ((¬ (0 : Int32) < 0 ∧ ¬ (0 : Int32) < 0) ∧ ¬ a2 < 0) ∧ (0 : Int32).toNatClampNeg + a2.toNatClampNeg ≤ 4 ∧ (0 : Int32).toNatClampNeg + a2.toNatClampNeg ≤ 40 then
      if vin a1 6 = true then
        some ((), mwI (mcp σ 192 (0 : Int32).toNatClampNeg (16 + a1.toNatClampNeg) (0 : Int32).toNatClampNeg a2.toNatClampNeg) 24 a1.toNatClampNeg a2)
      else none
    else none
  else none
def X10_fewest_b27 (a1 : Int32) (a2 : Int32) (r7 : Int32) (s10 : mS) (x11 : Int32) : Option ((mS × Int32) ⊕ ((mS) ⊕ (Int32 × mS))) :=
  if r7 < x11 then
    some (.inr (.inl s10))
  else
    bd (X10_winsAhead 6 s10 a1 (0) x11) (fun r15 s17 =>
      if r15 = 0 then
        some (.inl (s17, (x11 + 1)))
      else
        bd (X10_layTrail s17 a2 x11) (fun r20 s22 =>
          some (.inr (.inr (x11, s22)))))
def X10_fewest (σ : mS) (a1 : Int32) (a2 : Int32) : Option (Int32 × mS) :=
  if (X10_isPlayer σ a1) = 0 then
    some ((-1), σ)
  else
    if (X10_isRow a2) = 0 then
      some ((-1), σ)
    else
      bd (X10_callsAhead σ (4)) (fun r7 s9 =>
        (lp big (un2 (X10_fewest_b27 a1 a2 r7)) (s9, 0)).bind (sm1 (fun s12 =>
          some ((-9), s12))))
def X10_gatherMost_b53 (rc : mS → Int32 → Int32 → Int32 → Option (Unit × mS)) (a1 : Int32) (a2 : Int32) (a3 : Int32) (s12 : mS) (x13 : Int32) : Option ((mS × Int32) ⊕ (mS)) :=
  if 12 < x13 then
    some (.inr s12)
  else
    if (s12.1 88 4) ≤ (s12.1 0 11) then
      some (.inr s12)
    else
      if (X2_holds s12 a2.toNatClampNeg x13) = 0 then
        some (.inl (s12, (x13 + 1)))
      else
        bd (X10_stepAhead s12 a2 x13 (15)) (fun r22 s24 =>
          bd (rc s24 a1 (a2 + 1) a3) (fun r25 s27 =>
            some (.inl (s27, (x13 + 1)))))
def X10_gatherMost_F (rc : mS → Int32 → Int32 → Int32 → Option (Unit × mS)) (σ : mS) (a1 : Int32) (a2 : Int32) (a3 : Int32) : Option (Unit × mS) :=
  if vin a2 5 = true then
    if a3 ≤ a2 then
      if (J6_bitCount_0f7a4 (σ.1 (144 + a2.toNatClampNeg) 2)) ≤ (σ.1 0 11) then
        some ((), σ)
      else
        bd (X10_layTrail (mwI σ 0 11 (J6_bitCount_0f7a4 (σ.1 (144 + a2.toNatClampNeg) 2))) a1 a2) (fun r7 s9 =>
          some ((), s9))
    else
      if a2 < 4 then
        (lp big (un2 (X10_gatherMost_b53 rc a1 a2 a3)) (σ, 1)).bind (un1 (fun s14 =>
          some ((), s14)))
      else
        if (J6_bitCount_0f7a4 (σ.1 (144 + a2.toNatClampNeg) 2)) ≤ (σ.1 0 11) then
          some ((), σ)
        else
          bd (X10_layTrail (mwI σ 0 11 (J6_bitCount_0f7a4 (σ.1 (144 + a2.toNatClampNeg) 2))) a1 a2) (fun r33 s35 =>
            some ((), s35))
  else none
def X10_gatherMost : Nat → mS → Int32 → Int32 → Int32 → Option (Unit × mS)
  | 0 => fun _ _ _ _ => none
  | f + 1 => X10_gatherMost_F (X10_gatherMost f)
def X10_most (σ : mS) (a1 : Int32) (a2 : Int32) : Option (Int32 × mS) :=
  if a1 < 0 then
    some ((-1), σ)
  else
    if 4 < a1 then
      some ((-1), σ)
    else
      if (X10_isRow a2) = 0 then
        some ((-1), σ)
      else
        if (σ.1 88 4) = 0 then
          some ((-4), σ)
        else
          bd (X10_callsAhead (mwI σ 0 11 (-1)) a1) (fun r10 s12 =>
            bd (X10_gatherMost 6 s12 a2 (0) r10) (fun r13 s15 =>
              some ((s15.1 0 11), s15)))
def X10_marksBy (σ : mS) (a1 : Int32) (a2 : Int32) (a3 : Int32) : Option Int32 :=
  if vin a1 6 = true then
    if vin a2 4 = true then
      (X7_marked σ a2 (σ.1 (152 + 5) a2.toNatClampNeg) (kd_X5_heard a1.toNatClampNeg a3 (σ.1 (144 + 5) 4) (σ.1 (144 + 5) 5))).bind (fun r3 =>
        some r3)
    else none
  else none
def X10_which_b25 (σ : mS) (a1 : Int32) (a2 : Int32) (x8 : Int32) (x9 : Int32) : Option ((Int32 × Int32) ⊕ (Int32)) :=
  if 12 < x9 then
    some (.inr x8)
  else
    if (X2_holds σ 5 x9) = 0 then
      some (.inl (x8, (x9 + 1)))
    else
      if vin a1 4 = true then
        (X10_marksBy σ (σ.1 112 a1.toNatClampNeg) a1 x9).bind (fun r17 =>
          if r17 = a2 then
            some (.inl ((x8 ||| ((1 : Int32) <<< (x9 &&& 31))), (x9 + 1)))
          else
            some (.inl (x8, (x9 + 1))))
      else none
def X10_which (σ : mS) (a1 : Int32) (a2 : Int32) : Option Int32 :=
  if (X10_isPlayer σ a1) = 0 then
    some (-1)
  else
    if a2 < 0 then
      some (-1)
    else
      if a2 ≤ 63 then
        (lp big (un2 (X10_which_b25 σ a1 a2)) (0, 1)).bind (un1 (fun y10 =>
          some y10))
      else
        some (-1)
def X10_refusedPairs_b53 (a2 : Int32) (s6 : mS) (x17 : Int32) : Option ((Int32) ⊕ ((Unit) ⊕ (Int32 × mS))) :=
  if (s6.1 24 a2.toNatClampNeg) ≤ (x17 + 1) then
    some (.inr (.inl ()))
  else
    if vin a2 6 = true then
      if vin (x17 + 1) 40 = true then
        if vin a2 6 = true then
          if vin x17 40 = true then
            if (X10_isNumber (s6.1 (16 + a2.toNatClampNeg) x17.toNatClampNeg)) = 0 then
              bd (X10_found s6 (3)) (fun r27 s29 =>
                some (.inr (.inr (r27, s29))))
            else
              if (s6.1 (16 + a2.toNatClampNeg) (x17 + 1).toNatClampNeg) < 0 then
                bd (X10_found s6 (3)) (fun r32 s34 =>
                  some (.inr (.inr (r32, s34))))
              else
                if (s6.1 (16 + a2.toNatClampNeg) (x17 + 1).toNatClampNeg) ≤ 6 then
                  some (.inl (x17 + 2))
                else
                  bd (X10_found s6 (3)) (fun r37 s39 =>
                    some (.inr (.inr (r37, s39))))
          else none
        else none
      else none
    else none
def X10_refusedPairs (σ : mS) (a1 : Int32) (a2 : Int32) : Option (Int32 × mS) :=
  if (X10_isPlayer σ a1) = 0 then
    some ((-1), σ)
  else
    bd (X10_refusedRow σ a2) (fun r4 s6 =>
      if r4 = 0 then
        if vin a2 6 = true then
          if ((s6.1 24 a2.toNatClampNeg) - (s6.1 24 a2.toNatClampNeg) / 2 * 2) = 0 then
            if (s6.1 24 a2.toNatClampNeg) ≤ 16 then
              (lp big (un1 (X10_refusedPairs_b53 a2 s6)) 0).bind (sm1 (fun (_ : Unit) =>
                some (0, s6)))
            else
              bd (X10_found s6 (5)) (fun r42 s44 =>
                some (r42, s44))
          else
            bd (X10_found s6 (5)) (fun r12 s14 =>
              some (r12, s14))
        else none
      else
        some (r4, s6))
def X10_fitsPairs_b41 (σ : mS) (a1 : Int32) (a2 : Int32) (a3 : Int32) (x2 : Int32) (x3 : Int32) (x4 : Int32) (x5 : Int32) (x6 : Int32) : Option ((Int32 × Int32 × Int32 × Int32 × Int32) ⊕ ((Unit) ⊕ Int32)) :=
  if vin a3 6 = true then
    if (σ.1 24 a3.toNatClampNeg) ≤ (x6 + 1) then
      some (.inr (.inl ()))
    else
      if vin a3 6 = true then
        if vin x6 40 = true then
          if ((x3 >>> ((σ.1 (16 + a3.toNatClampNeg) x6.toNatClampNeg) &&& 31)) &&& 1) = 0 then
            some (.inr (.inr 0))
          else
            if vin a1 6 = true then
              (X7_marked σ a2 x2 (kd_X5_heard a1.toNatClampNeg (σ.1 (16 + a3.toNatClampNeg) x6.toNatClampNeg) x4 x5)).bind (fun r15 =>
                if vin a3 6 = true then
                  if vin (x6 + 1) 40 = true then
                    if (J6_bitCount_0f7a4 r15) = (σ.1 (16 + a3.toNatClampNeg) (x6 + 1).toNatClampNeg) then
                      some (.inl (r15, (x3 &&& (((1 : Int32) <<< ((σ.1 (16 + a3.toNatClampNeg) x6.toNatClampNeg) &&& 31)) ^^^ (-1))), (σ.1 (16 + a3.toNatClampNeg) x6.toNatClampNeg), (x5 + 1), (x6 + 2)))
                    else
                      some (.inr (.inr 0))
                  else none
                else none)
            else none
        else none
      else none
  else none
def X10_fitsPairs (σ : mS) (a1 : Int32) (a2 : Int32) (a3 : Int32) : Option Int32 :=
  if vin a2 4 = true then
    (lp big (un5 (X10_fitsPairs_b41 σ a1 a2 a3)) ((σ.1 (152 + 5) a2.toNatClampNeg), (σ.1 (144 + 5) 3), (σ.1 (144 + 5) 4), (σ.1 (144 + 5) 5), 0)).bind (sm1 (fun (_ : Unit) =>
      some 1))
  else none
def X10_fittingKinds_b5 (σ : mS) (a1 : Int32) (a2 : Int32) (x1 : Int32) (x2 : Int32) : Option ((Int32 × Int32) ⊕ (Int32)) :=
  if 6 ≤ x2 then
    some (.inr x1)
  else
    (X10_fitsPairs σ x2 a1 a2).bind (fun r6 =>
      if r6 = 0 then
        some (.inl (x1, (x2 + 1)))
      else
        some (.inl ((x1 ||| ((1 : Int32) <<< (x2 &&& 31))), (x2 + 1))))
def X10_fittingKinds (σ : mS) (a1 : Int32) (a2 : Int32) : Option Int32 :=
  (lp big (un2 (X10_fittingKinds_b5 σ a1 a2)) (0, 0)).bind (un1 (fun y3 =>
    some y3))
def X10_kinds (σ : mS) (a1 : Int32) (a2 : Int32) : Option (Int32 × mS) :=
  bd (X10_refusedPairs σ a1 a2) (fun r1 s3 =>
    if r1 = 0 then
      (X10_fittingKinds s3 a1 a2).bind (fun r6 =>
        some (r6, s3))
    else
      some (r1, s3))
def X10_greatestPart_b14 (a1 : Int32) (a2 : Int32) (a3 : Int32) (s4 : mS) (x5 : Int32) (x6 : Int32) : Option ((mS × Int32 × Int32) ⊕ (mS × Int32)) :=
  if 6 ≤ x6 then
    some (.inr (s4, x5))
  else
    if ((a1 >>> (x6 &&& 31)) &&& 1) = 1 then
      (X10_marksBy s4 x6 a2 a3).bind (fun r13 =>
        if vin (J6_bitCount_0f7a4 (r13 &&& 63)) 7 = true then
          if vin (J6_bitCount_0f7a4 (r13 &&& 63)) 7 = true then
            if vin (J6_bitCount_0f7a4 (r13 &&& 63)) 7 = true then
              some (.inl (mwI s4 200 (J6_bitCount_0f7a4 (r13 &&& 63)).toNatClampNeg ((s4.1 200 (J6_bitCount_0f7a4 (r13 &&& 63)).toNatClampNeg) + 1), (jmax x5 ((mwI s4 200 (J6_bitCount_0f7a4 (r13 &&& 63)).toNatClampNeg ((s4.1 200 (J6_bitCount_0f7a4 (r13 &&& 63)).toNatClampNeg) + 1)).1 200 (J6_bitCount_0f7a4 (r13 &&& 63)).toNatClampNeg)), (x6 + 1)))
            else none
          else none
        else none)
    else
      some (.inl (s4, x5, (x6 + 1)))
def X10_greatestPart (σ : mS) (a1 : Int32) (a2 : Int32) (a3 : Int32) : Option (Int32 × mS) :=
  bd (J7_fill_53178 σ 200 7 (0)) (fun r1 s3 =>
    (lp big (un3 (X10_greatestPart_b14 a1 a2 a3)) (s3, 0, 0)).bind (un2 (fun s7 y8 =>
      some (y8, s7))))
def X10_next_b49 (a1 : Int32) (r6 : Int32) (s12 : mS) (x13 : Int32) (x14 : Int32) (x15 : Int32) : Option ((mS × Int32 × Int32 × Int32) ⊕ (mS × Int32 × Int32)) :=
  if 12 < x15 then
    some (.inr (s12, x13, x14))
  else
    if (X2_holds s12 5 x15) = 0 then
      some (.inl (s12, x13, x14, (x15 + 1)))
    else
      bd (X10_greatestPart s12 r6 a1 x15) (fun r24 s26 =>
        if x13 ≤ r24 then
          some (.inl (s26, x13, x14, (x15 + 1)))
        else
          some (.inl (s26, r24, x15, (x15 + 1))))
def X10_next (σ : mS) (a1 : Int32) (a2 : Int32) : Option (Int32 × mS) :=
  bd (X10_refusedPairs σ a1 a2) (fun r1 s3 =>
    if r1 = 0 then
      (X10_fittingKinds s3 a1 a2).bind (fun r6 =>
        if r6 = 0 then
          some ((-9), s3)
        else
          if (s3.1 (144 + 5) 3) = 0 then
            some ((-9), s3)
          else
            (lp big (un4 (X10_next_b49 a1 r6)) (s3, 7, 0, 1)).bind (un3 (fun s16 y17 y18 =>
              some (y18, mwI s16 0 13 y17))))
    else
      some (r1, s3))
def X10_duelAhead_b63 (rc : mS → Int32 → Int32 → Int32 → Int32 → Option (Int32 × mS)) (a1 : Int32) (a2 : Int32) (a3 : Int32) (a4 : Int32) (v12 : Int32) (s16 : mS) (x17 : Int32) (x18 : Int32) : Option ((mS × Int32 × Int32) ⊕ (mS × Int32)) :=
  if 12 < x18 then
    some (.inr (s16, x17))
  else
    if (X2_holds s16 a3.toNatClampNeg x18) = 0 then
      some (.inl (s16, x17, (x18 + 1)))
    else
      bd (X10_stepAhead s16 a3 x18 (((1 : Int32) <<< (a1 &&& 31)) ||| ((1 : Int32) <<< (a2 &&& 31)))) (fun r26 s28 =>
        bd (rc s28 a1 a2 (a3 + 1) a4) (fun r29 s31 =>
          if v12 = 0 then
            some (.inl (s31, (jmin x17 r29), (x18 + 1)))
          else
            some (.inl (s31, (jmax x17 r29), (x18 + 1)))))
def X10_duelAhead_F (rc : mS → Int32 → Int32 → Int32 → Int32 → Option (Int32 × mS)) (σ : mS) (a1 : Int32) (a2 : Int32) (a3 : Int32) (a4 : Int32) : Option (Int32 × mS) :=
  if vin a3 5 = true then
    if a4 ≤ a3 then
      (X2_worth σ a3.toNatClampNeg a1).bind (fun r4 =>
        (X2_worth σ a3.toNatClampNeg a2).bind (fun r6 =>
          some ((r4 - r6), σ)))
    else
      if a3 < 4 then
        un1 (fun v12 =>
          un1 (fun v15 =>
            (lp big (un3 (X10_duelAhead_b63 rc a1 a2 a3 a4 v12)) (σ, v15, 1)).bind (un2 (fun s19 y20 =>
              some (y20, s19)))
          ) (
            if v12 = 0 then
              (100 : Int32)
            else
              ((-100) : Int32))
        ) (
          if (a3 - a3 / 2 * 2) = 0 then
            (1 : Int32)
          else
            (0 : Int32))
      else
        (X2_worth σ a3.toNatClampNeg a1).bind (fun r44 =>
          (X2_worth σ a3.toNatClampNeg a2).bind (fun r46 =>
            some ((r44 - r46), σ)))
  else none
def X10_duelAhead : Nat → mS → Int32 → Int32 → Int32 → Int32 → Option (Int32 × mS)
  | 0 => fun _ _ _ _ _ => none
  | f + 1 => X10_duelAhead_F (X10_duelAhead f)
def X10_duel (σ : mS) (a1 : Int32) (a2 : Int32) (a3 : Int32) : Option (Int32 × mS) :=
  if (X10_isPlayer σ a1) = 0 then
    some ((-1), σ)
  else
    if (X10_isPlayer σ a2) = 0 then
      some ((-1), σ)
    else
      if a1 = a2 then
        some ((-1), σ)
      else
        if a3 < 0 then
          some ((-1), σ)
        else
          if a3 ≤ 2 then
            bd (X10_callsAhead σ ((2 : Int32) * a3)) (fun r13 s15 =>
              bd (X10_duelAhead 6 s15 a1 a2 (0) r13) (fun r16 s18 =>
                some (1, mwI s18 0 13 r16)))
          else
            some ((-1), σ)
def X10_sumAhead_b54 (rc : mS → Int32 → Int32 → Int32 → Int32 → Option (Int64 × mS)) (a1 : Int32) (a2 : Int32) (a3 : Int32) (a4 : Int32) (s10 : mS) (x11 : Int64) (x12 : Int32) : Option ((mS × Int64 × Int32) ⊕ (mS × Int64)) :=
  if 12 < x12 then
    some (.inr (s10, x11))
  else
    if (X2_holds s10 a3.toNatClampNeg x12) = 0 then
      some (.inl (s10, x11, (x12 + 1)))
    else
      bd (X10_stepAhead s10 a3 x12 ((1 : Int32) <<< (a1 &&& 31))) (fun r20 s22 =>
        bd (rc s22 a1 a2 (a3 + 1) a4) (fun r23 s25 =>
          some (.inl (s25, (x11 + r23), (x12 + 1)))))
def X10_sumAhead_F (rc : mS → Int32 → Int32 → Int32 → Int32 → Option (Int64 × mS)) (σ : mS) (a1 : Int32) (a2 : Int32) (a3 : Int32) (a4 : Int32) : Option (Int64 × mS) :=
  if vin a3 5 = true then
    if a4 ≤ a3 then
      if a2 = 0 then
        if vin a1 4 = true then
          some (((J6_bitCount_0f7a4 (σ.1 (152 + a3.toNatClampNeg) a1.toNatClampNeg))).toInt64, σ)
        else none
      else
        some (((((σ.1 (144 + a3.toNatClampNeg) 2) >>> (a1 &&& 31)) &&& 1)).toInt64, σ)
    else
      if a3 < 4 then
        (lp big (un3 (X10_sumAhead_b54 rc a1 a2 a3 a4)) (σ, 0, 1)).bind (un2 (fun s13 y14 =>
          some (y14, s13)))
      else
        if a2 = 0 then
          if vin a1 4 = true then
            some (((J6_bitCount_0f7a4 (σ.1 (152 + a3.toNatClampNeg) a1.toNatClampNeg))).toInt64, σ)
          else none
        else
          some (((((σ.1 (144 + a3.toNatClampNeg) 2) >>> (a1 &&& 31)) &&& 1)).toInt64, σ)
  else none
def X10_sumAhead : Nat → mS → Int32 → Int32 → Int32 → Int32 → Option (Int64 × mS)
  | 0 => fun _ _ _ _ _ => none
  | f + 1 => X10_sumAhead_F (X10_sumAhead f)
def X10_orders_b17 (σ : mS) (a1 : Int32) (x2 : Int64) (x3 : Int32) : Option ((Int64 × Int32) ⊕ (Int64)) :=
  if a1 ≤ x3 then
    some (.inr x2)
  else
    some (.inl ((x2 * (((J6_bitCount_0f7a4 (σ.1 (144 + 5) 3)) - x3)).toInt64), (x3 + 1)))
def X10_orders (σ : mS) (a1 : Int32) : Option Int64 :=
  (lp big (un2 (X10_orders_b17 σ a1)) (1, 0)).bind (un1 (fun y4 =>
    some y4))
def X10_commonDivisor_b9 (x1 : Int64) (x2 : Int64) (x3 : Int32) : Option ((Int64 × Int64 × Int32) ⊕ (Int64)) :=
  if 100 ≤ x3 then
    some (.inr x1)
  else
    if x2 = 0 then
      some (.inr x1)
    else
      if ¬ x2 = 0 then
        some (.inl (x2, (x1 - x1 / x2 * x2), (x3 + 1)))
      else none
def X10_commonDivisor (a1 : Int64) (a2 : Int64) : Option Int64 :=
  (lp big (un3 X10_commonDivisor_b9) (a1, a2, 0)).bind (un1 (fun y4 =>
    some y4))
def X10_tell (σ : mS) (a1 : Int64) (a2 : Int64) : Option (Unit × mS) :=
  (X10_commonDivisor a1 a2).bind (fun r1 =>
    if r1 ≤ 0 then
      some ((), σ)
    else
      if ¬ r1 = 0 then
        if ¬ r1 = 0 then
          some ((), mwL (mwL σ 0 14 (a1 / r1)) 0 15 (a2 / r1))
        else none
      else none)
def X10_tellAhead (σ : mS) (a1 : Int32) (a2 : Int32) (a3 : Int32) : Option (Int32 × mS) :=
  if (X10_isPlayer σ a1) = 0 then
    some ((-1), σ)
  else
    if a2 < 0 then
      some ((-1), σ)
    else
      if a2 ≤ 3 then
        bd (X10_callsAhead σ a2) (fun r8 s10 =>
          bd (X10_sumAhead 6 s10 a1 a3 (0) r8) (fun r11 s13 =>
            (X10_orders s13 r8).bind (fun r14 =>
              bd (X10_tell s13 r11 r14) (fun r16 s18 =>
                some (1, s18)))))
      else
        some ((-1), σ)
def X10_odds (σ : mS) (a1 : Int32) (a2 : Int32) : Option (Int32 × mS) :=
  bd (X10_tellAhead σ a1 a2 (1)) (fun r1 s3 =>
    some (r1, s3))
def X10_mid (σ : mS) (a1 : Int32) (a2 : Int32) : Option (Int32 × mS) :=
  bd (X10_tellAhead σ a1 a2 (0)) (fun r1 s3 =>
    some (r1, s3))
def X10_doLot_b62 (σ : mS) (x11 : Int32) (x12 : Int32) : Option ((Int32 × Int32) ⊕ (Int32)) :=
  if 12 ≤ x12 then
    some (.inr x11)
  else
    if (X2_holds σ 5 x11) = 0 then
      some (.inl (((x11 - x11 / 12 * 12) + 1), (x12 + 1)))
    else
      some (.inr x11)
def X10_doLot (σ : mS) (a1 : Int32) : Option (Unit × mS) :=
  if ((a1 / 8) - (a1 / 8) / 8 * 8) = 7 then
    if (σ.1 88 4) ≤ 0 then
      some ((), σ)
    else
      if ¬ (σ.1 88 4) = 0 then
        bd (X10_doRub σ (a1 - a1 / (σ.1 88 4) * (σ.1 88 4)) ((a1 / 64) - (a1 / 64) / 6 * 6)) (fun r6 s8 =>
          some ((), s8))
      else none
  else
    if (σ.1 (144 + 5) 3) = 0 then
      if (σ.1 88 4) ≤ 0 then
        some ((), σ)
      else
        if ¬ (σ.1 88 4) = 0 then
          bd (X10_doRub σ (a1 - a1 / (σ.1 88 4) * (σ.1 88 4)) ((a1 / 64) - (a1 / 64) / 6 * 6)) (fun r27 s29 =>
            some ((), s29))
        else none
    else
      (lp big (un2 (X10_doLot_b62 σ)) (((a1 - a1 / 12 * 12) + 1), 0)).bind (un1 (fun y13 =>
        bd (X10_doCall σ y13) (fun r14 s16 =>
          some ((), s16))))
def X10_lots_b62 (a1 : Int32) (s13 : mS) (x14 : Int32) (x15 : Int32) : Option ((mS × Int32 × Int32) ⊕ (mS)) :=
  if a1 ≤ x15 then
    some (.inr s13)
  else
    bd (X10_doLot s13 ((((48271 * (x14).toInt64) - (48271 * (x14).toInt64) / 2147483647 * 2147483647)).toInt32)) (fun r19 s21 =>
      some (.inl (s21, (((48271 * (x14).toInt64) - (48271 * (x14).toInt64) / 2147483647 * 2147483647)).toInt32, (x15 + 1))))
def X10_lots (σ : mS) (a1 : Int32) (a2 : Int32) : Option (Int32 × mS) :=
  if a1 < 1 then
    some ((-1), σ)
  else
    if 20 < a1 then
      some ((-1), σ)
    else
      if a2 < 1 then
        some ((-1), σ)
      else
        if (a2).toInt64 < 2147483647 then
          if (σ.1 88 4) = 0 then
            some ((-4), σ)
          else
            if ((σ.1 (160 + 3) 1) + a1) ≤ 40 then
              (lp big (un3 (X10_lots_b62 a1)) (σ, a2, 0)).bind (un1 (fun s16 =>
                some ((s16.1 (144 + 5) 2), s16)))
            else
              some ((-2), σ)
        else
          some ((-1), σ)
def X10_asked (σ : mS) : Int32 :=
  (σ.1 0 13)
def X10_upper (σ : mS) : Int64 :=
  (σ.2 0 14)
def X10_lower (σ : mS) : Int64 :=
  (σ.2 0 15)
def X10_thoseThere_b10 (σ : mS) (k : Nat) (z : Nat) (x1 : Int32) (x2 : Int32) : Option ((Int32 × Int32) ⊕ (Int32)) :=
  if (Int32.ofNat z) ≤ x2 then
    some (.inr x1)
  else
    if vin x2 z = true then
      if (σ.1 k x2.toNatClampNeg) < 0 then
        some (.inl (x1, (x2 + 1)))
      else
        some (.inl ((x1 + 1), (x2 + 1)))
    else none
def X10_thoseThere (σ : mS) (k : Nat) (z : Nat) : Option Int32 :=
  (lp big (un2 (X10_thoseThere_b10 σ k z)) (0, 0)).bind (un1 (fun y3 =>
    some y3))
def X10_keptHalls_b4 (σ : mS) (x1 : Int32) (x2 : Int32) : Option ((Int32 × Int32) ⊕ (Int32)) :=
  if 3 ≤ x2 then
    some (.inr x1)
  else
    if vin x2 3 = true then
      if (σ.1 (160 + x2.toNatClampNeg) 1) < 0 then
        some (.inl (x1, (x2 + 1)))
      else
        some (.inl ((x1 + 1), (x2 + 1)))
    else none
def X10_keptHalls (σ : mS) : Option Int32 :=
  (lp big (un2 (X10_keptHalls_b4 σ)) (0, 0)).bind (un1 (fun y3 =>
    some y3))
def X10_count (σ : mS) (a1 : Int32) : Option Int32 :=
  if a1 = 0 then
    some (σ.1 88 4)
  else if a1 = 1 then
    some (σ.1 (144 + 5) 5)
  else if a1 = 2 then
    some (σ.1 (160 + 3) 1)
  else if a1 = 3 then
    some (σ.1 (144 + 5) 3)
  else if a1 = 4 then
    some (σ.1 (144 + 5) 4)
  else if a1 = 5 then
    some (σ.1 (144 + 5) 2)
  else if a1 = 6 then
    (X2_allMarks σ 5).bind (fun r13 =>
      some r13)
  else if a1 = 7 then
    (X7_wholeOnes σ).bind (fun r15 =>
      some r15)
  else if a1 = 8 then
    (X7_deafOnes σ).bind (fun r17 =>
      some r17)
  else if a1 = 9 then
    (X10_thoseThere σ 24 6).bind (fun r19 =>
      some r19)
  else if a1 = 10 then
    (X10_thoseThere σ 48 4).bind (fun r21 =>
      some r21)
  else if a1 = 11 then
    (X10_keptHalls σ).bind (fun r23 =>
      some r23)
  else
    some (-1)
def X10_finding (σ : mS) : Int32 :=
  (σ.1 0 16)
def X10_findings (σ : mS) (a1 : Int32) : Option Int32 :=
  if a1 < 1 then
    some (-1)
  else
    if a1 ≤ 5 then
      if vin a1 6 = true then
        some (σ.1 208 a1.toNatClampNeg)
      else none
    else
      some (-1)
def X10_digest_b235 (σ : mS) (x14 : Int32) (x19 : Int64) (x20 : Int32) : Option ((Int64 × Int32) ⊕ (Int64)) :=
  if vin x14 4 = true then
    if (σ.1 48 x14.toNatClampNeg) ≤ x20 then
      some (.inr x19)
    else
      if vin x14 4 = true then
        if vin x20 60 = true then
          some (.inl (((31 * x19) + ((σ.1 (40 + x14.toNatClampNeg) x20.toNatClampNeg)).toInt64), (x20 + 1)))
        else none
      else none
  else none
def X10_digest_b213 (σ : mS) (x13 : Int64) (x14 : Int32) : Option ((Int64 × Int32) ⊕ (Int64)) :=
  if 4 ≤ x14 then
    some (.inr x13)
  else
    if vin x14 4 = true then
      (lp big (un2 (X10_digest_b235 σ x14)) (((31 * x13) + ((σ.1 48 x14.toNatClampNeg)).toInt64), 0)).bind (un1 (fun y21 =>
        some (.inl (y21, (x14 + 1)))))
    else none
def X10_digest_b171 (σ : mS) (x11 : Int32) (x34 : Int64) (x35 : Int32) : Option ((Int64 × Int32) ⊕ (Int64)) :=
  if vin x11 6 = true then
    if (σ.1 24 x11.toNatClampNeg) ≤ x35 then
      some (.inr x34)
    else
      if vin x11 6 = true then
        if vin x35 40 = true then
          some (.inl (((31 * x34) + ((σ.1 (16 + x11.toNatClampNeg) x35.toNatClampNeg)).toInt64), (x35 + 1)))
        else none
      else none
  else none
def X10_digest_b148 (σ : mS) (x10 : Int64) (x11 : Int32) : Option ((Int64 × Int32) ⊕ (Int64)) :=
  if 6 ≤ x11 then
    some (.inr x10)
  else
    if vin x11 6 = true then
      (lp big (un2 (X10_digest_b171 σ x11)) (((31 * x10) + ((σ.1 24 x11.toNatClampNeg)).toInt64), 0)).bind (un1 (fun y36 =>
        some (.inl (y36, (x11 + 1)))))
    else none
def X10_digest_b118 (σ : mS) (x7 : Int64) (x8 : Int32) : Option ((Int64 × Int32) ⊕ (Int64)) :=
  if 3 ≤ x8 then
    some (.inr x7)
  else
    if vin x8 3 = true then
      some (.inl (((31 * x7) + ((σ.1 (160 + x8.toNatClampNeg) 1)).toInt64), (x8 + 1)))
    else none
def X10_digest_b77 (σ : mS) (x5 : Int32) (x56 : Int64) (x57 : Int32) : Option ((Int64 × Int32) ⊕ (Int64)) :=
  if 6 ≤ x57 then
    some (.inr x56)
  else
    if vin x5 4 = true then
      if vin x57 6 = true then
        some (.inl (((31 * x56) + ((σ.1 (128 + x5.toNatClampNeg) x57.toNatClampNeg)).toInt64), (x57 + 1)))
      else none
    else none
def X10_digest_b47 (σ : mS) (x5 : Int32) (x53 : Int64) (x54 : Int32) : Option ((Int64 × Int32) ⊕ (Int64)) :=
  if 4 < x54 then
    some (.inr x53)
  else
    (X10_ofPlayer σ x5 x54).bind (fun r67 =>
      some (.inl (((31 * x53) + (r67).toInt64), (x54 + 1))))
def X10_digest_b33 (σ : mS) (x4 : Int64) (x5 : Int32) : Option ((Int64 × Int32) ⊕ (Int64)) :=
  if (σ.1 88 4) ≤ x5 then
    some (.inr x4)
  else
    (lp big (un2 (X10_digest_b47 σ x5)) (x4, 0)).bind (un1 (fun y55 =>
      (lp big (un2 (X10_digest_b77 σ x5)) (y55, 0)).bind (un1 (fun y58 =>
        some (.inl (y58, (x5 + 1)))))))
def X10_digest_b6 (σ : mS) (x1 : Int64) (x2 : Int32) : Option ((Int64 × Int32) ⊕ (Int64)) :=
  if 11 < x2 then
    some (.inr x1)
  else
    (X10_count σ x2).bind (fun r75 =>
      some (.inl (((31 * x1) + (r75).toInt64), (x2 + 1))))
def X10_digest (σ : mS) : Option Int64 :=
  (lp big (un2 (X10_digest_b6 σ)) (17, 0)).bind (un1 (fun y3 =>
    (lp big (un2 (X10_digest_b33 σ)) (y3, 0)).bind (un1 (fun y6 =>
      (lp big (un2 (X10_digest_b118 σ)) (y6, 0)).bind (un1 (fun y9 =>
        (lp big (un2 (X10_digest_b148 σ)) (y9, 0)).bind (un1 (fun y12 =>
          (lp big (un2 (X10_digest_b213 σ)) (y12, 0)).bind (un1 (fun y15 =>
            some y15))))))))))
def X11_in (a1 : Int64) (a2 : Int64) (a3 : Int64) : Int32 :=
  if a1 < a2 then
    0
  else
    if a3 < a1 then
      0
    else
      1
def X11_has (a1 : Int32) (a2 : Int32) : Int32 :=
  if ((a1 >>> (a2 &&& 31)) &&& 1) = 1 then
    1
  else
    0
def X11_bits_b4 (a1 : Int32) (x1 : Int32) (x2 : Int32) : Option ((Int32 × Int32) ⊕ (Int32)) :=
  if 14 ≤ x2 then
    some (.inr x1)
  else
    some (.inl ((x1 + ((a1 >>> (x2 &&& 31)) &&& 1)), (x2 + 1)))
def X11_bits (a1 : Int32) : Option Int32 :=
  (lp big (un2 (X11_bits_b4 a1)) (0, 0)).bind (un1 (fun y3 =>
    some y3))
def X11_lesser (a1 : Int32) (a2 : Int32) : Int32 :=
  if a2 ≤ a1 then
    a2
  else
    a1
def X11_larger (a1 : Int32) (a2 : Int32) : Int32 :=
  if a2 ≤ a1 then
    a1
  else
    a2
def X11_finds (σ : mS) (a1 : Int32) : Option (Int32 × mS) :=
  if vin a1 6 = true then
    if vin a1 6 = true then
      some ((-3), mwI (mwI σ 0 17 a1) 12 a1.toNatClampNeg (((mwI σ 0 17 a1).1 12 a1.toNatClampNeg) + 1))
    else none
  else none
def X11_tells (σ : mS) (a1 : Int32) : Option (Int32 × mS) :=
  some (1, mwI σ 0 14 a1)
def X11_isRow (a1 : Int32) : Int32 :=
  (X11_in ((a1).toInt64) (0) (5))
def X11_isText (a1 : Int32) : Int32 :=
  (X11_in ((a1).toInt64) (0) (3))
def X11_anew_b9 (a1 : Int32) (a2 : Int32) (s2 : mS) (x3 : Int32) : Option ((mS × Int32) ⊕ (mS)) :=
  if a2 ≤ x3 then
    some (.inr s2)
  else
    if vin (((40 : Int32) * a1) + x3) 240 = true then
      some (.inl (mwI s2 2 (((40 : Int32) * a1) + x3).toNatClampNeg 0, (x3 + 1)))
    else none
def X11_anew (σ : mS) (a1 : Int32) (a2 : Int32) : Option (Unit × mS) :=
  if vin a1 6 = true then
    (lp big (un2 (X11_anew_b9 a1 a2)) (mwI σ 1 a1.toNatClampNeg a2, 0)).bind (un1 (fun s4 =>
      some ((), s4)))
  else none
def X11_row (σ : mS) (a1 : Int32) (a2 : Int32) : Option (Int32 × mS) :=
  if (X11_isRow a1) = 0 then
    some ((-1), σ)
  else
    if a2 ≤ 40 then
      if 0 ≤ a2 then
        bd (X11_anew σ a1 a2) (fun r8 s10 =>
          some (a2, s10))
      else
        bd (X11_finds σ (5)) (fun r11 s13 =>
          some (r11, s13))
    else
      some ((-1), σ)
def X11_lay (σ : mS) (a1 : Int32) (a2 : Int32) (a3 : Int32) : Option (Int32 × mS) :=
  if (X11_isRow a1) = 0 then
    some ((-1), σ)
  else
    if vin a1 6 = true then
      if 0 ≤ (σ.1 1 a1.toNatClampNeg) then
        if vin a1 6 = true then
          if (X11_in ((a2).toInt64) (0) ((((σ.1 1 a1.toNatClampNeg) - 1)).toInt64)) = 0 then
            bd (X11_finds σ (2)) (fun r16 s18 =>
              some (r16, s18))
          else
            if vin (((40 : Int32) * a1) + a2) 240 = true then
              if vin (((40 : Int32) * a1) + a2) 240 = true then
                bd (X11_tells (mwI σ 2 (((40 : Int32) * a1) + a2).toNatClampNeg a3) (σ.1 2 (((40 : Int32) * a1) + a2).toNatClampNeg)) (fun r13 s15 =>
                  some (r13, s15))
              else none
            else none
        else none
      else
        bd (X11_finds σ (1)) (fun r19 s21 =>
          some (r19, s21))
    else none
def X11_at (σ : mS) (a1 : Int32) (a2 : Int32) : Option (Int32 × mS) :=
  if (X11_isRow a1) = 0 then
    some ((-1), σ)
  else
    if vin a1 6 = true then
      if 0 ≤ (σ.1 1 a1.toNatClampNeg) then
        if vin a1 6 = true then
          if (X11_in ((a2).toInt64) (0) ((((σ.1 1 a1.toNatClampNeg) - 1)).toInt64)) = 0 then
            bd (X11_finds σ (2)) (fun r11 s13 =>
              some (r11, s13))
          else
            if vin (((40 : Int32) * a1) + a2) 240 = true then
              bd (X11_tells σ (σ.1 2 (((40 : Int32) * a1) + a2).toNatClampNeg)) (fun r15 s17 =>
                some (r15, s17))
            else none
        else none
      else
        bd (X11_finds σ (1)) (fun r18 s20 =>
          some (r18, s20))
    else none
def X11_tear (σ : mS) (a1 : Int32) : Option (Int32 × mS) :=
  if (X11_isRow a1) = 0 then
    some ((-1), σ)
  else
    if vin a1 6 = true then
      if 0 ≤ (σ.1 1 a1.toNatClampNeg) then
        if vin a1 6 = true then
          some (1, mwI σ 1 a1.toNatClampNeg (-1))
        else none
      else
        bd (X11_finds σ (1)) (fun r8 s10 =>
          some (r8, s10))
    else none
def X11_copy_b143 (a3 : Int32) (a4 : Int32) (a5 : Int32) (s40 : mS) (x41 : Int32) : Option ((mS × Int32) ⊕ (mS)) :=
  if a5 ≤ x41 then
    some (.inr s40)
  else
    if vin x41 40 = true then
      if vin ((((40 : Int32) * a3) + a4) + x41) 240 = true then
        some (.inl (mwI s40 2 ((((40 : Int32) * a3) + a4) + x41).toNatClampNeg (s40.1 3 x41.toNatClampNeg), (x41 + 1)))
      else none
    else none
def X11_copy_b106 (a1 : Int32) (a2 : Int32) (a5 : Int32) (s37 : mS) (x38 : Int32) : Option ((mS × Int32) ⊕ (mS)) :=
  if a5 ≤ x38 then
    some (.inr s37)
  else
    if vin ((((40 : Int32) * a1) + a2) + x38) 240 = true then
      if vin x38 40 = true then
        some (.inl (mwI s37 3 x38.toNatClampNeg (s37.1 2 ((((40 : Int32) * a1) + a2) + x38).toNatClampNeg), (x38 + 1)))
      else none
    else none
def X11_copy (σ : mS) (a1 : Int32) (a2 : Int32) (a3 : Int32) (a4 : Int32) (a5 : Int32) : Option (Int32 × mS) :=
  if (X11_isRow a1) = 0 then
    some ((-1), σ)
  else
    if (X11_isRow a3) = 0 then
      some ((-1), σ)
    else
      if 0 ≤ a5 then
        if vin a1 6 = true then
          if (σ.1 1 a1.toNatClampNeg) < 0 then
            bd (X11_finds σ (1)) (fun r12 s14 =>
              some (r12, s14))
          else
            if vin a3 6 = true then
              if 0 ≤ (σ.1 1 a3.toNatClampNeg) then
                if a2 < 0 then
                  bd (X11_finds σ (2)) (fun r20 s22 =>
                    some (r20, s22))
                else
                  if a4 < 0 then
                    bd (X11_finds σ (2)) (fun r25 s27 =>
                      some (r25, s27))
                  else
                    if vin a1 6 = true then
                      if ((σ.1 1 a1.toNatClampNeg)).toInt64 < ((a2).toInt64 + (a5).toInt64) then
                        bd (X11_finds σ (2)) (fun r31 s33 =>
                          some (r31, s33))
                      else
                        if vin a3 6 = true then
                          if ((a4).toInt64 + (a5).toInt64) ≤ ((σ.1 1 a3.toNatClampNeg)).toInt64 then
                            (lp big (un2 (X11_copy_b106 a1 a2 a5)) (σ, 0)).bind (un1 (fun s39 =>
                              (lp big (un2 (X11_copy_b143 a3 a4 a5)) (s39, 0)).bind (un1 (fun s42 =>
                                some (1, s42)))))
                          else
                            bd (X11_finds σ (2)) (fun r55 s57 =>
                              some (r55, s57))
                        else none
                    else none
              else
                bd (X11_finds σ (1)) (fun r58 s60 =>
                  some (r58, s60))
            else none
        else none
      else
        bd (X11_finds σ (5)) (fun r61 s63 =>
          some (r61, s63))
def X11_mean_b45 (σ : mS) (a1 : Int32) (x10 : Int64) (x11 : Int32) : Option ((Int64 × Int32) ⊕ (Int64)) :=
  if vin a1 6 = true then
    if (σ.1 1 a1.toNatClampNeg) ≤ x11 then
      some (.inr x10)
    else
      if vin (((40 : Int32) * a1) + x11) 240 = true then
        some (.inl ((x10 + ((σ.1 2 (((40 : Int32) * a1) + x11).toNatClampNeg)).toInt64), (x11 + 1)))
      else none
  else none
def X11_mean (σ : mS) (a1 : Int32) : Option (Int32 × mS) :=
  if (X11_isRow a1) = 0 then
    some ((-1), σ)
  else
    if vin a1 6 = true then
      if 0 ≤ (σ.1 1 a1.toNatClampNeg) then
        if vin a1 6 = true then
          if (σ.1 1 a1.toNatClampNeg) = 0 then
            bd (X11_finds σ (4)) (fun r24 s26 =>
              some (r24, s26))
          else
            (lp big (un2 (X11_mean_b45 σ a1)) (0, 0)).bind (un1 (fun y12 =>
              if vin a1 6 = true then
                if ¬ ((σ.1 1 a1.toNatClampNeg)).toInt64 = 0 then
                  bd (X11_tells σ (((y12 / ((σ.1 1 a1.toNatClampNeg)).toInt64)).toInt32)) (fun r15 s17 =>
                    some (r15, s17))
                else none
              else none))
        else none
      else
        bd (X11_finds σ (1)) (fun r27 s29 =>
          some (r27, s29))
    else none
def X11_text_b35 (a1 : Int32) (a2 : Int32) (s9 : mS) (x10 : Int32) : Option ((mS × Int32) ⊕ (mS)) :=
  if a2 ≤ x10 then
    some (.inr s9)
  else
    if vin (((60 : Int32) * a1) + x10) 240 = true then
      some (.inl (mwI s9 5 (((60 : Int32) * a1) + x10).toNatClampNeg ((32 : Int32).toInt8.toInt32), (x10 + 1)))
    else none
def X11_text (σ : mS) (a1 : Int32) (a2 : Int32) : Option (Int32 × mS) :=
  if (X11_isText a1) = 0 then
    some ((-1), σ)
  else
    if a2 ≤ 60 then
      if 0 ≤ a2 then
        if vin a1 4 = true then
          (lp big (un2 (X11_text_b35 a1 a2)) (mwI σ 4 a1.toNatClampNeg a2, 0)).bind (un1 (fun s11 =>
            some (a2, s11)))
        else none
      else
        bd (X11_finds σ (5)) (fun r17 s19 =>
          some (r17, s19))
    else
      some ((-1), σ)
def X11_put (σ : mS) (a1 : Int32) (a2 : Int32) (a3 : Int32) : Option (Int32 × mS) :=
  if (X11_isText a1) = 0 then
    some ((-1), σ)
  else
    if vin a1 4 = true then
      if 0 ≤ (σ.1 4 a1.toNatClampNeg) then
        if vin a1 4 = true then
          if (X11_in ((a2).toInt64) (0) ((((σ.1 4 a1.toNatClampNeg) - 1)).toInt64)) = 0 then
            bd (X11_finds σ (2)) (fun r13 s15 =>
              some (r13, s15))
          else
            if vin (((60 : Int32) * a1) + a2) 240 = true then
              if vin (((60 : Int32) * a1) + a2) 240 = true then
                some (((σ.1 5 (((60 : Int32) * a1) + a2).toNatClampNeg) + 1000), mwI σ 5 (((60 : Int32) * a1) + a2).toNatClampNeg (((a3).toInt8.toInt32).toInt8.toInt32))
              else none
            else none
        else none
      else
        bd (X11_finds σ (1)) (fun r16 s18 =>
          some (r16, s18))
    else none
def X11_kindOf (a1 : Int32) : Int32 :=
  if a1 = 112 then
    0
  else
    if a1 = 119 then
      1
    else
      if a1 = 100 then
        2
      else
        if a1 = 104 then
          3
        else
          if a1 = 108 then
            4
          else
            if a1 = 115 then
              5
            else
              (-1)
def X11_isFigure (σ : mS) (a1 : Int32) (a2 : Int32) : Option Int32 :=
  if vin (((60 : Int32) * a1) + a2) 240 = true then
    some (X11_in (((σ.1 5 (((60 : Int32) * a1) + a2).toNatClampNeg)).toInt64) (48) (57))
  else none
def X11_isOn_b6 (σ : mS) (a1 : Int32) (a2 : Int32) (a3 : Int32) (x1 : Int32) (x2 : Int32) : Option ((Int32 × Int32) ⊕ (Int32)) :=
  if a2 ≤ x2 then
    some (.inr x1)
  else
    if x1 = 0 then
      if vin (((6 : Int32) * a1) + x2) 24 = true then
        if (σ.1 9 (((6 : Int32) * a1) + x2).toNatClampNeg) = a3 then
          some (.inl (1, (x2 + 1)))
        else
          some (.inl (0, (x2 + 1)))
      else none
    else
      some (.inl (1, (x2 + 1)))
def X11_isOn (σ : mS) (a1 : Int32) (a2 : Int32) (a3 : Int32) : Option Int32 :=
  (lp big (un2 (X11_isOn_b6 σ a1 a2 a3)) (0, 0)).bind (un1 (fun y3 =>
    if y3 = 0 ∨ y3 = 1 then
      some y3
    else none))
def X11_numbers_b21 (a1 : Int32) (a3 : Int32) (s1 : mS) (x2 : Int32) (x6 : Int32) : Option ((Int32) ⊕ ((Unit) ⊕ ((mS × Int32) ⊕ ((mS) ⊕ (Int32 × mS))))) :=
  if 2 ≤ x6 then
    some (.inr (.inl ()))
  else
    if vin a1 4 = true then
      if (s1.1 4 a1.toNatClampNeg) ≤ ((a3 + ((2 : Int32) * x2)) + x6) then
        if vin a1 4 = true then
          some (.inr (.inr (.inr (.inr ((X11_lesser ((a3 + ((2 : Int32) * x2)) + x6) (s1.1 4 a1.toNatClampNeg)), s1)))))
        else none
      else
        (X11_isFigure s1 a1 ((a3 + ((2 : Int32) * x2)) + x6)).bind (fun r24 =>
          if r24 = 0 then
            if vin a1 4 = true then
              some (.inr (.inr (.inr (.inr ((X11_lesser ((a3 + ((2 : Int32) * x2)) + x6) (s1.1 4 a1.toNatClampNeg)), s1)))))
            else none
          else
            some (.inl (x6 + 1)))
    else none
def X11_numbers_b3 (a1 : Int32) (a2 : Int32) (a3 : Int32) (s1 : mS) (x2 : Int32) : Option ((mS × Int32) ⊕ ((mS) ⊕ (Int32 × mS))) :=
  if 6 ≤ x2 then
    some (.inr (.inl s1))
  else
    (lp big (un1 (X11_numbers_b21 a1 a3 s1 x2)) 0).bind (sm1 (fun (_ : Unit) =>
      if vin (((60 : Int32) * a1) + (a3 + ((2 : Int32) * x2))) 240 = true then
        if vin ((((60 : Int32) * a1) + (a3 + ((2 : Int32) * x2))) + 1) 240 = true then
          if (X11_in ((((((10 : Int32) * ((s1.1 5 (((60 : Int32) * a1) + (a3 + ((2 : Int32) * x2))).toNatClampNeg) - 48)) + (s1.1 5 ((((60 : Int32) * a1) + (a3 + ((2 : Int32) * x2))) + 1).toNatClampNeg)) - 48)).toInt64) (1) (12)) = 0 then
            some (.inr (.inr ((a3 + ((2 : Int32) * x2)), s1)))
          else
            (X11_isOn s1 a2 x2 ((((10 : Int32) * ((s1.1 5 (((60 : Int32) * a1) + (a3 + ((2 : Int32) * x2))).toNatClampNeg) - 48)) + (s1.1 5 ((((60 : Int32) * a1) + (a3 + ((2 : Int32) * x2))) + 1).toNatClampNeg)) - 48)).bind (fun r12 =>
              if r12 = 0 then
                if vin (((6 : Int32) * a2) + x2) 24 = true then
                  some (.inl (mwI s1 9 (((6 : Int32) * a2) + x2).toNatClampNeg ((((10 : Int32) * ((s1.1 5 (((60 : Int32) * a1) + (a3 + ((2 : Int32) * x2))).toNatClampNeg) - 48)) + (s1.1 5 ((((60 : Int32) * a1) + (a3 + ((2 : Int32) * x2))) + 1).toNatClampNeg)) - 48), (x2 + 1)))
                else none
              else
                some (.inr (.inr ((a3 + ((2 : Int32) * x2)), s1))))
        else none
      else none))
def X11_numbers (σ : mS) (a1 : Int32) (a2 : Int32) (a3 : Int32) : Option (Int32 × mS) :=
  (lp big (un2 (X11_numbers_b3 a1 a2 a3)) (σ, 0)).bind (sm1 (fun s3 =>
    some ((-9), s3)))
def X11_faultOf_b7 (a1 : Int32) (s1 : mS) (x2 : Int32) : Option ((mS × Int32) ⊕ ((mS) ⊕ (Int32 × mS))) :=
  if vin a1 4 = true then
    if (s1.1 4 a1.toNatClampNeg) ≤ x2 then
      some (.inr (.inl s1))
    else
      if vin (((60 : Int32) * a1) + x2) 240 = true then
        if (s1.1 5 (((60 : Int32) * a1) + x2).toNatClampNeg) = 32 then
          some (.inl (s1, (x2 + 1)))
        else
          if vin (((60 : Int32) * a1) + x2) 240 = true then
            if (X11_kindOf (s1.1 5 (((60 : Int32) * a1) + x2).toNatClampNeg)) < 0 then
              some (.inr (.inr (x2, s1)))
            else
              if (s1.1 0 8) = 4 then
                some (.inr (.inr (x2, s1)))
              else
                bd (X11_numbers s1 a1 (s1.1 0 8) (x2 + 1)) (fun r19 s21 =>
                  if r19 = (-9) then
                    if vin (s21.1 0 8) 4 = true then
                      some (.inl (mwI (mwI s21 8 (s21.1 0 8).toNatClampNeg (X11_kindOf (s1.1 5 (((60 : Int32) * a1) + x2).toNatClampNeg))) 0 8 (((mwI s21 8 (s21.1 0 8).toNatClampNeg (X11_kindOf (s1.1 5 (((60 : Int32) * a1) + x2).toNatClampNeg))).1 0 8) + 1), (x2 + 13)))
                    else none
                  else
                    some (.inr (.inr (r19, s21))))
          else none
      else none
  else none
def X11_faultOf (σ : mS) (a1 : Int32) : Option (Int32 × mS) :=
  (lp big (un2 (X11_faultOf_b7 a1)) (mwI σ 0 8 0, 0)).bind (sm1 (fun s3 =>
    if (s3.1 0 8) = 0 then
      if vin a1 4 = true then
        some ((s3.1 4 a1.toNatClampNeg), s3)
      else none
    else
      some ((-9), s3)))
def X11_fault (σ : mS) (a1 : Int32) : Option (Int32 × mS) :=
  if (X11_isText a1) = 0 then
    some ((-1), σ)
  else
    if vin a1 4 = true then
      if 0 ≤ (σ.1 4 a1.toNatClampNeg) then
        bd (X11_faultOf σ a1) (fun r7 s9 =>
          some (r7, s9))
      else
        bd (X11_finds σ (1)) (fun r10 s12 =>
          some (r10, s12))
    else none
def X11_hall_b139 (s21 : mS) (x22 : Int32) : Option ((mS × Int32) ⊕ (mS)) :=
  if 3 ≤ x22 then
    some (.inr s21)
  else
    if vin x22 3 = true then
      some (.inl (mwI s21 11 x22.toNatClampNeg (-1), (x22 + 1)))
    else none
def X11_hall_b102 (s18 : mS) (x19 : Int32) : Option ((mS × Int32) ⊕ (mS)) :=
  if 8 ≤ x19 then
    some (.inr s18)
  else
    if x19 = 5 then
      if vin x19 1360 = true then
        some (.inl (mwI s18 10 x19.toNatClampNeg 8190, (x19 + 1)))
      else none
    else
      if vin x19 1360 = true then
        some (.inl (mwI s18 10 x19.toNatClampNeg 0, (x19 + 1)))
      else none
def X11_hall_b76 (s15 : mS) (x16 : Int32) : Option ((mS × Int32) ⊕ (mS)) :=
  if 24 ≤ x16 then
    some (.inr s15)
  else
    if vin x16 24 = true then
      if vin x16 24 = true then
        some (.inl (mwI s15 7 x16.toNatClampNeg (s15.1 9 x16.toNatClampNeg), (x16 + 1)))
      else none
    else none
def X11_hall_b48 (s12 : mS) (x13 : Int32) : Option ((mS × Int32) ⊕ (mS)) :=
  if (s12.1 0 5) ≤ x13 then
    some (.inr s12)
  else
    if vin x13 4 = true then
      if vin x13 4 = true then
        some (.inl (mwI s12 6 x13.toNatClampNeg (s12.1 8 x13.toNatClampNeg), (x13 + 1)))
      else none
    else none
def X11_hall (σ : mS) (a1 : Int32) : Option (Int32 × mS) :=
  if (X11_isText a1) = 0 then
    some ((-1), σ)
  else
    if vin a1 4 = true then
      if 0 ≤ (σ.1 4 a1.toNatClampNeg) then
        bd (X11_faultOf σ a1) (fun r7 s9 =>
          if r7 = (-9) then
            (lp big (un2 X11_hall_b48) (mwI s9 0 5 (s9.1 0 8), 0)).bind (un1 (fun s14 =>
              (lp big (un2 X11_hall_b76) (s14, 0)).bind (un1 (fun s17 =>
                (lp big (un2 X11_hall_b102) (s17, 0)).bind (un1 (fun s20 =>
                  (lp big (un2 X11_hall_b139) (mwI s20 0 12 0, 0)).bind (un1 (fun s23 =>
                    some ((s23.1 0 5), s23)))))))))
          else
            some ((-4), s9))
      else
        bd (X11_finds σ (1)) (fun r49 s51 =>
          some (r49, s51))
    else none
def X11_isPlayer (σ : mS) (a1 : Int32) : Int32 :=
  (X11_in ((a1).toInt64) (0) ((((σ.1 0 5) - 1)).toInt64))
def X11_isA (a1 : Int32) (a2 : Int32) : Int32 :=
  if a1 = a2 then
    1
  else
    if a2 = 0 then
      1
    else
      if a2 = 1 then
        if a1 = 4 then
          1
        else
          if a2 = 2 then
            if a1 = 5 then
              1
            else
              0
          else
            0
      else
        if a2 = 2 then
          if a1 = 5 then
            1
          else
            0
        else
          0
def X11_heard (a1 : Int32) (a2 : Int32) (a3 : Int32) (a4 : Int32) : Int32 :=
  if a1 = 4 then
    if a3 = 0 then
      0
    else
      ((1 : Int32) <<< (a3 &&& 31))
  else
    if (X11_isA a1 (2)) = 0 then
      if a1 = 5 then
        (((1 : Int32) <<< (a2 &&& 31)) ||| ((1 : Int32) <<< (((a2 - a2 / 12 * 12) + 1) &&& 31)))
      else
        ((1 : Int32) <<< (a2 &&& 31))
    else
      if (a4 - a4 / 3 * 3) = 2 then
        0
      else
        if a1 = 5 then
          (((1 : Int32) <<< (a2 &&& 31)) ||| ((1 : Int32) <<< (((a2 - a2 / 12 * 12) + 1) &&& 31)))
        else
          ((1 : Int32) <<< (a2 &&& 31))
def X11_needs (a1 : Int32) (a2 : Int32) : Option Int32 :=
  (X11_bits (a2 &&& 7)).bind (fun r1 =>
    (X11_bits (a2 >>> ((3 : Int32) &&& 31))).bind (fun r3 =>
      if (X11_isA a1 (1)) = 0 then
        if a1 = 3 then
          some (X11_lesser (X11_lesser ((3 : Int32) - r1) ((3 : Int32) - r3)) ((X11_larger (0) (((3 : Int32) - r1) - 1)) + (X11_larger (0) (((3 : Int32) - r3) - 1))))
        else
          some (X11_lesser ((3 : Int32) - r1) ((3 : Int32) - r3))
      else
        some (((3 : Int32) - r1) + ((3 : Int32) - r3))))
def X11_marksBy_b5 (σ : mS) (a1 : Int32) (a2 : Int32) (x1 : Int32) (x2 : Int32) : Option ((Int32 × Int32) ⊕ (Int32)) :=
  if 6 ≤ x2 then
    some (.inr x1)
  else
    if vin (((6 : Int32) * a1) + x2) 24 = true then
      if (X11_has a2 (σ.1 7 (((6 : Int32) * a1) + x2).toNatClampNeg)) = 0 then
        some (.inl ((x1 ||| 0), (x2 + 1)))
      else
        some (.inl ((x1 ||| ((1 : Int32) <<< (x2 &&& 31))), (x2 + 1)))
    else none
def X11_marksBy (σ : mS) (a1 : Int32) (a2 : Int32) : Option Int32 :=
  (lp big (un2 (X11_marksBy_b5 σ a1 a2)) (0, 0)).bind (un1 (fun y3 =>
    some y3))
def X11_calls_b5 (a1 : Int32) (a2 : Int32) (s1 : mS) (x2 : Int32) (x3 : Int32) : Option ((mS × Int32 × Int32) ⊕ (mS × Int32)) :=
  if (s1.1 0 5) ≤ x3 then
    some (.inr (s1, x2))
  else
    if vin x3 4 = true then
      if vin (a1 + 7) 1360 = true then
        if vin (a1 + 6) 1360 = true then
          if vin (a1 + x3) 1360 = true then
            (X11_marksBy s1 x3 (X11_heard (s1.1 6 x3.toNatClampNeg) a2 (s1.1 10 (a1 + 7).toNatClampNeg) (s1.1 10 (a1 + 6).toNatClampNeg))).bind (fun r21 =>
              if vin (a1 + x3) 1360 = true then
                if vin x3 4 = true then
                  if vin (a1 + x3) 1360 = true then
                    (X11_needs ((mwI s1 10 (a1 + x3).toNatClampNeg ((s1.1 10 (a1 + x3).toNatClampNeg) ||| r21)).1 6 x3.toNatClampNeg) ((mwI s1 10 (a1 + x3).toNatClampNeg ((s1.1 10 (a1 + x3).toNatClampNeg) ||| r21)).1 10 (a1 + x3).toNatClampNeg)).bind (fun r26 =>
                      if r26 = 0 then
                        some (.inl (mwI s1 10 (a1 + x3).toNatClampNeg ((s1.1 10 (a1 + x3).toNatClampNeg) ||| r21), (x2 ||| ((1 : Int32) <<< (x3 &&& 31))), (x3 + 1)))
                      else
                        some (.inl (mwI s1 10 (a1 + x3).toNatClampNeg ((s1.1 10 (a1 + x3).toNatClampNeg) ||| r21), (x2 ||| 0), (x3 + 1))))
                  else none
                else none
              else none)
          else none
        else none
      else none
    else none
def X11_calls (σ : mS) (a1 : Int32) (a2 : Int32) : Option (Int32 × mS) :=
  (lp big (un3 (X11_calls_b5 a1 a2)) (σ, 0, 0)).bind (un2 (fun s4 y5 =>
    if vin (a1 + 4) 1360 = true then
      if vin (a1 + 4) 1360 = true then
        if vin (a1 + 4) 1360 = true then
          if vin (a1 + 5) 1360 = true then
            if vin (a1 + 5) 1360 = true then
              if vin (a1 + 6) 1360 = true then
                if vin (a1 + 6) 1360 = true then
                  if vin (a1 + 7) 1360 = true then
                    some ((y5 &&& ((s4.1 10 (a1 + 4).toNatClampNeg) ^^^ (-1))), mwI (mwI (mwI (mwI s4 10 (a1 + 4).toNatClampNeg ((s4.1 10 (a1 + 4).toNatClampNeg) ||| y5)) 10 (a1 + 5).toNatClampNeg (((mwI s4 10 (a1 + 4).toNatClampNeg ((s4.1 10 (a1 + 4).toNatClampNeg) ||| y5)).1 10 (a1 + 5).toNatClampNeg) &&& (((1 : Int32) <<< (a2 &&& 31)) ^^^ (-1)))) 10 (a1 + 6).toNatClampNeg (((mwI (mwI s4 10 (a1 + 4).toNatClampNeg ((s4.1 10 (a1 + 4).toNatClampNeg) ||| y5)) 10 (a1 + 5).toNatClampNeg (((mwI s4 10 (a1 + 4).toNatClampNeg ((s4.1 10 (a1 + 4).toNatClampNeg) ||| y5)).1 10 (a1 + 5).toNatClampNeg) &&& (((1 : Int32) <<< (a2 &&& 31)) ^^^ (-1)))).1 10 (a1 + 6).toNatClampNeg) + 1)) 10 (a1 + 7).toNatClampNeg a2)
                  else none
                else none
              else none
            else none
          else none
        else none
      else none
    else none))
def X11_told (σ : mS) (a1 : Int32) (a2 : Int32) : Option Int32 :=
  if a2 = 0 then
    if vin a1 4 = true then
      some (σ.1 6 a1.toNatClampNeg)
    else none
  else
    if a2 = 1 then
      if vin a1 1360 = true then
        some (σ.1 10 a1.toNatClampNeg)
      else none
    else
      if a2 = 2 then
        if vin 4 1360 = true then
          some (((σ.1 10 (4 : Int32).toNatClampNeg) >>> (a1 &&& 31)) &&& 1)
        else none
      else
        if a2 = 3 then
          if vin a1 4 = true then
            if vin a1 1360 = true then
              (X11_needs (σ.1 6 a1.toNatClampNeg) (σ.1 10 a1.toNatClampNeg)).bind (fun r15 =>
                if r15 = 0 then
                  some 1
                else
                  some 0)
            else none
          else none
        else
          if vin a1 4 = true then
            if vin a1 1360 = true then
              (X11_needs (σ.1 6 a1.toNatClampNeg) (σ.1 10 a1.toNatClampNeg)).bind (fun r11 =>
                some r11)
            else none
          else none
def X11_player (σ : mS) (a1 : Int32) (a2 : Int32) : Option (Int32 × mS) :=
  if (X11_isPlayer σ a1) = 0 then
    some ((-1), σ)
  else
    if (X11_in ((a2).toInt64) (0) (4)) = 0 then
      some ((-1), σ)
    else
      (X11_told σ a1 a2).bind (fun r7 =>
        bd (X11_tells σ r7) (fun r9 s11 =>
          some (r9, s11)))
def X11_card (σ : mS) (a1 : Int32) (a2 : Int32) : Option (Int32 × mS) :=
  if (X11_isPlayer σ a1) = 0 then
    some ((-1), σ)
  else
    if (X11_in ((a2).toInt64) (0) (5)) = 0 then
      some ((-1), σ)
    else
      if vin (((6 : Int32) * a1) + a2) 24 = true then
        bd (X11_tells σ (σ.1 7 (((6 : Int32) * a1) + a2).toNatClampNeg)) (fun r8 s10 =>
          some (r8, s10))
      else none
def X11_mark_b135 (σ : mS) (a1 : Int32) (x20 : Int32) (x21 : Int32) : Option ((Int32 × Int32) ⊕ (Int32)) :=
  if 6 ≤ x21 then
    some (.inr x20)
  else
    if vin (((6 : Int32) * a1) + x21) 24 = true then
      (X11_marksBy σ a1 ((1 : Int32) <<< ((((σ.1 7 (((6 : Int32) * a1) + x21).toNatClampNeg) - (σ.1 7 (((6 : Int32) * a1) + x21).toNatClampNeg) / 12 * 12) + 1) &&& 31))).bind (fun r26 =>
        if r26 = 0 then
          some (.inl ((x20 + 0), (x21 + 1)))
        else
          some (.inl ((x20 + 1), (x21 + 1))))
    else none
def X11_mark (σ : mS) (a1 : Int32) (a2 : Int32) : Option (Int32 × mS) :=
  if (X11_isPlayer σ a1) = 0 then
    some ((-1), σ)
  else
    if (X11_in ((a2).toInt64) (1) (5)) = 0 then
      some ((-1), σ)
    else
      if vin a1 4 = true then
        if (X11_isA (σ.1 6 a1.toNatClampNeg) a2) = 0 then
          bd (X11_finds σ (3)) (fun r49 s51 =>
            some (r49, s51))
        else
          if vin a1 1360 = true then
            if a2 = 1 then
              (X11_bits (σ.1 10 a1.toNatClampNeg)).bind (fun r47 =>
                some (((6 : Int32) - r47), σ))
            else
              if a2 = 2 then
                if vin 6 1360 = true then
                  some (((2 : Int32) - ((σ.1 10 (6 : Int32).toNatClampNeg) - (σ.1 10 (6 : Int32).toNatClampNeg) / 3 * 3)), σ)
                else none
              else
                if a2 = 3 then
                  (X11_bits ((σ.1 10 a1.toNatClampNeg) &&& 7)).bind (fun r33 =>
                    un1 (fun v37 =>
                      (X11_bits ((σ.1 10 a1.toNatClampNeg) >>> ((3 : Int32) &&& 31))).bind (fun r38 =>
                        if r38 ≤ 1 then
                          some ((v37 + 0), σ)
                        else
                          some ((v37 + 1), σ))
                    ) (
                      if r33 ≤ 1 then
                        (0 : Int32)
                      else
                        (1 : Int32)))
                else
                  if a2 = 4 then
                    if vin 7 1360 = true then
                      some ((σ.1 10 (7 : Int32).toNatClampNeg), σ)
                    else none
                  else
                    (lp big (un2 (X11_mark_b135 σ a1)) (0, 0)).bind (un1 (fun y22 =>
                      some (y22, σ)))
          else none
      else none
def X11_copies_b3 (a1 : Int32) (a2 : Int32) (a3 : Int32) (s1 : mS) (x2 : Int32) : Option ((mS × Int32) ⊕ (mS)) :=
  if a3 ≤ x2 then
    some (.inr s1)
  else
    if vin (a1 + x2) 1360 = true then
      if vin (a2 + x2) 1360 = true then
        some (.inl (mwI s1 10 (a2 + x2).toNatClampNeg (s1.1 10 (a1 + x2).toNatClampNeg), (x2 + 1)))
      else none
    else none
def X11_copies (σ : mS) (a1 : Int32) (a2 : Int32) (a3 : Int32) : Option (Unit × mS) :=
  (lp big (un2 (X11_copies_b3 a1 a2 a3)) (σ, 0)).bind (un1 (fun s3 =>
    some ((), s3)))
def X11_known (σ : mS) : Option (Unit × mS) :=
  bd (X11_copies (mwI σ 0 12 ((σ.1 0 12) + 1)) (0) (((mwI σ 0 12 ((σ.1 0 12) + 1)).1 0 12) * 8) (8)) (fun r1 s3 =>
    some ((), s3))
def X11_call (σ : mS) (a1 : Int32) : Option (Int32 × mS) :=
  if (X11_in ((a1).toInt64) (1) (12)) = 0 then
    some ((-1), σ)
  else
    if (σ.1 0 5) = 0 then
      some ((-4), σ)
    else
      if vin 5 1360 = true then
        if (X11_has (σ.1 10 (5 : Int32).toNatClampNeg) a1) = 0 then
          some ((-4), σ)
        else
          if (σ.1 0 12) = 40 then
            some ((-2), σ)
          else
            bd (X11_known σ) (fun r12 s14 =>
              bd (X11_calls s14 (0) a1) (fun r15 s17 =>
                some (r15, s17)))
      else none
def X11_rub (σ : mS) (a1 : Int32) (a2 : Int32) : Option (Int32 × mS) :=
  if (X11_isPlayer σ a1) = 0 then
    some ((-1), σ)
  else
    if (X11_in ((a2).toInt64) (0) (5)) = 0 then
      some ((-1), σ)
    else
      if (σ.1 0 12) = 40 then
        some ((-2), σ)
      else
        bd (X11_known σ) (fun r9 s11 =>
          if vin a1 1360 = true then
            if vin a1 1360 = true then
              if vin a1 1360 = true then
                some (((mwI s11 10 a1.toNatClampNeg ((s11.1 10 a1.toNatClampNeg) ^^^ ((1 : Int32) <<< (a2 &&& 31)))).1 10 a1.toNatClampNeg), mwI s11 10 a1.toNatClampNeg ((s11.1 10 a1.toNatClampNeg) ^^^ ((1 : Int32) <<< (a2 &&& 31))))
              else none
            else none
          else none)
def X11_undo (σ : mS) (a1 : Int32) : Option (Int32 × mS) :=
  if (X11_in ((a1).toInt64) (0) (((σ.1 0 12)).toInt64)) = 0 then
    some ((-1), σ)
  else
    if ((σ.1 0 12) - a1) ≤ 0 then
      some (((σ.1 0 12) - a1), σ)
    else
      bd (X11_copies σ ((a1 + 1) * 8) (0) (8)) (fun r6 s8 =>
        some (((σ.1 0 12) - a1), mwI s8 0 12 a1))
def X11_keep (σ : mS) (a1 : Int32) : Option (Int32 × mS) :=
  if (X11_in ((a1).toInt64) (0) (2)) = 0 then
    some ((-1), σ)
  else
    if (σ.1 0 5) = 0 then
      some ((-4), σ)
    else
      bd (X11_copies σ (0) ((328 : Int32) * (a1 + 1)) (328)) (fun r6 s8 =>
        if vin a1 3 = true then
          some (((mwI s8 11 a1.toNatClampNeg (s8.1 0 12)).1 0 12), mwI s8 11 a1.toNatClampNeg (s8.1 0 12))
        else none)
def X11_on (σ : mS) (a1 : Int32) : Option (Int32 × mS) :=
  if (X11_in ((a1).toInt64) (0) (2)) = 0 then
    some ((-1), σ)
  else
    if vin a1 3 = true then
      if 0 ≤ (σ.1 11 a1.toNatClampNeg) then
        bd (X11_copies σ ((328 : Int32) * (a1 + 1)) (0) (328)) (fun r7 s9 =>
          if vin a1 3 = true then
            some (((mwI s9 0 12 (s9.1 11 a1.toNatClampNeg)).1 0 12), mwI s9 0 12 (s9.1 11 a1.toNatClampNeg))
          else none)
      else
        bd (X11_finds σ (1)) (fun r11 s13 =>
          some (r11, s13))
    else none
def X11_hears (σ : mS) (a1 : Int32) (a2 : Int32) (a3 : Int32) (a4 : Int32) : Option Int32 :=
  if (X11_isPlayer σ a1) = 0 then
    some (-1)
  else
    if (X11_in ((a2).toInt64) (1) (12)) = 0 then
      some (-1)
    else
      if (X11_in ((a3).toInt64) (0) (12)) = 0 then
        some (-1)
      else
        if (X11_in ((a4).toInt64) (0) (99)) = 0 then
          some (-1)
        else
          if vin a1 4 = true then
            some (X11_heard (σ.1 6 a1.toNatClampNeg) a2 a3 a4)
          else none
def X11_run_b110 (a1 : Int32) (s16 : mS) (x17 : Int32) : Option ((mS × Int32) ⊕ (mS × Int32)) :=
  if vin a1 6 = true then
    if (s16.1 1 a1.toNatClampNeg) ≤ x17 then
      some (.inr (s16, x17))
    else
      if vin 1317 1360 = true then
        if vin (((40 : Int32) * a1) + x17) 240 = true then
          if (X11_has (s16.1 10 (1317 : Int32).toNatClampNeg) (s16.1 2 (((40 : Int32) * a1) + x17).toNatClampNeg)) = 0 then
            some (.inr (s16, x17))
          else
            if vin (((40 : Int32) * a1) + x17) 240 = true then
              bd (X11_calls s16 (1312) (s16.1 2 (((40 : Int32) * a1) + x17).toNatClampNeg)) (fun r30 s32 =>
                some (.inl (s32, (x17 + 1))))
            else none
        else none
      else none
  else none
def X11_run_b54 (σ : mS) (a1 : Int32) (x12 : Int32) : Option ((Int32) ⊕ ((Unit) ⊕ (Int32 × mS))) :=
  if vin a1 6 = true then
    if (σ.1 1 a1.toNatClampNeg) ≤ x12 then
      some (.inr (.inl ()))
    else
      if vin (((40 : Int32) * a1) + x12) 240 = true then
        if (X11_in (((σ.1 2 (((40 : Int32) * a1) + x12).toNatClampNeg)).toInt64) (1) (12)) = 0 then
          bd (X11_finds σ (3)) (fun r42 s44 =>
            some (.inr (.inr (r42, s44))))
        else
          some (.inl (x12 + 1))
      else none
  else none
def X11_run (σ : mS) (a1 : Int32) : Option (Int32 × mS) :=
  if (σ.1 0 5) = 0 then
    some ((-4), σ)
  else
    if (X11_isRow a1) = 0 then
      some ((-1), σ)
    else
      if vin a1 6 = true then
        if 0 ≤ (σ.1 1 a1.toNatClampNeg) then
          if vin a1 6 = true then
            if (σ.1 1 a1.toNatClampNeg) ≤ 12 then
              (lp big (un1 (X11_run_b54 σ a1)) 0).bind (sm1 (fun (_ : Unit) =>
                bd (X11_copies σ (0) (1312) (8)) (fun r13 s15 =>
                  (lp big (un2 (X11_run_b110 a1)) (s15, 0)).bind (un2 (fun s18 y19 =>
                    if vin 1316 1360 = true then
                      some (((mwI s18 0 14 y19).1 10 (1316 : Int32).toNatClampNeg), mwI s18 0 14 y19)
                    else none)))))
            else
              bd (X11_finds σ (5)) (fun r47 s49 =>
                some (r47, s49))
          else none
        else
          bd (X11_finds σ (1)) (fun r50 s52 =>
            some (r50, s52))
      else none
def X11_safe_b19 (s3 : mS) (x4 : Int32) (x5 : Int32) (x6 : Int32) (x7 : Int32) : Option ((mS × Int32 × Int32 × Int32 × Int32) ⊕ (mS × Int32 × Int32)) :=
  if 13 ≤ x7 then
    some (.inr (s3, x4, x5))
  else
    if vin 5 1360 = true then
      if (X11_has (s3.1 10 (5 : Int32).toNatClampNeg) x7) = 0 then
        some (.inl (s3, x4, x5, x6, (x7 + 1)))
      else
        bd (X11_copies s3 (0) (1312) (8)) (fun r17 s19 =>
          bd (X11_calls s19 (1312) x7) (fun r20 s22 =>
            (X11_bits r20).bind (fun r23 =>
              un1 (fun v27 =>
                un1 (fun v30 =>
                  un1 (fun v33 =>
                    some (.inl (s22, (x4 ||| v27), (v30 ||| v33), (X11_larger x6 r23), (x7 + 1)))
                  ) (
                    if r23 < x6 then
                      (0 : Int32)
                    else
                      ((1 : Int32) <<< (x7 &&& 31)))
                ) (
                  if r23 ≤ x6 then
                    x5
                  else
                    (0 : Int32))
              ) (
                if r23 = 0 then
                  ((1 : Int32) <<< (x7 &&& 31))
                else
                  (0 : Int32)))))
    else none
def X11_safe (σ : mS) : Option (Int32 × mS) :=
  if (σ.1 0 5) = 0 then
    some ((-4), σ)
  else
    (lp big (un5 X11_safe_b19) (σ, 0, 0, 0, 1)).bind (un3 (fun s8 y9 y10 =>
      some (y9, mwI s8 0 14 y10)))
def X11_follows_b52 (s7 : mS) (x8 : Int32) (x18 : Int32) : Option ((Int32) ⊕ (Int32)) :=
  if 13 ≤ x18 then
    some (.inr x18)
  else
    if vin (((1312 : Int32) + (x8 * 8)) + 5) 1360 = true then
      if (X11_has (s7.1 10 (((1312 : Int32) + (x8 * 8)) + 5).toNatClampNeg) x18) = 0 then
        some (.inl (x18 + 1))
      else
        some (.inr x18)
    else none
def X11_follows_b33 (a1 : Int32) (s7 : mS) (x8 : Int32) : Option ((mS × Int32) ⊕ (mS × Int32)) :=
  if x8 < 0 then
    some (.inr (s7, x8))
  else
    if a1 ≤ x8 then
      some (.inr (s7, x8))
    else
      if vin x8 5 = true then
        (lp big (un1 (X11_follows_b52 s7 x8)) ((s7.1 13 x8.toNatClampNeg) + 1)).bind (un1 (fun y19 =>
          if y19 ≤ 12 then
            if vin x8 5 = true then
              bd (X11_copies (mwI s7 13 x8.toNatClampNeg y19) ((1312 : Int32) + (x8 * 8)) ((1312 : Int32) + ((x8 + 1) * 8)) (8)) (fun r23 s25 =>
                bd (X11_calls s25 ((1312 : Int32) + ((x8 + 1) * 8)) y19) (fun r26 s28 =>
                  if vin (x8 + 1) 5 = true then
                    some (.inl (mwI s28 13 (x8 + 1).toNatClampNeg 0, (x8 + 1)))
                  else none))
            else none
          else
            some (.inl (s7, (x8 + (-1))))))
      else none
def X11_follows (σ : mS) (a1 : Int32) (a2 : Int32) : Option (Int32 × mS) :=
  un1 (fun v3 =>
    Option.bind (
      if a2 = 0 then
        some σ
      else
        bd (X11_copies σ (0) (1312) (8)) (fun r44 s46 =>
          if vin 0 5 = true then
            some (mwI s46 13 (0 : Int32).toNatClampNeg 0)
          else none)
      ) (un1 (fun s6 =>
      (lp big (un2 (X11_follows_b33 a1)) (s6, v3)).bind (un2 (fun s9 y10 =>
        if y10 = a1 then
          some (1, s9)
        else
          some (0, s9)))))
  ) (
    if a2 = 0 then
      (a1 - 1)
    else
      (0 : Int32))
def X11_comes_b8 (a1 : Int32) (a2 : Int32) (s4 : mS) (x5 : Int32) : Option ((mS × Int32) ⊕ (mS)) :=
  if a2 ≤ x5 then
    some (.inr s4)
  else
    if vin x5 5 = true then
      if vin (((40 : Int32) * a1) + x5) 240 = true then
        some (.inl (mwI s4 2 (((40 : Int32) * a1) + x5).toNatClampNeg (s4.1 14 x5.toNatClampNeg), (x5 + 1)))
      else none
    else none
def X11_comes (σ : mS) (a1 : Int32) (a2 : Int32) : Option (Unit × mS) :=
  bd (X11_anew σ a1 a2) (fun r1 s3 =>
    (lp big (un2 (X11_comes_b8 a1 a2)) (s3, 0)).bind (un1 (fun s6 =>
      some ((), s6))))
def X11_takes_b2 (a1 : Int32) (s1 : mS) (x2 : Int32) : Option ((mS × Int32) ⊕ (mS)) :=
  if a1 ≤ x2 then
    some (.inr s1)
  else
    if vin x2 5 = true then
      if vin x2 5 = true then
        some (.inl (mwI s1 14 x2.toNatClampNeg (s1.1 13 x2.toNatClampNeg), (x2 + 1)))
      else none
    else none
def X11_takes (σ : mS) (a1 : Int32) : Option (Unit × mS) :=
  (lp big (un2 (X11_takes_b2 a1)) (σ, 0)).bind (un1 (fun s3 =>
    some ((), s3)))
def X11_fewest_b54 (a1 : Int32) (a2 : Int32) (x12 : Int32) (s19 : mS) (x20 : Int32) : Option ((mS × Int32) ⊕ ((mS) ⊕ ((mS × Int32) ⊕ ((mS) ⊕ (Int32 × mS))))) :=
  if x20 = 0 then
    some (.inr (.inl s19))
  else
    if vin (((1312 : Int32) + (x12 * 8)) + 4) 1360 = true then
      if (X11_has (s19.1 10 (((1312 : Int32) + (x12 * 8)) + 4).toNatClampNeg) a1) = 0 then
        bd (X11_follows s19 x12 (0)) (fun r28 s30 =>
          some (.inl (s30, r28)))
      else
        bd (X11_takes s19 x12) (fun r31 s33 =>
          bd (X11_comes s33 a2 x12) (fun r34 s36 =>
            some (.inr (.inr (.inr (.inr (x12, s36)))))))
    else none
def X11_fewest_b41 (a1 : Int32) (a2 : Int32) (s11 : mS) (x12 : Int32) : Option ((mS × Int32) ⊕ ((mS) ⊕ (Int32 × mS))) :=
  if 4 < x12 then
    some (.inr (.inl s11))
  else
    bd (X11_follows s11 x12 (1)) (fun r16 s18 =>
      (lp big (un2 (X11_fewest_b54 a1 a2 x12)) (s18, r16)).bind (sm1 (fun s21 =>
        some (.inl (s21, (x12 + 1))))))
def X11_fewest (σ : mS) (a1 : Int32) (a2 : Int32) : Option (Int32 × mS) :=
  if (X11_isPlayer σ a1) = 0 then
    some ((-1), σ)
  else
    if (X11_isRow a2) = 0 then
      some ((-1), σ)
    else
      if vin 4 1360 = true then
        if (X11_has (σ.1 10 (4 : Int32).toNatClampNeg) a1) = 0 then
          (lp big (un2 (X11_fewest_b41 a1 a2)) (σ, 1)).bind (sm1 (fun s13 =>
            some ((-9), s13)))
        else
          bd (X11_anew σ a2 (0)) (fun r41 s43 =>
            some (0, s43))
      else none
def X11_most_b85 (a1 : Int32) (r10 : Int32) (s20 : mS) (x21 : Int32) (x22 : Int32) : Option ((mS × Int32 × Int32) ⊕ (mS × Int32)) :=
  if x22 = 0 then
    some (.inr (s20, x21))
  else
    if vin (((1312 : Int32) + ((X11_lesser a1 r10) * 8)) + 4) 1360 = true then
      (X11_bits (s20.1 10 (((1312 : Int32) + ((X11_lesser a1 r10) * 8)) + 4).toNatClampNeg)).bind (fun r31 =>
        Option.bind (
          if r31 ≤ x21 then
            some (s20, x21)
          else
            bd (X11_takes s20 (X11_lesser a1 r10)) (fun r44 s46 =>
              some (s46, r31))
          ) (un2 (fun s35 y36 =>
          bd (X11_follows s35 (X11_lesser a1 r10) (0)) (fun r37 s39 =>
            some (.inl (s39, y36, r37))))))
    else none
def X11_most (σ : mS) (a1 : Int32) (a2 : Int32) : Option (Int32 × mS) :=
  if (X11_in ((a1).toInt64) (0) (4)) = 0 then
    some ((-1), σ)
  else
    if (X11_isRow a2) = 0 then
      some ((-1), σ)
    else
      if (σ.1 0 5) = 0 then
        some ((-4), σ)
      else
        if vin 5 1360 = true then
          (X11_bits (σ.1 10 (5 : Int32).toNatClampNeg)).bind (fun r10 =>
            Option.bind (
              if (X11_lesser a1 r10) = 0 then
                if vin 4 1360 = true then
                  (X11_bits (σ.1 10 (4 : Int32).toNatClampNeg)).bind (fun r63 =>
                    some r63)
                else none
              else
                some ((-1) : Int32)
              ) (un1 (fun v15 =>
              Option.bind (
                if (X11_lesser a1 r10) ≤ 0 then
                  some (σ, (0 : Int32))
                else
                  bd (X11_follows σ (X11_lesser a1 r10) (1)) (fun r53 s55 =>
                    if r53 = 0 then
                      some (s55, (0 : Int32))
                    else
                      some (s55, (1 : Int32)))
                ) (un2 (fun s18 v19 =>
                (lp big (un3 (X11_most_b85 a1 r10)) (s18, v15, v19)).bind (un2 (fun s23 y24 =>
                  bd (X11_comes s23 a2 (X11_lesser a1 r10)) (fun r25 s27 =>
                    some (y24, s27)))))))))
        else none
def X11_which_b27 (σ : mS) (a1 : Int32) (a2 : Int32) (x7 : Int32) (x8 : Int32) : Option ((Int32 × Int32) ⊕ (Int32)) :=
  if 13 ≤ x8 then
    some (.inr x7)
  else
    if vin a1 1360 = true then
      if vin a1 4 = true then
        if vin 7 1360 = true then
          if vin 6 1360 = true then
            (X11_marksBy σ a1 (X11_heard (σ.1 6 a1.toNatClampNeg) x8 (σ.1 10 (7 : Int32).toNatClampNeg) (σ.1 10 (6 : Int32).toNatClampNeg))).bind (fun r17 =>
              if vin 5 1360 = true then
                if (X11_has (σ.1 10 (5 : Int32).toNatClampNeg) x8) = 0 then
                  some (.inl ((x7 ||| 0), (x8 + 1)))
                else
                  if ((σ.1 10 a1.toNatClampNeg) ||| r17) = a2 then
                    some (.inl ((x7 ||| ((1 : Int32) <<< (x8 &&& 31))), (x8 + 1)))
                  else
                    some (.inl ((x7 ||| 0), (x8 + 1)))
              else none)
          else none
        else none
      else none
    else none
def X11_which (σ : mS) (a1 : Int32) (a2 : Int32) : Option Int32 :=
  if (X11_isPlayer σ a1) = 0 then
    some (-1)
  else
    if (X11_in ((a2).toInt64) (0) (63)) = 0 then
      some (-1)
    else
      (lp big (un2 (X11_which_b27 σ a1 a2)) (0, 1)).bind (un1 (fun y9 =>
        some y9))
def X11_wrongOf_b38 (σ : mS) (a1 : Int32) (x10 : Int32) : Option ((Int32) ⊕ ((Unit) ⊕ Int32)) :=
  if vin a1 6 = true then
    if (σ.1 1 a1.toNatClampNeg) ≤ x10 then
      some (.inr (.inl ()))
    else
      if vin (((40 : Int32) * a1) + x10) 240 = true then
        un1 (fun v17 =>
          un1 (fun v20 =>
            if (X11_in (((σ.1 2 (((40 : Int32) * a1) + x10).toNatClampNeg)).toInt64) v17 v20) = 0 then
              some (.inr (.inr 3))
            else
              some (.inl (x10 + 1))
          ) (
            if (x10 - x10 / 2 * 2) = 0 then
              (12 : Int64)
            else
              (6 : Int64))
        ) (
          if (x10 - x10 / 2 * 2) = 0 then
            (1 : Int64)
          else
            (0 : Int64))
      else none
  else none
def X11_wrongOf (σ : mS) (a1 : Int32) : Option Int32 :=
  if vin a1 6 = true then
    if 0 ≤ (σ.1 1 a1.toNatClampNeg) then
      if vin a1 6 = true then
        if 16 < (σ.1 1 a1.toNatClampNeg) then
          some 5
        else
          if vin a1 6 = true then
            if ((σ.1 1 a1.toNatClampNeg) - (σ.1 1 a1.toNatClampNeg) / 2 * 2) = 1 then
              some 5
            else
              (lp big (un1 (X11_wrongOf_b38 σ a1)) 0).bind (sm1 (fun (_ : Unit) =>
                some 0))
          else none
      else none
    else
      some 1
  else none
def X11_kindsBy_b44 (a1 : Int32) (a2 : Int32) (s14 : mS) (x15 : Int32) (x16 : Int32) : Option ((mS × Int32 × Int32) ⊕ (mS × Int32)) :=
  if vin a2 6 = true then
    if (s14.1 1 a2.toNatClampNeg) ≤ x16 then
      some (.inr (s14, x15))
    else
      if x15 = 0 then
        some (.inr (s14, x15))
      else
        if vin (((40 : Int32) * a2) + x16) 240 = true then
          if vin 1317 1360 = true then
            if (X11_has (s14.1 10 (1317 : Int32).toNatClampNeg) (s14.1 2 (((40 : Int32) * a2) + x16).toNatClampNeg)) = 0 then
              some (.inl (s14, (X11_has (s14.1 10 (1317 : Int32).toNatClampNeg) (s14.1 2 (((40 : Int32) * a2) + x16).toNatClampNeg)), (x16 + 2)))
            else
              bd (X11_calls s14 (1312) (s14.1 2 (((40 : Int32) * a2) + x16).toNatClampNeg)) (fun r31 s33 =>
                if vin ((1312 : Int32) + a1) 1360 = true then
                  (X11_bits (s33.1 10 ((1312 : Int32) + a1).toNatClampNeg)).bind (fun r35 =>
                    if vin ((((40 : Int32) * a2) + x16) + 1) 240 = true then
                      if r35 = (s33.1 2 ((((40 : Int32) * a2) + x16) + 1).toNatClampNeg) then
                        some (.inl (s33, 1, (x16 + 2)))
                      else
                        some (.inl (s33, 0, (x16 + 2)))
                    else none)
                else none)
          else none
        else none
  else none
def X11_kindsBy_b13 (a1 : Int32) (a2 : Int32) (s2 : mS) (x3 : Int32) (x4 : Int32) : Option ((mS × Int32 × Int32) ⊕ (mS × Int32)) :=
  if 6 ≤ x4 then
    some (.inr (s2, x3))
  else
    if vin a1 4 = true then
      bd (X11_copies (mwI s2 6 a1.toNatClampNeg x4) (0) (1312) (8)) (fun r11 s13 =>
        (lp big (un3 (X11_kindsBy_b44 a1 a2)) (s13, 1, 0)).bind (un2 (fun s17 y18 =>
          if y18 = 0 then
            some (.inl (s17, (x3 ||| 0), (x4 + 1)))
          else
            some (.inl (s17, (x3 ||| ((1 : Int32) <<< (x4 &&& 31))), (x4 + 1))))))
    else none
def X11_kindsBy (σ : mS) (a1 : Int32) (a2 : Int32) : Option (Int32 × mS) :=
  if vin a1 4 = true then
    (lp big (un3 (X11_kindsBy_b13 a1 a2)) (σ, 0, 0)).bind (un2 (fun s5 y6 =>
      if vin a1 4 = true then
        some (y6, mwI s5 6 a1.toNatClampNeg (σ.1 6 a1.toNatClampNeg))
      else none))
  else none
def X11_kinds (σ : mS) (a1 : Int32) (a2 : Int32) : Option (Int32 × mS) :=
  if (X11_isPlayer σ a1) = 0 then
    some ((-1), σ)
  else
    if (X11_isRow a2) = 0 then
      some ((-1), σ)
    else
      (X11_wrongOf σ a2).bind (fun r7 =>
        if r7 ≤ 0 then
          bd (X11_kindsBy σ a1 a2) (fun r11 s13 =>
            some (r11, s13))
        else
          bd (X11_finds σ r7) (fun r14 s16 =>
            some (r14, s16)))
def X11_part_b19 (σ : mS) (a1 : Int32) (a2 : Int32) (a3 : Int32) (x2 : Int32) (x6 : Int32) (x7 : Int32) : Option ((Int32 × Int32) ⊕ (Int32)) :=
  if 6 ≤ x7 then
    some (.inr x6)
  else
    if vin a1 1360 = true then
      if vin 7 1360 = true then
        if vin 6 1360 = true then
          (X11_marksBy σ a1 (X11_heard x7 a3 (σ.1 10 (7 : Int32).toNatClampNeg) (σ.1 10 (6 : Int32).toNatClampNeg))).bind (fun r16 =>
            if (X11_has a2 x7) = 0 then
              some (.inl ((x6 + 0), (x7 + 1)))
            else
              (X11_bits ((σ.1 10 a1.toNatClampNeg) ||| r16)).bind (fun r21 =>
                if r21 = x2 then
                  some (.inl ((x6 + 1), (x7 + 1)))
                else
                  some (.inl ((x6 + 0), (x7 + 1)))))
        else none
      else none
    else none
def X11_part_b6 (σ : mS) (a1 : Int32) (a2 : Int32) (a3 : Int32) (x1 : Int32) (x2 : Int32) : Option ((Int32 × Int32) ⊕ (Int32)) :=
  if 7 ≤ x2 then
    some (.inr x1)
  else
    (lp big (un2 (X11_part_b19 σ a1 a2 a3 x2)) (0, 0)).bind (un1 (fun y8 =>
      some (.inl ((X11_larger x1 y8), (x2 + 1)))))
def X11_part (σ : mS) (a1 : Int32) (a2 : Int32) (a3 : Int32) : Option Int32 :=
  (lp big (un2 (X11_part_b6 σ a1 a2 a3)) (0, 0)).bind (un1 (fun y3 =>
    some y3))
def X11_next_b53 (a1 : Int32) (r11 : Int32) (s13 : mS) (x14 : Int32) (x15 : Int32) (x16 : Int32) : Option ((Int32 × Int32 × Int32) ⊕ (Int32 × Int32)) :=
  if 13 ≤ x16 then
    some (.inr (x14, x15))
  else
    if r11 = 0 then
      some (.inr (x14, x15))
    else
      if vin 5 1360 = true then
        Option.bind (
          if (X11_has (s13.1 10 (5 : Int32).toNatClampNeg) x16) = 0 then
            some (9 : Int32)
          else
            (X11_part s13 a1 r11 x16).bind (fun r42 =>
              some r42)
          ) (un1 (fun v29 =>
          un1 (fun v32 =>
            some (.inl (v32, (X11_lesser v29 x15), (x16 + 1)))
          ) (
            if x15 ≤ v29 then
              x14
            else
              x16)))
      else none
def X11_next (σ : mS) (a1 : Int32) (a2 : Int32) : Option (Int32 × mS) :=
  if (X11_isPlayer σ a1) = 0 then
    some ((-1), σ)
  else
    if (X11_isRow a2) = 0 then
      some ((-1), σ)
    else
      (X11_wrongOf σ a2).bind (fun r7 =>
        if r7 ≤ 0 then
          bd (X11_kindsBy σ a1 a2) (fun r11 s13 =>
            (lp big (un3 (X11_next_b53 a1 r11 s13)) ((-9), 9, 1)).bind (un2 (fun y17 y18 =>
              if 0 ≤ y17 then
                some (y17, mwI s13 0 14 y18)
              else
                some (y17, mwI s13 0 14 (s13.1 0 14)))))
        else
          bd (X11_finds σ r7) (fun r46 s48 =>
            some (r46, s48)))
def X11_worthOf (σ : mS) (a1 : Int32) (a2 : Int32) (a3 : Int32) : Option Int32 :=
  if vin (a1 + 4) 1360 = true then
    if vin (a1 + a2) 1360 = true then
      (X11_bits (σ.1 10 (a1 + a2).toNatClampNeg)).bind (fun r3 =>
        if vin (a1 + a3) 1360 = true then
          (X11_bits (σ.1 10 (a1 + a3).toNatClampNeg)).bind (fun r6 =>
            un1 (fun v11 =>
              if (X11_has (σ.1 10 (a1 + 4).toNatClampNeg) a3) = 0 then
                some (((r3 - r6) + v11) - 0)
              else
                some (((r3 - r6) + v11) - 10)
            ) (
              if (X11_has (σ.1 10 (a1 + 4).toNatClampNeg) a2) = 0 then
                (0 : Int32)
              else
                (10 : Int32)))
        else none)
    else none
  else none
def X11_better (σ : mS) (a1 : Int32) (a2 : Int32) : Option (Unit × mS) :=
  if (a1 - a1 / 2 * 2) = 0 then
    if vin a1 5 = true then
      if vin a1 5 = true then
        some ((), mwI σ 15 a1.toNatClampNeg (X11_larger (σ.1 15 a1.toNatClampNeg) a2))
      else none
    else none
  else
    if vin a1 5 = true then
      if vin a1 5 = true then
        some ((), mwI σ 15 a1.toNatClampNeg (X11_lesser (σ.1 15 a1.toNatClampNeg) a2))
      else none
    else none
def X11_duel_b119 (s24 : mS) (x25 : Int32) (x36 : Int32) : Option ((Int32) ⊕ (Int32)) :=
  if 13 ≤ x36 then
    some (.inr x36)
  else
    if vin (((1312 : Int32) + (x25 * 8)) + 5) 1360 = true then
      if (X11_has (s24.1 10 (((1312 : Int32) + (x25 * 8)) + 5).toNatClampNeg) x36) = 0 then
        some (.inl (x36 + 1))
      else
        some (.inr x36)
    else none
def X11_duel_b98 (a1 : Int32) (a2 : Int32) (a3 : Int32) (r13 : Int32) (s24 : mS) (x25 : Int32) : Option ((mS × Int32) ⊕ (mS)) :=
  if x25 < 0 then
    some (.inr s24)
  else
    if (X11_lesser ((2 : Int32) * a3) r13) ≤ 0 then
      some (.inr s24)
    else
      if vin x25 5 = true then
        (lp big (un1 (X11_duel_b119 s24 x25)) ((s24.1 13 x25.toNatClampNeg) + 1)).bind (un1 (fun y37 =>
          un1 (fun v40 =>
            if v40 = 0 then
              if vin x25 5 = true then
                bd (X11_copies (mwI s24 13 x25.toNatClampNeg y37) ((1312 : Int32) + (x25 * 8)) ((1312 : Int32) + ((x25 + 1) * 8)) (8)) (fun r50 s52 =>
                  bd (X11_calls s52 ((1312 : Int32) + ((x25 + 1) * 8)) y37) (fun r53 s55 =>
                    if (x25 + 1) = (X11_lesser ((2 : Int32) * a3) r13) then
                      (X11_worthOf s55 ((1312 : Int32) + ((x25 + 1) * 8)) a1 a2).bind (fun r63 =>
                        bd (X11_better s55 x25 r63) (fun r65 s67 =>
                          some (.inl (s67, x25))))
                    else
                      if vin (x25 + 1) 5 = true then
                        if ((x25 + 1) - (x25 + 1) / 2 * 2) = 0 then
                          if vin (x25 + 1) 5 = true then
                            some (.inl (mwI (mwI s55 13 (x25 + 1).toNatClampNeg 0) 15 (x25 + 1).toNatClampNeg (-999), (x25 + 1)))
                          else none
                        else
                          if vin (x25 + 1) 5 = true then
                            some (.inl (mwI (mwI s55 13 (x25 + 1).toNatClampNeg 0) 15 (x25 + 1).toNatClampNeg 999, (x25 + 1)))
                          else none
                      else none))
              else none
            else
              if x25 ≤ 0 then
                some (.inl (s24, (x25 + (-1))))
              else
                if vin x25 5 = true then
                  bd (X11_better s24 (x25 - 1) (s24.1 15 x25.toNatClampNeg)) (fun r46 s48 =>
                    some (.inl (s48, (x25 + (-1)))))
                else none
          ) (
            if y37 ≤ 12 then
              (0 : Int32)
            else
              (1 : Int32))))
      else none
def X11_duel (σ : mS) (a1 : Int32) (a2 : Int32) (a3 : Int32) : Option (Int32 × mS) :=
  if (X11_isPlayer σ a1) = 0 then
    some ((-1), σ)
  else
    if (X11_isPlayer σ a2) = 0 then
      some ((-1), σ)
    else
      if a1 = a2 then
        some ((-1), σ)
      else
        if (X11_in ((a3).toInt64) (0) (2)) = 0 then
          some ((-1), σ)
        else
          if vin 5 1360 = true then
            (X11_bits (σ.1 10 (5 : Int32).toNatClampNeg)).bind (fun r13 =>
              bd (X11_copies σ (0) (1312) (8)) (fun r16 s18 =>
                if vin 0 5 = true then
                  Option.bind (
                    if (X11_lesser ((2 : Int32) * a3) r13) = 0 then
                      (X11_worthOf (mwI s18 13 (0 : Int32).toNatClampNeg 0) (1312) a1 a2).bind (fun r86 =>
                        some r86)
                    else
                      some ((-999) : Int32)
                    ) (un1 (fun v22 =>
                    if vin 0 5 = true then
                      (lp big (un2 (X11_duel_b98 a1 a2 a3 r13)) (mwI (mwI s18 13 (0 : Int32).toNatClampNeg 0) 15 (0 : Int32).toNatClampNeg v22, 0)).bind (un1 (fun s26 =>
                        if vin 0 5 = true then
                          bd (X11_tells s26 (s26.1 15 (0 : Int32).toNatClampNeg)) (fun r28 s30 =>
                            some (r28, s30))
                        else none))
                    else none))
                else none))
          else none
def X11_fraction_b6 (x1 : Int64) (x2 : Int64) : Option ((Int64 × Int64) ⊕ (Int64)) :=
  if x2 = 0 then
    some (.inr x1)
  else
    if ¬ x2 = 0 then
      some (.inl (x2, (x1 - x1 / x2 * x2)))
    else none
def X11_fraction (σ : mS) (a1 : Int64) (a2 : Int64) : Option (Int32 × mS) :=
  (lp big (un2 X11_fraction_b6) (a1, a2)).bind (un1 (fun y3 =>
    if ¬ y3 = 0 then
      if ¬ y3 = 0 then
        some (1, mwL (mwL σ 0 15 (a1 / y3)) 0 16 (a2 / y3))
      else none
    else none))
def X11_lot_b88 (a1 : Int32) (a2 : Int32) (a3 : Int32) (r2 : Int32) (s18 : mS) (x19 : Int64) (x20 : Int64) (x21 : Int32) : Option ((mS × Int64 × Int64 × Int32) ⊕ (mS × Int64 × Int64)) :=
  if x21 = 0 then
    some (.inr (s18, x19, x20))
  else
    Option.bind (
      if a3 = 0 then
        if vin (((1312 : Int32) + ((X11_lesser a2 r2) * 8)) + 4) 1360 = true then
          some (((((s18.1 10 (((1312 : Int32) + ((X11_lesser a2 r2) * 8)) + 4).toNatClampNeg) >>> (a1 &&& 31)) &&& 1)).toInt64)
        else none
      else
        if vin (((1312 : Int32) + ((X11_lesser a2 r2) * 8)) + a1) 1360 = true then
          (X11_bits (s18.1 10 (((1312 : Int32) + ((X11_lesser a2 r2) * 8)) + a1).toNatClampNeg)).bind (fun r43 =>
            some ((r43).toInt64))
        else none
      ) (un1 (fun v33 =>
      bd (X11_follows s18 (X11_lesser a2 r2) (0)) (fun r34 s36 =>
        some (.inl (s36, (x19 + v33), (x20 + 1), r34)))))
def X11_lot (σ : mS) (a1 : Int32) (a2 : Int32) (a3 : Int32) : Option (Int32 × mS) :=
  if vin 5 1360 = true then
    (X11_bits (σ.1 10 (5 : Int32).toNatClampNeg)).bind (fun r2 =>
      Option.bind (
        if (X11_lesser a2 r2) ≤ 0 then
          if a3 = 0 then
            if vin 4 1360 = true then
              some (((((σ.1 10 (4 : Int32).toNatClampNeg) >>> (a1 &&& 31)) &&& 1)).toInt64)
            else none
          else
            if vin a1 1360 = true then
              (X11_bits (σ.1 10 a1.toNatClampNeg)).bind (fun r68 =>
                some ((r68).toInt64))
            else none
        else
          some (0 : Int64)
        ) (un1 (fun v10 =>
        un1 (fun v13 =>
          Option.bind (
            if (X11_lesser a2 r2) ≤ 0 then
              some (σ, (0 : Int32))
            else
              bd (X11_follows σ (X11_lesser a2 r2) (1)) (fun r51 s53 =>
                if r51 = 0 then
                  some (s53, (0 : Int32))
                else
                  some (s53, (1 : Int32)))
            ) (un2 (fun s16 v17 =>
            (lp big (un4 (X11_lot_b88 a1 a2 a3 r2)) (s16, v10, v13, v17)).bind (un3 (fun s22 y23 y24 =>
              bd (X11_fraction s22 y23 y24) (fun r25 s27 =>
                some (r25, s27))))))
        ) (
          if (X11_lesser a2 r2) ≤ 0 then
            (1 : Int64)
          else
            (0 : Int64)))))
  else none
def X11_odds (σ : mS) (a1 : Int32) (a2 : Int32) : Option (Int32 × mS) :=
  if (X11_isPlayer σ a1) = 0 then
    some ((-1), σ)
  else
    if (X11_in ((a2).toInt64) (0) (3)) = 0 then
      some ((-1), σ)
    else
      bd (X11_lot σ a1 a2 (0)) (fun r7 s9 =>
        some (r7, s9))
def X11_mid (σ : mS) (a1 : Int32) (a2 : Int32) : Option (Int32 × mS) :=
  if (X11_isPlayer σ a1) = 0 then
    some ((-1), σ)
  else
    if (X11_in ((a2).toInt64) (0) (3)) = 0 then
      some ((-1), σ)
    else
      bd (X11_lot σ a1 a2 (1)) (fun r7 s9 =>
        some (r7, s9))
def X11_lots_b139 (s20 : mS) (x29 : Int32) : Option ((Int32) ⊕ (Int32)) :=
  if vin 5 1360 = true then
    if (X11_has (s20.1 10 (5 : Int32).toNatClampNeg) x29) = 0 then
      some (.inl ((x29 - x29 / 12 * 12) + 1))
    else
      some (.inr x29)
  else none
def X11_lots_b56 (a1 : Int32) (s11 : mS) (x12 : Int64) (x13 : Int32) : Option ((mS × Int64 × Int32) ⊕ (mS)) :=
  if a1 ≤ x13 then
    some (.inr s11)
  else
    bd (X11_known s11) (fun r18 s20 =>
      if (((((x12 * 48271) - (x12 * 48271) / 2147483647 * 2147483647)).toInt32 / 8) - ((((x12 * 48271) - (x12 * 48271) / 2147483647 * 2147483647)).toInt32 / 8) / 8 * 8) = 7 then
        if ¬ (s20.1 0 5) = 0 then
          if vin ((((x12 * 48271) - (x12 * 48271) / 2147483647 * 2147483647)).toInt32 - (((x12 * 48271) - (x12 * 48271) / 2147483647 * 2147483647)).toInt32 / (s20.1 0 5) * (s20.1 0 5)) 1360 = true then
            if vin ((((x12 * 48271) - (x12 * 48271) / 2147483647 * 2147483647)).toInt32 - (((x12 * 48271) - (x12 * 48271) / 2147483647 * 2147483647)).toInt32 / (s20.1 0 5) * (s20.1 0 5)) 1360 = true then
              some (.inl (mwI s20 10 ((((x12 * 48271) - (x12 * 48271) / 2147483647 * 2147483647)).toInt32 - (((x12 * 48271) - (x12 * 48271) / 2147483647 * 2147483647)).toInt32 / (s20.1 0 5) * (s20.1 0 5)).toNatClampNeg ((s20.1 10 ((((x12 * 48271) - (x12 * 48271) / 2147483647 * 2147483647)).toInt32 - (((x12 * 48271) - (x12 * 48271) / 2147483647 * 2147483647)).toInt32 / (s20.1 0 5) * (s20.1 0 5)).toNatClampNeg) ^^^ ((1 : Int32) <<< ((((((x12 * 48271) - (x12 * 48271) / 2147483647 * 2147483647)).toInt32 / 64) - ((((x12 * 48271) - (x12 * 48271) / 2147483647 * 2147483647)).toInt32 / 64) / 6 * 6) &&& 31))), ((x12 * 48271) - (x12 * 48271) / 2147483647 * 2147483647), (x13 + 1)))
            else none
          else none
        else none
      else
        if vin 5 1360 = true then
          if (s20.1 10 (5 : Int32).toNatClampNeg) = 0 then
            if ¬ (s20.1 0 5) = 0 then
              if vin ((((x12 * 48271) - (x12 * 48271) / 2147483647 * 2147483647)).toInt32 - (((x12 * 48271) - (x12 * 48271) / 2147483647 * 2147483647)).toInt32 / (s20.1 0 5) * (s20.1 0 5)) 1360 = true then
                if vin ((((x12 * 48271) - (x12 * 48271) / 2147483647 * 2147483647)).toInt32 - (((x12 * 48271) - (x12 * 48271) / 2147483647 * 2147483647)).toInt32 / (s20.1 0 5) * (s20.1 0 5)) 1360 = true then
                  some (.inl (mwI s20 10 ((((x12 * 48271) - (x12 * 48271) / 2147483647 * 2147483647)).toInt32 - (((x12 * 48271) - (x12 * 48271) / 2147483647 * 2147483647)).toInt32 / (s20.1 0 5) * (s20.1 0 5)).toNatClampNeg ((s20.1 10 ((((x12 * 48271) - (x12 * 48271) / 2147483647 * 2147483647)).toInt32 - (((x12 * 48271) - (x12 * 48271) / 2147483647 * 2147483647)).toInt32 / (s20.1 0 5) * (s20.1 0 5)).toNatClampNeg) ^^^ ((1 : Int32) <<< ((((((x12 * 48271) - (x12 * 48271) / 2147483647 * 2147483647)).toInt32 / 64) - ((((x12 * 48271) - (x12 * 48271) / 2147483647 * 2147483647)).toInt32 / 64) / 6 * 6) &&& 31))), ((x12 * 48271) - (x12 * 48271) / 2147483647 * 2147483647), (x13 + 1)))
                else none
              else none
            else none
          else
            (lp big (un1 (X11_lots_b139 s20)) (((((x12 * 48271) - (x12 * 48271) / 2147483647 * 2147483647)).toInt32 - (((x12 * 48271) - (x12 * 48271) / 2147483647 * 2147483647)).toInt32 / 12 * 12) + 1)).bind (un1 (fun y30 =>
              bd (X11_calls s20 (0) y30) (fun r31 s33 =>
                some (.inl (s33, ((x12 * 48271) - (x12 * 48271) / 2147483647 * 2147483647), (x13 + 1))))))
        else none)
def X11_lots (σ : mS) (a1 : Int32) (a2 : Int32) : Option (Int32 × mS) :=
  if (X11_in ((a1).toInt64) (1) (20)) = 0 then
    some ((-1), σ)
  else
    if (X11_in ((a2).toInt64) (1) (2147483646)) = 0 then
      some ((-1), σ)
    else
      if (σ.1 0 5) = 0 then
        some ((-4), σ)
      else
        if ((σ.1 0 12) + a1) ≤ 40 then
          (lp big (un3 (X11_lots_b56 a1)) (σ, (a2).toInt64, 0)).bind (un1 (fun s14 =>
            if vin 4 1360 = true then
              some ((s14.1 10 (4 : Int32).toNatClampNeg), s14)
            else none))
        else
          some ((-2), σ)
def X11_asked (σ : mS) : Int32 :=
  (σ.1 0 14)
def X11_upper (σ : mS) : Int64 :=
  (σ.2 0 15)
def X11_lower (σ : mS) : Int64 :=
  (σ.2 0 16)
def X11_manyOf_b4 (σ : mS) (a1 : Int32) (x1 : Int32) (x2 : Int32) : Option ((Int32 × Int32) ⊕ (Int32)) :=
  if (σ.1 0 5) ≤ x2 then
    some (.inr x1)
  else
    if vin x2 4 = true then
      if (X11_isA (σ.1 6 x2.toNatClampNeg) a1) = 0 then
        some (.inl ((x1 + 0), (x2 + 1)))
      else
        some (.inl ((x1 + 1), (x2 + 1)))
    else none
def X11_manyOf (σ : mS) (a1 : Int32) : Option Int32 :=
  (lp big (un2 (X11_manyOf_b4 σ a1)) (0, 0)).bind (un1 (fun y3 =>
    some y3))
def X11_allMarks_b4 (σ : mS) (x1 : Int32) (x2 : Int32) : Option ((Int32 × Int32) ⊕ (Int32)) :=
  if (σ.1 0 5) ≤ x2 then
    some (.inr x1)
  else
    if vin x2 1360 = true then
      (X11_bits (σ.1 10 x2.toNatClampNeg)).bind (fun r7 =>
        some (.inl ((x1 + r7), (x2 + 1))))
    else none
def X11_allMarks (σ : mS) : Option Int32 :=
  (lp big (un2 (X11_allMarks_b4 σ)) (0, 0)).bind (un1 (fun y3 =>
    some y3))
def X11_thereAre_b4 (σ : mS) (a1 : Int32) (x1 : Int32) (x2 : Int32) : Option ((Int32 × Int32) ⊕ (Int32)) :=
  un1 (fun v8 =>
    if v8 ≤ x2 then
      some (.inr x1)
    else
      Option.bind (
        if a1 = 9 then
          if vin x2 6 = true then
            some (σ.1 1 x2.toNatClampNeg)
          else none
        else
          if a1 = 10 then
            if vin x2 4 = true then
              some (σ.1 4 x2.toNatClampNeg)
            else none
          else
            if vin x2 3 = true then
              some (σ.1 11 x2.toNatClampNeg)
            else none
        ) (un1 (fun v16 =>
        if 0 ≤ v16 then
          some (.inl ((x1 + 1), (x2 + 1)))
        else
          some (.inl ((x1 + 0), (x2 + 1)))))
  ) (
    if a1 = 9 then
      (6 : Int32)
    else
      if a1 = 10 then
        (4 : Int32)
      else
        (3 : Int32))
def X11_thereAre (σ : mS) (a1 : Int32) : Option Int32 :=
  (lp big (un2 (X11_thereAre_b4 σ a1)) (0, 0)).bind (un1 (fun y3 =>
    some y3))
def X11_countOf (σ : mS) (a1 : Int32) : Option Int32 :=
  if a1 ≤ 8 then
    if a1 = 0 then
      some (σ.1 0 5)
    else
      if a1 = 1 then
        if vin 6 1360 = true then
          some (σ.1 10 (6 : Int32).toNatClampNeg)
        else none
      else
        if a1 = 2 then
          some (σ.1 0 12)
        else
          if a1 = 3 then
            if vin 5 1360 = true then
              some (σ.1 10 (5 : Int32).toNatClampNeg)
            else none
          else
            if a1 = 4 then
              if vin 7 1360 = true then
                some (σ.1 10 (7 : Int32).toNatClampNeg)
              else none
            else
              if a1 = 5 then
                if vin 4 1360 = true then
                  some (σ.1 10 (4 : Int32).toNatClampNeg)
                else none
              else
                if a1 = 6 then
                  (X11_allMarks σ).bind (fun r23 =>
                    some r23)
                else
                  if a1 = 7 then
                    (X11_manyOf σ (1)).bind (fun r21 =>
                      some r21)
                  else
                    (X11_manyOf σ (2)).bind (fun r19 =>
                      some r19)
  else
    (X11_thereAre σ a1).bind (fun r29 =>
      some r29)
def X11_count (σ : mS) (a1 : Int32) : Option Int32 :=
  if (X11_in ((a1).toInt64) (0) (11)) = 0 then
    some (-1)
  else
    (X11_countOf σ a1).bind (fun r4 =>
      some r4)
def X11_finding (σ : mS) : Int32 :=
  (σ.1 0 17)
def X11_findings (σ : mS) (a1 : Int32) : Option Int32 :=
  if (X11_in ((a1).toInt64) (1) (5)) = 0 then
    some (-1)
  else
    if vin a1 6 = true then
      some (σ.1 12 a1.toNatClampNeg)
    else none
def X11_digest_b232 (σ : mS) (x14 : Int32) (x19 : Int64) (x20 : Int32) : Option ((Int64 × Int32) ⊕ (Int64)) :=
  if vin x14 4 = true then
    if (σ.1 4 x14.toNatClampNeg) ≤ x20 then
      some (.inr x19)
    else
      if vin (((60 : Int32) * x14) + x20) 240 = true then
        some (.inl (((31 * x19) + ((σ.1 5 (((60 : Int32) * x14) + x20).toNatClampNeg)).toInt64), (x20 + 1)))
      else none
  else none
def X11_digest_b210 (σ : mS) (x13 : Int64) (x14 : Int32) : Option ((Int64 × Int32) ⊕ (Int64)) :=
  if 4 ≤ x14 then
    some (.inr x13)
  else
    if vin x14 4 = true then
      (lp big (un2 (X11_digest_b232 σ x14)) (((31 * x13) + ((σ.1 4 x14.toNatClampNeg)).toInt64), 0)).bind (un1 (fun y21 =>
        some (.inl (y21, (x14 + 1)))))
    else none
def X11_digest_b165 (σ : mS) (x11 : Int32) (x33 : Int64) (x34 : Int32) : Option ((Int64 × Int32) ⊕ (Int64)) :=
  if vin x11 6 = true then
    if (σ.1 1 x11.toNatClampNeg) ≤ x34 then
      some (.inr x33)
    else
      if vin (((40 : Int32) * x11) + x34) 240 = true then
        some (.inl (((31 * x33) + ((σ.1 2 (((40 : Int32) * x11) + x34).toNatClampNeg)).toInt64), (x34 + 1)))
      else none
  else none
def X11_digest_b142 (σ : mS) (x10 : Int64) (x11 : Int32) : Option ((Int64 × Int32) ⊕ (Int64)) :=
  if 6 ≤ x11 then
    some (.inr x10)
  else
    if vin x11 6 = true then
      (lp big (un2 (X11_digest_b165 σ x11)) (((31 * x10) + ((σ.1 1 x11.toNatClampNeg)).toInt64), 0)).bind (un1 (fun y35 =>
        some (.inl (y35, (x11 + 1)))))
    else none
def X11_digest_b115 (σ : mS) (x7 : Int64) (x8 : Int32) : Option ((Int64 × Int32) ⊕ (Int64)) :=
  if 3 ≤ x8 then
    some (.inr x7)
  else
    if vin x8 3 = true then
      some (.inl (((31 * x7) + ((σ.1 11 x8.toNatClampNeg)).toInt64), (x8 + 1)))
    else none
def X11_digest_b74 (σ : mS) (x5 : Int32) (x54 : Int64) (x55 : Int32) : Option ((Int64 × Int32) ⊕ (Int64)) :=
  if 6 ≤ x55 then
    some (.inr x54)
  else
    if vin (((6 : Int32) * x5) + x55) 24 = true then
      some (.inl (((31 * x54) + ((σ.1 7 (((6 : Int32) * x5) + x55).toNatClampNeg)).toInt64), (x55 + 1)))
    else none
def X11_digest_b44 (σ : mS) (x5 : Int32) (x51 : Int64) (x52 : Int32) : Option ((Int64 × Int32) ⊕ (Int64)) :=
  if 5 ≤ x52 then
    some (.inr x51)
  else
    (X11_told σ x5 x52).bind (fun r64 =>
      some (.inl (((31 * x51) + (r64).toInt64), (x52 + 1))))
def X11_digest_b33 (σ : mS) (x4 : Int64) (x5 : Int32) : Option ((Int64 × Int32) ⊕ (Int64)) :=
  if (σ.1 0 5) ≤ x5 then
    some (.inr x4)
  else
    (lp big (un2 (X11_digest_b44 σ x5)) (x4, 0)).bind (un1 (fun y53 =>
      (lp big (un2 (X11_digest_b74 σ x5)) (y53, 0)).bind (un1 (fun y56 =>
        some (.inl (y56, (x5 + 1)))))))
def X11_digest_b6 (σ : mS) (x1 : Int64) (x2 : Int32) : Option ((Int64 × Int32) ⊕ (Int64)) :=
  if 12 ≤ x2 then
    some (.inr x1)
  else
    (X11_countOf σ x2).bind (fun r72 =>
      some (.inl (((31 * x1) + (r72).toInt64), (x2 + 1))))
def X11_digest (σ : mS) : Option Int64 :=
  (lp big (un2 (X11_digest_b6 σ)) (17, 0)).bind (un1 (fun y3 =>
    (lp big (un2 (X11_digest_b33 σ)) (y3, 0)).bind (un1 (fun y6 =>
      (lp big (un2 (X11_digest_b115 σ)) (y6, 0)).bind (un1 (fun y9 =>
        (lp big (un2 (X11_digest_b142 σ)) (y9, 0)).bind (un1 (fun y12 =>
          (lp big (un2 (X11_digest_b210 σ)) (y12, 0)).bind (un1 (fun y15 =>
            some y15))))))))))
theorem zb_X2_holds b0 b1 b2 : X2_holds b0 b1 b2 = 0 ∨ X2_holds b0 b1 b2 = 1 := by
  unfold X2_holds
  repeat' (first | exact Or.inl rfl | exact Or.inr rfl | split)
theorem zb_X2_hasWon b0 b1 b2 : X2_hasWon b0 b1 b2 = 0 ∨ X2_hasWon b0 b1 b2 = 1 := by
  unfold X2_hasWon
  repeat' (first | exact Or.inl rfl | exact Or.inr rfl | split)
theorem zb_X10_isRow b0 : X10_isRow b0 = 0 ∨ X10_isRow b0 = 1 := by
  unfold X10_isRow
  repeat' (first | exact Or.inl rfl | exact Or.inr rfl | split)
theorem zb_X10_isText b0 : X10_isText b0 = 0 ∨ X10_isText b0 = 1 := by
  unfold X10_isText
  repeat' (first | exact Or.inl rfl | exact Or.inr rfl | split)
theorem zb_X10_isPlayer b0 b1 : X10_isPlayer b0 b1 = 0 ∨ X10_isPlayer b0 b1 = 1 := by
  unfold X10_isPlayer
  repeat' (first | exact Or.inl rfl | exact Or.inr rfl | split)
theorem zb_X10_isPlace b0 : X10_isPlace b0 = 0 ∨ X10_isPlace b0 = 1 := by
  unfold X10_isPlace
  repeat' (first | exact Or.inl rfl | exact Or.inr rfl | split)
theorem zb_X10_isNumber b0 : X10_isNumber b0 = 0 ∨ X10_isNumber b0 = 1 := by
  unfold X10_isNumber
  repeat' (first | exact Or.inl rfl | exact Or.inr rfl | split)
theorem zb_X10_isKeptPlace b0 : X10_isKeptPlace b0 = 0 ∨ X10_isKeptPlace b0 = 1 := by
  unfold X10_isKeptPlace
  repeat' (first | exact Or.inl rfl | exact Or.inr rfl | split)
theorem zb_X11_in b0 b1 b2 : X11_in b0 b1 b2 = 0 ∨ X11_in b0 b1 b2 = 1 := by
  unfold X11_in
  repeat' (first | exact Or.inl rfl | exact Or.inr rfl | split)
theorem zb_X11_has b0 b1 : X11_has b0 b1 = 0 ∨ X11_has b0 b1 = 1 := by
  unfold X11_has
  repeat' (first | exact Or.inl rfl | exact Or.inr rfl | split)
theorem zb_X11_isRow b0 : X11_isRow b0 = 0 ∨ X11_isRow b0 = 1 := by
  unfold X11_isRow
  repeat' (first | exact Or.inl rfl | exact Or.inr rfl | exact zb_X11_in .. | split)
theorem zb_X11_isText b0 : X11_isText b0 = 0 ∨ X11_isText b0 = 1 := by
  unfold X11_isText
  repeat' (first | exact Or.inl rfl | exact Or.inr rfl | exact zb_X11_in .. | split)
theorem zb_X11_isPlayer b0 b1 : X11_isPlayer b0 b1 = 0 ∨ X11_isPlayer b0 b1 = 1 := by
  unfold X11_isPlayer
  repeat' (first | exact Or.inl rfl | exact Or.inr rfl | exact zb_X11_in .. | split)
theorem zb_X11_isA b0 b1 : X11_isA b0 b1 = 0 ∨ X11_isA b0 b1 = 1 := by
  unfold X11_isA
  repeat' (first | exact Or.inl rfl | exact Or.inr rfl | split)
