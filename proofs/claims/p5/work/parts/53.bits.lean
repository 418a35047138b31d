/-! bits: the head of kit/laws/BITS.to-paste, then my own -/
def bt (x : Int32) (i : Nat) : Bool := x.toBitVec.getLsbD i
theorem b_ext {x y : Int32} (h : ∀ i, i < 32 → bt x i = bt y i) : x = y := Int32.toBitVec_inj.mp (BitVec.eq_of_getLsbD_eq (fun i hi => h i hi))
theorem b_or (x y : Int32) (i : Nat) : bt (x ||| y) i = (bt x i || bt y i) := by unfold bt; rw [Int32.toBitVec_or, BitVec.getLsbD_or]
theorem b_and (x y : Int32) (i : Nat) : bt (x &&& y) i = (bt x i && bt y i) := by unfold bt; rw [Int32.toBitVec_and, BitVec.getLsbD_and]
theorem b_xor (x y : Int32) (i : Nat) : bt (x ^^^ y) i = (bt x i ^^ bt y i) := by unfold bt; rw [Int32.toBitVec_xor, BitVec.getLsbD_xor]
theorem b_big {x : Int32} {i : Nat} (h : 32 ≤ i) : bt x i = false := BitVec.getLsbD_of_ge _ _ h
theorem b_m1 : ∀ i, i < 32 → bt (-1) i = true := by decide +kernel
theorem b_0 (i : Nat) : bt 0 i = false := BitVec.getLsbD_zero
theorem s_l : ∀ n, n < 32 → ((nI n &&& 31).toBitVec.smod 32).toNat = n := by decide +kernel
theorem b_shl (n : Nat) (hn : n < 32) (x : Int32) {i : Nat} (hi : i < 32) : bt (x <<< (nI n &&& 31)) i = (decide (n ≤ i) && bt x (i - n)) := by
  unfold bt
  rw [Int32.toBitVec_shiftLeft]
  show (x.toBitVec <<< ((nI n &&& 31).toBitVec.smod 32).toNat).getLsbD i = _
  rw [s_l n hn, BitVec.getLsbD_shiftLeft]
  rcases Nat.lt_or_ge i n with h | h
  · simp [h, Nat.not_le.mpr h]
  · simp [hi, h, Nat.not_lt.mpr h]
theorem b_sshr (n : Nat) (hn : n < 32) (x : Int32) {i : Nat} (hi : i < 32) : bt (x >>> (nI n &&& 31)) i = if n + i < 32 then bt x (n + i) else bt x 31 := by
  unfold bt
  rw [Int32.toBitVec_shiftRight]
  show (x.toBitVec.sshiftRight ((nI n &&& 31).toBitVec.smod 32).toNat).getLsbD i = _
  rw [s_l n hn, BitVec.getLsbD_sshiftRight, BitVec.msb_eq_getLsbD_last]
  simp [hi]
theorem b_1 (i : Nat) : bt 1 i = decide (i = 0) := by
  rcases Nat.lt_or_ge i 32 with h | h
  · exact (by decide +kernel : ∀ i, i < 32 → bt 1 i = decide (i = 0)) i h
  · rw [b_big h, decide_eq_false (by omega)]
theorem bit_eq (x : Int32) {n : Nat} (hn : n < 32) : ((x >>> (nI n &&& 31)) &&& 1) = if bt x n = true then 1 else 0 := by
  apply b_ext
  intro i hi
  rw [b_and, b_sshr n hn x hi, b_1]
  by_cases h : i = 0
  · subst h
    rw [if_pos (by omega)]
    cases hb : bt x (n + 0) with
    | false => decide
    | true => decide
  · have h2 : bt (if bt x n = true then (1 : Int32) else 0) i = false := by
      split
      · rw [b_1, decide_eq_false h]
      · exact b_0 i
    rw [h2, decide_eq_false h, Bool.and_false]
theorem shl_bt {n i : Nat} (hn : n < 32) (hi : i < 32) : bt ((1 : Int32) <<< (nI n &&& 31)) i = decide (i = n) := by
  rw [b_shl n hn 1 hi, b_1]
  by_cases h : i = n
  · subst h; simp
  · rw [decide_eq_false h]
    by_cases h2 : n ≤ i
    · rw [decide_eq_true h2, decide_eq_false (by omega)]; rfl
    · rw [decide_eq_false h2]; rfl
theorem nI_ti {n : Nat} (h : n < 2147483648) : (nI n).toInt = (n : Int) := i32_ofNat h
theorem i_nI {x : Int32} {n : Nat} (h : x.toInt = (n : Int)) : x = nI n := by
  have h2 := i_hi x
  exact i_eq.mpr (by rw [nI_ti (by omega), h])
theorem nI_nat {n : Nat} (h : n < 2147483648) : (nI n).toNatClampNeg = n := by rw [i_nat, nI_ti h]; rfl
theorem has_eq (x : Int32) {n : Nat} (hn : n < 32) : X11_has x (nI n) = if bt x n = true then 1 else 0 := by
  unfold X11_has
  rw [bit_eq x hn]
  cases bt x n <;> decide
theorem has_zero (x : Int32) {n : Nat} (hn : n < 32) : X11_has x (nI n) = 0 ↔ bt x n = false := by
  rw [has_eq x hn]
  cases bt x n <;> decide
theorem or_zero (x : Int32) : x ||| 0 = x := b_ext (fun i _ => by rw [b_or, b_0, Bool.or_false])
theorem zero_or (x : Int32) : 0 ||| x = x := b_ext (fun i _ => by rw [b_or, b_0, Bool.false_or])
theorem or_assoc (x y z : Int32) : (x ||| y) ||| z = x ||| (y ||| z) := b_ext (fun i _ => by rw [b_or, b_or, b_or, b_or, Bool.or_assoc])
/-! loops that count -/
theorem lp_for {S R : Type} {b : S → Option (S ⊕ R)} {n : Nat} {res : R} (st : Nat → Int32 → S) (hn : n < 2147483647) (hstep : ∀ (j : Nat) (x : Int32), j < n → x.toInt = (j : Int) → b (st j x) = some (.inl (st (j + 1) (x + 1)))) (hend : ∀ x : Int32, x.toInt = (n : Int) → b (st n x) = some (.inr res)) : ∀ (d f j : Nat) (x : Int32), x.toInt = (j : Int) → j + d = n → d < f → lp f b (st j x) = some res
  | d, 0, j, x, _, _, h => absurd h (Nat.not_lt_zero _)
  | 0, f + 1, j, x, hx, hj, _ => by
    have e : j = n := by omega
    subst e
    unfold lp
    rw [hend x hx]
  | d + 1, f + 1, j, x, hx, hj, hf => by
    unfold lp
    rw [hstep j x (by omega) hx]
    exact lp_for st hn hstep hend d f (j + 1) (x + 1) (by rw [i_inc (by omega), hx]; rfl) (by omega) (by omega)
theorem lp_from {S R : Type} {b : S → Option (S ⊕ R)} {n : Nat} {res : R} (st : Nat → Int32 → S) (j : Nat) (x : Int32) (hx : x.toInt = (j : Int)) (hj : j ≤ n) (hn : n < 900000) (hstep : ∀ (j : Nat) (x : Int32), j < n → x.toInt = (j : Int) → b (st j x) = some (.inl (st (j + 1) (x + 1)))) (hend : ∀ x : Int32, x.toInt = (n : Int) → b (st n x) = some (.inr res)) : lp big b (st j x) = some res :=
  lp_for st (by omega) hstep hend (n - j) big j x hx (by omega) (by show n - j < 1000000; omega)
theorem lp_zero {S R : Type} {b : S → Option (S ⊕ R)} {n : Nat} {res : R} (st : Nat → Int32 → S) (hn : n < 900000) (hstep : ∀ (j : Nat) (x : Int32), j < n → x.toInt = (j : Int) → b (st j x) = some (.inl (st (j + 1) (x + 1)))) (hend : ∀ x : Int32, x.toInt = (n : Int) → b (st n x) = some (.inr res)) : lp big b (st 0 0) = some res := lp_from st 0 0 i_zero (Nat.zero_le _) hn hstep hend
theorem nle {a b : Int32} (h : b.toInt < a.toInt) : ¬ a ≤ b := fun q => by
  have := i_le.mp q
  omega
theorem ile {a b : Int32} (h : a.toInt ≤ b.toInt) : a ≤ b := i_le.mpr h
/-! the reference's counts of bits, needs -/
def bitsN (a : Int32) : Nat → Int32
  | 0 => 0
  | k + 1 => bitsN a k + ((a >>> (nI k &&& 31)) &&& 1)
def bitsT (a : Int32) : Int32 := bitsN a 14
theorem bits_eq (a : Int32) : X11_bits a = some (bitsT a) := by
  unfold X11_bits
  have h := lp_zero (b := un2 (X11_bits_b4 a)) (n := 14) (res := bitsT a) (fun j x => (bitsN a j, x)) (by decide) (fun j x hj hx => by
    show X11_bits_b4 a (bitsN a j) x = _
    unfold X11_bits_b4
    rw [if_neg (nle (by rw [hx]; show (j : Int) < 14; omega)), i_nI hx]
    rfl) (fun x hx => by
    show X11_bits_b4 a (bitsN a 14) x = _
    unfold X11_bits_b4
    rw [if_pos (ile (by rw [hx]; show (14 : Int) ≤ 14; omega))]
    rfl)
  have h2 : lp big (un2 (X11_bits_b4 a)) (0, 0) = some (bitsT a) := h
  rw [h2]
  rfl
def ndT (k m : Int32) : Int32 :=
  if (X11_isA k (1)) = 0 then
    if k = 3 then X11_lesser (X11_lesser ((3 : Int32) - bitsT (m &&& 7)) ((3 : Int32) - bitsT (m >>> ((3 : Int32) &&& 31)))) ((X11_larger (0) (((3 : Int32) - bitsT (m &&& 7)) - 1)) + (X11_larger (0) (((3 : Int32) - bitsT (m >>> ((3 : Int32) &&& 31))) - 1)))
    else X11_lesser ((3 : Int32) - bitsT (m &&& 7)) ((3 : Int32) - bitsT (m >>> ((3 : Int32) &&& 31)))
  else ((3 : Int32) - bitsT (m &&& 7)) + ((3 : Int32) - bitsT (m >>> ((3 : Int32) &&& 31)))
theorem needs_eq (k m : Int32) : X11_needs k m = some (ndT k m) := by
  unfold X11_needs ndT
  rw [bits_eq, bits_eq]
  show (if (X11_isA k (1)) = 0 then if k = 3 then some _ else some _ else some _) = some (if (X11_isA k (1)) = 0 then if k = 3 then _ else _ else _)
  split
  · split <;> rfl
  · rfl
set_option maxRecDepth 100000 in
theorem lacks_eq : ∀ r, r < 6 → ∀ m, m < 64 → kd_X5_lacks r (nI m) = ndT (nI r) (nI m) := by decide +kernel
theorem pw_ne : ∀ n, n < 31 → ¬ ((1 : Int32) <<< (nI n &&& 31)) = 0 := by decide +kernel
theorem heard_eq {r n : Nat} (hr : r < 6) (hn : n < 31) (ah cl : Int32) : kd_X5_heard r (nI n) ah cl = X11_heard (nI r) (nI n) ah cl := by
  rcases (show r = 0 ∨ r = 1 ∨ r = 2 ∨ r = 3 ∨ r = 4 ∨ r = 5 by omega) with rfl | rfl | rfl | rfl | rfl | rfl
  · rfl
  · rfl
  · rfl
  · rfl
  · rfl
  · show X8_heard (nI n) ah cl = (if (cl - cl / 3 * 3) = 2 then 0 else (((1 : Int32) <<< (nI n &&& 31)) ||| ((1 : Int32) <<< (((nI n - nI n / 12 * 12) + 1) &&& 31))))
    unfold X8_heard X0_heard
    by_cases h : (cl - cl / 3 * 3) = 2
    · rw [if_pos h, if_pos h]; rfl
    · rw [if_neg h, if_neg h, if_neg (pw_ne n hn)]; rfl
