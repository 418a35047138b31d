theorem fa_or (a b : Nat) : nI a ||| nI b = nI (a ||| b) := by
  apply Int32.toBitVec_inj.mp
  rw [Int32.toBitVec_or]
  show BitVec.ofNat 32 a ||| BitVec.ofNat 32 b = BitVec.ofNat 32 (a ||| b)
  apply BitVec.eq_of_getLsbD_eq
  intro i hi
  rw [BitVec.getLsbD_or, BitVec.getLsbD_ofNat, BitVec.getLsbD_ofNat, BitVec.getLsbD_ofNat, Nat.testBit_or]
  simp [hi]
theorem pw_nI : ∀ p, p < 6 → ∃ m, m < 64 ∧ ((1 : Int32) <<< (nI p &&& 31)) = nI m := fun p hp => by
  rcases (show p = 0 ∨ p = 1 ∨ p = 2 ∨ p = 3 ∨ p = 4 ∨ p = 5 by omega) with rfl | rfl | rfl | rfl | rfl | rfl
  · exact ⟨1, by decide, by decide⟩
  · exact ⟨2, by decide, by decide⟩
  · exact ⟨4, by decide, by decide⟩
  · exact ⟨8, by decide, by decide⟩
  · exact ⟨16, by decide, by decide⟩
  · exact ⟨32, by decide, by decide⟩
theorem or_lt64 {x y : Int32} (hx : ∃ m, m < 64 ∧ x = nI m) (hy : ∃ m, m < 64 ∧ y = nI m) : ∃ m, m < 64 ∧ x ||| y = nI m := by
  obtain ⟨a, ha, rfl⟩ := hx
  obtain ⟨b, hb, rfl⟩ := hy
  exact ⟨a ||| b, Nat.or_lt_two_pow (n := 6) ha hb, fa_or a b⟩
theorem mb_lt (cd : Nat → Int32) (i : Nat) (hd : Int32) : ∀ q, q ≤ 6 → ∃ m, m < 64 ∧ mbN cd i hd q = nI m
  | 0, _ => ⟨0, by decide, rfl⟩
  | q + 1, h => by
    refine or_lt64 (mb_lt cd i hd q (by omega)) ?_
    unfold bitP
    split
    · exact ⟨0, by decide, by decide⟩
    · exact pw_nI q (by omega)
def HM (c : cT) (h : hT) : Prop := ∀ j, j < c.1 → ∃ n, n < 64 ∧ h j = nI n
theorem nmk_lt {c : cT} {h : hT} (hM : HM c h) (num : Int32) {j : Nat} (hj : j < c.1) : ∃ n, n < 64 ∧ nmk c h num j = nI n := or_lt64 (hM j hj) (mb_lt _ _ _ 6 (by decide))
/-- the class's hall i as a row of eight -/
def HX (σ : mS) (i : Nat) : hT := fun s => if s < 4 then σ.1 (152 + i) s else if s = 4 then σ.1 (144 + i) 2 else if s = 5 then σ.1 (144 + i) 3 else if s = 6 then σ.1 (144 + i) 5 else if s = 7 then σ.1 (144 + i) 4 else 0
def wnsW (c : cT) (who : Int32) (h : hT) (num : Int32) : Nat → Int32
  | 0 => 0
  | j + 1 => wnsW c who h num j ||| (if bt who j = true then wnb c h num j else 0)
def mkX (c : cT) (who : Int32) (h : hT) (num : Int32) (f : Nat → Int32) (j : Nat) : Nat → Int32 := fun q => if q < j ∧ bt who q = true then nmk c h num q else f q
/-- the fields of a hall: who has won, the bag, the number called last, the next call -/
def fdX (g : Nat → Int32) (w b l n : Int32) : Nat → Int32 := fun q => if q = 2 then w else if q = 3 then b else if q = 4 then l else if q = 5 then n else g q
theorem kindAt_eq {σ : mS} {c : cT} (hC : CF σ c) {x : Int32} {j : Nat} (hx : x.toInt = (j : Int)) (hj : j < c.1) : ∃ r, r < 6 ∧ X7_kindAt σ x = some r ∧ c.2.1 j = nI r := by
  obtain ⟨-, h4, hC⟩ := hC
  obtain ⟨⟨r, hr, e1, e2⟩, -, -⟩ := hC j hj
  refine ⟨r, hr, ?_, e2⟩
  unfold X7_kindAt
  have hxn : x.toNatClampNeg = j := by rw [i_nat, hx]; rfl
  rw [if_pos (vin_iff.mpr (by omega)), hxn, e1, if_pos (vin_iff.mpr (by rw [nI_ti (by omega)]; omega)), nI_nat (by omega)]
theorem mS_ext {σ τ : mS} (h1 : ∀ k, σ.1 k = τ.1 k) (h2 : σ.2 = τ.2) : σ = τ := by
  obtain ⟨a, b⟩ := σ
  obtain ⟨a', b'⟩ := τ
  dsimp only at h1 h2
  rw [show a = a' from funext h1, h2]
theorem mrow_comm {σ : mS} {k k' : Nat} {f g : Nat → Int32} (h : k ≠ k') : mrow (mrow σ k f) k' g = mrow (mrow σ k' g) k f := by
  refine mS_ext (fun q => ?_) rfl
  by_cases h1 : q = k
  · subst h1
    rw [mrow_ne h, mrow_at, mrow_at]
  · by_cases h2 : q = k'
    · subst h2
      rw [mrow_at, mrow_ne h1, mrow_at]
    · rw [mrow_ne h2, mrow_ne h1, mrow_ne h1, mrow_ne h2]
theorem mwI_rd {s : mS} {k j : Nat} {v : Int32} : (mwI s k j v).1 k j = v := by rw [mwI_row, mrow_at, upd_at]
theorem mwI_rk {s : mS} {k k' j : Nat} {v : Int32} (h : k' ≠ k) : (mwI s k j v).1 k' = s.1 k' := by rw [mwI_row, mrow_ne h]
theorem upd_self {f : Nat → Int32} {j : Nat} {v : Int32} (h : f j = v) : upd f j v = f := by
  funext q
  by_cases hq : q = j
  · subst hq; rw [upd_at, h]
  · rw [upd_ne hq]
theorem ring_step {s : mS} {c : cT} {h : hT} {i n j : Nat} {who x : Int32} (hi : i < 6) (hC : CF s c) (hM : HM c h) (hn : n < 31) (hx : x.toInt = (j : Int)) (hj : j < c.1) (hmj : s.1 (152 + i) j = h j) (e7 : s.1 (144 + i) 4 = h 7) (e6 : s.1 (144 + i) 5 = h 6) : X2_ring_b8 i (nI n) who s x = some (.inl (mrow (mrow s (152 + i) (upd (s.1 (152 + i)) j (if bt who j = true then nmk c h (nI n) j else s.1 (152 + i) j))) (144 + i) (upd (s.1 (144 + i)) 2 ((s.1 (144 + i) 2) ||| (if bt who j = true then wnb c h (nI n) j else 0))), x + 1)) := by
  have hP := hC.1
  have hP4 := hC.2.1
  have hxn : x.toNatClampNeg = j := by rw [i_nat, hx]; rfl
  have vx : vin x 4 = true := vin_iff.mpr (by omega)
  have ne1 : 144 + i ≠ 152 + i := by omega
  unfold X2_ring_b8
  rw [if_neg (nle (by rw [hP, hx]; omega)), i_nI hx, bit_eq who (by omega), ← i_nI hx]
  by_cases hb : bt who j = true
  · rw [if_pos hb, if_pos rfl, if_pos hb, if_pos hb]
    obtain ⟨r, hr, k1, k2⟩ := kindAt_eq hC hx hj
    rw [k1]
    show (if vin x 4 = true then _ else none) = _
    rw [if_pos vx, marked_eq s hC hx hj, hxn, hmj, heard_eq hr hn, ← k2, e7, e6]
    show (if vin x 4 = true then if vin x 4 = true then _ else none else none) = _
    rw [if_pos vx, if_pos vx]
    rw [show h j ||| mbT c.2.2 j (X11_heard (c.2.1 j) (nI n) (h 7) (h 6)) = nmk c h (nI n) j from rfl]
    generalize hN : nmk c h (nI n) j = N
    rw [mwI_rd, mwI_rk ne1]
    obtain ⟨m, hm, em⟩ := nmk_lt hM (nI n) hj
    have hl : kd_X5_lacks r N = ndT (c.2.1 j) N := by rw [← hN, em, lacks_eq r hr m hm, k2]
    rw [hl]
    unfold wnb
    rw [hN]
    by_cases hz : ndT (c.2.1 j) N = 0
    · rw [if_pos hz, if_pos hz, i_nI hx, mwI_row, mwI_row, mrow_ne ne1]
    · rw [if_neg hz, if_neg hz, or_zero, upd_self rfl, mwI_row]
      have h9 : mrow (mrow s (152 + i) (upd (s.1 (152 + i)) j N)) (144 + i) (s.1 (144 + i)) = mrow s (152 + i) (upd (s.1 (152 + i)) j N) := by
        rw [mrow_comm (by omega), mrow_id]
      rw [h9]
  · rw [if_neg hb, if_neg (by decide), if_neg hb, if_neg hb, or_zero, upd_self rfl, upd_self rfl, mrow_id, mrow_id]
theorem ring_lp (σ : mS) {c : cT} {i n : Nat} {who : Int32} (hi : i < 6) (hC : CF σ c) (hM : HM c (HX σ i)) (hn : n < 31) : lp big (un2 (X2_ring_b8 i (nI n) who)) (σ, 0) = some (mrow (mrow σ (152 + i) (mkX c who (HX σ i) (nI n) (σ.1 (152 + i)) c.1)) (144 + i) (upd (σ.1 (144 + i)) 2 (σ.1 (144 + i) 2 ||| wnsW c who (HX σ i) (nI n) c.1))) := by
  have hP := hC.1
  have hP4 := hC.2.1
  generalize hh : HX σ i = h at hM ⊢
  have e7 : h 7 = σ.1 (144 + i) 4 := by rw [← hh]; rfl
  have e6 : h 6 = σ.1 (144 + i) 5 := by rw [← hh]; rfl
  have r0 : mrow (mrow σ (152 + i) (mkX c who h (nI n) (σ.1 (152 + i)) 0)) (144 + i) (upd (σ.1 (144 + i)) 2 (σ.1 (144 + i) 2 ||| wnsW c who h (nI n) 0)) = σ := by
    have a1 : mkX c who h (nI n) (σ.1 (152 + i)) 0 = σ.1 (152 + i) := by
      funext q
      unfold mkX
      rw [if_neg (fun z => Nat.not_lt_zero q z.1)]
    have a2 : upd (σ.1 (144 + i)) 2 (σ.1 (144 + i) 2 ||| wnsW c who h (nI n) 0) = σ.1 (144 + i) := upd_self (or_zero _).symm
    rw [a1, a2, mrow_id, mrow_id]
  have H := lp_zero (b := un2 (X2_ring_b8 i (nI n) who)) (n := c.1) (res := mrow (mrow σ (152 + i) (mkX c who h (nI n) (σ.1 (152 + i)) c.1)) (144 + i) (upd (σ.1 (144 + i)) 2 (σ.1 (144 + i) 2 ||| wnsW c who h (nI n) c.1))) (fun j x => (mrow (mrow σ (152 + i) (mkX c who h (nI n) (σ.1 (152 + i)) j)) (144 + i) (upd (σ.1 (144 + i)) 2 (σ.1 (144 + i) 2 ||| wnsW c who h (nI n) j)), x)) (by omega) (fun j x hj hx => by
    have hrow : ∀ k, k ≠ 152 + i → k ≠ 144 + i → (mrow (mrow σ (152 + i) (mkX c who h (nI n) (σ.1 (152 + i)) j)) (144 + i) (upd (σ.1 (144 + i)) 2 (σ.1 (144 + i) 2 ||| wnsW c who h (nI n) j))).1 k = σ.1 k := fun k k1 k2 => by rw [mrow_ne k2, mrow_ne k1]
    have h152 : (mrow (mrow σ (152 + i) (mkX c who h (nI n) (σ.1 (152 + i)) j)) (144 + i) (upd (σ.1 (144 + i)) 2 (σ.1 (144 + i) 2 ||| wnsW c who h (nI n) j))).1 (152 + i) = mkX c who h (nI n) (σ.1 (152 + i)) j := by rw [mrow_ne (by omega), mrow_at]
    have h144 : (mrow (mrow σ (152 + i) (mkX c who h (nI n) (σ.1 (152 + i)) j)) (144 + i) (upd (σ.1 (144 + i)) 2 (σ.1 (144 + i) 2 ||| wnsW c who h (nI n) j))).1 (144 + i) = upd (σ.1 (144 + i)) 2 (σ.1 (144 + i) 2 ||| wnsW c who h (nI n) j) := mrow_at
    have hCs := hC.of (hrow 88 (by omega) (by omega)) (hrow 112 (by omega) (by omega)) (hrow 136 (by omega) (by omega)) (fun q hq => hrow _ (by omega) (by omega))
    have hold : mkX c who h (nI n) (σ.1 (152 + i)) j j = σ.1 (152 + i) j := by
      unfold mkX
      rw [if_neg (fun z => Nat.lt_irrefl j z.1)]
    have st := ring_step (who := who) hi hCs hM hn hx hj (by rw [h152, hold, ← hh]; unfold HX; rw [if_pos (by omega)]) (by rw [h144, upd_ne (by decide), e7]) (by rw [h144, upd_ne (by decide), e6])
    show X2_ring_b8 i (nI n) who _ x = _
    rw [st, h152, h144, upd_at, hold, or_assoc, mrow_comm (k := 144 + i) (k' := 152 + i) (by omega), mrow_mrow, mrow_mrow]
    have b1 : upd (mkX c who h (nI n) (σ.1 (152 + i)) j) j (if bt who j = true then nmk c h (nI n) j else σ.1 (152 + i) j) = mkX c who h (nI n) (σ.1 (152 + i)) (j + 1) := by
      funext q
      by_cases hq : q = j
      · subst hq
        rw [upd_at]
        unfold mkX
        by_cases hb : bt who q = true
        · rw [if_pos hb, if_pos ⟨by omega, hb⟩]
        · rw [if_neg hb, if_neg (fun z => hb z.2)]
      · rw [upd_ne hq]
        unfold mkX
        by_cases hb : q < j ∧ bt who q = true
        · rw [if_pos hb, if_pos ⟨by omega, hb.2⟩]
        · rw [if_neg hb, if_neg (fun z => hb ⟨by omega, z.2⟩)]
    have b2 : ∀ v : Int32, upd (upd (σ.1 (144 + i)) 2 v) 2 (σ.1 (144 + i) 2 ||| (wnsW c who h (nI n) j ||| (if bt who j = true then wnb c h (nI n) j else 0))) = upd (σ.1 (144 + i)) 2 (σ.1 (144 + i) 2 ||| wnsW c who h (nI n) (j + 1)) := by
      intro v
      funext q
      by_cases hq : q = 2
      · subst hq; rw [upd_at, upd_at]; rfl
      · rw [upd_ne hq, upd_ne hq, upd_ne hq]
    rw [b1, b2]) (fun x hx => by
    show X2_ring_b8 i (nI n) who _ x = _
    unfold X2_ring_b8
    rw [if_pos (ile (by rw [mrow_ne (by omega), mrow_ne (by omega), hP, hx]; omega))])
  have H3 := H
  rw [r0] at H3
  exact H3
theorem ring_eq (σ : mS) {c : cT} {i n : Nat} {who : Int32} (hi : i < 6) (hC : CF σ c) (hM : HM c (HX σ i)) (hn : n < 31) : X2_ring σ i (nI n) who = some ((σ.1 (144 + i) 2 ||| wnsW c who (HX σ i) (nI n) c.1) &&& ((σ.1 (144 + i) 2) ^^^ (-1)), mrow (mrow σ (152 + i) (mkX c who (HX σ i) (nI n) (σ.1 (152 + i)) c.1)) (144 + i) (fdX (σ.1 (144 + i)) (σ.1 (144 + i) 2 ||| wnsW c who (HX σ i) (nI n) c.1) ((σ.1 (144 + i) 3) &&& (((1 : Int32) <<< (nI n &&& 31)) ^^^ (-1))) (nI n) ((σ.1 (144 + i) 5) + 1))) := by
  unfold X2_ring
  rw [ring_lp σ hi hC hM hn]
  show some _ = some _
  simp only [mwI_row, mrow_mrow, mrow_at]
  congr 2
  congr 1
  funext q
  unfold fdX
  by_cases q5 : q = 5
  · subst q5
    rw [upd_at, upd_ne (by decide), upd_ne (by decide), upd_ne (by decide)]
    rfl
  rw [upd_ne q5]
  by_cases q4 : q = 4
  · subst q4
    rw [upd_at]
    rfl
  rw [upd_ne q4]
  by_cases q3 : q = 3
  · subst q3
    rw [upd_at, upd_ne (by decide)]
    rfl
  rw [upd_ne q3]
  by_cases q2 : q = 2
  · subst q2
    rw [upd_at]
    rfl
  rw [upd_ne q2, if_neg q2, if_neg q3, if_neg q4, if_neg q5]
