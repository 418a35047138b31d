/-! halls: what a call, a turn, a new start make of them; both sides alike -/
theorem bt15 : ∀ j, j < 4 → bt 15 j = true := by decide +kernel
theorem wnsW_15 {c : cT} {h : hT} {num : Int32} : ∀ {q : Nat}, q ≤ 4 → wnsW c 15 h num q = wns c h num q
  | 0, _ => rfl
  | q + 1, hq => by
    show wnsW c 15 h num q ||| (if bt 15 q = true then wnb c h num q else 0) = wns c h num q ||| wnb c h num q
    rw [if_pos (bt15 q (by omega)), wnsW_15 (by omega)]
theorem or_andn (a w : Int32) : (a ||| w) &&& (a ^^^ (-1)) = w &&& (a ^^^ (-1)) := b_ext (fun i hi => by
  rw [b_and, b_and, b_or, b_xor, b_m1 i hi]
  cases bt a i <;> cases bt w i <;> rfl)
/-- the class's rows behind a call in hall i -/
def rgX (σ : mS) (c : cT) (i : Nat) (who num : Int32) : mS := mrow (mrow σ (152 + i) (mkX c who (HX σ i) num (σ.1 (152 + i)) c.1)) (144 + i) (fdX (σ.1 (144 + i)) (σ.1 (144 + i) 2 ||| wnsW c who (HX σ i) num c.1) ((σ.1 (144 + i) 3) &&& (((1 : Int32) <<< (num &&& 31)) ^^^ (-1))) num ((σ.1 (144 + i) 5) + 1))
theorem rgX_row {σ : mS} {c : cT} {i k : Nat} {who num : Int32} (h1 : k ≠ 152 + i) (h2 : k ≠ 144 + i) : (rgX σ c i who num).1 k = σ.1 k := by
  unfold rgX
  rw [mrow_ne h2, mrow_ne h1]
theorem rgX_2 {σ : mS} {c : cT} {i : Nat} {who num : Int32} : (rgX σ c i who num).2 = σ.2 := rfl
theorem rgX_152 {σ : mS} {c : cT} {i : Nat} {who num : Int32} : (rgX σ c i who num).1 (152 + i) = mkX c who (HX σ i) num (σ.1 (152 + i)) c.1 := by
  unfold rgX
  rw [mrow_ne (by omega), mrow_at]
theorem rgX_144 {σ : mS} {c : cT} {i : Nat} {who num : Int32} : (rgX σ c i who num).1 (144 + i) = fdX (σ.1 (144 + i)) (σ.1 (144 + i) 2 ||| wnsW c who (HX σ i) num c.1) ((σ.1 (144 + i) 3) &&& (((1 : Int32) <<< (num &&& 31)) ^^^ (-1))) num ((σ.1 (144 + i) 5) + 1) := by
  unfold rgX
  rw [mrow_at]
theorem rgX_HX {σ : mS} {c : cT} {i : Nat} {num : Int32} (hP : c.1 ≤ 4) : HX (rgX σ c i 15 num) i = ringH c (HX σ i) num := by
  funext s
  show (if s < 4 then (rgX σ c i 15 num).1 (152 + i) s else if s = 4 then (rgX σ c i 15 num).1 (144 + i) 2 else if s = 5 then (rgX σ c i 15 num).1 (144 + i) 3 else if s = 6 then (rgX σ c i 15 num).1 (144 + i) 5 else if s = 7 then (rgX σ c i 15 num).1 (144 + i) 4 else 0) = _
  rw [rgX_152, rgX_144]
  unfold ringH
  by_cases h4 : s < 4
  · rw [if_pos h4]
    unfold mkX
    by_cases hs : s < c.1
    · rw [if_pos ⟨hs, bt15 s h4⟩, if_pos hs]
    · rw [if_neg (fun z => hs z.1), if_neg hs, if_neg (by omega), if_neg (by omega), if_neg (by omega), if_neg (by omega)]
      unfold HX
      rw [if_pos h4]
  · rw [if_neg h4, if_neg (by omega : ¬ s < c.1)]
    by_cases e4 : s = 4
    · rw [if_pos e4, if_pos e4, ← wnsW_15 hP]; rfl
    · rw [if_neg e4, if_neg e4]
      by_cases e5 : s = 5
      · rw [if_pos e5, if_pos e5]; rfl
      · rw [if_neg e5, if_neg e5]
        by_cases e6 : s = 6
        · rw [if_pos e6, if_pos e6]; rfl
        · rw [if_neg e6, if_neg e6]
          by_cases e7 : s = 7
          · rw [if_pos e7, if_pos e7]; rfl
          · rw [if_neg e7, if_neg e7]
            unfold HX
            rw [if_neg h4, if_neg e4, if_neg e5, if_neg e6, if_neg e7]
theorem ring15 (σ : mS) {c : cT} {i n : Nat} (hi : i < 6) (hC : CF σ c) (hM : HM c (HX σ i)) (hn : n < 31) : X2_ring σ i (nI n) 15 = some (wns c (HX σ i) (nI n) c.1 &&& ((HX σ i 4) ^^^ (-1)), rgX σ c i 15 (nI n)) := by
  rw [ring_eq σ hi hC hM hn, or_andn, wnsW_15 hC.2.1]
  unfold rgX
  rw [wnsW_15 hC.2.1]
  rfl
/-! what is always so of a hall -/
def HV (h : hT) : Prop := (∀ j, j < 4 → ∃ n, n < 64 ∧ h j = nI n) ∧ (∃ n, n < 16 ∧ h 4 = nI n) ∧ (∃ n, n < 4096 ∧ h 5 = nI (2 * n))
theorem HV.m {h : hT} (hV : HV h) {c : cT} (hP : c.1 ≤ 4) : HM c h := fun j hj => hV.1 j (by omega)
theorem or_lt16 {x y : Int32} (hx : ∃ m, m < 16 ∧ x = nI m) (hy : ∃ m, m < 16 ∧ y = nI m) : ∃ m, m < 16 ∧ x ||| y = nI m := by
  obtain ⟨a, ha, rfl⟩ := hx
  obtain ⟨b, hb, rfl⟩ := hy
  exact ⟨a ||| b, Nat.or_lt_two_pow (n := 4) ha hb, fa_or a b⟩
theorem wns_lt (c : cT) (h : hT) (num : Int32) : ∀ q, q ≤ 4 → ∃ m, m < 16 ∧ wns c h num q = nI m
  | 0, _ => ⟨0, by decide, rfl⟩
  | q + 1, hq => by
    refine or_lt16 (wns_lt c h num q (by omega)) ?_
    unfold wnb
    split
    · rcases (show q = 0 ∨ q = 1 ∨ q = 2 ∨ q = 3 by omega) with rfl | rfl | rfl | rfl
      · exact ⟨1, by decide, by decide⟩
      · exact ⟨2, by decide, by decide⟩
      · exact ⟨4, by decide, by decide⟩
      · exact ⟨8, by decide, by decide⟩
    · exact ⟨0, by decide, rfl⟩
theorem and_nI (n : Nat) (y : Int32) : nI n &&& y = nI (n &&& y.toBitVec.toNat) := by
  apply Int32.toBitVec_inj.mp
  rw [Int32.toBitVec_and]
  show BitVec.ofNat 32 n &&& y.toBitVec = BitVec.ofNat 32 (n &&& y.toBitVec.toNat)
  apply BitVec.eq_of_getLsbD_eq
  intro i hi
  rw [BitVec.getLsbD_and, BitVec.getLsbD_ofNat, BitVec.getLsbD_ofNat, Nat.testBit_and]
  simp [hi, BitVec.getLsbD]
theorem even_and {n m : Nat} : ∃ k, k ≤ n ∧ (2 * n) &&& m = 2 * k := by
  refine ⟨n &&& (m / 2), Nat.and_le_left, ?_⟩
  apply Nat.eq_of_testBit_eq
  intro i
  rw [Nat.testBit_and]
  cases i with
  | zero => simp [Nat.testBit_zero]
  | succ i => rw [Nat.testBit_succ, Nat.testBit_succ, Nat.testBit_succ, show 2 * n / 2 = n by omega, show 2 * (n &&& m / 2) / 2 = n &&& m / 2 by omega, Nat.testBit_and]
theorem HV.ring {h : hT} (hV : HV h) {c : cT} (hP : c.1 ≤ 4) (num : Int32) : HV (ringH c h num) := by
  refine ⟨fun j hj => ?_, ?_, ?_⟩
  · unfold ringH
    by_cases hs : j < c.1
    · rw [if_pos hs]
      exact nmk_lt (hV.m hP) num hs
    · rw [if_neg hs, if_neg (by omega), if_neg (by omega), if_neg (by omega), if_neg (by omega)]
      exact hV.1 j hj
  · unfold ringH
    rw [if_neg (by omega), if_pos rfl]
    exact or_lt16 hV.2.1 (wns_lt c h num c.1 hP)
  · unfold ringH
    rw [if_neg (by omega), if_neg (by decide), if_pos rfl]
    obtain ⟨n, hn, e⟩ := hV.2.2
    rw [e, and_nI]
    obtain ⟨k, hk, e2⟩ := even_and (n := n) (m := (((1 : Int32) <<< (num &&& 31)) ^^^ (-1)).toBitVec.toNat)
    exact ⟨k, by omega, by rw [e2]⟩
/-- by hand -/
def turnH (h : hT) (i p : Nat) : hT := upd h i (h i ^^^ ((1 : Int32) <<< (nI p &&& 31)))
theorem fa_xor (a b : Nat) : nI a ^^^ nI b = nI (a ^^^ b) := by
  apply Int32.toBitVec_inj.1
  show BitVec.ofNat 32 a ^^^ BitVec.ofNat 32 b = BitVec.ofNat 32 (a ^^^ b)
  apply BitVec.eq_of_getLsbD_eq
  intro i hi
  simp [hi]
theorem HV.turn {h : hT} (hV : HV h) {i p : Nat} (hi : i < 4) (hp : p < 6) : HV (turnH h i p) := by
  refine ⟨fun j hj => ?_, ?_, ?_⟩
  · unfold turnH
    by_cases e : j = i
    · subst e
      rw [upd_at]
      obtain ⟨n, hn, e1⟩ := hV.1 j hj
      obtain ⟨m, hm, e2⟩ := pw_nI p hp
      rw [e1, e2, fa_xor]
      exact ⟨n ^^^ m, Nat.xor_lt_two_pow (n := 6) hn hm, rfl⟩
    · rw [upd_ne e]
      exact hV.1 j hj
  · unfold turnH
    rw [upd_ne (by omega)]
    exact hV.2.1
  · unfold turnH
    rw [upd_ne (by omega)]
    exact hV.2.2
def frH (P : Nat) : hT := fun s => if s = 5 then (if P = 0 then 0 else 8190) else 0
theorem HV_fr (P : Nat) : HV (frH P) := by
  refine ⟨fun j hj => ⟨0, by decide, ?_⟩, ⟨0, by decide, rfl⟩, ?_⟩
  · unfold frH
    rw [if_neg (by omega)]
    rfl
  · unfold frH
    rw [if_pos rfl]
    split
    · exact ⟨0, by decide, rfl⟩
    · exact ⟨4095, by decide, rfl⟩
/-! deeds: a number below 16 is called, from 16 on 16 + 6 i + p rubbed -/
def dOK (P m : Nat) : Prop := (1 ≤ m ∧ m ≤ 12) ∨ (16 ≤ m ∧ m < 16 + 6 * P)
def dStep (c : cT) (h : hT) (m : Nat) : hT := if m < 16 then ringH c h (nI m) else turnH h ((m - 16) / 6) ((m - 16) % 6)
def rpl (c : cT) (dn : Nat → Nat) : Nat → hT
  | 0 => frH c.1
  | k + 1 => dStep c (rpl c dn k) (dn k)
theorem HV_step {c : cT} {h : hT} {m : Nat} (hV : HV h) (hP : c.1 ≤ 4) (hm : dOK c.1 m) : HV (dStep c h m) := by
  unfold dStep
  rcases hm with hm | hm
  · rw [if_pos (by omega)]
    exact hV.ring hP _
  · rw [if_neg (by omega)]
    exact hV.turn (by omega) (by omega)
theorem HV_rpl {c : cT} {dn : Nat → Nat} (hP : c.1 ≤ 4) : ∀ {k : Nat}, (∀ q, q < k → dOK c.1 (dn q)) → HV (rpl c dn k)
  | 0, _ => HV_fr _
  | k + 1, h => HV_step (HV_rpl hP (fun q hq => h q (by omega))) hP (h k (by omega))
theorem rpl_cong {c : cT} {dn dm : Nat → Nat} : ∀ {k : Nat}, (∀ q, q < k → dn q = dm q) → rpl c dn k = rpl c dm k
  | 0, _ => rfl
  | k + 1, h => by
    show dStep c (rpl c dn k) (dn k) = dStep c (rpl c dm k) (dm k)
    rw [rpl_cong (fun q hq => h q (by omega)), h k (by omega)]
