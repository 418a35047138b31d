/-! numbers, and computations that come to an end -/
theorem i_lt {a b : Int32} : a < b ↔ a.toInt < b.toInt := Int32.lt_iff_toInt_lt
theorem i_le {a b : Int32} : a ≤ b ↔ a.toInt ≤ b.toInt := Int32.le_iff_toInt_le
theorem l_lt {a b : Int64} : a < b ↔ a.toInt < b.toInt := Int64.lt_iff_toInt_lt
theorem l_le {a b : Int64} : a ≤ b ↔ a.toInt ≤ b.toInt := Int64.le_iff_toInt_le
theorem i_eq {a b : Int32} : a = b ↔ a.toInt = b.toInt := Int32.toInt_inj.symm
theorem l_eq {a b : Int64} : a = b ↔ a.toInt = b.toInt := Int64.toInt_inj.symm
theorem i_of {a : Int32} {z : Int} (h : a.toInt = z) : a = Int32.ofInt z := by rw [← h, Int32.ofInt_toInt]
theorem i_lo (a : Int32) : -2147483648 ≤ a.toInt := Int32.le_toInt a
theorem i_hi (a : Int32) : a.toInt < 2147483648 := Int32.toInt_lt a
theorem l_of_i (a : Int32) : a.toInt64.toInt = a.toInt := Int32.toInt_toInt64 a
theorem i_nat (a : Int32) : a.toNatClampNeg = a.toInt.toNat := rfl
theorem vin_iff {i : Int32} {n : Nat} : vin i n = true ↔ 0 ≤ i.toInt ∧ i.toInt < (n : Int) := by
  unfold vin
  rw [Bool.not_eq_true', Bool.or_eq_false_iff, decide_eq_false_iff_not, decide_eq_false_iff_not, i_lt, i_nat]
  show ¬ i.toInt < 0 ∧ ¬ n ≤ i.toInt.toNat ↔ _
  omega
theorem in_zero {a : Int32} {lo hi : Int64} : X11_in a.toInt64 lo hi = 0 ↔ (a.toInt < lo.toInt ∨ hi.toInt < a.toInt) := by
  unfold X11_in
  simp only [l_lt, l_of_i]
  by_cases h1 : a.toInt < lo.toInt
  · simp [h1]
  · by_cases h2 : hi.toInt < a.toInt
    · simp [h1, h2]
    · simp [h1, h2]
theorem isRow_zero {a : Int32} : X10_isRow a = 0 ↔ (a.toInt < 0 ∨ 6 ≤ a.toInt) := by
  unfold X10_isRow
  simp only [i_lt, i_le]
  show (if a.toInt < 0 then (0 : Int32) else if 6 ≤ a.toInt then 0 else 1) = 0 ↔ _
  by_cases h1 : a.toInt < 0
  · simp [h1]
  · by_cases h2 : 6 ≤ a.toInt
    · simp [h1, h2]
    · simp [h1, h2]
theorem isText_zero {a : Int32} : X10_isText a = 0 ↔ (a.toInt < 0 ∨ 4 ≤ a.toInt) := by
  unfold X10_isText
  simp only [i_lt, i_le]
  show (if a.toInt < 0 then (0 : Int32) else if 4 ≤ a.toInt then 0 else 1) = 0 ↔ _
  by_cases h1 : a.toInt < 0
  · simp [h1]
  · by_cases h2 : 4 ≤ a.toInt
    · simp [h1, h2]
    · simp [h1, h2]
theorem isNumber_zero {a : Int32} : X10_isNumber a = 0 ↔ (a.toInt < 1 ∨ 12 < a.toInt) := by
  unfold X10_isNumber
  simp only [i_lt, i_le]
  show (if a.toInt < 1 then (0 : Int32) else if 12 < a.toInt then 0 else 1) = 0 ↔ _
  by_cases h1 : a.toInt < 1
  · simp [h1]
  · by_cases h2 : 12 < a.toInt
    · simp [h1, h2]
    · simp [h1, h2]
theorem isPlace_zero {a : Int32} : X10_isPlace a = 0 ↔ (a.toInt < 0 ∨ 6 ≤ a.toInt) := by
  unfold X10_isPlace
  simp only [i_lt, i_le]
  show (if a.toInt < 0 then (0 : Int32) else if 6 ≤ a.toInt then 0 else 1) = 0 ↔ _
  by_cases h1 : a.toInt < 0
  · simp [h1]
  · by_cases h2 : 6 ≤ a.toInt
    · simp [h1, h2]
    · simp [h1, h2]
theorem isKept_zero {a : Int32} : X10_isKeptPlace a = 0 ↔ (a.toInt < 0 ∨ 3 ≤ a.toInt) := by
  unfold X10_isKeptPlace
  simp only [i_lt, i_le]
  show (if a.toInt < 0 then (0 : Int32) else if 3 ≤ a.toInt then 0 else 1) = 0 ↔ _
  by_cases h1 : a.toInt < 0
  · simp [h1]
  · by_cases h2 : 3 ≤ a.toInt
    · simp [h1, h2]
    · simp [h1, h2]
theorem isPlayer_zero {σ : mS} {a : Int32} : X10_isPlayer σ a = 0 ↔ (a.toInt < 0 ∨ (σ.1 88 4).toInt ≤ a.toInt) := by
  unfold X10_isPlayer
  simp only [i_lt, i_le]
  show (if a.toInt < 0 then (0 : Int32) else if (σ.1 88 4).toInt ≤ a.toInt then 0 else 1) = 0 ↔ _
  by_cases h1 : a.toInt < 0
  · simp [h1]
  · by_cases h2 : (σ.1 88 4).toInt ≤ a.toInt
    · simp [h1, h2]
    · simp [h1, h2]
/-! a computation comes to an end, with Q -/
def Hs {α : Type} (o : Option α) (Q : α → Prop) : Prop := ∃ r, o = some r ∧ Q r
theorem Hs.ret {α : Type} {Q : α → Prop} {r : α} (h : Q r) : Hs (some r) Q := ⟨r, rfl, h⟩
theorem Hs.ite {α : Type} {Q : α → Prop} {c : Prop} [Decidable c] {A B : Option α} (h1 : c → Hs A Q) (h2 : ¬ c → Hs B Q) : Hs (if c then A else B) Q := by
  by_cases h : c
  · rw [if_pos h]; exact h1 h
  · rw [if_neg h]; exact h2 h
theorem Hs.pos {α : Type} {Q : α → Prop} {c : Prop} [Decidable c] {A B : Option α} (h : c) (h1 : Hs A Q) : Hs (if c then A else B) Q := by rw [if_pos h]; exact h1
theorem Hs.neg {α : Type} {Q : α → Prop} {c : Prop} [Decidable c] {A B : Option α} (h : ¬ c) (h1 : Hs B Q) : Hs (if c then A else B) Q := by rw [if_neg h]; exact h1
theorem Hs.bind {α β : Type} {Q : β → Prop} {A : Option α} {f : α → Option β} {P : α → Prop} (h : Hs A P) (k : ∀ a, P a → Hs (f a) Q) : Hs (A.bind f) Q := by
  obtain ⟨a, rfl, ha⟩ := h
  exact k a ha
theorem Hs.bdd {α β γ : Type} {Q : γ → Prop} {A : Option (α × β)} {f : α → β → Option γ} {P : α × β → Prop} (h : Hs A P) (k : ∀ a b, P (a, b) → Hs (f a b) Q) : Hs (bd A f) Q := by
  obtain ⟨⟨a, b⟩, rfl, ha⟩ := h
  exact k a b ha
theorem Hs.mono {α : Type} {Q P : α → Prop} {o : Option α} (h : Hs o P) (k : ∀ r, P r → Q r) : Hs o Q := by
  obtain ⟨r, e, hr⟩ := h
  exact ⟨r, e, k r hr⟩
/-- a loop: an invariant, a measure that falls -/
theorem Hs.loop {S R : Type} {b : S → Option (S ⊕ R)} {Q : R → Prop} (I : S → Prop) (m : S → Nat) (h : ∀ s, I s → Hs (b s) (fun x => (∀ s', x = .inl s' → I s' ∧ m s' < m s) ∧ (∀ r, x = .inr r → Q r))) : ∀ (n : Nat) (s : S), I s → m s < n → Hs (lp n b s) Q
  | 0, s, _, hm => absurd hm (Nat.not_lt_zero _)
  | n + 1, s, hI, hm => by
    obtain ⟨x, e, h1, h2⟩ := h s hI
    unfold lp
    rw [e]
    cases x with
    | inl s' =>
      obtain ⟨g1, g2⟩ := h1 s' rfl
      exact Hs.loop I m h n s' g1 (by omega)
    | inr r => exact ⟨r, rfl, h2 r rfl⟩
theorem Hs.inl {S R : Type} {P : S → Prop} {Q : R → Prop} {s : S} (h : P s) : Hs (some (Sum.inl s : S ⊕ R)) (fun x => (∀ s', x = .inl s' → P s') ∧ (∀ r, x = .inr r → Q r)) := by
  refine ⟨_, rfl, ?_⟩
  constructor
  · intro s' e; cases e; exact h
  · intro r e; cases e
theorem Hs.inr {S R : Type} {P : S → Prop} {Q : R → Prop} {r : R} (h : Q r) : Hs (some (Sum.inr r : S ⊕ R)) (fun x => (∀ s', x = .inl s' → P s') ∧ (∀ r, x = .inr r → Q r)) := by
  refine ⟨_, rfl, ?_⟩
  constructor
  · intro s' e; cases e
  · intro r e; cases e; exact h
theorem i_add {x y : Int32} (h1 : -2147483648 ≤ x.toInt + y.toInt) (h2 : x.toInt + y.toInt < 2147483648) : (x + y).toInt = x.toInt + y.toInt := by rw [Int32.toInt_add, i32_bm h1 h2]
theorem i_sub {x y : Int32} (h1 : -2147483648 ≤ x.toInt - y.toInt) (h2 : x.toInt - y.toInt < 2147483648) : (x - y).toInt = x.toInt - y.toInt := by rw [Int32.toInt_sub, i32_bm h1 h2]
theorem i_mul {x y : Int32} (h1 : -2147483648 ≤ x.toInt * y.toInt) (h2 : x.toInt * y.toInt < 2147483648) : (x * y).toInt = x.toInt * y.toInt := by rw [Int32.toInt_mul, i32_bm h1 h2]
theorem i_inc {x : Int32} (h : x.toInt < 2147483647) : (x + 1).toInt = x.toInt + 1 := i_add (by have := i_lo x; show _ ≤ x.toInt + 1; omega) (by show x.toInt + 1 < _; omega)

/-! rows of the memory; loops that fill -/
def mrow (σ : mS) (k : Nat) (f : Nat → Int32) : mS := (va_up σ.1 k f, σ.2)
theorem mrow_at {σ : mS} {k : Nat} {f : Nat → Int32} : (mrow σ k f).1 k = f := by simp [mrow, va_up]
theorem mrow_ne {σ : mS} {k k' : Nat} {f : Nat → Int32} (h : k' ≠ k) : (mrow σ k f).1 k' = σ.1 k' := by simp [mrow, va_up, h]
theorem mrow_2 {σ : mS} {k : Nat} {f : Nat → Int32} : (mrow σ k f).2 = σ.2 := rfl
theorem mrow_mrow {σ : mS} {k : Nat} {f g : Nat → Int32} : mrow (mrow σ k f) k g = mrow σ k g := by
  unfold mrow
  congr 1
  funext q
  by_cases h : q = k
  · simp [va_up, h]
  · simp [va_up, h]
theorem mrow_id {σ : mS} {k : Nat} : mrow σ k (σ.1 k) = σ := by
  unfold mrow
  obtain ⟨f, g⟩ := σ
  congr 1
  funext q
  by_cases h : q = k
  · simp [va_up, h]
  · simp [va_up, h]
theorem mwI_row {σ : mS} {k j : Nat} {v : Int32} : mwI σ k j v = mrow σ k (upd (σ.1 k) j v) := rfl
theorem upd_at {f : Nat → Int32} {j : Nat} {v : Int32} : upd f j v j = v := by simp [upd]
theorem upd_ne {f : Nat → Int32} {i j : Nat} {v : Int32} (h : i ≠ j) : upd f j v i = f i := by simp [upd, h]
/-- places b .. b + n - 1 hold a -/
def seg (b n : Nat) (a : Int32) (f : Nat → Int32) : Nat → Int32 := fun j => if b ≤ j ∧ j < b + n then a else f j
theorem seg_zero {b : Nat} {a : Int32} {f : Nat → Int32} : seg b 0 a f = f := by
  funext j
  unfold seg
  rw [if_neg (by omega)]
theorem seg_succ {b n : Nat} {a : Int32} {f : Nat → Int32} : upd (seg b n a f) (b + n) a = seg b (n + 1) a f := by
  funext j
  by_cases h : j = b + n
  · rw [h, upd_at]
    unfold seg
    rw [if_pos (by omega)]
  · rw [upd_ne h]
    unfold seg
    by_cases h2 : b ≤ j ∧ j < b + n
    · rw [if_pos h2, if_pos (by omega)]
    · rw [if_neg h2, if_neg (by omega)]
theorem seg_in {b n j : Nat} {a : Int32} {f : Nat → Int32} (h : b ≤ j ∧ j < b + n) : seg b n a f j = a := if_pos h
theorem seg_out {b n j : Nat} {a : Int32} {f : Nat → Int32} (h : ¬ (b ≤ j ∧ j < b + n)) : seg b n a f j = f j := if_neg h
theorem Hs.eq {α : Type} {o : Option α} {c : α} (h : Hs o (fun r => r = c)) : o = some c := by
  obtain ⟨r, e, rfl⟩ := h
  exact e
theorem i_one : (1 : Int32).toInt = 1 := by decide
theorem i_zero : (0 : Int32).toInt = 0 := by decide
theorem fillI_eq (σ : mS) (k z : Nat) (a : Int32) (hz : z ≤ 1000) : J7_fill_53178 σ k z a = some ((), mrow σ k (seg 0 z a (σ.1 k))) := by
  apply Hs.eq
  unfold J7_fill_53178
  refine Hs.bind (P := fun s => s = mrow σ k (seg 0 z a (σ.1 k))) (Hs.loop (I := fun q => ∃ n : Nat, n ≤ z ∧ q.2.toInt = (n : Int) ∧ q.1 = mrow σ k (seg 0 n a (σ.1 k))) (fun q => z - q.2.toNatClampNeg) (fun q hq => ?_) big (σ, 0) ?_ ?_) (fun s hs => ?_)
  · obtain ⟨s, x⟩ := q
    obtain ⟨n, h1, h2, h3⟩ := hq
    dsimp only at h2 h3 ⊢
    show Hs (J7_fill_53178_b5 k z a s x) _
    unfold J7_fill_53178_b5
    have hzz : (Int32.ofNat z).toInt = (z : Int) := i32_ofNat (by omega)
    refine Hs.ite (fun c => ?_) (fun c => ?_)
    · rw [i_le, hzz, h2] at c
      refine Hs.inr ?_
      rw [h3, show n = z by omega]
    · rw [i_le, hzz, h2] at c
      refine Hs.pos (vin_iff.mpr (by omega)) (Hs.inl ⟨⟨n + 1, by omega, ?_, ?_⟩, ?_⟩)
      · rw [i_inc (by omega), h2]; rfl
      · have hx : x.toNatClampNeg = 0 + n := by rw [i_nat, h2]; omega
        rw [h3, mwI_row, mrow_mrow, mrow_at, hx, seg_succ]
      · show z - (x + 1).toNatClampNeg < z - x.toNatClampNeg
        rw [i_nat, i_nat, i_inc (by omega), h2]
        omega
  · exact ⟨0, Nat.zero_le _, i_zero, by rw [seg_zero, mrow_id]⟩
  · show z - 0 < 1000000
    omega
  · show Hs (some ((), s)) _
    exact ⟨_, rfl, by rw [hs]⟩
theorem fillB_eq (σ : mS) (k z : Nat) (a : Int32) (hz : z ≤ 1000) : J7_fill_031fb σ k z a = some ((), mrow σ k (seg 0 z a.toInt8.toInt32 (σ.1 k))) := by
  apply Hs.eq
  unfold J7_fill_031fb
  refine Hs.bind (P := fun s => s = mrow σ k (seg 0 z a.toInt8.toInt32 (σ.1 k))) (Hs.loop (I := fun q => ∃ n : Nat, n ≤ z ∧ q.2.toInt = (n : Int) ∧ q.1 = mrow σ k (seg 0 n a.toInt8.toInt32 (σ.1 k))) (fun q => z - q.2.toNatClampNeg) (fun q hq => ?_) big (σ, 0) ?_ ?_) (fun s hs => ?_)
  · obtain ⟨s, x⟩ := q
    obtain ⟨n, h1, h2, h3⟩ := hq
    dsimp only at h2 h3 ⊢
    show Hs (J7_fill_031fb_b5 k z a s x) _
    unfold J7_fill_031fb_b5
    have hzz : (Int32.ofNat z).toInt = (z : Int) := i32_ofNat (by omega)
    refine Hs.ite (fun c => ?_) (fun c => ?_)
    · rw [i_le, hzz, h2] at c
      refine Hs.inr ?_
      rw [h3, show n = z by omega]
    · rw [i_le, hzz, h2] at c
      refine Hs.pos (vin_iff.mpr (by omega)) (Hs.inl ⟨⟨n + 1, by omega, ?_, ?_⟩, ?_⟩)
      · rw [i_inc (by omega), h2]; rfl
      · have hx : x.toNatClampNeg = 0 + n := by rw [i_nat, h2]; omega
        rw [h3, mwI_row, mrow_mrow, mrow_at, hx, seg_succ]
      · show z - (x + 1).toNatClampNeg < z - x.toNatClampNeg
        rw [i_nat, i_nat, i_inc (by omega), h2]
        omega
  · exact ⟨0, Nat.zero_le _, i_zero, by rw [seg_zero, mrow_id]⟩
  · show z - 0 < 1000000
    omega
  · show Hs (some ((), s)) _
    exact ⟨_, rfl, by rw [hs]⟩
/-- an index c * a + x of the reference -/
theorem i_ix {c a x : Int32} {cn r n : Nat} (hc : c.toInt = (cn : Int)) (ha : a.toInt = (r : Int)) (hx : x.toInt = (n : Int)) (h : cn * r + n < 2147483648) : ((c * a) + x).toInt = ((cn * r + n : Nat) : Int) := by
  have h1 : ((cn * r : Nat) : Int) = (cn : Int) * (r : Int) := Int.natCast_mul cn r
  have h2 : (c * a).toInt = ((cn * r : Nat) : Int) := by rw [i_mul, hc, ha, h1] <;> (rw [hc, ha, ← h1]; omega)
  rw [i_add, h2, hx] <;> (try rw [h2, hx]) <;> omega
theorem i_ixn {c a x : Int32} {cn r n : Nat} (hc : c.toInt = (cn : Int)) (ha : a.toInt = (r : Int)) (hx : x.toInt = (n : Int)) (h : cn * r + n < 2147483648) : ((c * a) + x).toNatClampNeg = cn * r + n := by
  rw [i_nat, i_ix hc ha hx h]; rfl
theorem anew_eq (σ : mS) {a1 a2 : Int32} {r n : Nat} (h1 : a1.toInt = (r : Int)) (hr : r < 6) (h2 : a2.toInt = (n : Int)) (hn : n ≤ 40) : X11_anew σ a1 a2 = some ((), mrow (mrow σ 1 (upd (σ.1 1) r a2)) 2 (seg (40 * r) n 0 (σ.1 2))) := by
  apply Hs.eq
  unfold X11_anew
  have hrn : a1.toNatClampNeg = r := by rw [i_nat, h1]; rfl
  refine Hs.pos (vin_iff.mpr (by omega)) ?_
  rw [hrn, mwI_row]
  generalize hσ1 : mrow σ 1 (upd (σ.1 1) r a2) = σ1
  have hs2 : σ.1 2 = σ1.1 2 := by rw [← hσ1, mrow_ne (by decide)]
  rw [hs2]
  refine Hs.bind (P := fun s => s = mrow σ1 2 (seg (40 * r) n 0 (σ1.1 2))) (Hs.loop (I := fun q => ∃ j : Nat, j ≤ n ∧ q.2.toInt = (j : Int) ∧ q.1 = mrow σ1 2 (seg (40 * r) j 0 (σ1.1 2))) (fun q => n - q.2.toNatClampNeg) (fun q hq => ?_) big (σ1, 0) ?_ ?_) (fun s hs => ?_)
  · obtain ⟨s, x⟩ := q
    obtain ⟨j, g1, g2, g3⟩ := hq
    dsimp only at g2 g3 ⊢
    show Hs (X11_anew_b9 a1 a2 s x) _
    unfold X11_anew_b9
    refine Hs.ite (fun c => ?_) (fun c => ?_)
    · rw [i_le, h2, g2] at c
      refine Hs.inr ?_
      rw [g3, show j = n by omega]
    · rw [i_le, h2, g2] at c
      have hix := i_ix (c := 40) (cn := 40) (by decide) h1 g2 (by omega)
      have hixn := i_ixn (c := 40) (cn := 40) (by decide) h1 g2 (by omega)
      refine Hs.pos (vin_iff.mpr (by rw [hix]; omega)) (Hs.inl ⟨⟨j + 1, by omega, ?_, ?_⟩, ?_⟩)
      · rw [i_inc (by omega), g2]; rfl
      · rw [g3, mwI_row, mrow_mrow, mrow_at, hixn, seg_succ]
      · show n - (x + 1).toNatClampNeg < n - x.toNatClampNeg
        rw [i_nat, i_nat, i_inc (by omega), g2]
        omega
  · exact ⟨0, Nat.zero_le _, i_zero, by rw [seg_zero, mrow_id]⟩
  · show n - 0 < 1000000
    omega
  · show Hs (some ((), s)) _
    exact ⟨_, rfl, by rw [hs]⟩
theorem textM_lp (σ1 : mS) {a1 a2 : Int32} {r n : Nat} (h1 : a1.toInt = (r : Int)) (hr : r < 4) (h2 : a2.toInt = (n : Int)) (hn : n ≤ 60) : lp big (un2 (X11_text_b35 a1 a2)) (σ1, 0) = some (mrow σ1 5 (seg (60 * r) n 32 (σ1.1 5))) := by
  apply Hs.eq
  refine Hs.loop (I := fun q => ∃ j : Nat, j ≤ n ∧ q.2.toInt = (j : Int) ∧ q.1 = mrow σ1 5 (seg (60 * r) j 32 (σ1.1 5))) (fun q => n - q.2.toNatClampNeg) (fun q hq => ?_) big (σ1, 0) ?_ ?_
  · obtain ⟨s, x⟩ := q
    obtain ⟨j, g1, g2, g3⟩ := hq
    dsimp only at g2 g3 ⊢
    show Hs (X11_text_b35 a1 a2 s x) _
    unfold X11_text_b35
    refine Hs.ite (fun c => ?_) (fun c => ?_)
    · rw [i_le, h2, g2] at c
      refine Hs.inr ?_
      rw [g3, show j = n by omega]
    · rw [i_le, h2, g2] at c
      have hix := i_ix (c := 60) (cn := 60) (by decide) h1 g2 (by omega)
      have hixn := i_ixn (c := 60) (cn := 60) (by decide) h1 g2 (by omega)
      refine Hs.pos (vin_iff.mpr (by rw [hix]; omega)) (Hs.inl ⟨⟨j + 1, by omega, ?_, ?_⟩, ?_⟩)
      · rw [i_inc (by omega), g2]; rfl
      · rw [g3, mwI_row, mrow_mrow, mrow_at, hixn]
        rw [show (32 : Int32).toInt8.toInt32 = 32 by decide, seg_succ]
      · show n - (x + 1).toNatClampNeg < n - x.toNatClampNeg
        rw [i_nat, i_nat, i_inc (by omega), g2]
        omega
  · exact ⟨0, Nat.zero_le _, i_zero, by rw [seg_zero, mrow_id]⟩
  · show n - 0 < 1000000
    omega

/-! bits: the head of kit/laws/BITS.to-paste, then my own -/
def bt (x : Int32) (i : Nat) : Bool := x.toBitVec.getLsbD i
theorem b_ext {x y : Int32} (h : ∀ i, i < 32 → bt x i = bt y i) : x = y := Int32.toBitVec_inj.mp (BitVec.eq_of_getLsbD_eq (fun i hi => h i hi))
theorem b_or (x y : Int32) (i : Nat) : bt (x ||| y) i = (bt x i || bt y i) := by unfold bt; rw [Int32.toBitVec_or, BitVec.getLsbD_or]
theorem b_and (x y : Int32) (i : Nat) : bt (x &&& y) i = (bt x i && bt y i) := by unfold bt; rw [Int32.toBitVec_and, BitVec.getLsbD_and]
theorem b_xor (x y : Int32) (i : Nat) : bt (x ^^^ y) i = (bt x i ^^ bt y i) := by unfold bt; rw [Int32.toBitVec_xor, BitVec.getLsbD_xor]
theorem b_big {x : Int32} {i : Nat} (h : 32 ≤ i) : bt x i = false := BitVec.getLsbD_of_ge _ _ h
theorem b_m1 : ∀ i, i < 32 → bt (-1) i = true := by decide +kernel
theorem b_0 (i : Nat) : bt 0 i = false := BitVec.getLsbD_zero
theorem s_l : ∀ n, n < 32 → ((nI n &&& 31).toBitVec.smod 32).toNat = n := by decide +kernel
theorem b_shl (n : Nat) (hn : n < 32) (x : Int32) {i : Nat} (hi : i < 32) : bt (x <<< (nI n &&& 31)) i = (decide (n ≤ i) && bt x (i - n)) := by
  unfold bt
  rw [Int32.toBitVec_shiftLeft]
  show (x.toBitVec <<< ((nI n &&& 31).toBitVec.smod 32).toNat).getLsbD i = _
  rw [s_l n hn, BitVec.getLsbD_shiftLeft]
  rcases Nat.lt_or_ge i n with h | h
  · simp [h, Nat.not_le.mpr h]
  · simp [hi, h, Nat.not_lt.mpr h]
theorem b_sshr (n : Nat) (hn : n < 32) (x : Int32) {i : Nat} (hi : i < 32) : bt (x >>> (nI n &&& 31)) i = if n + i < 32 then bt x (n + i) else bt x 31 := by
  unfold bt
  rw [Int32.toBitVec_shiftRight]
  show (x.toBitVec.sshiftRight ((nI n &&& 31).toBitVec.smod 32).toNat).getLsbD i = _
  rw [s_l n hn, BitVec.getLsbD_sshiftRight, BitVec.msb_eq_getLsbD_last]
  simp [hi]
theorem b_1 (i : Nat) : bt 1 i = decide (i = 0) := by
  rcases Nat.lt_or_ge i 32 with h | h
  · exact (by decide +kernel : ∀ i, i < 32 → bt 1 i = decide (i = 0)) i h
  · rw [b_big h, decide_eq_false (by omega)]
theorem bit_eq (x : Int32) {n : Nat} (hn : n < 32) : ((x >>> (nI n &&& 31)) &&& 1) = if bt x n = true then 1 else 0 := by
  apply b_ext
  intro i hi
  rw [b_and, b_sshr n hn x hi, b_1]
  by_cases h : i = 0
  · subst h
    rw [if_pos (by omega)]
    cases hb : bt x (n + 0) with
    | false => decide
    | true => decide
  · have h2 : bt (if bt x n = true then (1 : Int32) else 0) i = false := by
      split
      · rw [b_1, decide_eq_false h]
      · exact b_0 i
    rw [h2, decide_eq_false h, Bool.and_false]
theorem shl_bt {n i : Nat} (hn : n < 32) (hi : i < 32) : bt ((1 : Int32) <<< (nI n &&& 31)) i = decide (i = n) := by
  rw [b_shl n hn 1 hi, b_1]
  by_cases h : i = n
  · subst h; simp
  · rw [decide_eq_false h]
    by_cases h2 : n ≤ i
    · rw [decide_eq_true h2, decide_eq_false (by omega)]; rfl
    · rw [decide_eq_false h2]; rfl
theorem nI_ti {n : Nat} (h : n < 2147483648) : (nI n).toInt = (n : Int) := i32_ofNat h
theorem i_nI {x : Int32} {n : Nat} (h : x.toInt = (n : Int)) : x = nI n := by
  have h2 := i_hi x
  exact i_eq.mpr (by rw [nI_ti (by omega), h])
theorem nI_nat {n : Nat} (h : n < 2147483648) : (nI n).toNatClampNeg = n := by rw [i_nat, nI_ti h]; rfl
theorem has_eq (x : Int32) {n : Nat} (hn : n < 32) : X11_has x (nI n) = if bt x n = true then 1 else 0 := by
  unfold X11_has
  rw [bit_eq x hn]
  cases bt x n <;> decide
theorem has_zero (x : Int32) {n : Nat} (hn : n < 32) : X11_has x (nI n) = 0 ↔ bt x n = false := by
  rw [has_eq x hn]
  cases bt x n <;> decide
theorem or_zero (x : Int32) : x ||| 0 = x := b_ext (fun i _ => by rw [b_or, b_0, Bool.or_false])
theorem zero_or (x : Int32) : 0 ||| x = x := b_ext (fun i _ => by rw [b_or, b_0, Bool.false_or])
theorem or_assoc (x y z : Int32) : (x ||| y) ||| z = x ||| (y ||| z) := b_ext (fun i _ => by rw [b_or, b_or, b_or, b_or, Bool.or_assoc])
/-! loops that count -/
theorem lp_for {S R : Type} {b : S → Option (S ⊕ R)} {n : Nat} {res : R} (st : Nat → Int32 → S) (hn : n < 2147483647) (hstep : ∀ (j : Nat) (x : Int32), j < n → x.toInt = (j : Int) → b (st j x) = some (.inl (st (j + 1) (x + 1)))) (hend : ∀ x : Int32, x.toInt = (n : Int) → b (st n x) = some (.inr res)) : ∀ (d f j : Nat) (x : Int32), x.toInt = (j : Int) → j + d = n → d < f → lp f b (st j x) = some res
  | d, 0, j, x, _, _, h => absurd h (Nat.not_lt_zero _)
  | 0, f + 1, j, x, hx, hj, _ => by
    have e : j = n := by omega
    subst e
    unfold lp
    rw [hend x hx]
  | d + 1, f + 1, j, x, hx, hj, hf => by
    unfold lp
    rw [hstep j x (by omega) hx]
    exact lp_for st hn hstep hend d f (j + 1) (x + 1) (by rw [i_inc (by omega), hx]; rfl) (by omega) (by omega)
theorem lp_from {S R : Type} {b : S → Option (S ⊕ R)} {n : Nat} {res : R} (st : Nat → Int32 → S) (j : Nat) (x : Int32) (hx : x.toInt = (j : Int)) (hj : j ≤ n) (hn : n < 900000) (hstep : ∀ (j : Nat) (x : Int32), j < n → x.toInt = (j : Int) → b (st j x) = some (.inl (st (j + 1) (x + 1)))) (hend : ∀ x : Int32, x.toInt = (n : Int) → b (st n x) = some (.inr res)) : lp big b (st j x) = some res :=
  lp_for st (by omega) hstep hend (n - j) big j x hx (by omega) (by show n - j < 1000000; omega)
theorem lp_zero {S R : Type} {b : S → Option (S ⊕ R)} {n : Nat} {res : R} (st : Nat → Int32 → S) (hn : n < 900000) (hstep : ∀ (j : Nat) (x : Int32), j < n → x.toInt = (j : Int) → b (st j x) = some (.inl (st (j + 1) (x + 1)))) (hend : ∀ x : Int32, x.toInt = (n : Int) → b (st n x) = some (.inr res)) : lp big b (st 0 0) = some res := lp_from st 0 0 i_zero (Nat.zero_le _) hn hstep hend
theorem nle {a b : Int32} (h : b.toInt < a.toInt) : ¬ a ≤ b := fun q => by
  have := i_le.mp q
  omega
theorem ile {a b : Int32} (h : a.toInt ≤ b.toInt) : a ≤ b := i_le.mpr h
/-! the reference's counts of bits, needs -/
def bitsN (a : Int32) : Nat → Int32
  | 0 => 0
  | k + 1 => bitsN a k + ((a >>> (nI k &&& 31)) &&& 1)
def bitsT (a : Int32) : Int32 := bitsN a 14
theorem bits_eq (a : Int32) : X11_bits a = some (bitsT a) := by
  unfold X11_bits
  have h := lp_zero (b := un2 (X11_bits_b4 a)) (n := 14) (res := bitsT a) (fun j x => (bitsN a j, x)) (by decide) (fun j x hj hx => by
    show X11_bits_b4 a (bitsN a j) x = _
    unfold X11_bits_b4
    rw [if_neg (nle (by rw [hx]; show (j : Int) < 14; omega)), i_nI hx]
    rfl) (fun x hx => by
    show X11_bits_b4 a (bitsN a 14) x = _
    unfold X11_bits_b4
    rw [if_pos (ile (by rw [hx]; show (14 : Int) ≤ 14; omega))]
    rfl)
  have h2 : lp big (un2 (X11_bits_b4 a)) (0, 0) = some (bitsT a) := h
  rw [h2]
  rfl
def ndT (k m : Int32) : Int32 :=
  if (X11_isA k (1)) = 0 then
    if k = 3 then X11_lesser (X11_lesser ((3 : Int32) - bitsT (m &&& 7)) ((3 : Int32) - bitsT (m >>> ((3 : Int32) &&& 31)))) ((X11_larger (0) (((3 : Int32) - bitsT (m &&& 7)) - 1)) + (X11_larger (0) (((3 : Int32) - bitsT (m >>> ((3 : Int32) &&& 31))) - 1)))
    else X11_lesser ((3 : Int32) - bitsT (m &&& 7)) ((3 : Int32) - bitsT (m >>> ((3 : Int32) &&& 31)))
  else ((3 : Int32) - bitsT (m &&& 7)) + ((3 : Int32) - bitsT (m >>> ((3 : Int32) &&& 31)))
theorem needs_eq (k m : Int32) : X11_needs k m = some (ndT k m) := by
  unfold X11_needs ndT
  rw [bits_eq, bits_eq]
  show (if (X11_isA k (1)) = 0 then if k = 3 then some _ else some _ else some _) = some (if (X11_isA k (1)) = 0 then if k = 3 then _ else _ else _)
  split
  · split <;> rfl
  · rfl
set_option maxRecDepth 100000 in
theorem lacks_eq : ∀ r, r < 6 → ∀ m, m < 64 → kd_X5_lacks r (nI m) = ndT (nI r) (nI m) := by decide +kernel
theorem pw_ne : ∀ n, n < 31 → ¬ ((1 : Int32) <<< (nI n &&& 31)) = 0 := by decide +kernel
theorem heard_eq {r n : Nat} (hr : r < 6) (hn : n < 31) (ah cl : Int32) : kd_X5_heard r (nI n) ah cl = X11_heard (nI r) (nI n) ah cl := by
  rcases (show r = 0 ∨ r = 1 ∨ r = 2 ∨ r = 3 ∨ r = 4 ∨ r = 5 by omega) with rfl | rfl | rfl | rfl | rfl | rfl
  · rfl
  · rfl
  · rfl
  · rfl
  · rfl
  · show X8_heard (nI n) ah cl = (if (cl - cl / 3 * 3) = 2 then 0 else (((1 : Int32) <<< (nI n &&& 31)) ||| ((1 : Int32) <<< (((nI n - nI n / 12 * 12) + 1) &&& 31))))
    unfold X8_heard X0_heard
    by_cases h : (cl - cl / 3 * 3) = 2
    · rw [if_pos h, if_pos h]; rfl
    · rw [if_neg h, if_neg h, if_neg (pw_ne n hn)]; rfl

/-! a hall as a row of eight: marks 0 .. 3, who has won, the bag, the next call, the number called last -/
abbrev hT : Type := Nat → Int32
/-- players, kinds, cards (6 * i + p) -/
abbrev cT : Type := Nat × (Nat → Int32) × (Nat → Int32)
def bitP (hd c : Int32) (p : Nat) : Int32 := if X11_has hd c = 0 then 0 else (1 : Int32) <<< (nI p &&& 31)
def mbN (cd : Nat → Int32) (i : Nat) (hd : Int32) : Nat → Int32
  | 0 => 0
  | p + 1 => mbN cd i hd p ||| bitP hd (cd (6 * i + p)) p
def mbT (cd : Nat → Int32) (i : Nat) (hd : Int32) : Int32 := mbN cd i hd 6
theorem marksBy_eq (μ : mS) {a1 : Int32} {i : Nat} (h1 : a1.toInt = (i : Int)) (hi : i < 4) (hd : Int32) : X11_marksBy μ a1 hd = some (mbT (μ.1 7) i hd) := by
  unfold X11_marksBy
  have h := lp_zero (b := un2 (X11_marksBy_b5 μ a1 hd)) (n := 6) (res := mbT (μ.1 7) i hd) (fun j x => (mbN (μ.1 7) i hd j, x)) (by decide) (fun j x hj hx => by
    show X11_marksBy_b5 μ a1 hd (mbN (μ.1 7) i hd j) x = some (.inl (mbN (μ.1 7) i hd j ||| bitP hd (μ.1 7 (6 * i + j)) j, x + 1))
    unfold X11_marksBy_b5
    have hix := i_ix (c := 6) (cn := 6) (by decide) h1 hx (by omega)
    have hixn := i_ixn (c := 6) (cn := 6) (by decide) h1 hx (by omega)
    rw [if_neg (nle (by rw [hx]; show (j : Int) < 6; omega)), if_pos (vin_iff.mpr (by rw [hix]; omega)), hixn]
    unfold bitP
    rw [← i_nI hx]
    split <;> rfl) (fun x hx => by
    show X11_marksBy_b5 μ a1 hd (mbN (μ.1 7) i hd 6) x = _
    unfold X11_marksBy_b5
    rw [if_pos (ile (by rw [hx]; show (6 : Int) ≤ 6; omega))]
    rfl)
  have h2 : lp big (un2 (X11_marksBy_b5 μ a1 hd)) (0, 0) = some (mbT (μ.1 7) i hd) := h
  rw [h2]
  rfl
def nmk (c : cT) (h : hT) (num : Int32) (j : Nat) : Int32 := h j ||| mbT c.2.2 j (X11_heard (c.2.1 j) num (h 7) (h 6))
def wnb (c : cT) (h : hT) (num : Int32) (j : Nat) : Int32 := if ndT (c.2.1 j) (nmk c h num j) = 0 then (1 : Int32) <<< (nI j &&& 31) else 0
def wns (c : cT) (h : hT) (num : Int32) : Nat → Int32
  | 0 => 0
  | j + 1 => wns c h num j ||| wnb c h num j
def ringH (c : cT) (h : hT) (num : Int32) : hT := fun s => if s < c.1 then nmk c h num s else if s = 4 then h 4 ||| wns c h num c.1 else if s = 5 then h 5 &&& (((1 : Int32) <<< (num &&& 31)) ^^^ (-1)) else if s = 6 then h 6 + 1 else if s = 7 then num else h s
def getH (f : Nat → Int32) (b : Nat) : hT := fun s => if s < 8 then f (b + s) else 0
theorem getH_lt {f : Nat → Int32} {b s : Nat} (h : s < 8) : getH f b s = f (b + s) := if_pos h
def putH (f : Nat → Int32) (b : Nat) (h : hT) : Nat → Int32 := fun q => if b ≤ q ∧ q < b + 8 then h (q - b) else f q
def cfM (μ : mS) (P : Nat) : cT := (P, μ.1 6, μ.1 7)
/-- marks of the first j players set anew -/
def mkR (c : cT) (f : Nat → Int32) (b : Nat) (num : Int32) (j : Nat) : Nat → Int32 := fun q => if b ≤ q ∧ q < b + j then nmk c (getH f b) num (q - b) else f q
theorem mkR_zero {c : cT} {f : Nat → Int32} {b : Nat} {num : Int32} : mkR c f b num 0 = f := by
  funext q
  unfold mkR
  rw [if_neg (by omega)]
theorem mkR_succ {c : cT} {f : Nat → Int32} {b j : Nat} {num : Int32} : upd (mkR c f b num j) (b + j) (nmk c (getH f b) num j) = mkR c f b num (j + 1) := by
  funext q
  by_cases h : q = b + j
  · subst h
    rw [upd_at]
    unfold mkR
    rw [if_pos (by omega), Nat.add_sub_cancel_left]
  · rw [upd_ne h]
    unfold mkR
    by_cases h2 : b ≤ q ∧ q < b + j
    · rw [if_pos h2, if_pos (by omega)]
    · rw [if_neg h2, if_neg (by omega)]
theorem mkR_out {c : cT} {f : Nat → Int32} {b j q : Nat} {num : Int32} (h : ¬ (b ≤ q ∧ q < b + j)) : mkR c f b num j q = f q := if_neg h
theorem i_off {a x : Int32} {b n : Nat} (ha : a.toInt = (b : Int)) (hx : x.toInt = (n : Int)) (h : b + n < 2147483648) : (a + x).toInt = ((b + n : Nat) : Int) := i32_add ha hx h
theorem i_offn {a x : Int32} {b n : Nat} (ha : a.toInt = (b : Int)) (hx : x.toInt = (n : Int)) (h : b + n < 2147483648) : (a + x).toNatClampNeg = b + n := by rw [i_nat, i_off ha hx h]; rfl
theorem calls_eq (μ : mS) {a1 num : Int32} {b P : Nat} (hb : a1.toInt = (b : Int)) (hb2 : b + 8 ≤ 1360) (hP : (μ.1 0 5).toInt = (P : Int)) (hP4 : P ≤ 4) : X11_calls μ a1 num = some (wns (cfM μ P) (getH (μ.1 10) b) num P &&& ((μ.1 10 (b + 4)) ^^^ (-1)), mrow μ 10 (putH (μ.1 10) b (ringH (cfM μ P) (getH (μ.1 10) b) num))) := by
  unfold X11_calls
  generalize hc : cfM μ P = c
  have hc1 : c.1 = P := by rw [← hc]; rfl
  have hck : c.2.1 = μ.1 6 := by rw [← hc]; rfl
  have hcd : c.2.2 = μ.1 7 := by rw [← hc]; rfl
  generalize hf : μ.1 10 = f
  have o4 := i_offn (x := 4) (n := 4) hb (by decide) (by omega)
  have o5 := i_offn (x := 5) (n := 5) hb (by decide) (by omega)
  have o6 := i_offn (x := 6) (n := 6) hb (by decide) (by omega)
  have o7 := i_offn (x := 7) (n := 7) hb (by decide) (by omega)
  have v4 : vin (a1 + 4) 1360 = true := vin_iff.mpr (by rw [i_off (x := 4) (n := 4) hb (by decide) (by omega)]; omega)
  have v5 : vin (a1 + 5) 1360 = true := vin_iff.mpr (by rw [i_off (x := 5) (n := 5) hb (by decide) (by omega)]; omega)
  have v6 : vin (a1 + 6) 1360 = true := vin_iff.mpr (by rw [i_off (x := 6) (n := 6) hb (by decide) (by omega)]; omega)
  have v7 : vin (a1 + 7) 1360 = true := vin_iff.mpr (by rw [i_off (x := 7) (n := 7) hb (by decide) (by omega)]; omega)
  have h := lp_zero (b := un3 (X11_calls_b5 a1 num)) (n := P) (res := (mrow μ 10 (mkR c f b num P), wns c (getH f b) num P)) (fun j x => (mrow μ 10 (mkR c f b num j), wns c (getH f b) num j, x)) (by omega) (fun j x hj hx => by
    show X11_calls_b5 a1 num (mrow μ 10 (mkR c f b num j)) (wns c (getH f b) num j) x = some (.inl (mrow μ 10 (mkR c f b num (j + 1)), wns c (getH f b) num j ||| wnb c (getH f b) num j, x + 1))
    unfold X11_calls_b5
    have ox := i_offn hb hx (by omega)
    have vx : vin (a1 + x) 1360 = true := vin_iff.mpr (by rw [i_off hb hx (by omega)]; omega)
    have hxn : x.toNatClampNeg = j := by rw [i_nat, hx]; rfl
    rw [mrow_ne (by decide : (0 : Nat) ≠ 10), mrow_ne (by decide : (6 : Nat) ≠ 10), mrow_at, if_neg (nle (by rw [hP, hx]; omega)), if_pos (vin_iff.mpr (by omega)), if_pos v7, if_pos v6, if_pos vx, o7, o6, ox, hxn, marksBy_eq _ hx (by omega), mrow_ne (by decide : (7 : Nat) ≠ 10), mkR_out (by omega), mkR_out (by omega), mkR_out (by omega)]
    show (if vin (a1 + x) 1360 = true then if vin x 4 = true then if vin (a1 + x) 1360 = true then _ else none else none else none) = _
    rw [if_pos vx, if_pos (vin_iff.mpr (by omega)), if_pos vx, needs_eq, mwI_row, mrow_mrow, mrow_at, mrow_at, mrow_ne (by decide : (6 : Nat) ≠ 10)]
    have e1 : f (b + j) ||| mbT (μ.1 7) j (X11_heard (μ.1 6 j) num (f (b + 7)) (f (b + 6))) = nmk c (getH f b) num j := by
      unfold nmk
      rw [hck, hcd, getH_lt (show j < 8 by omega)]
      rfl
    rw [e1, upd_at, mkR_succ]
    show (if ndT (μ.1 6 j) (nmk c (getH f b) num j) = 0 then _ else _) = _
    unfold wnb
    rw [hck, i_nI hx]
    split <;> rfl) (fun x hx => by
    show X11_calls_b5 a1 num (mrow μ 10 (mkR c f b num P)) (wns c (getH f b) num P) x = _
    unfold X11_calls_b5
    rw [mrow_ne (by decide : (0 : Nat) ≠ 10), if_pos (ile (by rw [hP, hx]; omega))])
  have h2 : lp big (un3 (X11_calls_b5 a1 num)) (μ, 0, 0) = some (mrow μ 10 (mkR c f b num P), wns c (getH f b) num P) := by
    rw [← h]
    show _ = lp big _ (mrow μ 10 (mkR c f b num 0), (0 : Int32), (0 : Int32))
    rw [mkR_zero, ← hf, mrow_id]
  rw [h2]
  show (if vin (a1 + 4) 1360 = true then _ else none) = _
  rw [if_pos v4, if_pos v4, if_pos v4, if_pos v5, if_pos v5, if_pos v6, if_pos v6, if_pos v7, o4, o5, o6, o7]
  simp only [mwI_row, mrow_mrow, mrow_at]
  rw [mkR_out (by omega)]
  congr 2
  congr 1
  funext q
  unfold putH ringH
  by_cases q7 : q = b + 7
  · subst q7
    rw [upd_at, if_pos (by omega), if_neg (by omega), if_neg (by omega), if_neg (by omega), if_neg (by omega), if_pos (by omega)]
  rw [upd_ne q7]
  by_cases q6 : q = b + 6
  · subst q6
    rw [upd_at, upd_ne (by omega), upd_ne (by omega), mkR_out (by omega), if_pos (by omega), if_neg (by omega), if_neg (by omega), if_neg (by omega), if_pos (by omega)]
    rfl
  rw [upd_ne q6]
  by_cases q5 : q = b + 5
  · subst q5
    rw [upd_at, upd_ne (by omega), mkR_out (by omega), if_pos (by omega), if_neg (by omega), if_neg (by omega), if_pos (by omega)]
    rfl
  rw [upd_ne q5]
  by_cases q4 : q = b + 4
  · subst q4
    rw [upd_at, if_pos (by omega), if_neg (by omega), if_pos (by omega), hc1]
    rfl
  rw [upd_ne q4]
  unfold mkR
  by_cases hq : b ≤ q ∧ q < b + P
  · rw [if_pos hq, if_pos (by omega), if_pos (by omega)]
  · rw [if_neg hq]
    by_cases hq8 : b ≤ q ∧ q < b + 8
    · rw [if_pos hq8, if_neg (by omega), if_neg (by omega), if_neg (by omega), if_neg (by omega), if_neg (by omega)]
      rw [getH_lt (by omega), show b + (q - b) = q by omega]
    · rw [if_neg hq8]
/-! the class's marks -/
theorem zero_shl (p : Nat) (hp : p < 32) : (0 : Int32) <<< (nI p &&& 31) = 0 := b_ext (fun i hi => by rw [b_shl p hp 0 hi, b_0, b_0, Bool.and_false])
theorem shl_has (hd : Int32) {n p : Nat} (hn : n < 32) (hp : p < 32) : (((hd >>> (nI n &&& 31)) &&& 1) <<< (nI p &&& 31)) = bitP hd (nI n) p := by
  unfold bitP
  rw [has_eq hd hn, bit_eq hd hn]
  cases bt hd n
  · rw [if_neg (by decide), if_pos rfl, zero_shl p hp]
  · rw [if_pos rfl, if_neg (by decide)]
def cbN (cd : Nat → Int32) (i : Nat) : Nat → Int32
  | 0 => 0
  | p + 1 => cbN cd i p ||| ((1 : Int32) <<< ((cd (6 * i + p)) &&& 31))
/-- the class's players: kinds, cards, a card's bits -/
def CF (σ : mS) (c : cT) : Prop := (σ.1 88 4).toInt = (c.1 : Int) ∧ c.1 ≤ 4 ∧ ∀ i, i < c.1 → (∃ r, r < 6 ∧ σ.1 112 i = nI r ∧ c.2.1 i = nI r) ∧ σ.1 136 i = cbN c.2.2 i 6 ∧ ∀ p, p < 6 → σ.1 (128 + i) p = c.2.2 (6 * i + p) ∧ ∃ n, 1 ≤ n ∧ n ≤ 12 ∧ c.2.2 (6 * i + p) = nI n
theorem CF.of {σ τ : mS} {c : cT} (h : CF σ c) (h1 : τ.1 88 = σ.1 88) (h2 : τ.1 112 = σ.1 112) (h3 : τ.1 136 = σ.1 136) (h4 : ∀ i, i < 4 → τ.1 (128 + i) = σ.1 (128 + i)) : CF τ c := by
  obtain ⟨g1, g2, g3⟩ := h
  refine ⟨by rw [h1]; exact g1, g2, fun i hi => ?_⟩
  obtain ⟨a, b, d⟩ := g3 i hi
  exact ⟨by rw [h2]; exact a, by rw [h3]; exact b, fun p hp => by rw [h4 i (by omega)]; exact d p hp⟩
theorem cb_in {cd : Nat → Int32} {i n : Nat} (hn : n < 32) : ∀ {q p : Nat}, p < q → cd (6 * i + p) = nI n → bt (cbN cd i q) n = true
  | 0, p, h, _ => absurd h (Nat.not_lt_zero _)
  | q + 1, p, h, e => by
    show bt (cbN cd i q ||| ((1 : Int32) <<< ((cd (6 * i + q)) &&& 31))) n = true
    rw [b_or]
    by_cases hp : p = q
    · subst hp
      rw [e, shl_bt hn hn, decide_eq_true rfl, Bool.or_true]
    · rw [cb_in hn (show p < q by omega) e, Bool.true_or]
theorem mb_none {cd : Nat → Int32} {i : Nat} {hd : Int32} (hc : ∀ p, p < 6 → ∃ n, 1 ≤ n ∧ n ≤ 12 ∧ cd (6 * i + p) = nI n) (h : hd &&& cbN cd i 6 = 0) : ∀ q, q ≤ 6 → mbN cd i hd q = 0
  | 0, _ => rfl
  | q + 1, hq => by
    show mbN cd i hd q ||| bitP hd (cd (6 * i + q)) q = 0
    obtain ⟨n, n1, n2, e⟩ := hc q (by omega)
    have h1 : bt hd n = false := by
      have h2 : bt (hd &&& cbN cd i 6) n = false := by rw [h]; exact b_0 n
      rw [b_and, cb_in (by omega) (show q < 6 by omega) e, Bool.and_true] at h2
      exact h2
    unfold bitP
    rw [mb_none hc h q (by omega), e, if_pos ((has_zero hd (by omega)).mpr h1), or_zero]
theorem marked_eq (σ : mS) {c : cT} {a1 : Int32} {i : Nat} (hC : CF σ c) (h1 : a1.toInt = (i : Int)) (hi : i < c.1) (m hd : Int32) : X7_marked σ a1 m hd = some (m ||| mbT c.2.2 i hd) := by
  obtain ⟨-, h4, hC⟩ := hC
  obtain ⟨-, hb, hcd⟩ := hC i hi
  have hin : a1.toNatClampNeg = i := by rw [i_nat, h1]; rfl
  unfold X7_marked
  rw [if_pos (vin_iff.mpr (by omega)), hin, hb]
  by_cases h0 : (hd &&& cbN c.2.2 i 6) = 0
  · rw [if_pos h0]
    unfold mbT
    rw [mb_none (fun p hp => (hcd p hp).2) h0 6 (by decide), or_zero]
  · rw [if_neg h0]
    have h := lp_zero (b := un2 (X7_marked_b17 σ a1 hd)) (n := 6) (res := m ||| mbT c.2.2 i hd) (fun j x => (m ||| mbN c.2.2 i hd j, x)) (by decide) (fun j x hj hx => by
      show X7_marked_b17 σ a1 hd (m ||| mbN c.2.2 i hd j) x = some (.inl (m ||| (mbN c.2.2 i hd j ||| bitP hd (c.2.2 (6 * i + j)) j), x + 1))
      unfold X7_marked_b17
      have hxn : x.toNatClampNeg = j := by rw [i_nat, hx]; rfl
      obtain ⟨e1, n, n1, n2, e2⟩ := hcd j hj
      rw [if_neg (nle (by rw [hx]; show (j : Int) < 6; omega)), if_pos (vin_iff.mpr (by omega)), if_pos (vin_iff.mpr (by omega)), hxn, hin, e1, e2, i_nI hx, shl_has hd (by omega) (by omega), or_assoc]) (fun x hx => by
      show X7_marked_b17 σ a1 hd (m ||| mbN c.2.2 i hd 6) x = _
      unfold X7_marked_b17
      rw [if_pos (ile (by rw [hx]; show (6 : Int) ≤ 6; omega))]
      rfl)
    have h2 : lp big (un2 (X7_marked_b17 σ a1 hd)) (m, 0) = some (m ||| mbT c.2.2 i hd) := by
      rw [← h]
      show _ = lp big _ (m ||| 0, (0 : Int32))
      rw [or_zero]
    rw [h2]
    rfl

theorem fa_or (a b : Nat) : nI a ||| nI b = nI (a ||| b) := by
  apply Int32.toBitVec_inj.mp
  rw [Int32.toBitVec_or]
  show BitVec.ofNat 32 a ||| BitVec.ofNat 32 b = BitVec.ofNat 32 (a ||| b)
  apply BitVec.eq_of_getLsbD_eq
  intro i hi
  rw [BitVec.getLsbD_or, BitVec.getLsbD_ofNat, BitVec.getLsbD_ofNat, BitVec.getLsbD_ofNat, Nat.testBit_or]
  simp [hi]
theorem pw_nI : ∀ p, p < 6 → ∃ m, m < 64 ∧ ((1 : Int32) <<< (nI p &&& 31)) = nI m := fun p hp => by
  rcases (show p = 0 ∨ p = 1 ∨ p = 2 ∨ p = 3 ∨ p = 4 ∨ p = 5 by omega) with rfl | rfl | rfl | rfl | rfl | rfl
  · exact ⟨1, by decide, by decide⟩
  · exact ⟨2, by decide, by decide⟩
  · exact ⟨4, by decide, by decide⟩
  · exact ⟨8, by decide, by decide⟩
  · exact ⟨16, by decide, by decide⟩
  · exact ⟨32, by decide, by decide⟩
theorem or_lt64 {x y : Int32} (hx : ∃ m, m < 64 ∧ x = nI m) (hy : ∃ m, m < 64 ∧ y = nI m) : ∃ m, m < 64 ∧ x ||| y = nI m := by
  obtain ⟨a, ha, rfl⟩ := hx
  obtain ⟨b, hb, rfl⟩ := hy
  exact ⟨a ||| b, Nat.or_lt_two_pow (n := 6) ha hb, fa_or a b⟩
theorem mb_lt (cd : Nat → Int32) (i : Nat) (hd : Int32) : ∀ q, q ≤ 6 → ∃ m, m < 64 ∧ mbN cd i hd q = nI m
  | 0, _ => ⟨0, by decide, rfl⟩
  | q + 1, h => by
    refine or_lt64 (mb_lt cd i hd q (by omega)) ?_
    unfold bitP
    split
    · exact ⟨0, by decide, by decide⟩
    · exact pw_nI q (by omega)
def HM (c : cT) (h : hT) : Prop := ∀ j, j < c.1 → ∃ n, n < 64 ∧ h j = nI n
theorem nmk_lt {c : cT} {h : hT} (hM : HM c h) (num : Int32) {j : Nat} (hj : j < c.1) : ∃ n, n < 64 ∧ nmk c h num j = nI n := or_lt64 (hM j hj) (mb_lt _ _ _ 6 (by decide))
/-- the class's hall i as a row of eight -/
def HX (σ : mS) (i : Nat) : hT := fun s => if s < 4 then σ.1 (152 + i) s else if s = 4 then σ.1 (144 + i) 2 else if s = 5 then σ.1 (144 + i) 3 else if s = 6 then σ.1 (144 + i) 5 else if s = 7 then σ.1 (144 + i) 4 else 0
def wnsW (c : cT) (who : Int32) (h : hT) (num : Int32) : Nat → Int32
  | 0 => 0
  | j + 1 => wnsW c who h num j ||| (if bt who j = true then wnb c h num j else 0)
def mkX (c : cT) (who : Int32) (h : hT) (num : Int32) (f : Nat → Int32) (j : Nat) : Nat → Int32 := fun q => if q < j ∧ bt who q = true then nmk c h num q else f q
/-- the fields of a hall: who has won, the bag, the number called last, the next call -/
def fdX (g : Nat → Int32) (w b l n : Int32) : Nat → Int32 := fun q => if q = 2 then w else if q = 3 then b else if q = 4 then l else if q = 5 then n else g q
theorem kindAt_eq {σ : mS} {c : cT} (hC : CF σ c) {x : Int32} {j : Nat} (hx : x.toInt = (j : Int)) (hj : j < c.1) : ∃ r, r < 6 ∧ X7_kindAt σ x = some r ∧ c.2.1 j = nI r := by
  obtain ⟨-, h4, hC⟩ := hC
  obtain ⟨⟨r, hr, e1, e2⟩, -, -⟩ := hC j hj
  refine ⟨r, hr, ?_, e2⟩
  unfold X7_kindAt
  have hxn : x.toNatClampNeg = j := by rw [i_nat, hx]; rfl
  rw [if_pos (vin_iff.mpr (by omega)), hxn, e1, if_pos (vin_iff.mpr (by rw [nI_ti (by omega)]; omega)), nI_nat (by omega)]
theorem mS_ext {σ τ : mS} (h1 : ∀ k, σ.1 k = τ.1 k) (h2 : σ.2 = τ.2) : σ = τ := by
  obtain ⟨a, b⟩ := σ
  obtain ⟨a', b'⟩ := τ
  dsimp only at h1 h2
  rw [show a = a' from funext h1, h2]
theorem mrow_comm {σ : mS} {k k' : Nat} {f g : Nat → Int32} (h : k ≠ k') : mrow (mrow σ k f) k' g = mrow (mrow σ k' g) k f := by
  refine mS_ext (fun q => ?_) rfl
  by_cases h1 : q = k
  · subst h1
    rw [mrow_ne h, mrow_at, mrow_at]
  · by_cases h2 : q = k'
    · subst h2
      rw [mrow_at, mrow_ne h1, mrow_at]
    · rw [mrow_ne h2, mrow_ne h1, mrow_ne h1, mrow_ne h2]
theorem mwI_rd {s : mS} {k j : Nat} {v : Int32} : (mwI s k j v).1 k j = v := by rw [mwI_row, mrow_at, upd_at]
theorem mwI_rk {s : mS} {k k' j : Nat} {v : Int32} (h : k' ≠ k) : (mwI s k j v).1 k' = s.1 k' := by rw [mwI_row, mrow_ne h]
theorem upd_self {f : Nat → Int32} {j : Nat} {v : Int32} (h : f j = v) : upd f j v = f := by
  funext q
  by_cases hq : q = j
  · subst hq; rw [upd_at, h]
  · rw [upd_ne hq]
theorem ring_step {s : mS} {c : cT} {h : hT} {i n j : Nat} {who x : Int32} (hi : i < 6) (hC : CF s c) (hM : HM c h) (hn : n < 31) (hx : x.toInt = (j : Int)) (hj : j < c.1) (hmj : s.1 (152 + i) j = h j) (e7 : s.1 (144 + i) 4 = h 7) (e6 : s.1 (144 + i) 5 = h 6) : X2_ring_b8 i (nI n) who s x = some (.inl (mrow (mrow s (152 + i) (upd (s.1 (152 + i)) j (if bt who j = true then nmk c h (nI n) j else s.1 (152 + i) j))) (144 + i) (upd (s.1 (144 + i)) 2 ((s.1 (144 + i) 2) ||| (if bt who j = true then wnb c h (nI n) j else 0))), x + 1)) := by
  have hP := hC.1
  have hP4 := hC.2.1
  have hxn : x.toNatClampNeg = j := by rw [i_nat, hx]; rfl
  have vx : vin x 4 = true := vin_iff.mpr (by omega)
  have ne1 : 144 + i ≠ 152 + i := by omega
  unfold X2_ring_b8
  rw [if_neg (nle (by rw [hP, hx]; omega)), i_nI hx, bit_eq who (by omega), ← i_nI hx]
  by_cases hb : bt who j = true
  · rw [if_pos hb, if_pos rfl, if_pos hb, if_pos hb]
    obtain ⟨r, hr, k1, k2⟩ := kindAt_eq hC hx hj
    rw [k1]
    show (if vin x 4 = true then _ else none) = _
    rw [if_pos vx, marked_eq s hC hx hj, hxn, hmj, heard_eq hr hn, ← k2, e7, e6]
    show (if vin x 4 = true then if vin x 4 = true then _ else none else none) = _
    rw [if_pos vx, if_pos vx]
    rw [show h j ||| mbT c.2.2 j (X11_heard (c.2.1 j) (nI n) (h 7) (h 6)) = nmk c h (nI n) j from rfl]
    generalize hN : nmk c h (nI n) j = N
    rw [mwI_rd, mwI_rk ne1]
    obtain ⟨m, hm, em⟩ := nmk_lt hM (nI n) hj
    have hl : kd_X5_lacks r N = ndT (c.2.1 j) N := by rw [← hN, em, lacks_eq r hr m hm, k2]
    rw [hl]
    unfold wnb
    rw [hN]
    by_cases hz : ndT (c.2.1 j) N = 0
    · rw [if_pos hz, if_pos hz, i_nI hx, mwI_row, mwI_row, mrow_ne ne1]
    · rw [if_neg hz, if_neg hz, or_zero, upd_self rfl, mwI_row]
      have h9 : mrow (mrow s (152 + i) (upd (s.1 (152 + i)) j N)) (144 + i) (s.1 (144 + i)) = mrow s (152 + i) (upd (s.1 (152 + i)) j N) := by
        rw [mrow_comm (by omega), mrow_id]
      rw [h9]
  · rw [if_neg hb, if_neg (by decide), if_neg hb, if_neg hb, or_zero, upd_self rfl, upd_self rfl, mrow_id, mrow_id]
theorem ring_lp (σ : mS) {c : cT} {i n : Nat} {who : Int32} (hi : i < 6) (hC : CF σ c) (hM : HM c (HX σ i)) (hn : n < 31) : lp big (un2 (X2_ring_b8 i (nI n) who)) (σ, 0) = some (mrow (mrow σ (152 + i) (mkX c who (HX σ i) (nI n) (σ.1 (152 + i)) c.1)) (144 + i) (upd (σ.1 (144 + i)) 2 (σ.1 (144 + i) 2 ||| wnsW c who (HX σ i) (nI n) c.1))) := by
  have hP := hC.1
  have hP4 := hC.2.1
  generalize hh : HX σ i = h at hM ⊢
  have e7 : h 7 = σ.1 (144 + i) 4 := by rw [← hh]; rfl
  have e6 : h 6 = σ.1 (144 + i) 5 := by rw [← hh]; rfl
  have r0 : mrow (mrow σ (152 + i) (mkX c who h (nI n) (σ.1 (152 + i)) 0)) (144 + i) (upd (σ.1 (144 + i)) 2 (σ.1 (144 + i) 2 ||| wnsW c who h (nI n) 0)) = σ := by
    have a1 : mkX c who h (nI n) (σ.1 (152 + i)) 0 = σ.1 (152 + i) := by
      funext q
      unfold mkX
      rw [if_neg (fun z => Nat.not_lt_zero q z.1)]
    have a2 : upd (σ.1 (144 + i)) 2 (σ.1 (144 + i) 2 ||| wnsW c who h (nI n) 0) = σ.1 (144 + i) := upd_self (or_zero _).symm
    rw [a1, a2, mrow_id, mrow_id]
  have H := lp_zero (b := un2 (X2_ring_b8 i (nI n) who)) (n := c.1) (res := mrow (mrow σ (152 + i) (mkX c who h (nI n) (σ.1 (152 + i)) c.1)) (144 + i) (upd (σ.1 (144 + i)) 2 (σ.1 (144 + i) 2 ||| wnsW c who h (nI n) c.1))) (fun j x => (mrow (mrow σ (152 + i) (mkX c who h (nI n) (σ.1 (152 + i)) j)) (144 + i) (upd (σ.1 (144 + i)) 2 (σ.1 (144 + i) 2 ||| wnsW c who h (nI n) j)), x)) (by omega) (fun j x hj hx => by
    have hrow : ∀ k, k ≠ 152 + i → k ≠ 144 + i → (mrow (mrow σ (152 + i) (mkX c who h (nI n) (σ.1 (152 + i)) j)) (144 + i) (upd (σ.1 (144 + i)) 2 (σ.1 (144 + i) 2 ||| wnsW c who h (nI n) j))).1 k = σ.1 k := fun k k1 k2 => by rw [mrow_ne k2, mrow_ne k1]
    have h152 : (mrow (mrow σ (152 + i) (mkX c who h (nI n) (σ.1 (152 + i)) j)) (144 + i) (upd (σ.1 (144 + i)) 2 (σ.1 (144 + i) 2 ||| wnsW c who h (nI n) j))).1 (152 + i) = mkX c who h (nI n) (σ.1 (152 + i)) j := by rw [mrow_ne (by omega), mrow_at]
    have h144 : (mrow (mrow σ (152 + i) (mkX c who h (nI n) (σ.1 (152 + i)) j)) (144 + i) (upd (σ.1 (144 + i)) 2 (σ.1 (144 + i) 2 ||| wnsW c who h (nI n) j))).1 (144 + i) = upd (σ.1 (144 + i)) 2 (σ.1 (144 + i) 2 ||| wnsW c who h (nI n) j) := mrow_at
    have hCs := hC.of (hrow 88 (by omega) (by omega)) (hrow 112 (by omega) (by omega)) (hrow 136 (by omega) (by omega)) (fun q hq => hrow _ (by omega) (by omega))
    have hold : mkX c who h (nI n) (σ.1 (152 + i)) j j = σ.1 (152 + i) j := by
      unfold mkX
      rw [if_neg (fun z => Nat.lt_irrefl j z.1)]
    have st := ring_step (who := who) hi hCs hM hn hx hj (by rw [h152, hold, ← hh]; unfold HX; rw [if_pos (by omega)]) (by rw [h144, upd_ne (by decide), e7]) (by rw [h144, upd_ne (by decide), e6])
    show X2_ring_b8 i (nI n) who _ x = _
    rw [st, h152, h144, upd_at, hold, or_assoc, mrow_comm (k := 144 + i) (k' := 152 + i) (by omega), mrow_mrow, mrow_mrow]
    have b1 : upd (mkX c who h (nI n) (σ.1 (152 + i)) j) j (if bt who j = true then nmk c h (nI n) j else σ.1 (152 + i) j) = mkX c who h (nI n) (σ.1 (152 + i)) (j + 1) := by
      funext q
      by_cases hq : q = j
      · subst hq
        rw [upd_at]
        unfold mkX
        by_cases hb : bt who q = true
        · rw [if_pos hb, if_pos ⟨by omega, hb⟩]
        · rw [if_neg hb, if_neg (fun z => hb z.2)]
      · rw [upd_ne hq]
        unfold mkX
        by_cases hb : q < j ∧ bt who q = true
        · rw [if_pos hb, if_pos ⟨by omega, hb.2⟩]
        · rw [if_neg hb, if_neg (fun z => hb ⟨by omega, z.2⟩)]
    have b2 : ∀ v : Int32, upd (upd (σ.1 (144 + i)) 2 v) 2 (σ.1 (144 + i) 2 ||| (wnsW c who h (nI n) j ||| (if bt who j = true then wnb c h (nI n) j else 0))) = upd (σ.1 (144 + i)) 2 (σ.1 (144 + i) 2 ||| wnsW c who h (nI n) (j + 1)) := by
      intro v
      funext q
      by_cases hq : q = 2
      · subst hq; rw [upd_at, upd_at]; rfl
      · rw [upd_ne hq, upd_ne hq, upd_ne hq]
    rw [b1, b2]) (fun x hx => by
    show X2_ring_b8 i (nI n) who _ x = _
    unfold X2_ring_b8
    rw [if_pos (ile (by rw [mrow_ne (by omega), mrow_ne (by omega), hP, hx]; omega))])
  have H3 := H
  rw [r0] at H3
  exact H3
theorem ring_eq (σ : mS) {c : cT} {i n : Nat} {who : Int32} (hi : i < 6) (hC : CF σ c) (hM : HM c (HX σ i)) (hn : n < 31) : X2_ring σ i (nI n) who = some ((σ.1 (144 + i) 2 ||| wnsW c who (HX σ i) (nI n) c.1) &&& ((σ.1 (144 + i) 2) ^^^ (-1)), mrow (mrow σ (152 + i) (mkX c who (HX σ i) (nI n) (σ.1 (152 + i)) c.1)) (144 + i) (fdX (σ.1 (144 + i)) (σ.1 (144 + i) 2 ||| wnsW c who (HX σ i) (nI n) c.1) ((σ.1 (144 + i) 3) &&& (((1 : Int32) <<< (nI n &&& 31)) ^^^ (-1))) (nI n) ((σ.1 (144 + i) 5) + 1))) := by
  unfold X2_ring
  rw [ring_lp σ hi hC hM hn]
  show some _ = some _
  simp only [mwI_row, mrow_mrow, mrow_at]
  congr 2
  congr 1
  funext q
  unfold fdX
  by_cases q5 : q = 5
  · subst q5
    rw [upd_at, upd_ne (by decide), upd_ne (by decide), upd_ne (by decide)]
    rfl
  rw [upd_ne q5]
  by_cases q4 : q = 4
  · subst q4
    rw [upd_at]
    rfl
  rw [upd_ne q4]
  by_cases q3 : q = 3
  · subst q3
    rw [upd_at, upd_ne (by decide)]
    rfl
  rw [upd_ne q3]
  by_cases q2 : q = 2
  · subst q2
    rw [upd_at]
    rfl
  rw [upd_ne q2, if_neg q2, if_neg q3, if_neg q4, if_neg q5]

/-! halls: what a call, a turn, a new start make of them; both sides alike -/
theorem bt15 : ∀ j, j < 4 → bt 15 j = true := by decide +kernel
theorem wnsW_15 {c : cT} {h : hT} {num : Int32} : ∀ {q : Nat}, q ≤ 4 → wnsW c 15 h num q = wns c h num q
  | 0, _ => rfl
  | q + 1, hq => by
    show wnsW c 15 h num q ||| (if bt 15 q = true then wnb c h num q else 0) = wns c h num q ||| wnb c h num q
    rw [if_pos (bt15 q (by omega)), wnsW_15 (by omega)]
theorem or_andn (a w : Int32) : (a ||| w) &&& (a ^^^ (-1)) = w &&& (a ^^^ (-1)) := b_ext (fun i hi => by
  rw [b_and, b_and, b_or, b_xor, b_m1 i hi]
  cases bt a i <;> cases bt w i <;> rfl)
/-- the class's rows behind a call in hall i -/
def rgX (σ : mS) (c : cT) (i : Nat) (who num : Int32) : mS := mrow (mrow σ (152 + i) (mkX c who (HX σ i) num (σ.1 (152 + i)) c.1)) (144 + i) (fdX (σ.1 (144 + i)) (σ.1 (144 + i) 2 ||| wnsW c who (HX σ i) num c.1) ((σ.1 (144 + i) 3) &&& (((1 : Int32) <<< (num &&& 31)) ^^^ (-1))) num ((σ.1 (144 + i) 5) + 1))
theorem rgX_row {σ : mS} {c : cT} {i k : Nat} {who num : Int32} (h1 : k ≠ 152 + i) (h2 : k ≠ 144 + i) : (rgX σ c i who num).1 k = σ.1 k := by
  unfold rgX
  rw [mrow_ne h2, mrow_ne h1]
theorem rgX_2 {σ : mS} {c : cT} {i : Nat} {who num : Int32} : (rgX σ c i who num).2 = σ.2 := rfl
theorem rgX_152 {σ : mS} {c : cT} {i : Nat} {who num : Int32} : (rgX σ c i who num).1 (152 + i) = mkX c who (HX σ i) num (σ.1 (152 + i)) c.1 := by
  unfold rgX
  rw [mrow_ne (by omega), mrow_at]
theorem rgX_144 {σ : mS} {c : cT} {i : Nat} {who num : Int32} : (rgX σ c i who num).1 (144 + i) = fdX (σ.1 (144 + i)) (σ.1 (144 + i) 2 ||| wnsW c who (HX σ i) num c.1) ((σ.1 (144 + i) 3) &&& (((1 : Int32) <<< (num &&& 31)) ^^^ (-1))) num ((σ.1 (144 + i) 5) + 1) := by
  unfold rgX
  rw [mrow_at]
theorem rgX_HX {σ : mS} {c : cT} {i : Nat} {num : Int32} (hP : c.1 ≤ 4) : HX (rgX σ c i 15 num) i = ringH c (HX σ i) num := by
  funext s
  show (if s < 4 then (rgX σ c i 15 num).1 (152 + i) s else if s = 4 then (rgX σ c i 15 num).1 (144 + i) 2 else if s = 5 then (rgX σ c i 15 num).1 (144 + i) 3 else if s = 6 then (rgX σ c i 15 num).1 (144 + i) 5 else if s = 7 then (rgX σ c i 15 num).1 (144 + i) 4 else 0) = _
  rw [rgX_152, rgX_144]
  unfold ringH
  by_cases h4 : s < 4
  · rw [if_pos h4]
    unfold mkX
    by_cases hs : s < c.1
    · rw [if_pos ⟨hs, bt15 s h4⟩, if_pos hs]
    · rw [if_neg (fun z => hs z.1), if_neg hs, if_neg (by omega), if_neg (by omega), if_neg (by omega), if_neg (by omega)]
      unfold HX
      rw [if_pos h4]
  · rw [if_neg h4, if_neg (by omega : ¬ s < c.1)]
    by_cases e4 : s = 4
    · rw [if_pos e4, if_pos e4, ← wnsW_15 hP]; rfl
    · rw [if_neg e4, if_neg e4]
      by_cases e5 : s = 5
      · rw [if_pos e5, if_pos e5]; rfl
      · rw [if_neg e5, if_neg e5]
        by_cases e6 : s = 6
        · rw [if_pos e6, if_pos e6]; rfl
        · rw [if_neg e6, if_neg e6]
          by_cases e7 : s = 7
          · rw [if_pos e7, if_pos e7]; rfl
          · rw [if_neg e7, if_neg e7]
            unfold HX
            rw [if_neg h4, if_neg e4, if_neg e5, if_neg e6, if_neg e7]
theorem ring15 (σ : mS) {c : cT} {i n : Nat} (hi : i < 6) (hC : CF σ c) (hM : HM c (HX σ i)) (hn : n < 31) : X2_ring σ i (nI n) 15 = some (wns c (HX σ i) (nI n) c.1 &&& ((HX σ i 4) ^^^ (-1)), rgX σ c i 15 (nI n)) := by
  rw [ring_eq σ hi hC hM hn, or_andn, wnsW_15 hC.2.1]
  unfold rgX
  rw [wnsW_15 hC.2.1]
  rfl
/-! what is always so of a hall -/
def HV (h : hT) : Prop := (∀ j, j < 4 → ∃ n, n < 64 ∧ h j = nI n) ∧ (∃ n, n < 16 ∧ h 4 = nI n) ∧ (∃ n, n < 4096 ∧ h 5 = nI (2 * n))
theorem HV.m {h : hT} (hV : HV h) {c : cT} (hP : c.1 ≤ 4) : HM c h := fun j hj => hV.1 j (by omega)
theorem or_lt16 {x y : Int32} (hx : ∃ m, m < 16 ∧ x = nI m) (hy : ∃ m, m < 16 ∧ y = nI m) : ∃ m, m < 16 ∧ x ||| y = nI m := by
  obtain ⟨a, ha, rfl⟩ := hx
  obtain ⟨b, hb, rfl⟩ := hy
  exact ⟨a ||| b, Nat.or_lt_two_pow (n := 4) ha hb, fa_or a b⟩
theorem wns_lt (c : cT) (h : hT) (num : Int32) : ∀ q, q ≤ 4 → ∃ m, m < 16 ∧ wns c h num q = nI m
  | 0, _ => ⟨0, by decide, rfl⟩
  | q + 1, hq => by
    refine or_lt16 (wns_lt c h num q (by omega)) ?_
    unfold wnb
    split
    · rcases (show q = 0 ∨ q = 1 ∨ q = 2 ∨ q = 3 by omega) with rfl | rfl | rfl | rfl
      · exact ⟨1, by decide, by decide⟩
      · exact ⟨2, by decide, by decide⟩
      · exact ⟨4, by decide, by decide⟩
      · exact ⟨8, by decide, by decide⟩
    · exact ⟨0, by decide, rfl⟩
theorem and_nI (n : Nat) (y : Int32) : nI n &&& y = nI (n &&& y.toBitVec.toNat) := by
  apply Int32.toBitVec_inj.mp
  rw [Int32.toBitVec_and]
  show BitVec.ofNat 32 n &&& y.toBitVec = BitVec.ofNat 32 (n &&& y.toBitVec.toNat)
  apply BitVec.eq_of_getLsbD_eq
  intro i hi
  rw [BitVec.getLsbD_and, BitVec.getLsbD_ofNat, BitVec.getLsbD_ofNat, Nat.testBit_and]
  simp [hi, BitVec.getLsbD]
theorem even_and {n m : Nat} : ∃ k, k ≤ n ∧ (2 * n) &&& m = 2 * k := by
  refine ⟨n &&& (m / 2), Nat.and_le_left, ?_⟩
  apply Nat.eq_of_testBit_eq
  intro i
  rw [Nat.testBit_and]
  cases i with
  | zero => simp [Nat.testBit_zero]
  | succ i => rw [Nat.testBit_succ, Nat.testBit_succ, Nat.testBit_succ, show 2 * n / 2 = n by omega, show 2 * (n &&& m / 2) / 2 = n &&& m / 2 by omega, Nat.testBit_and]
theorem HV.ring {h : hT} (hV : HV h) {c : cT} (hP : c.1 ≤ 4) (num : Int32) : HV (ringH c h num) := by
  refine ⟨fun j hj => ?_, ?_, ?_⟩
  · unfold ringH
    by_cases hs : j < c.1
    · rw [if_pos hs]
      exact nmk_lt (hV.m hP) num hs
    · rw [if_neg hs, if_neg (by omega), if_neg (by omega), if_neg (by omega), if_neg (by omega)]
      exact hV.1 j hj
  · unfold ringH
    rw [if_neg (by omega), if_pos rfl]
    exact or_lt16 hV.2.1 (wns_lt c h num c.1 hP)
  · unfold ringH
    rw [if_neg (by omega), if_neg (by decide), if_pos rfl]
    obtain ⟨n, hn, e⟩ := hV.2.2
    rw [e, and_nI]
    obtain ⟨k, hk, e2⟩ := even_and (n := n) (m := (((1 : Int32) <<< (num &&& 31)) ^^^ (-1)).toBitVec.toNat)
    exact ⟨k, by omega, by rw [e2]⟩
/-- by hand -/
def turnH (h : hT) (i p : Nat) : hT := upd h i (h i ^^^ ((1 : Int32) <<< (nI p &&& 31)))
theorem fa_xor (a b : Nat) : nI a ^^^ nI b = nI (a ^^^ b) := by
  apply Int32.toBitVec_inj.1
  show BitVec.ofNat 32 a ^^^ BitVec.ofNat 32 b = BitVec.ofNat 32 (a ^^^ b)
  apply BitVec.eq_of_getLsbD_eq
  intro i hi
  simp [hi]
theorem HV.turn {h : hT} (hV : HV h) {i p : Nat} (hi : i < 4) (hp : p < 6) : HV (turnH h i p) := by
  refine ⟨fun j hj => ?_, ?_, ?_⟩
  · unfold turnH
    by_cases e : j = i
    · subst e
      rw [upd_at]
      obtain ⟨n, hn, e1⟩ := hV.1 j hj
      obtain ⟨m, hm, e2⟩ := pw_nI p hp
      rw [e1, e2, fa_xor]
      exact ⟨n ^^^ m, Nat.xor_lt_two_pow (n := 6) hn hm, rfl⟩
    · rw [upd_ne e]
      exact hV.1 j hj
  · unfold turnH
    rw [upd_ne (by omega)]
    exact hV.2.1
  · unfold turnH
    rw [upd_ne (by omega)]
    exact hV.2.2
def frH (P : Nat) : hT := fun s => if s = 5 then (if P = 0 then 0 else 8190) else 0
theorem HV_fr (P : Nat) : HV (frH P) := by
  refine ⟨fun j hj => ⟨0, by decide, ?_⟩, ⟨0, by decide, rfl⟩, ?_⟩
  · unfold frH
    rw [if_neg (by omega)]
    rfl
  · unfold frH
    rw [if_pos rfl]
    split
    · exact ⟨0, by decide, rfl⟩
    · exact ⟨4095, by decide, rfl⟩
/-! deeds: a number below 16 is called, from 16 on 16 + 6 i + p rubbed -/
def dOK (P m : Nat) : Prop := (1 ≤ m ∧ m ≤ 12) ∨ (16 ≤ m ∧ m < 16 + 6 * P)
def dStep (c : cT) (h : hT) (m : Nat) : hT := if m < 16 then ringH c h (nI m) else turnH h ((m - 16) / 6) ((m - 16) % 6)
def rpl (c : cT) (dn : Nat → Nat) : Nat → hT
  | 0 => frH c.1
  | k + 1 => dStep c (rpl c dn k) (dn k)
theorem HV_step {c : cT} {h : hT} {m : Nat} (hV : HV h) (hP : c.1 ≤ 4) (hm : dOK c.1 m) : HV (dStep c h m) := by
  unfold dStep
  rcases hm with hm | hm
  · rw [if_pos (by omega)]
    exact hV.ring hP _
  · rw [if_neg (by omega)]
    exact hV.turn (by omega) (by omega)
theorem HV_rpl {c : cT} {dn : Nat → Nat} (hP : c.1 ≤ 4) : ∀ {k : Nat}, (∀ q, q < k → dOK c.1 (dn q)) → HV (rpl c dn k)
  | 0, _ => HV_fr _
  | k + 1, h => HV_step (HV_rpl hP (fun q hq => h q (by omega))) hP (h k (by omega))
theorem rpl_cong {c : cT} {dn dm : Nat → Nat} : ∀ {k : Nat}, (∀ q, q < k → dn q = dm q) → rpl c dn k = rpl c dm k
  | 0, _ => rfl
  | k + 1, h => by
    show dStep c (rpl c dn k) (dn k) = dStep c (rpl c dm k) (dm k)
    rw [rpl_cong (fun q hq => h q (by omega)), h k (by omega)]

/-! copies, starts, turns, deeds -/
theorem bd_some {α β γ : Type} {a : α} {b : β} {f : α → β → Option γ} : bd (some (a, b)) f = f a b := rfl
def cpF (f : Nat → Int32) (s t n : Nat) : Nat → Int32 := fun q => if t ≤ q ∧ q < t + n then f (s + (q - t)) else f q
theorem copies_eq (μ : mS) {a1 a2 a3 : Int32} {s t n : Nat} (h1 : a1.toInt = (s : Int)) (h2 : a2.toInt = (t : Int)) (h3 : a3.toInt = (n : Int)) (hs : s + n ≤ 1360) (ht : t + n ≤ 1360) (hd : s + n ≤ t ∨ t + n ≤ s) : X11_copies μ a1 a2 a3 = some ((), mrow μ 10 (cpF (μ.1 10) s t n)) := by
  unfold X11_copies
  have c0 : cpF (μ.1 10) s t 0 = μ.1 10 := by
    funext q
    unfold cpF
    rw [if_neg (by omega)]
  have H := lp_zero (b := un2 (X11_copies_b3 a1 a2 a3)) (n := n) (res := mrow μ 10 (cpF (μ.1 10) s t n)) (fun j x => (mrow μ 10 (cpF (μ.1 10) s t j), x)) (by omega) (fun j x hj hx => by
    show X11_copies_b3 a1 a2 a3 (mrow μ 10 (cpF (μ.1 10) s t j)) x = some (.inl (mrow μ 10 (cpF (μ.1 10) s t (j + 1)), x + 1))
    unfold X11_copies_b3
    rw [if_neg (nle (by rw [h3, hx]; omega)), if_pos (vin_iff.mpr (by rw [i_off h1 hx (by omega)]; omega)), if_pos (vin_iff.mpr (by rw [i_off h2 hx (by omega)]; omega)), i_offn h1 hx (by omega), i_offn h2 hx (by omega), mwI_row, mrow_mrow, mrow_at]
    have e : upd (cpF (μ.1 10) s t j) (t + j) (cpF (μ.1 10) s t j (s + j)) = cpF (μ.1 10) s t (j + 1) := by
      funext q
      by_cases hq : q = t + j
      · subst hq
        rw [upd_at]
        unfold cpF
        rw [if_neg (by omega), if_pos (by omega), Nat.add_sub_cancel_left]
      · rw [upd_ne hq]
        unfold cpF
        by_cases hq2 : t ≤ q ∧ q < t + j
        · rw [if_pos hq2, if_pos (by omega)]
        · rw [if_neg hq2, if_neg (by omega)]
    rw [e]) (fun x hx => by
    show X11_copies_b3 a1 a2 a3 _ x = _
    unfold X11_copies_b3
    rw [if_pos (ile (by rw [h3, hx]; omega))])
  have H2 : lp big (un2 (X11_copies_b3 a1 a2 a3)) (mrow μ 10 (cpF (μ.1 10) s t 0), 0) = _ := H
  rw [c0, mrow_id] at H2
  rw [H2]
  rfl
theorem getH_cp_out {f : Nat → Int32} {s t n b : Nat} (h : b + 8 ≤ t ∨ t + n ≤ b) : getH (cpF f s t n) b = getH f b := by
  funext q
  unfold getH
  by_cases hq : q < 8
  · rw [if_pos hq, if_pos hq]
    unfold cpF
    rw [if_neg (by omega)]
  · rw [if_neg hq, if_neg hq]
theorem getH_cp_in {f : Nat → Int32} {s t n b : Nat} (h : t ≤ b ∧ b + 8 ≤ t + n) : getH (cpF f s t n) b = getH f (s + (b - t)) := by
  funext q
  unfold getH
  by_cases hq : q < 8
  · rw [if_pos hq, if_pos hq]
    unfold cpF
    rw [if_pos (by omega), show s + (b + q - t) = s + (b - t) + q by omega]
  · rw [if_neg hq, if_neg hq]
theorem getH_put {f : Nat → Int32} {b : Nat} {h : hT} (hh : ∀ q, 8 ≤ q → h q = 0) : getH (putH f b h) b = h := by
  funext q
  unfold getH
  by_cases hq : q < 8
  · rw [if_pos hq]
    unfold putH
    rw [if_pos (by omega), Nat.add_sub_cancel_left]
  · rw [if_neg hq, hh q (by omega)]
theorem getH_put_out {f : Nat → Int32} {b b' : Nat} {h : hT} (hd : b' + 8 ≤ b ∨ b + 8 ≤ b') : getH (putH f b h) b' = getH f b' := by
  funext q
  unfold getH
  by_cases hq : q < 8
  · rw [if_pos hq, if_pos hq]
    unfold putH
    rw [if_neg (by omega)]
  · rw [if_neg hq, if_neg hq]
theorem ringH_8 {c : cT} {h : hT} {num : Int32} (hP : c.1 ≤ 4) (hh : ∀ q, 8 ≤ q → h q = 0) : ∀ q, 8 ≤ q → ringH c h num q = 0 := fun q hq => by
  unfold ringH
  rw [if_neg (by omega), if_neg (by omega), if_neg (by omega), if_neg (by omega), if_neg (by omega), hh q hq]
theorem getH_8 {f : Nat → Int32} {b : Nat} : ∀ q, 8 ≤ q → getH f b q = 0 := fun q hq => by
  unfold getH
  rw [if_neg (by omega)]
/-- a hall of the class written anew: its marks, its fields -/
def hlX (σ : mS) (i : Nat) (m : Nat → Int32) (w b l n : Int32) : mS := mrow (mrow σ (152 + i) m) (144 + i) (fdX (σ.1 (144 + i)) w b l n)
theorem hlX_row {σ : mS} {i k : Nat} {m : Nat → Int32} {w b l n : Int32} (h1 : k ≠ 152 + i) (h2 : k ≠ 144 + i) : (hlX σ i m w b l n).1 k = σ.1 k := by
  unfold hlX
  rw [mrow_ne h2, mrow_ne h1]
theorem hlX_HX {σ : mS} {i : Nat} {m : Nat → Int32} {w b l n : Int32} : HX (hlX σ i m w b l n) i = fun s => if s < 4 then m s else if s = 4 then w else if s = 5 then b else if s = 6 then n else if s = 7 then l else 0 := by
  funext s
  unfold HX hlX
  rw [mrow_at, mrow_ne (by omega), mrow_at]
  rfl
theorem begin_eq (σ : mS) {i : Nat} (hi : i < 6) : X2_begin σ i = some ((), hlX σ i (seg 0 4 0 (σ.1 (152 + i))) 0 (if (σ.1 88 4) = 0 then 0 else 8190) 0 0) := by
  unfold X2_begin
  rw [fillI_eq _ _ _ _ (by decide), bd_some]
  have e88 : (mwI (mrow σ (152 + i) (seg 0 4 0 (σ.1 (152 + i)))) (144 + i) 2 0).1 88 4 = σ.1 88 4 := by rw [mwI_rk (by omega), mrow_ne (by omega)]
  rw [e88]
  show some _ = some _
  simp only [mwI_row, mrow_mrow, mrow_at]
  unfold hlX
  congr 2
  rw [mrow_ne (by omega : 144 + i ≠ 152 + i)]
  congr 1
  funext q
  unfold fdX
  by_cases q5 : q = 5
  · subst q5; rw [upd_at]; rfl
  rw [upd_ne q5]
  by_cases q4 : q = 4
  · subst q4; rw [upd_at]; rfl
  rw [upd_ne q4]
  by_cases q3 : q = 3
  · subst q3; rw [upd_at]; rfl
  rw [upd_ne q3]
  by_cases q2 : q = 2
  · subst q2; rw [upd_at]; rfl
  rw [upd_ne q2, if_neg q2, if_neg q3, if_neg q4, if_neg q5]
theorem begin_HX {σ : mS} {i P : Nat} (hP : (σ.1 88 4).toInt = (P : Int)) : HX (hlX σ i (seg 0 4 0 (σ.1 (152 + i))) 0 (if (σ.1 88 4) = 0 then 0 else 8190) 0 0) i = frH P := by
  rw [hlX_HX]
  funext s
  unfold frH
  by_cases h4 : s < 4
  · rw [if_pos h4, if_neg (by omega), seg_in (by omega)]
  · rw [if_neg h4]
    by_cases e4 : s = 4
    · rw [if_pos e4, if_neg (by omega)]
    · rw [if_neg e4]
      by_cases e5 : s = 5
      · rw [if_pos e5, if_pos e5]
        by_cases hz : P = 0
        · rw [if_pos hz, if_pos (i_eq.mpr (by rw [hP, hz]; rfl))]
        · rw [if_neg hz, if_neg (fun q => hz (by have := i_eq.mp q; rw [hP, i_zero] at this; omega))]
      · rw [if_neg e5, if_neg e5]
        by_cases e6 : s = 6
        · rw [if_pos e6]
        · rw [if_neg e6]
          split <;> rfl
theorem take_eq (σ : mS) {i i1 : Nat} (hi : i < 6) (hi1 : i1 < 6) (hne : i ≠ i1) : X2_take σ i i1 = some ((), hlX σ i (fun q => if q < 4 then σ.1 (152 + i1) q else σ.1 (152 + i) q) (σ.1 (144 + i1) 2) (σ.1 (144 + i1) 3) (σ.1 (144 + i1) 4) (σ.1 (144 + i1) 5)) := by
  unfold X2_take
  have H := lp_zero (b := un2 (X2_take_b2 i i1)) (n := 4) (res := mrow σ (152 + i) (fun q => if q < 4 then σ.1 (152 + i1) q else σ.1 (152 + i) q)) (fun j x => (mrow σ (152 + i) (fun q => if q < j then σ.1 (152 + i1) q else σ.1 (152 + i) q), x)) (by omega) (fun j x hj hx => by
    show X2_take_b2 i i1 (mrow σ (152 + i) (fun q => if q < j then σ.1 (152 + i1) q else σ.1 (152 + i) q)) x = some (.inl (mrow σ (152 + i) (fun q => if q < j + 1 then σ.1 (152 + i1) q else σ.1 (152 + i) q), x + 1))
    unfold X2_take_b2
    have hxn : x.toNatClampNeg = j := by rw [i_nat, hx]; rfl
    have vx : vin x 4 = true := vin_iff.mpr (by omega)
    rw [if_neg (nle (by rw [hx]; show (j : Int) < 4; omega)), if_pos vx, if_pos vx, hxn, mwI_row, mrow_mrow, mrow_at, mrow_ne (by omega)]
    have e : upd (fun q => if q < j then σ.1 (152 + i1) q else σ.1 (152 + i) q) j (σ.1 (152 + i1) j) = fun q => if q < j + 1 then σ.1 (152 + i1) q else σ.1 (152 + i) q := by
      funext q
      by_cases hq : q = j
      · subst hq
        rw [upd_at, if_pos (by omega)]
      · rw [upd_ne hq]
        by_cases hq2 : q < j
        · rw [if_pos hq2, if_pos (by omega)]
        · rw [if_neg hq2, if_neg (by omega)]
    rw [e]) (fun x hx => by
    show X2_take_b2 i i1 _ x = _
    unfold X2_take_b2
    rw [if_pos (ile (by rw [hx]; show (4 : Int) ≤ 4; omega))])
  have c0 : (fun q => if q < 0 then σ.1 (152 + i1) q else σ.1 (152 + i) q) = σ.1 (152 + i) := by
    funext q
    rw [if_neg (Nat.not_lt_zero q)]
  have H2 : lp big (un2 (X2_take_b2 i i1)) (mrow σ (152 + i) (fun q => if q < 0 then σ.1 (152 + i1) q else σ.1 (152 + i) q), 0) = _ := H
  rw [c0, mrow_id] at H2
  rw [H2]
  show some _ = some _
  have n1 : 144 + i1 ≠ 144 + i := by omega
  have n2 : 144 + i1 ≠ 152 + i := by omega
  simp only [mwI_row, mrow_mrow, mrow_at, mrow_ne n1, mrow_ne n2]
  unfold hlX
  congr 2
  rw [mrow_ne (by omega : 144 + i ≠ 152 + i)]
  congr 1
  funext q
  unfold fdX
  by_cases q5 : q = 5
  · subst q5; rw [upd_at]; rfl
  rw [upd_ne q5]
  by_cases q4 : q = 4
  · subst q4; rw [upd_at]; rfl
  rw [upd_ne q4]
  by_cases q3 : q = 3
  · subst q3; rw [upd_at]; rfl
  rw [upd_ne q3]
  by_cases q2 : q = 2
  · subst q2; rw [upd_at]; rfl
  rw [upd_ne q2, if_neg q2, if_neg q3, if_neg q4, if_neg q5]
theorem take_HX {σ : mS} {i i1 : Nat} : HX (hlX σ i (fun q => if q < 4 then σ.1 (152 + i1) q else σ.1 (152 + i) q) (σ.1 (144 + i1) 2) (σ.1 (144 + i1) 3) (σ.1 (144 + i1) 4) (σ.1 (144 + i1) 5)) i = HX σ i1 := by
  rw [hlX_HX]
  funext s
  unfold HX
  by_cases h4 : s < 4
  · rw [if_pos h4, if_pos h4, if_pos h4]
  · rw [if_neg h4, if_neg h4]
theorem turn_eq (σ : mS) {i p a : Nat} (ha : a < 4) : X2_turn σ i (nI a) (nI p) = some ((), mrow σ (152 + i) (upd (σ.1 (152 + i)) a (σ.1 (152 + i) a ^^^ ((1 : Int32) <<< (nI p &&& 31))))) := by
  unfold X2_turn
  have vx : vin (nI a) 4 = true := vin_iff.mpr (by rw [nI_ti (by omega)]; omega)
  rw [if_pos vx, if_pos vx, nI_nat (by omega)]
  rfl
theorem turn_HX {σ : mS} {i p a : Nat} (ha : a < 4) : HX (mrow σ (152 + i) (upd (σ.1 (152 + i)) a (σ.1 (152 + i) a ^^^ ((1 : Int32) <<< (nI p &&& 31))))) i = turnH (HX σ i) a p := by
  have e0 : HX σ i a = σ.1 (152 + i) a := by unfold HX; rw [if_pos ha]
  unfold turnH
  rw [e0]
  funext s
  show (if s < 4 then (mrow σ (152 + i) _).1 (152 + i) s else if s = 4 then (mrow σ (152 + i) _).1 (144 + i) 2 else if s = 5 then (mrow σ (152 + i) _).1 (144 + i) 3 else if s = 6 then (mrow σ (152 + i) _).1 (144 + i) 5 else if s = 7 then (mrow σ (152 + i) _).1 (144 + i) 4 else 0) = _
  rw [mrow_at, mrow_ne (by omega)]
  by_cases hs : s = a
  · subst hs
    rw [if_pos ha, upd_at, upd_at]
  · rw [upd_ne hs, upd_ne hs]
    rfl
theorem rub_code : ∀ m, m < 40 → 16 ≤ m → (nI m - 16) / 6 = nI ((m - 16) / 6) ∧ (nI m - 16) - (nI m - 16) / 6 * 6 = nI ((m - 16) % 6) := by decide +kernel
/-- the class's memory behind the first k deeds done again -/
def agX (σ : mS) (c : cT) (dn : Nat → Nat) : Nat → mS
  | 0 => σ
  | k + 1 => if dn k < 16 then rgX (agX σ c dn k) c 5 15 (nI (dn k)) else mrow (agX σ c dn k) (152 + 5) (upd ((agX σ c dn k).1 (152 + 5)) ((dn k - 16) / 6) ((agX σ c dn k).1 (152 + 5) ((dn k - 16) / 6) ^^^ ((1 : Int32) <<< (nI ((dn k - 16) % 6) &&& 31))))
theorem agX_succ {σ : mS} {c : cT} {dn : Nat → Nat} {k : Nat} : agX σ c dn (k + 1) = if dn k < 16 then rgX (agX σ c dn k) c 5 15 (nI (dn k)) else mrow (agX σ c dn k) (152 + 5) (upd ((agX σ c dn k).1 (152 + 5)) ((dn k - 16) / 6) ((agX σ c dn k).1 (152 + 5) ((dn k - 16) / 6) ^^^ ((1 : Int32) <<< (nI ((dn k - 16) % 6) &&& 31)))) := rfl
theorem agX_row {σ : mS} {c : cT} {dn : Nat → Nat} {q : Nat} (h1 : q ≠ 152 + 5) (h2 : q ≠ 144 + 5) : ∀ k, (agX σ c dn k).1 q = σ.1 q
  | 0 => rfl
  | k + 1 => by
    unfold agX
    split
    · rw [rgX_row h1 h2, agX_row h1 h2 k]
    · rw [mrow_ne h1, agX_row h1 h2 k]
theorem agX_2 {σ : mS} {c : cT} {dn : Nat → Nat} : ∀ k, (agX σ c dn k).2 = σ.2
  | 0 => rfl
  | k + 1 => by
    unfold agX
    split
    · rw [rgX_2, agX_2 k]
    · rw [mrow_2, agX_2 k]
theorem CF.ag {σ : mS} {c : cT} {dn : Nat → Nat} (hC : CF σ c) (k : Nat) : CF (agX σ c dn k) c := hC.of (agX_row (by decide) (by decide) k) (agX_row (by decide) (by decide) k) (agX_row (by decide) (by decide) k) (fun i hi => agX_row (by omega) (by omega) k)
theorem agX_HX {σ : mS} {c : cT} {dn : Nat → Nat} (hP : c.1 ≤ 4) (h0 : HX σ 5 = frH c.1) : ∀ k, (∀ q, q < k → dOK c.1 (dn q)) → HX (agX σ c dn k) 5 = rpl c dn k
  | 0, _ => h0
  | k + 1, h => by
    have ih := agX_HX hP h0 k (fun q hq => h q (by omega))
    unfold agX
    show _ = dStep c (rpl c dn k) (dn k)
    unfold dStep
    by_cases hm : dn k < 16
    · rw [if_pos hm, if_pos hm, rgX_HX hP, ih]
    · have hd := h k (by omega)
      unfold dOK at hd
      rw [if_neg hm, if_neg hm, turn_HX (by omega), ih]
theorem again_eq (σ : mS) {c : cT} {d : Nat} {dn : Nat → Nat} (hC : CF σ c) (hsz : σ.1 (160 + 3) 1 = nI d) (hd : d ≤ 40) (hdn : ∀ k, k < d → σ.1 (168 + 3) k = nI (dn k) ∧ dOK c.1 (dn k)) : ∃ τ, X10_doAgain σ = some ((), τ) ∧ HX τ 5 = rpl c dn d ∧ (∀ k, k ≠ 152 + 5 → k ≠ 144 + 5 → τ.1 k = σ.1 k) ∧ τ.2 = σ.2 := by
  have hP := hC.1
  have hP4 := hC.2.1
  unfold X10_doAgain
  rw [begin_eq σ (by decide)]
  generalize hs0 : hlX σ 5 (seg 0 4 0 (σ.1 (152 + 5))) 0 (if (σ.1 88 4) = 0 then 0 else 8190) 0 0 = s0
  have hrow : ∀ k, k ≠ 152 + 5 → k ≠ 144 + 5 → s0.1 k = σ.1 k := fun k k1 k2 => by rw [← hs0, hlX_row k1 k2]
  have hC0 : CF s0 c := hC.of (hrow _ (by decide) (by decide)) (hrow _ (by decide) (by decide)) (hrow _ (by decide) (by decide)) (fun i hi => hrow _ (by omega) (by omega))
  have h0 : HX s0 5 = frH c.1 := by rw [← hs0, begin_HX hP]
  have H := lp_zero (b := un2 X10_doAgain_b9) (n := d) (res := agX s0 c dn d) (fun j x => (agX s0 c dn j, x)) (by omega) (fun j x hj hx => by
    show X10_doAgain_b9 (agX s0 c dn j) x = some (.inl (agX s0 c dn (j + 1), x + 1))
    have hxn : x.toNatClampNeg = j := by rw [i_nat, hx]; rfl
    obtain ⟨e1, e2⟩ := hdn j hj
    have rsz : (agX s0 c dn j).1 (160 + 3) 1 = nI d := by rw [agX_row (by decide) (by decide), hrow _ (by decide) (by decide), hsz]
    have rdn : (agX s0 c dn j).1 (168 + 3) j = nI (dn j) := by rw [agX_row (by decide) (by decide), hrow _ (by decide) (by decide), e1]
    have hCj : CF (agX s0 c dn j) c := hC0.ag j
    have hHj := agX_HX (σ := s0) (dn := dn) hP4 h0 j (fun q hq => (hdn q (by omega)).2)
    have hV : HV (HX (agX s0 c dn j) 5) := by rw [hHj]; exact HV_rpl hP4 (fun q hq => (hdn q (by omega)).2)
    unfold X10_doAgain_b9
    rw [rsz, if_neg (nle (by rw [nI_ti (by omega), hx]; omega)), if_pos (vin_iff.mpr (by omega)), hxn, rdn]
    unfold dOK at e2
    rw [agX_succ]
    by_cases hm : dn j < 16
    · rw [if_neg (nle (by rw [nI_ti (by omega)]; show (dn j : Int) < 16; omega)), if_pos hm, ring15 _ (by decide) hCj (hV.m hP4) (by omega)]
      rfl
    · rw [if_pos (ile (by rw [nI_ti (by omega)]; show (16 : Int) ≤ dn j; omega)), if_neg hm, (rub_code (dn j) (by omega) (by omega)).2, (rub_code (dn j) (by omega) (by omega)).1, turn_eq _ (by omega)]
      rfl) (fun x hx => by
    show X10_doAgain_b9 (agX s0 c dn d) x = _
    unfold X10_doAgain_b9
    have rsz : (agX s0 c dn d).1 (160 + 3) 1 = nI d := by rw [agX_row (by decide) (by decide), hrow _ (by decide) (by decide), hsz]
    rw [rsz, if_pos (ile (by rw [nI_ti (by omega), hx]; omega))])
  refine ⟨agX s0 c dn d, ?_, agX_HX hP4 h0 d (fun q hq => (hdn q hq).2), fun k k1 k2 => by rw [agX_row k1 k2, hrow k k1 k2], by rw [agX_2, ← hs0]; rfl⟩
  show Option.bind (lp big (un2 X10_doAgain_b9) (s0, 0)) _ = _
  have H2 : lp big (un2 X10_doAgain_b9) (s0, 0) = some (agX s0 c dn d) := H
  rw [H2]
  rfl

/-! THE RELATION between the class's memory and the reference's -/
def RW (σ μ : mS) : Prop := ∀ r, r < 6 → μ.1 1 r = σ.1 24 r ∧ -1 ≤ (σ.1 24 r).toInt ∧ (σ.1 24 r).toInt ≤ 40 ∧ ∀ i : Nat, (i : Int) < (σ.1 24 r).toInt → μ.1 2 (40 * r + i) = σ.1 (16 + r) i
def RT (σ μ : mS) : Prop := ∀ t, t < 4 → μ.1 4 t = σ.1 48 t ∧ -1 ≤ (σ.1 48 t).toInt ∧ (σ.1 48 t).toInt ≤ 60 ∧ ∀ i : Nat, (i : Int) < (σ.1 48 t).toInt → μ.1 5 (60 * t + i) = σ.1 (40 + t) i
def DI (c : cT) : Prop := ∀ i, i < c.1 → ∀ p q, p < 6 → q < 6 → c.2.2 (6 * i + p) = c.2.2 (6 * i + q) → p = q
def RD (c : cT) (sz : Int32) (dr : Nat → Int32) (f : Nat → Int32) (b : Nat) : Prop := ∃ (d : Nat) (dn : Nat → Nat), sz = nI d ∧ d ≤ 40 ∧ (∀ k, k < d → dr k = nI (dn k) ∧ dOK c.1 (dn k)) ∧ getH f b = rpl c dn d ∧ ∀ k, k < d → getH f (b + 8 * (k + 1)) = rpl c dn k
def RK (c : cT) (sz : Int32) (dr : Nat → Int32) (f : Nat → Int32) (b : Nat) : Prop := sz = -1 ∨ RD c sz dr f b
def RG (σ μ : mS) (c : cT) : Prop := μ.1 0 5 = nI c.1 ∧ c.2.1 = μ.1 6 ∧ c.2.2 = μ.1 7 ∧ CF σ c ∧ DI c ∧ HX σ 5 = getH (μ.1 10) 0 ∧ μ.1 0 12 = σ.1 (160 + 3) 1 ∧ RD c (σ.1 (160 + 3) 1) (σ.1 (168 + 3)) (μ.1 10) 0 ∧ ∀ k, k < 3 → μ.1 11 k = σ.1 (160 + k) 1 ∧ RK c (σ.1 (160 + k) 1) (σ.1 (168 + k)) (μ.1 10) (328 * (k + 1))
def RO (σ μ : mS) : Prop := μ.1 0 14 = σ.1 0 13 ∧ μ.2 0 15 = σ.2 0 14 ∧ μ.2 0 16 = σ.2 0 15 ∧ μ.1 0 17 = σ.1 0 16 ∧ ∀ f, f < 6 → μ.1 12 f = σ.1 208 f
def RR (σ μ : mS) : Prop := RW σ μ ∧ RT σ μ ∧ (∃ c, RG σ μ c) ∧ RO σ μ
/-- the rows of the class that the players and halls lie in -/
def gX (k : Nat) : Prop := k = 88 ∨ k = 112 ∨ (128 ≤ k ∧ k < 132) ∨ k = 136 ∨ k = 149 ∨ k = 157 ∨ (160 ≤ k ∧ k < 164) ∨ (168 ≤ k ∧ k < 172)
theorem RD.of {c : cT} {sz : Int32} {dr f g : Nat → Int32} {b : Nat} (h : RD c sz dr f b) (hb : b ≤ 984) (hg : ∀ q, q < 1312 → g q = f q) : RD c sz dr g b := by
  obtain ⟨d, dn, h1, h2, h3, h4, h5⟩ := h
  have key : ∀ b', b' ≤ 1304 → getH g b' = getH f b' := fun b' hb' => by
    funext q
    unfold getH
    by_cases hq : q < 8
    · rw [if_pos hq, if_pos hq, hg _ (by omega)]
    · rw [if_neg hq, if_neg hq]
  exact ⟨d, dn, h1, h2, h3, by rw [key b (by omega)]; exact h4, fun k hk => by rw [key _ (by omega)]; exact h5 k hk⟩
theorem getH_of {f g : Nat → Int32} {b : Nat} (hb : b ≤ 1304) (hg : ∀ q, q < 1312 → g q = f q) : getH g b = getH f b := by
  funext q
  unfold getH
  by_cases hq : q < 8
  · rw [if_pos hq, if_pos hq, hg _ (by omega)]
  · rw [if_neg hq, if_neg hq]
theorem HX_of {σ τ : mS} {i : Nat} (h1 : τ.1 (144 + i) = σ.1 (144 + i)) (h2 : τ.1 (152 + i) = σ.1 (152 + i)) : HX τ i = HX σ i := by
  funext s
  unfold HX
  rw [h1, h2]
theorem RG.of {σ τ μ ν : mS} {c : cT} (h : RG σ μ c) (hσ : ∀ k, gX k → τ.1 k = σ.1 k) (h0 : ν.1 0 5 = μ.1 0 5) (h12 : ν.1 0 12 = μ.1 0 12) (h6 : ν.1 6 = μ.1 6) (h7 : ν.1 7 = μ.1 7) (h10 : ∀ q, q < 1312 → ν.1 10 q = μ.1 10 q) (h11 : ∀ k, k < 3 → ν.1 11 k = μ.1 11 k) : RG τ ν c := by
  obtain ⟨a1, a2, a3, a4, a5, a6, a7, a8, a9⟩ := h
  have g163 := hσ (160 + 3) (by unfold gX; omega)
  have g171 := hσ (168 + 3) (by unfold gX; omega)
  refine ⟨by rw [h0]; exact a1, by rw [h6]; exact a2, by rw [h7]; exact a3, a4.of (hσ _ (by unfold gX; omega)) (hσ _ (by unfold gX; omega)) (hσ _ (by unfold gX; omega)) (fun i hi => hσ _ (by unfold gX; omega)), a5, ?_, by rw [h12, g163]; exact a7, by rw [g163, g171]; exact a8.of (by omega) h10, fun k hk => ?_⟩
  · rw [HX_of (hσ (144 + 5) (by unfold gX; omega)) (hσ (152 + 5) (by unfold gX; omega)), getH_of (by omega) h10]
    exact a6
  · have e1 := hσ (160 + k) (by unfold gX; omega)
    have e2 := hσ (168 + k) (by unfold gX; omega)
    obtain ⟨b1, b2⟩ := a9 k hk
    refine ⟨by rw [h11 k hk, e1]; exact b1, ?_⟩
    rw [e1, e2]
    rcases b2 with b2 | b2
    · exact Or.inl b2
    · exact Or.inr (b2.of (by omega) h10)
theorem RW.of {σ τ μ ν : mS} (h : RW σ μ) (h1 : τ.1 24 = σ.1 24) (h2 : ∀ r, r < 6 → τ.1 (16 + r) = σ.1 (16 + r)) (h3 : ν.1 1 = μ.1 1) (h4 : ν.1 2 = μ.1 2) : RW τ ν := fun r hr => by
  rw [h1, h2 r hr, h3, h4]
  exact h r hr
theorem RT.of {σ τ μ ν : mS} (h : RT σ μ) (h1 : τ.1 48 = σ.1 48) (h2 : ∀ r, r < 4 → τ.1 (40 + r) = σ.1 (40 + r)) (h3 : ν.1 4 = μ.1 4) (h4 : ν.1 5 = μ.1 5) : RT τ ν := fun r hr => by
  rw [h1, h2 r hr, h3, h4]
  exact h r hr
theorem RO.of {σ τ μ ν : mS} (h : RO σ μ) (h1 : τ.1 0 13 = σ.1 0 13) (h2 : τ.1 0 16 = σ.1 0 16) (h3 : τ.2 = σ.2) (h4 : ∀ f, f < 6 → τ.1 208 f = σ.1 208 f) (g1 : ν.1 0 14 = μ.1 0 14) (g2 : ν.1 0 17 = μ.1 0 17) (g3 : ν.2 = μ.2) (g4 : ∀ f, f < 6 → ν.1 12 f = μ.1 12 f) : RO τ ν := by
  obtain ⟨a, b, c, d, e⟩ := h
  exact ⟨by rw [h1, g1]; exact a, by rw [h3, g3]; exact b, by rw [h3, g3]; exact c, by rw [h2, g2]; exact d, fun f hf => by rw [h4 f hf, g4 f hf]; exact e f hf⟩
theorem RW.set {σ μ τ ν : mS} (h : RW σ μ) {r : Nat} {v : Int32} (hv : -1 ≤ v.toInt ∧ v.toInt ≤ 40) (t24 : ∀ q, q < 6 → τ.1 24 q = if q = r then v else σ.1 24 q) (t16 : ∀ q, q < 6 → q ≠ r → τ.1 (16 + q) = σ.1 (16 + q)) (n1 : ∀ q, q < 6 → ν.1 1 q = if q = r then v else μ.1 1 q) (n2 : ∀ q, q < 6 → q ≠ r → ∀ i, i < 40 → ν.1 2 (40 * q + i) = μ.1 2 (40 * q + i)) (hc : ∀ i : Nat, (i : Int) < v.toInt → ν.1 2 (40 * r + i) = τ.1 (16 + r) i) : RW τ ν := by
  intro q hq
  obtain ⟨a, b, c, d⟩ := h q hq
  rw [t24 q hq, n1 q hq]
  by_cases e : q = r
  · subst e
    simp only [if_true]
    exact ⟨trivial, hv.1, hv.2, hc⟩
  · rw [if_neg e, if_neg e]
    exact ⟨a, b, c, fun i hi => by rw [n2 q hq e i (by omega), t16 q hq e]; exact d i hi⟩
theorem RT.set {σ μ τ ν : mS} (h : RT σ μ) {r : Nat} {v : Int32} (hv : -1 ≤ v.toInt ∧ v.toInt ≤ 60) (t24 : ∀ q, q < 4 → τ.1 48 q = if q = r then v else σ.1 48 q) (t16 : ∀ q, q < 4 → q ≠ r → τ.1 (40 + q) = σ.1 (40 + q)) (n1 : ∀ q, q < 4 → ν.1 4 q = if q = r then v else μ.1 4 q) (n2 : ∀ q, q < 4 → q ≠ r → ∀ i, i < 60 → ν.1 5 (60 * q + i) = μ.1 5 (60 * q + i)) (hc : ∀ i : Nat, (i : Int) < v.toInt → ν.1 5 (60 * r + i) = τ.1 (40 + r) i) : RT τ ν := by
  intro q hq
  obtain ⟨a, b, c, d⟩ := h q hq
  rw [t24 q hq, n1 q hq]
  by_cases e : q = r
  · subst e
    simp only [if_true]
    exact ⟨trivial, hv.1, hv.2, hc⟩
  · rw [if_neg e, if_neg e]
    exact ⟨a, b, c, fun i hi => by rw [n2 q hq e i (by omega), t16 q hq e]; exact d i hi⟩
/-! both come to the same answer, and are related again -/
def SIM (A B : Option (Int32 × mS)) : Prop := ∃ v τ ν, A = some (v, τ) ∧ B = some (v, ν) ∧ RR τ ν
theorem SIM.ret {σ μ : mS} {v w : Int32} (h : RR σ μ) (e : v = w) : SIM (some (v, σ)) (some (w, μ)) := ⟨v, σ, μ, rfl, by rw [e], h⟩
theorem SIM.ite {c d : Prop} [Decidable c] [Decidable d] {A B A' B' : Option (Int32 × mS)} (h : c ↔ d) (h1 : c → SIM A A') (h2 : ¬ c → SIM B B') : SIM (if c then A else B) (if d then A' else B') := by
  by_cases hc : c
  · rw [if_pos hc, if_pos (h.mp hc)]; exact h1 hc
  · rw [if_neg hc, if_neg (fun q => hc (h.mpr q))]; exact h2 hc
theorem SIM.L {c : Prop} [Decidable c] {A B C : Option (Int32 × mS)} (hc : c) (h : SIM A C) : SIM (if c then A else B) C := by rw [if_pos hc]; exact h
theorem SIM.R {c : Prop} [Decidable c] {A B C : Option (Int32 × mS)} (hc : c) (h : SIM C A) : SIM C (if c then A else B) := by rw [if_pos hc]; exact h
theorem SIM.nL {c : Prop} [Decidable c] {A B C : Option (Int32 × mS)} (hc : ¬ c) (h : SIM B C) : SIM (if c then A else B) C := by rw [if_neg hc]; exact h
theorem SIM.nR {c : Prop} [Decidable c] {A B C : Option (Int32 × mS)} (hc : ¬ c) (h : SIM C B) : SIM C (if c then A else B) := by rw [if_neg hc]; exact h
theorem bd_id {A : Option (Int32 × mS)} : bd A (fun r s => some (r, s)) = A := by
  cases A with
  | none => rfl
  | some q => rfl
theorem SIM.found {σ μ : mS} (h : RR σ μ) {f : Nat} (hf : f < 6) : SIM (X10_found σ (nI f)) (X11_finds μ (nI f)) := by
  have vf : vin (nI f) 6 = true := vin_iff.mpr (by rw [nI_ti (by omega)]; omega)
  unfold X10_found X11_finds
  rw [if_pos vf, if_pos vf, if_pos vf, if_pos vf, nI_nat (by omega)]
  obtain ⟨hW, hT, ⟨c, hG⟩, hO⟩ := h
  obtain ⟨o1, o2, o3, o4, o5⟩ := hO
  have r208 : (mwI σ 0 16 (nI f)).1 208 = σ.1 208 := mwI_rk (by decide)
  have r12 : (mwI μ 0 17 (nI f)).1 12 = μ.1 12 := mwI_rk (by decide)
  rw [r208, r12, o5 f hf]
  refine ⟨-3, _, _, rfl, rfl, ?_, ?_, ⟨c, ?_⟩, ?_⟩
  · exact hW.of (by rw [mwI_rk (by decide), mwI_rk (by decide)]) (fun r hr => by rw [mwI_rk (by omega), mwI_rk (by omega)]) (by rw [mwI_rk (by decide), mwI_rk (by decide)]) (by rw [mwI_rk (by decide), mwI_rk (by decide)])
  · exact hT.of (by rw [mwI_rk (by decide), mwI_rk (by decide)]) (fun r hr => by rw [mwI_rk (by omega), mwI_rk (by omega)]) (by rw [mwI_rk (by decide), mwI_rk (by decide)]) (by rw [mwI_rk (by decide), mwI_rk (by decide)])
  · refine hG.of (fun k hk => ?_) ?_ ?_ ?_ ?_ (fun q hq => ?_) (fun k hk => ?_)
    · unfold gX at hk
      rw [mwI_rk (by omega), mwI_rk (by omega)]
    · rw [mwI_rk (by decide), mwI_row, mrow_at, upd_ne (by decide)]
    · rw [mwI_rk (by decide), mwI_row, mrow_at, upd_ne (by decide)]
    · rw [mwI_rk (by decide), mwI_rk (by decide)]
    · rw [mwI_rk (by decide), mwI_rk (by decide)]
    · rw [mwI_rk (by decide), mwI_rk (by decide)]
    · rw [mwI_rk (by decide), mwI_rk (by decide)]
  · refine ⟨?_, o2, o3, ?_, fun q hq => ?_⟩
    · exact o1
    · rfl
    · rw [mwI_row, mwI_row (k := 208), mrow_at, mrow_at, r208, r12]
      by_cases e : q = f
      · subst e; rw [upd_at, upd_at]
      · rw [upd_ne e, upd_ne e]
        exact o5 q hq
theorem SIM.found' {σ μ : mS} (h : RR σ μ) {f : Nat} (hf : f < 6) : SIM (bd (X10_found σ (nI f)) (fun r s => some (r, s))) (bd (X11_finds μ (nI f)) (fun r s => some (r, s))) := by
  rw [bd_id, bd_id]
  exact SIM.found h hf
/-- asked -/
theorem RR.asked {σ μ : mS} (h : RR σ μ) (v : Int32) : RR (mwI σ 0 13 v) (mwI μ 0 14 v) := by
  obtain ⟨hW, hT, ⟨c, hG⟩, o1, o2, o3, o4, o5⟩ := h
  refine ⟨hW.of (mwI_rk (by decide)) (fun r hr => mwI_rk (by omega)) (mwI_rk (by decide)) (mwI_rk (by decide)), hT.of (mwI_rk (by decide)) (fun r hr => mwI_rk (by omega)) (mwI_rk (by decide)) (mwI_rk (by decide)), ⟨c, hG.of (fun k hk => mwI_rk (by unfold gX at hk; omega)) ?_ ?_ (mwI_rk (by decide)) (mwI_rk (by decide)) (fun q _ => by rw [mwI_rk (by decide)]) (fun q _ => by rw [mwI_rk (by decide)])⟩, ?_, o2, o3, ?_, fun f hf => ?_⟩
  · rw [mwI_row, mrow_at, upd_ne (by decide)]
  · rw [mwI_row, mrow_at, upd_ne (by decide)]
  · rw [mwI_rd, mwI_rd]
  · rw [mwI_row, mwI_row, mrow_at, mrow_at, upd_ne (by decide), upd_ne (by decide)]
    exact o4
  · rw [mwI_rk (by decide), mwI_rk (by decide)]
    exact o5 f hf

