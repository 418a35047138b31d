/-! numbers, and computations that come to an end -/
theorem i_lt {a b : Int32} : a < b ↔ a.toInt < b.toInt := Int32.lt_iff_toInt_lt
theorem i_le {a b : Int32} : a ≤ b ↔ a.toInt ≤ b.toInt := Int32.le_iff_toInt_le
theorem l_lt {a b : Int64} : a < b ↔ a.toInt < b.toInt := Int64.lt_iff_toInt_lt
theorem l_le {a b : Int64} : a ≤ b ↔ a.toInt ≤ b.toInt := Int64.le_iff_toInt_le
theorem i_eq {a b : Int32} : a = b ↔ a.toInt = b.toInt := Int32.toInt_inj.symm
theorem l_eq {a b : Int64} : a = b ↔ a.toInt = b.toInt := Int64.toInt_inj.symm
theorem i_of {a : Int32} {z : Int} (h : a.toInt = z) : a = Int32.ofInt z := by rw [← h, Int32.ofInt_toInt]
theorem i_lo (a : Int32) : -2147483648 ≤ a.toInt := Int32.le_toInt a
theorem i_hi (a : Int32) : a.toInt < 2147483648 := Int32.toInt_lt a
theorem l_of_i (a : Int32) : a.toInt64.toInt = a.toInt := Int32.toInt_toInt64 a
theorem i_nat (a : Int32) : a.toNatClampNeg = a.toInt.toNat := rfl
theorem vin_iff {i : Int32} {n : Nat} : vin i n = true ↔ 0 ≤ i.toInt ∧ i.toInt < (n : Int) := by
  unfold vin
  rw [Bool.not_eq_true', Bool.or_eq_false_iff, decide_eq_false_iff_not, decide_eq_false_iff_not, i_lt, i_nat]
  show ¬ i.toInt < 0 ∧ ¬ n ≤ i.toInt.toNat ↔ _
  omega
theorem in_zero {a : Int32} {lo hi : Int64} : X11_in a.toInt64 lo hi = 0 ↔ (a.toInt < lo.toInt ∨ hi.toInt < a.toInt) := by
  unfold X11_in
  simp only [l_lt, l_of_i]
  by_cases h1 : a.toInt < lo.toInt
  · simp [h1]
  · by_cases h2 : hi.toInt < a.toInt
    · simp [h1, h2]
    · simp [h1, h2]
theorem isRow_zero {a : Int32} : X10_isRow a = 0 ↔ (a.toInt < 0 ∨ 6 ≤ a.toInt) := by
  unfold X10_isRow
  simp only [i_lt, i_le]
  show (if a.toInt < 0 then (0 : Int32) else if 6 ≤ a.toInt then 0 else 1) = 0 ↔ _
  by_cases h1 : a.toInt < 0
  · simp [h1]
  · by_cases h2 : 6 ≤ a.toInt
    · simp [h1, h2]
    · simp [h1, h2]
theorem isText_zero {a : Int32} : X10_isText a = 0 ↔ (a.toInt < 0 ∨ 4 ≤ a.toInt) := by
  unfold X10_isText
  simp only [i_lt, i_le]
  show (if a.toInt < 0 then (0 : Int32) else if 4 ≤ a.toInt then 0 else 1) = 0 ↔ _
  by_cases h1 : a.toInt < 0
  · simp [h1]
  · by_cases h2 : 4 ≤ a.toInt
    · simp [h1, h2]
    · simp [h1, h2]
theorem isNumber_zero {a : Int32} : X10_isNumber a = 0 ↔ (a.toInt < 1 ∨ 12 < a.toInt) := by
  unfold X10_isNumber
  simp only [i_lt, i_le]
  show (if a.toInt < 1 then (0 : Int32) else if 12 < a.toInt then 0 else 1) = 0 ↔ _
  by_cases h1 : a.toInt < 1
  · simp [h1]
  · by_cases h2 : 12 < a.toInt
    · simp [h1, h2]
    · simp [h1, h2]
theorem isPlace_zero {a : Int32} : X10_isPlace a = 0 ↔ (a.toInt < 0 ∨ 6 ≤ a.toInt) := by
  unfold X10_isPlace
  simp only [i_lt, i_le]
  show (if a.toInt < 0 then (0 : Int32) else if 6 ≤ a.toInt then 0 else 1) = 0 ↔ _
  by_cases h1 : a.toInt < 0
  · simp [h1]
  · by_cases h2 : 6 ≤ a.toInt
    · simp [h1, h2]
    · simp [h1, h2]
theorem isKept_zero {a : Int32} : X10_isKeptPlace a = 0 ↔ (a.toInt < 0 ∨ 3 ≤ a.toInt) := by
  unfold X10_isKeptPlace
  simp only [i_lt, i_le]
  show (if a.toInt < 0 then (0 : Int32) else if 3 ≤ a.toInt then 0 else 1) = 0 ↔ _
  by_cases h1 : a.toInt < 0
  · simp [h1]
  · by_cases h2 : 3 ≤ a.toInt
    · simp [h1, h2]
    · simp [h1, h2]
theorem isPlayer_zero {σ : mS} {a : Int32} : X10_isPlayer σ a = 0 ↔ (a.toInt < 0 ∨ (σ.1 88 4).toInt ≤ a.toInt) := by
  unfold X10_isPlayer
  simp only [i_lt, i_le]
  show (if a.toInt < 0 then (0 : Int32) else if (σ.1 88 4).toInt ≤ a.toInt then 0 else 1) = 0 ↔ _
  by_cases h1 : a.toInt < 0
  · simp [h1]
  · by_cases h2 : (σ.1 88 4).toInt ≤ a.toInt
    · simp [h1, h2]
    · simp [h1, h2]
/-! a computation comes to an end, with Q -/
def Hs {α : Type} (o : Option α) (Q : α → Prop) : Prop := ∃ r, o = some r ∧ Q r
theorem Hs.ret {α : Type} {Q : α → Prop} {r : α} (h : Q r) : Hs (some r) Q := ⟨r, rfl, h⟩
theorem Hs.ite {α : Type} {Q : α → Prop} {c : Prop} [Decidable c] {A B : Option α} (h1 : c → Hs A Q) (h2 : ¬ c → Hs B Q) : Hs (if c then A else B) Q := by
  by_cases h : c
  · rw [if_pos h]; exact h1 h
  · rw [if_neg h]; exact h2 h
theorem Hs.pos {α : Type} {Q : α → Prop} {c : Prop} [Decidable c] {A B : Option α} (h : c) (h1 : Hs A Q) : Hs (if c then A else B) Q := by rw [if_pos h]; exact h1
theorem Hs.neg {α : Type} {Q : α → Prop} {c : Prop} [Decidable c] {A B : Option α} (h : ¬ c) (h1 : Hs B Q) : Hs (if c then A else B) Q := by rw [if_neg h]; exact h1
theorem Hs.bind {α β : Type} {Q : β → Prop} {A : Option α} {f : α → Option β} {P : α → Prop} (h : Hs A P) (k : ∀ a, P a → Hs (f a) Q) : Hs (A.bind f) Q := by
  obtain ⟨a, rfl, ha⟩ := h
  exact k a ha
theorem Hs.bdd {α β γ : Type} {Q : γ → Prop} {A : Option (α × β)} {f : α → β → Option γ} {P : α × β → Prop} (h : Hs A P) (k : ∀ a b, P (a, b) → Hs (f a b) Q) : Hs (bd A f) Q := by
  obtain ⟨⟨a, b⟩, rfl, ha⟩ := h
  exact k a b ha
theorem Hs.mono {α : Type} {Q P : α → Prop} {o : Option α} (h : Hs o P) (k : ∀ r, P r → Q r) : Hs o Q := by
  obtain ⟨r, e, hr⟩ := h
  exact ⟨r, e, k r hr⟩
/-- a loop: an invariant, a measure that falls -/
theorem Hs.loop {S R : Type} {b : S → Option (S ⊕ R)} {Q : R → Prop} (I : S → Prop) (m : S → Nat) (h : ∀ s, I s → Hs (b s) (fun x => (∀ s', x = .inl s' → I s' ∧ m s' < m s) ∧ (∀ r, x = .inr r → Q r))) : ∀ (n : Nat) (s : S), I s → m s < n → Hs (lp n b s) Q
  | 0, s, _, hm => absurd hm (Nat.not_lt_zero _)
  | n + 1, s, hI, hm => by
    obtain ⟨x, e, h1, h2⟩ := h s hI
    unfold lp
    rw [e]
    cases x with
    | inl s' =>
      obtain ⟨g1, g2⟩ := h1 s' rfl
      exact Hs.loop I m h n s' g1 (by omega)
    | inr r => exact ⟨r, rfl, h2 r rfl⟩
theorem Hs.inl {S R : Type} {P : S → Prop} {Q : R → Prop} {s : S} (h : P s) : Hs (some (Sum.inl s : S ⊕ R)) (fun x => (∀ s', x = .inl s' → P s') ∧ (∀ r, x = .inr r → Q r)) := by
  refine ⟨_, rfl, ?_⟩
  constructor
  · intro s' e; cases e; exact h
  · intro r e; cases e
theorem Hs.inr {S R : Type} {P : S → Prop} {Q : R → Prop} {r : R} (h : Q r) : Hs (some (Sum.inr r : S ⊕ R)) (fun x => (∀ s', x = .inl s' → P s') ∧ (∀ r, x = .inr r → Q r)) := by
  refine ⟨_, rfl, ?_⟩
  constructor
  · intro s' e; cases e
  · intro r e; cases e; exact h
theorem i_add {x y : Int32} (h1 : -2147483648 ≤ x.toInt + y.toInt) (h2 : x.toInt + y.toInt < 2147483648) : (x + y).toInt = x.toInt + y.toInt := by rw [Int32.toInt_add, i32_bm h1 h2]
theorem i_sub {x y : Int32} (h1 : -2147483648 ≤ x.toInt - y.toInt) (h2 : x.toInt - y.toInt < 2147483648) : (x - y).toInt = x.toInt - y.toInt := by rw [Int32.toInt_sub, i32_bm h1 h2]
theorem i_mul {x y : Int32} (h1 : -2147483648 ≤ x.toInt * y.toInt) (h2 : x.toInt * y.toInt < 2147483648) : (x * y).toInt = x.toInt * y.toInt := by rw [Int32.toInt_mul, i32_bm h1 h2]
theorem i_inc {x : Int32} (h : x.toInt < 2147483647) : (x + 1).toInt = x.toInt + 1 := i_add (by have := i_lo x; show _ ≤ x.toInt + 1; omega) (by show x.toInt + 1 < _; omega)
