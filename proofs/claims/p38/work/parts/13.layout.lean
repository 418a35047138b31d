/-! the class's cells: number 8 g + i, group g -/
def lyX (k : Nat) : mD := match k / 8 with
  | 0 => .inl (10, [10, 26, 34, 50, 58, 90, 151, 165, 178, 186, 194, 0, 202, 0, 1, 1, 0, 210])
  | 1 => .inr (.inr (2, 6, 16))
  | 2 => .inr (.inl (0, 40))
  | 3 => .inr (.inl (0, 6))
  | 4 => .inr (.inr (3, 4, 40))
  | 5 => .inr (.inl (1, 60))
  | 6 => .inr (.inl (0, 4))
  | 7 => .inl (6, [66, 74, 0])
  | 8 => .inr (.inl (0, 4))
  | 9 => .inr (.inr (2, 4, 80))
  | 10 => .inr (.inl (0, 6))
  | 11 => .inl (7, [98, 114, 122, 138, 0])
  | 12 => .inr (.inr (6, 6, 104))
  | 13 => .inl ((match k % 8 with
    | 0 => 5
    | 1 => 9
    | 2 => 0
    | 3 => 3
    | 4 => 4
    | _ => 8), [])
  | 14 => .inr (.inl (0, 4))
  | 15 => .inr (.inr (2, 4, 128))
  | 16 => .inr (.inl (0, 6))
  | 17 => .inr (.inl (0, 4))
  | 18 => .inl (2, [90, k + 8 + 2, 0, 0, 0, 0])
  | 19 => .inr (.inl (0, 4))
  | 20 => .inl (1, [k + 8 + 2, 0])
  | 21 => .inr (.inl (0, 40))
  | 22 => .inr (.inr (4, 3, 160))
  | 23 => .inr (.inr (5, 5, 144))
  | 24 => .inr (.inl (0, 4))
  | 25 => .inr (.inl (0, 7))
  | _ => .inr (.inl (0, 6))
def idX : List Nat := [0, 8, 16, 17, 18, 19, 20, 21, 24, 32, 40, 41, 42, 43, 48, 56, 64, 72, 80, 81, 82, 83, 88, 96, 104, 105, 106, 107, 108, 109, 112, 120, 128, 129, 130, 131, 136, 144, 145, 146, 147, 148, 149, 152, 153, 154, 155, 156, 157, 160, 161, 162, 163, 168, 169, 170, 171, 176, 184, 192, 200, 208]
def LX : mY := (idX, lyX)
theorem LX_nd : va_nd LX.1 = true := by decide +kernel
theorem iX : ∀ k, k ∈ idX → k ∈ LX.1 := fun _ h => h
theorem iX2 {i : Nat} (h : i < 6) : 16 + i ∈ LX.1 := (by decide +kernel : ∀ i, i < 6 → 16 + i ∈ idX) i h
theorem iX5 {i : Nat} (h : i < 4) : 40 + i ∈ LX.1 := (by decide +kernel : ∀ i, i < 4 → 40 + i ∈ idX) i h
theorem iX10 {i : Nat} (h : i < 4) : 80 + i ∈ LX.1 := (by decide +kernel : ∀ i, i < 4 → 80 + i ∈ idX) i h
theorem iX13 {i : Nat} (h : i < 6) : 104 + i ∈ LX.1 := (by decide +kernel : ∀ i, i < 6 → 104 + i ∈ idX) i h
theorem iX16 {i : Nat} (h : i < 4) : 128 + i ∈ LX.1 := (by decide +kernel : ∀ i, i < 4 → 128 + i ∈ idX) i h
theorem iX18 {i : Nat} (h : i < 6) : 144 + i ∈ LX.1 := (by decide +kernel : ∀ i, i < 6 → 144 + i ∈ idX) i h
theorem iX19 {i : Nat} (h : i < 6) : 152 + i ∈ LX.1 := (by decide +kernel : ∀ i, i < 6 → 152 + i ∈ idX) i h
theorem iX20 {i : Nat} (h : i < 4) : 160 + i ∈ LX.1 := (by decide +kernel : ∀ i, i < 4 → 160 + i ∈ idX) i h
theorem iX21 {i : Nat} (h : i < 4) : 168 + i ∈ LX.1 := (by decide +kernel : ∀ i, i < 4 → 168 + i ∈ idX) i h
theorem lX2 {i : Nat} (h : i < 6) : LX.2 (16 + i) = .inr (.inl (0, 40)) := (by decide +kernel : ∀ i, i < 6 → lyX (16 + i) = .inr (.inl (0, 40))) i h
theorem lX5 {i : Nat} (h : i < 4) : LX.2 (40 + i) = .inr (.inl (1, 60)) := (by decide +kernel : ∀ i, i < 4 → lyX (40 + i) = .inr (.inl (1, 60))) i h
theorem lX10 {i : Nat} (h : i < 4) : LX.2 (80 + i) = .inr (.inl (0, 6)) := (by decide +kernel : ∀ i, i < 4 → lyX (80 + i) = .inr (.inl (0, 6))) i h
theorem lX16 {i : Nat} (h : i < 4) : LX.2 (128 + i) = .inr (.inl (0, 6)) := (by decide +kernel : ∀ i, i < 4 → lyX (128 + i) = .inr (.inl (0, 6))) i h
theorem lX18 {i : Nat} (h : i < 6) : LX.2 (144 + i) = .inl (2, [90, 152 + i + 2, 0, 0, 0, 0]) := (by decide +kernel : ∀ i, i < 6 → lyX (144 + i) = .inl (2, [90, 152 + i + 2, 0, 0, 0, 0])) i h
theorem lX19 {i : Nat} (h : i < 6) : LX.2 (152 + i) = .inr (.inl (0, 4)) := (by decide +kernel : ∀ i, i < 6 → lyX (152 + i) = .inr (.inl (0, 4))) i h
theorem lX20 {i : Nat} (h : i < 4) : LX.2 (160 + i) = .inl (1, [168 + i + 2, 0]) := (by decide +kernel : ∀ i, i < 4 → lyX (160 + i) = .inl (1, [168 + i + 2, 0])) i h
theorem lX21 {i : Nat} (h : i < 4) : LX.2 (168 + i) = .inr (.inl (0, 40)) := (by decide +kernel : ∀ i, i < 4 → lyX (168 + i) = .inr (.inl (0, 40))) i h
/-! the reference's cells -/
def lyM (k : Nat) : mD := match k with
  | 0 => .inl (11, [3, 4, 5, 6, 7, 0, 8, 9, 0, 10, 11, 12, 0, 13, 0, 1, 1, 0, 14, 15, 16, 17])
  | 1 => .inr (.inl (0, 6))
  | 2 => .inr (.inl (0, 240))
  | 3 => .inr (.inl (0, 40))
  | 4 => .inr (.inl (0, 4))
  | 5 => .inr (.inl (1, 240))
  | 6 => .inr (.inl (0, 4))
  | 7 => .inr (.inl (0, 24))
  | 8 => .inr (.inl (0, 4))
  | 9 => .inr (.inl (0, 24))
  | 10 => .inr (.inl (0, 1360))
  | 11 => .inr (.inl (0, 3))
  | 12 => .inr (.inl (0, 6))
  | _ => .inr (.inl (0, 5))
def idM : List Nat := [0, 1, 2, 3, 4, 5, 6, 7, 8, 9, 10, 11, 12, 13, 14, 15]
def LM : mY := (idM, lyM)
theorem LM_nd : va_nd LM.1 = true := by decide +kernel
theorem iM : ∀ k, k ∈ idM → k ∈ LM.1 := fun _ h => h
/-! indices, as the pure functions look at them -/
def vin (i : Int32) (n : Nat) : Bool := !(decide (i < 0) || decide (n ≤ i.toNatClampNeg))
theorem vin_in {i : Int32} {n : Nat} (h : vin i n = true) : vp_in i n := by
  unfold vin at h
  unfold vp_in
  simpa using h
theorem vin_lt {i : Int32} {n : Nat} (h : vin i n = true) : i.toNatClampNeg < n := Nat.not_le.mp fun q => vin_in h (Or.inr q)
theorem ob_pos {α : Type} {c : Prop} [Decidable c] {A B x : α} (hc : c) (h : (if c then A else B) = x) : A = x := by rw [if_pos hc] at h; exact h
theorem ob_neg {α : Type} {c : Prop} [Decidable c] {A B x : α} (hc : ¬ c) (h : (if c then A else B) = x) : B = x := by rw [if_neg hc] at h; exact h
def bd {α β γ : Type} (A : Option (α × β)) (f : α → β → Option γ) : Option γ := A.bind (fun q => f q.1 q.2)
theorem ob_bd {α β γ : Type} {A : Option (α × β)} {f : α → β → Option γ} {x : γ} (h : bd A f = some x) : ∃ a b, A = some (a, b) ∧ f a b = some x := by
  cases A with
  | none => cases h
  | some q => exact ⟨q.1, q.2, rfl, h⟩
theorem lgc_gt {x y : Int64} : 0 < lg_cmp x y ↔ y < x := by
  unfold lg_cmp
  by_cases h1 : y < x
  · simp [h1]
  · by_cases h2 : x = y
    · simp [h2]
    · simp [h1, h2]
theorem lgc_lt {x y : Int64} : lg_cmp x y < 0 ↔ x < y := by
  unfold lg_cmp
  by_cases h1 : y < x
  · have h3 : ¬ x < y := fun h => by
      rw [Int64.lt_iff_toInt_lt] at h1 h
      omega
    simp [h1, h3]
  · by_cases h2 : x = y
    · subst h2
      simp [h1]
    · have h3 : x < y := by
        rw [Int64.lt_iff_toInt_lt] at h1 ⊢
        have h4 : x.toInt ≠ y.toInt := fun e => h2 (Int64.toInt_inj.mp e)
        omega
      simp [h1, h2, h3]
theorem lgc_eq {x y : Int64} : lg_cmp x y = 0 ↔ x = y := by
  unfold lg_cmp
  by_cases h2 : x = y
  · subst h2
    have h1 : ¬ x < x := fun h => by
      rw [Int64.lt_iff_toInt_lt] at h
      omega
    simp [h1]
  · by_cases h1 : y < x
    · simp [h1, h2]
    · simp [h1, h2]
theorem lgc_le {x y : Int64} : lg_cmp x y ≤ 0 ↔ x ≤ y := by
  have h1 : lg_cmp x y ≤ 0 ↔ ¬ 0 < lg_cmp x y := by rw [Int32.not_lt]
  rw [h1, lgc_gt, Int64.not_lt]
section XR3
variable {Y : mY} {K : Kx} {cc : ByteArray} {own : String} {n : Nat} {σ τ : mS} {pc : Nat} {lv lv' : List (Nat × Value)} {st rest : List Value}
theorem x_lcmplt (C : Cx Y K cc own n) {x y : Int64} {off : Int} (tgt : Nat) (d0 : decode cc pc = .ok (.lcmp, 1)) (d : decode cc (pc + 1) = .ok (.ifCond .lt off, 3)) (ht : ((pc + 1 : Nat) : Int) + off = (tgt : Int)) (kt : x < y → Wx Y K σ tgt lv st) (kf : ¬ x < y → Wx Y K σ (pc + 1 + 3) lv st) : Wx Y K σ pc lv (.long y :: .long x :: st) := fun H locs ls hP hS hl => W.lcmp C.1 C.2.1 d0 (lv_if_lt C.1 C.2.1 d ht (fun h => kt (lgc_lt.mp h) H locs ls hP hS hl) (fun h => kf (fun q => h (lgc_lt.mpr q)) H locs ls hP hS hl))
theorem x_lcmpgt (C : Cx Y K cc own n) {x y : Int64} {off : Int} (tgt : Nat) (d0 : decode cc pc = .ok (.lcmp, 1)) (d : decode cc (pc + 1) = .ok (.ifCond .gt off, 3)) (ht : ((pc + 1 : Nat) : Int) + off = (tgt : Int)) (kt : y < x → Wx Y K σ tgt lv st) (kf : ¬ y < x → Wx Y K σ (pc + 1 + 3) lv st) : Wx Y K σ pc lv (.long y :: .long x :: st) := fun H locs ls hP hS hl => W.lcmp C.1 C.2.1 d0 (lv_if_gt C.1 C.2.1 d ht (fun h => kt (lgc_gt.mp h) H locs ls hP hS hl) (fun h => kf (fun q => h (lgc_gt.mpr q)) H locs ls hP hS hl))
theorem x_lcmple (C : Cx Y K cc own n) {x y : Int64} {off : Int} (tgt : Nat) (d0 : decode cc pc = .ok (.lcmp, 1)) (d : decode cc (pc + 1) = .ok (.ifCond .le off, 3)) (ht : ((pc + 1 : Nat) : Int) + off = (tgt : Int)) (kt : x ≤ y → Wx Y K σ tgt lv st) (kf : ¬ x ≤ y → Wx Y K σ (pc + 1 + 3) lv st) : Wx Y K σ pc lv (.long y :: .long x :: st) := fun H locs ls hP hS hl => W.lcmp C.1 C.2.1 d0 (lv_if_le C.1 C.2.1 d ht (fun h => kt (lgc_le.mp h) H locs ls hP hS hl) (fun h => kf (fun q => h (lgc_le.mpr q)) H locs ls hP hS hl))
theorem x_lcmpeq (C : Cx Y K cc own n) {x y : Int64} {off : Int} (tgt : Nat) (d0 : decode cc pc = .ok (.lcmp, 1)) (d : decode cc (pc + 1) = .ok (.ifCond .eq off, 3)) (ht : ((pc + 1 : Nat) : Int) + off = (tgt : Int)) (kt : x = y → Wx Y K σ tgt lv st) (kf : ¬ x = y → Wx Y K σ (pc + 1 + 3) lv st) : Wx Y K σ pc lv (.long y :: .long x :: st) := fun H locs ls hP hS hl => W.lcmp C.1 C.2.1 d0 (lv_if_eq C.1 C.2.1 d ht (fun h => kt (lgc_eq.mp h) H locs ls hP hS hl) (fun h => kf (fun q => h (lgc_eq.mpr q)) H locs ls hP hS hl))
theorem x_letgetN (C : Cx Y K cc own n) {host : String} {i : Nat} (hl : Cond.fieldLinkNest own i "CalledNumbers" "LETTERS" "[I" host ∈ mNs) (d : decode cc pc = .ok (.getstatic i, 3)) (kk : ∀ t : Nat, va_T .int t 6 (fun j => .int (mLet j)) (mA Y (kad K)) (ks K) (ks K).heap → Wx Y K σ (pc + 3) lv (.ref t :: st)) : Wx Y K σ pc lv st := by
  intro H locs ls hP hS hl2
  obtain ⟨t, h1, h2⟩ := C.2.2.2.2.2.2.2.1.2.2
  exact va_getsN C.1 C.2.1 h1 hS C.2.2.2.1 (va_Nw.use rfl (C.2.2.2.2.2.2.2.1.1 _ hl)) (fun _ h => h) d (kk t h2 H locs ls hP hS hl2)
theorem x_dup2 (C : Cx Y K cc own n) {a b : Value} (d : decode cc pc = .ok (.dup2, 1)) (ha : a.category = 1) (hb : b.category = 1) (kk : Wx Y K σ (pc + 1) lv (a :: b :: a :: b :: st)) : Wx Y K σ pc lv (a :: b :: st) := fun H locs ls hP hS hl => lv_dup2_11 C.1 C.2.1 d ha hb (kk H locs ls hP hS hl)
end XR3
theorem sw_out {x : Int32} {lo hi : Int} (h : ∀ c : Int, lo ≤ c → c ≤ hi → x ≠ Int32.ofInt c) : x.toInt < lo ∨ hi < x.toInt := by
  by_cases h1 : x.toInt < lo
  · exact Or.inl h1
  · by_cases h2 : hi < x.toInt
    · exact Or.inr h2
    · exact absurd (Int32.ofInt_toInt x).symm (h x.toInt (by omega) (by omega))
theorem lw_pos {i : Nat} {w : Cond} (h : lw_tbl[i]? = some w) (g : goodWord w = true) : w ∈ mB := mB_of (List.mem_of_getElem? h) g
theorem lw_posN {i : Nat} {w : Cond} (h : lw_tbl[i]? = some w) (g : mNest w = true) : w ∈ mNs := mN_of (List.mem_of_getElem? h) g
