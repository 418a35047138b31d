theorem mB_ps {ws : List Cond} (ps : List Nat) (hp : ws = ps.filterMap (fun i => lw_tbl[i]?)) (hg : ws.all goodWord = true) : ∀ w ∈ ws, w ∈ mB := by
  intro w hw
  have h1 := List.all_eq_true.mp hg w hw
  rw [hp] at hw
  obtain ⟨i, -, hi⟩ := List.mem_filterMap.mp hw
  exact mB_of (List.mem_of_getElem? hi) h1
def un0 {α : Type} (f : α) (_ : Unit) : α := f
def un1 {A0 α : Type} (f : A0 → α) (q : A0) : α := f q
theorem un1_l {A0 α : Type} {f : A0 → α} {a0 : A0} {x : α} (h : un1 f a0 = x) : f a0 = x := h
def sm1 {A0 T : Type} (f : A0 → Option T) : (A0) ⊕ T → Option T
  | .inl q => f q
  | .inr t => some t
theorem sm1_l {A0 T : Type} {f : A0 → Option T} {a0 : A0} {x : Option T} (h : sm1 f (.inl a0) = x) : f a0 = x := h
theorem sm1_r {A0 T : Type} {f : A0 → Option T} {t x : T} (h : sm1 f (.inr t) = some x) : some t = some x := h
def un2 {A0 A1 α : Type} (f : A0 → A1 → α) (q : A0 × A1) : α := f q.1 q.2
theorem un2_l {A0 A1 α : Type} {f : A0 → A1 → α} {a0 : A0} {a1 : A1} {x : α} (h : un2 f (a0, a1) = x) : f a0 a1 = x := h
def sm2 {A0 A1 T : Type} (f : A0 → A1 → Option T) : (A0 × A1) ⊕ T → Option T
  | .inl q => f q.1 q.2
  | .inr t => some t
theorem sm2_l {A0 A1 T : Type} {f : A0 → A1 → Option T} {a0 : A0} {a1 : A1} {x : Option T} (h : sm2 f (.inl (a0, a1)) = x) : f a0 a1 = x := h
theorem sm2_r {A0 A1 T : Type} {f : A0 → A1 → Option T} {t x : T} (h : sm2 f (.inr t) = some x) : some t = some x := h
def un3 {A0 A1 A2 α : Type} (f : A0 → A1 → A2 → α) (q : A0 × A1 × A2) : α := f q.1 q.2.1 q.2.2
theorem un3_l {A0 A1 A2 α : Type} {f : A0 → A1 → A2 → α} {a0 : A0} {a1 : A1} {a2 : A2} {x : α} (h : un3 f (a0, a1, a2) = x) : f a0 a1 a2 = x := h
def sm3 {A0 A1 A2 T : Type} (f : A0 → A1 → A2 → Option T) : (A0 × A1 × A2) ⊕ T → Option T
  | .inl q => f q.1 q.2.1 q.2.2
  | .inr t => some t
theorem sm3_l {A0 A1 A2 T : Type} {f : A0 → A1 → A2 → Option T} {a0 : A0} {a1 : A1} {a2 : A2} {x : Option T} (h : sm3 f (.inl (a0, a1, a2)) = x) : f a0 a1 a2 = x := h
theorem sm3_r {A0 A1 A2 T : Type} {f : A0 → A1 → A2 → Option T} {t x : T} (h : sm3 f (.inr t) = some x) : some t = some x := h
def un4 {A0 A1 A2 A3 α : Type} (f : A0 → A1 → A2 → A3 → α) (q : A0 × A1 × A2 × A3) : α := f q.1 q.2.1 q.2.2.1 q.2.2.2
theorem un4_l {A0 A1 A2 A3 α : Type} {f : A0 → A1 → A2 → A3 → α} {a0 : A0} {a1 : A1} {a2 : A2} {a3 : A3} {x : α} (h : un4 f (a0, a1, a2, a3) = x) : f a0 a1 a2 a3 = x := h
def sm4 {A0 A1 A2 A3 T : Type} (f : A0 → A1 → A2 → A3 → Option T) : (A0 × A1 × A2 × A3) ⊕ T → Option T
  | .inl q => f q.1 q.2.1 q.2.2.1 q.2.2.2
  | .inr t => some t
theorem sm4_l {A0 A1 A2 A3 T : Type} {f : A0 → A1 → A2 → A3 → Option T} {a0 : A0} {a1 : A1} {a2 : A2} {a3 : A3} {x : Option T} (h : sm4 f (.inl (a0, a1, a2, a3)) = x) : f a0 a1 a2 a3 = x := h
theorem sm4_r {A0 A1 A2 A3 T : Type} {f : A0 → A1 → A2 → A3 → Option T} {t x : T} (h : sm4 f (.inr t) = some x) : some t = some x := h
def un5 {A0 A1 A2 A3 A4 α : Type} (f : A0 → A1 → A2 → A3 → A4 → α) (q : A0 × A1 × A2 × A3 × A4) : α := f q.1 q.2.1 q.2.2.1 q.2.2.2.1 q.2.2.2.2
theorem un5_l {A0 A1 A2 A3 A4 α : Type} {f : A0 → A1 → A2 → A3 → A4 → α} {a0 : A0} {a1 : A1} {a2 : A2} {a3 : A3} {a4 : A4} {x : α} (h : un5 f (a0, a1, a2, a3, a4) = x) : f a0 a1 a2 a3 a4 = x := h
def sm5 {A0 A1 A2 A3 A4 T : Type} (f : A0 → A1 → A2 → A3 → A4 → Option T) : (A0 × A1 × A2 × A3 × A4) ⊕ T → Option T
  | .inl q => f q.1 q.2.1 q.2.2.1 q.2.2.2.1 q.2.2.2.2
  | .inr t => some t
theorem sm5_l {A0 A1 A2 A3 A4 T : Type} {f : A0 → A1 → A2 → A3 → A4 → Option T} {a0 : A0} {a1 : A1} {a2 : A2} {a3 : A3} {a4 : A4} {x : Option T} (h : sm5 f (.inl (a0, a1, a2, a3, a4)) = x) : f a0 a1 a2 a3 a4 = x := h
theorem sm5_r {A0 A1 A2 A3 A4 T : Type} {f : A0 → A1 → A2 → A3 → A4 → Option T} {t x : T} (h : sm5 f (.inr t) = some x) : some t = some x := h
def un6 {A0 A1 A2 A3 A4 A5 α : Type} (f : A0 → A1 → A2 → A3 → A4 → A5 → α) (q : A0 × A1 × A2 × A3 × A4 × A5) : α := f q.1 q.2.1 q.2.2.1 q.2.2.2.1 q.2.2.2.2.1 q.2.2.2.2.2
theorem un6_l {A0 A1 A2 A3 A4 A5 α : Type} {f : A0 → A1 → A2 → A3 → A4 → A5 → α} {a0 : A0} {a1 : A1} {a2 : A2} {a3 : A3} {a4 : A4} {a5 : A5} {x : α} (h : un6 f (a0, a1, a2, a3, a4, a5) = x) : f a0 a1 a2 a3 a4 a5 = x := h
def sm6 {A0 A1 A2 A3 A4 A5 T : Type} (f : A0 → A1 → A2 → A3 → A4 → A5 → Option T) : (A0 × A1 × A2 × A3 × A4 × A5) ⊕ T → Option T
  | .inl q => f q.1 q.2.1 q.2.2.1 q.2.2.2.1 q.2.2.2.2.1 q.2.2.2.2.2
  | .inr t => some t
theorem sm6_l {A0 A1 A2 A3 A4 A5 T : Type} {f : A0 → A1 → A2 → A3 → A4 → A5 → Option T} {a0 : A0} {a1 : A1} {a2 : A2} {a3 : A3} {a4 : A4} {a5 : A5} {x : Option T} (h : sm6 f (.inl (a0, a1, a2, a3, a4, a5)) = x) : f a0 a1 a2 a3 a4 a5 = x := h
theorem sm6_r {A0 A1 A2 A3 A4 A5 T : Type} {f : A0 → A1 → A2 → A3 → A4 → A5 → Option T} {t x : T} (h : sm6 f (.inr t) = some x) : some t = some x := h
def un7 {A0 A1 A2 A3 A4 A5 A6 α : Type} (f : A0 → A1 → A2 → A3 → A4 → A5 → A6 → α) (q : A0 × A1 × A2 × A3 × A4 × A5 × A6) : α := f q.1 q.2.1 q.2.2.1 q.2.2.2.1 q.2.2.2.2.1 q.2.2.2.2.2.1 q.2.2.2.2.2.2
theorem un7_l {A0 A1 A2 A3 A4 A5 A6 α : Type} {f : A0 → A1 → A2 → A3 → A4 → A5 → A6 → α} {a0 : A0} {a1 : A1} {a2 : A2} {a3 : A3} {a4 : A4} {a5 : A5} {a6 : A6} {x : α} (h : un7 f (a0, a1, a2, a3, a4, a5, a6) = x) : f a0 a1 a2 a3 a4 a5 a6 = x := h
def sm7 {A0 A1 A2 A3 A4 A5 A6 T : Type} (f : A0 → A1 → A2 → A3 → A4 → A5 → A6 → Option T) : (A0 × A1 × A2 × A3 × A4 × A5 × A6) ⊕ T → Option T
  | .inl q => f q.1 q.2.1 q.2.2.1 q.2.2.2.1 q.2.2.2.2.1 q.2.2.2.2.2.1 q.2.2.2.2.2.2
  | .inr t => some t
theorem sm7_l {A0 A1 A2 A3 A4 A5 A6 T : Type} {f : A0 → A1 → A2 → A3 → A4 → A5 → A6 → Option T} {a0 : A0} {a1 : A1} {a2 : A2} {a3 : A3} {a4 : A4} {a5 : A5} {a6 : A6} {x : Option T} (h : sm7 f (.inl (a0, a1, a2, a3, a4, a5, a6)) = x) : f a0 a1 a2 a3 a4 a5 a6 = x := h
theorem sm7_r {A0 A1 A2 A3 A4 A5 A6 T : Type} {f : A0 → A1 → A2 → A3 → A4 → A5 → A6 → Option T} {t x : T} (h : sm7 f (.inr t) = some x) : some t = some x := h
def un8 {A0 A1 A2 A3 A4 A5 A6 A7 α : Type} (f : A0 → A1 → A2 → A3 → A4 → A5 → A6 → A7 → α) (q : A0 × A1 × A2 × A3 × A4 × A5 × A6 × A7) : α := f q.1 q.2.1 q.2.2.1 q.2.2.2.1 q.2.2.2.2.1 q.2.2.2.2.2.1 q.2.2.2.2.2.2.1 q.2.2.2.2.2.2.2
theorem un8_l {A0 A1 A2 A3 A4 A5 A6 A7 α : Type} {f : A0 → A1 → A2 → A3 → A4 → A5 → A6 → A7 → α} {a0 : A0} {a1 : A1} {a2 : A2} {a3 : A3} {a4 : A4} {a5 : A5} {a6 : A6} {a7 : A7} {x : α} (h : un8 f (a0, a1, a2, a3, a4, a5, a6, a7) = x) : f a0 a1 a2 a3 a4 a5 a6 a7 = x := h
def sm8 {A0 A1 A2 A3 A4 A5 A6 A7 T : Type} (f : A0 → A1 → A2 → A3 → A4 → A5 → A6 → A7 → Option T) : (A0 × A1 × A2 × A3 × A4 × A5 × A6 × A7) ⊕ T → Option T
  | .inl q => f q.1 q.2.1 q.2.2.1 q.2.2.2.1 q.2.2.2.2.1 q.2.2.2.2.2.1 q.2.2.2.2.2.2.1 q.2.2.2.2.2.2.2
  | .inr t => some t
theorem sm8_l {A0 A1 A2 A3 A4 A5 A6 A7 T : Type} {f : A0 → A1 → A2 → A3 → A4 → A5 → A6 → A7 → Option T} {a0 : A0} {a1 : A1} {a2 : A2} {a3 : A3} {a4 : A4} {a5 : A5} {a6 : A6} {a7 : A7} {x : Option T} (h : sm8 f (.inl (a0, a1, a2, a3, a4, a5, a6, a7)) = x) : f a0 a1 a2 a3 a4 a5 a6 a7 = x := h
theorem sm8_r {A0 A1 A2 A3 A4 A5 A6 A7 T : Type} {f : A0 → A1 → A2 → A3 → A4 → A5 → A6 → A7 → Option T} {t x : T} (h : sm8 f (.inr t) = some x) : some t = some x := h
theorem ob_un {α β : Type} {f : α → β} {A : α} {x : β} (h : f A = x) : ∃ e, A = e ∧ f e = x := ⟨A, rfl, h⟩
def jmax (x y : Int32) : Int32 := if x < y then y else x
def jmin (x y : Int32) : Int32 := if y < x then y else x
theorem x_mmax {Y : mY} {K : Kx} {cc : ByteArray} {own : String} {n : Nat} {σ : mS} {pc : Nat} {lv : List (Nat × Value)} {st : List Value} (C : Cx Y K cc own n) {i : Nat} {x y : Int32} (hn : 1 ≤ n) (w1 : Cond.methodLink own i yJ9_max_7cf53 ∈ mB) (w2 : Cond.static yJ9_max_7cf53 ∈ mB) (w3 : Cond.initialized "java/lang/Math" ∈ mB) (w4 : Cond.code yJ9_max_7cf53 cJ9_max_7cf53 2 (some .int) ∈ mB) (hr : (st.map fun v => v.category).sum ≤ 8) (d : decode cc pc = .ok (.invokestatic i, 3)) (kk : Wx Y K σ (pc + 3) lv (.int (jmax x y) :: st)) : Wx Y K σ pc lv (.int y :: .int x :: st) := by
  intro H locs ls hP hS hl2
  have hf9 : 1 ≤ (kR K).frames := by rw [C.2.2.2.2.2.2.2.2]; exact hn
  have hl9 : (st.map fun v => v.category).sum + 13 ≤ (kR K).locals := by
    rw [C.2.2.2.2.2.2.2.2]
    show _ ≤ 50 * n
    generalize (List.map (fun v => v.category) st).sum = z8 at hr ⊢
    omega
  exact va_mmax C.1 C.2.1 (C.2.2.1.trans hl2.1.symm) C.2.2.2.1 (C.2.2.2.2.1 _ w1) (C.2.2.2.2.1 _ w2) (C.2.2.2.2.1 _ w3) (C.2.2.2.2.1 _ w4) hf9 hl9 (Nat.zero_le _) (Nat.zero_le _) d (kk H locs ls hP hS hl2)
theorem x_mmin {Y : mY} {K : Kx} {cc : ByteArray} {own : String} {n : Nat} {σ : mS} {pc : Nat} {lv : List (Nat × Value)} {st : List Value} (C : Cx Y K cc own n) {i : Nat} {x y : Int32} (hn : 1 ≤ n) (w1 : Cond.methodLink own i yJ9_min_7cf53 ∈ mB) (w2 : Cond.static yJ9_min_7cf53 ∈ mB) (w3 : Cond.initialized "java/lang/Math" ∈ mB) (w4 : Cond.code yJ9_min_7cf53 cJ9_min_7cf53 2 (some .int) ∈ mB) (hr : (st.map fun v => v.category).sum ≤ 8) (d : decode cc pc = .ok (.invokestatic i, 3)) (kk : Wx Y K σ (pc + 3) lv (.int (jmin x y) :: st)) : Wx Y K σ pc lv (.int y :: .int x :: st) := by
  intro H locs ls hP hS hl2
  have hf9 : 1 ≤ (kR K).frames := by rw [C.2.2.2.2.2.2.2.2]; exact hn
  have hl9 : (st.map fun v => v.category).sum + 13 ≤ (kR K).locals := by
    rw [C.2.2.2.2.2.2.2.2]
    show _ ≤ 50 * n
    generalize (List.map (fun v => v.category) st).sum = z8 at hr ⊢
    omega
  exact va_mmin C.1 C.2.1 (C.2.2.1.trans hl2.1.symm) C.2.2.2.1 (C.2.2.2.2.1 _ w1) (C.2.2.2.2.1 _ w2) (C.2.2.2.2.1 _ w3) (C.2.2.2.2.1 _ w4) hf9 hl9 (Nat.zero_le _) (Nat.zero_le _) d (kk H locs ls hP hS hl2)
