/-! rows of the memory; loops that fill -/
def mrow (σ : mS) (k : Nat) (f : Nat → Int32) : mS := (va_up σ.1 k f, σ.2)
theorem mrow_at {σ : mS} {k : Nat} {f : Nat → Int32} : (mrow σ k f).1 k = f := by simp [mrow, va_up]
theorem mrow_ne {σ : mS} {k k' : Nat} {f : Nat → Int32} (h : k' ≠ k) : (mrow σ k f).1 k' = σ.1 k' := by simp [mrow, va_up, h]
theorem mrow_2 {σ : mS} {k : Nat} {f : Nat → Int32} : (mrow σ k f).2 = σ.2 := rfl
theorem mrow_mrow {σ : mS} {k : Nat} {f g : Nat → Int32} : mrow (mrow σ k f) k g = mrow σ k g := by
  unfold mrow
  congr 1
  funext q
  by_cases h : q = k
  · simp [va_up, h]
  · simp [va_up, h]
theorem mrow_id {σ : mS} {k : Nat} : mrow σ k (σ.1 k) = σ := by
  unfold mrow
  obtain ⟨f, g⟩ := σ
  congr 1
  funext q
  by_cases h : q = k
  · simp [va_up, h]
  · simp [va_up, h]
theorem mwI_row {σ : mS} {k j : Nat} {v : Int32} : mwI σ k j v = mrow σ k (upd (σ.1 k) j v) := rfl
theorem upd_at {f : Nat → Int32} {j : Nat} {v : Int32} : upd f j v j = v := by simp [upd]
theorem upd_ne {f : Nat → Int32} {i j : Nat} {v : Int32} (h : i ≠ j) : upd f j v i = f i := by simp [upd, h]
/-- places b .. b + n - 1 hold a -/
def seg (b n : Nat) (a : Int32) (f : Nat → Int32) : Nat → Int32 := fun j => if b ≤ j ∧ j < b + n then a else f j
theorem seg_zero {b : Nat} {a : Int32} {f : Nat → Int32} : seg b 0 a f = f := by
  funext j
  unfold seg
  rw [if_neg (by omega)]
theorem seg_succ {b n : Nat} {a : Int32} {f : Nat → Int32} : upd (seg b n a f) (b + n) a = seg b (n + 1) a f := by
  funext j
  by_cases h : j = b + n
  · rw [h, upd_at]
    unfold seg
    rw [if_pos (by omega)]
  · rw [upd_ne h]
    unfold seg
    by_cases h2 : b ≤ j ∧ j < b + n
    · rw [if_pos h2, if_pos (by omega)]
    · rw [if_neg h2, if_neg (by omega)]
theorem seg_in {b n j : Nat} {a : Int32} {f : Nat → Int32} (h : b ≤ j ∧ j < b + n) : seg b n a f j = a := if_pos h
theorem seg_out {b n j : Nat} {a : Int32} {f : Nat → Int32} (h : ¬ (b ≤ j ∧ j < b + n)) : seg b n a f j = f j := if_neg h
theorem Hs.eq {α : Type} {o : Option α} {c : α} (h : Hs o (fun r => r = c)) : o = some c := by
  obtain ⟨r, e, rfl⟩ := h
  exact e
theorem i_one : (1 : Int32).toInt = 1 := by decide
theorem i_zero : (0 : Int32).toInt = 0 := by decide
theorem fillI_eq (σ : mS) (k z : Nat) (a : Int32) (hz : z ≤ 1000) : J7_fill_53178 σ k z a = some ((), mrow σ k (seg 0 z a (σ.1 k))) := by
  apply Hs.eq
  unfold J7_fill_53178
  refine Hs.bind (P := fun s => s = mrow σ k (seg 0 z a (σ.1 k))) (Hs.loop (I := fun q => ∃ n : Nat, n ≤ z ∧ q.2.toInt = (n : Int) ∧ q.1 = mrow σ k (seg 0 n a (σ.1 k))) (fun q => z - q.2.toNatClampNeg) (fun q hq => ?_) big (σ, 0) ?_ ?_) (fun s hs => ?_)
  · obtain ⟨s, x⟩ := q
    obtain ⟨n, h1, h2, h3⟩ := hq
    dsimp only at h2 h3 ⊢
    show Hs (J7_fill_53178_b5 k z a s x) _
    unfold J7_fill_53178_b5
    have hzz : (Int32.ofNat z).toInt = (z : Int) := i32_ofNat (by omega)
    refine Hs.ite (fun c => ?_) (fun c => ?_)
    · rw [i_le, hzz, h2] at c
      refine Hs.inr ?_
      rw [h3, show n = z by omega]
    · rw [i_le, hzz, h2] at c
      refine Hs.pos (vin_iff.mpr (by omega)) (Hs.inl ⟨⟨n + 1, by omega, ?_, ?_⟩, ?_⟩)
      · rw [i_inc (by omega), h2]; rfl
      · have hx : x.toNatClampNeg = 0 + n := by rw [i_nat, h2]; omega
        rw [h3, mwI_row, mrow_mrow, mrow_at, hx, seg_succ]
      · show z - (x + 1).toNatClampNeg < z - x.toNatClampNeg
        rw [i_nat, i_nat, i_inc (by omega), h2]
        omega
  · exact ⟨0, Nat.zero_le _, i_zero, by rw [seg_zero, mrow_id]⟩
  · show z - 0 < 1000000
    omega
  · show Hs (some ((), s)) _
    exact ⟨_, rfl, by rw [hs]⟩
theorem fillB_eq (σ : mS) (k z : Nat) (a : Int32) (hz : z ≤ 1000) : J7_fill_031fb σ k z a = some ((), mrow σ k (seg 0 z a.toInt8.toInt32 (σ.1 k))) := by
  apply Hs.eq
  unfold J7_fill_031fb
  refine Hs.bind (P := fun s => s = mrow σ k (seg 0 z a.toInt8.toInt32 (σ.1 k))) (Hs.loop (I := fun q => ∃ n : Nat, n ≤ z ∧ q.2.toInt = (n : Int) ∧ q.1 = mrow σ k (seg 0 n a.toInt8.toInt32 (σ.1 k))) (fun q => z - q.2.toNatClampNeg) (fun q hq => ?_) big (σ, 0) ?_ ?_) (fun s hs => ?_)
  · obtain ⟨s, x⟩ := q
    obtain ⟨n, h1, h2, h3⟩ := hq
    dsimp only at h2 h3 ⊢
    show Hs (J7_fill_031fb_b5 k z a s x) _
    unfold J7_fill_031fb_b5
    have hzz : (Int32.ofNat z).toInt = (z : Int) := i32_ofNat (by omega)
    refine Hs.ite (fun c => ?_) (fun c => ?_)
    · rw [i_le, hzz, h2] at c
      refine Hs.inr ?_
      rw [h3, show n = z by omega]
    · rw [i_le, hzz, h2] at c
      refine Hs.pos (vin_iff.mpr (by omega)) (Hs.inl ⟨⟨n + 1, by omega, ?_, ?_⟩, ?_⟩)
      · rw [i_inc (by omega), h2]; rfl
      · have hx : x.toNatClampNeg = 0 + n := by rw [i_nat, h2]; omega
        rw [h3, mwI_row, mrow_mrow, mrow_at, hx, seg_succ]
      · show z - (x + 1).toNatClampNeg < z - x.toNatClampNeg
        rw [i_nat, i_nat, i_inc (by omega), h2]
        omega
  · exact ⟨0, Nat.zero_le _, i_zero, by rw [seg_zero, mrow_id]⟩
  · show z - 0 < 1000000
    omega
  · show Hs (some ((), s)) _
    exact ⟨_, rfl, by rw [hs]⟩
/-- an index c * a + x of the reference -/
theorem i_ix {c a x : Int32} {cn r n : Nat} (hc : c.toInt = (cn : Int)) (ha : a.toInt = (r : Int)) (hx : x.toInt = (n : Int)) (h : cn * r + n < 2147483648) : ((c * a) + x).toInt = ((cn * r + n : Nat) : Int) := by
  have h1 : ((cn * r : Nat) : Int) = (cn : Int) * (r : Int) := Int.natCast_mul cn r
  have h2 : (c * a).toInt = ((cn * r : Nat) : Int) := by rw [i_mul, hc, ha, h1] <;> (rw [hc, ha, ← h1]; omega)
  rw [i_add, h2, hx] <;> (try rw [h2, hx]) <;> omega
theorem i_ixn {c a x : Int32} {cn r n : Nat} (hc : c.toInt = (cn : Int)) (ha : a.toInt = (r : Int)) (hx : x.toInt = (n : Int)) (h : cn * r + n < 2147483648) : ((c * a) + x).toNatClampNeg = cn * r + n := by
  rw [i_nat, i_ix hc ha hx h]; rfl
theorem anew_eq (σ : mS) {a1 a2 : Int32} {r n : Nat} (h1 : a1.toInt = (r : Int)) (hr : r < 6) (h2 : a2.toInt = (n : Int)) (hn : n ≤ 40) : X11_anew σ a1 a2 = some ((), mrow (mrow σ 1 (upd (σ.1 1) r a2)) 2 (seg (40 * r) n 0 (σ.1 2))) := by
  apply Hs.eq
  unfold X11_anew
  have hrn : a1.toNatClampNeg = r := by rw [i_nat, h1]; rfl
  refine Hs.pos (vin_iff.mpr (by omega)) ?_
  rw [hrn, mwI_row]
  generalize hσ1 : mrow σ 1 (upd (σ.1 1) r a2) = σ1
  have hs2 : σ.1 2 = σ1.1 2 := by rw [← hσ1, mrow_ne (by decide)]
  rw [hs2]
  refine Hs.bind (P := fun s => s = mrow σ1 2 (seg (40 * r) n 0 (σ1.1 2))) (Hs.loop (I := fun q => ∃ j : Nat, j ≤ n ∧ q.2.toInt = (j : Int) ∧ q.1 = mrow σ1 2 (seg (40 * r) j 0 (σ1.1 2))) (fun q => n - q.2.toNatClampNeg) (fun q hq => ?_) big (σ1, 0) ?_ ?_) (fun s hs => ?_)
  · obtain ⟨s, x⟩ := q
    obtain ⟨j, g1, g2, g3⟩ := hq
    dsimp only at g2 g3 ⊢
    show Hs (X11_anew_b9 a1 a2 s x) _
    unfold X11_anew_b9
    refine Hs.ite (fun c => ?_) (fun c => ?_)
    · rw [i_le, h2, g2] at c
      refine Hs.inr ?_
      rw [g3, show j = n by omega]
    · rw [i_le, h2, g2] at c
      have hix := i_ix (c := 40) (cn := 40) (by decide) h1 g2 (by omega)
      have hixn := i_ixn (c := 40) (cn := 40) (by decide) h1 g2 (by omega)
      refine Hs.pos (vin_iff.mpr (by rw [hix]; omega)) (Hs.inl ⟨⟨j + 1, by omega, ?_, ?_⟩, ?_⟩)
      · rw [i_inc (by omega), g2]; rfl
      · rw [g3, mwI_row, mrow_mrow, mrow_at, hixn, seg_succ]
      · show n - (x + 1).toNatClampNeg < n - x.toNatClampNeg
        rw [i_nat, i_nat, i_inc (by omega), g2]
        omega
  · exact ⟨0, Nat.zero_le _, i_zero, by rw [seg_zero, mrow_id]⟩
  · show n - 0 < 1000000
    omega
  · show Hs (some ((), s)) _
    exact ⟨_, rfl, by rw [hs]⟩
theorem textM_lp (σ1 : mS) {a1 a2 : Int32} {r n : Nat} (h1 : a1.toInt = (r : Int)) (hr : r < 4) (h2 : a2.toInt = (n : Int)) (hn : n ≤ 60) : lp big (un2 (X11_text_b35 a1 a2)) (σ1, 0) = some (mrow σ1 5 (seg (60 * r) n 32 (σ1.1 5))) := by
  apply Hs.eq
  refine Hs.loop (I := fun q => ∃ j : Nat, j ≤ n ∧ q.2.toInt = (j : Int) ∧ q.1 = mrow σ1 5 (seg (60 * r) j 32 (σ1.1 5))) (fun q => n - q.2.toNatClampNeg) (fun q hq => ?_) big (σ1, 0) ?_ ?_
  · obtain ⟨s, x⟩ := q
    obtain ⟨j, g1, g2, g3⟩ := hq
    dsimp only at g2 g3 ⊢
    show Hs (X11_text_b35 a1 a2 s x) _
    unfold X11_text_b35
    refine Hs.ite (fun c => ?_) (fun c => ?_)
    · rw [i_le, h2, g2] at c
      refine Hs.inr ?_
      rw [g3, show j = n by omega]
    · rw [i_le, h2, g2] at c
      have hix := i_ix (c := 60) (cn := 60) (by decide) h1 g2 (by omega)
      have hixn := i_ixn (c := 60) (cn := 60) (by decide) h1 g2 (by omega)
      refine Hs.pos (vin_iff.mpr (by rw [hix]; omega)) (Hs.inl ⟨⟨j + 1, by omega, ?_, ?_⟩, ?_⟩)
      · rw [i_inc (by omega), g2]; rfl
      · rw [g3, mwI_row, mrow_mrow, mrow_at, hixn]
        rw [show (32 : Int32).toInt8.toInt32 = 32 by decide, seg_succ]
      · show n - (x + 1).toNatClampNeg < n - x.toNatClampNeg
        rw [i_nat, i_nat, i_inc (by omega), g2]
        omega
  · exact ⟨0, Nat.zero_le _, i_zero, by rw [seg_zero, mrow_id]⟩
  · show n - 0 < 1000000
    omega
