theorem sim_tear {σ μ : mS} (h : RR σ μ) (a1 : Int32) : SIM (X10_tear σ a1) (X11_tear μ a1) := by
  unfold X10_tear X11_tear
  by_cases hb : a1.toInt < 0 ∨ 6 ≤ a1.toInt
  · rw [refRow_bad hb, bd_some, if_neg (by decide), if_pos (isRowM_zero.mpr hb)]
    exact SIM.ret h rfl
  obtain ⟨r, hr, rfl⟩ := rowEx hb
  have hv : vin (nI r) 6 = true := vinI hr (by decide)
  obtain ⟨w1, w2, w3, w4⟩ := h.1 r hr
  rw [if_neg (rowY hr).2, if_pos hv, nI_nat (by omega), w1]
  by_cases hs : (σ.1 24 r).toInt < 0
  · rw [refRow_no hr hs, bd_some, if_neg (by decide), if_neg (nle hs), f1M, bd_some]
    exact SIM.ret (h.fnd (by decide)) rfl
  rw [refRow_ok hr (by omega), bd_some, if_pos rfl, if_pos hv, if_pos (ge0 (by omega)), if_pos hv]
  obtain ⟨hW, hT, ⟨c, hG⟩, hO⟩ := h
  refine SIM.ret ⟨?_, ?_, ⟨c, ?_⟩, ?_⟩ rfl
  · refine hW.set (r := r) (v := -1) (by decide) (fun q hq => ?_) (fun q hq hqr => ?_) (fun q hq => ?_) (fun q hq hqr i hi => ?_) (fun i hi => ?_)
    · rw [mwI_row, mrow_at]
      by_cases e : q = r
      · subst e; rw [upd_at, if_pos rfl]
      · rw [upd_ne e, if_neg e]
    · rw [mwI_rk (by omega)]
    · rw [mwI_row, mrow_at]
      by_cases e : q = r
      · subst e; rw [upd_at, if_pos rfl]
      · rw [upd_ne e, if_neg e]
    · rw [mwI_rk (by omega)]
    · have : (-1 : Int32).toInt = -1 := by decide
      omega
  · exact hT.of (mwI_rk (by omega)) (fun q hq => mwI_rk (by omega)) (mwI_rk (by omega)) (mwI_rk (by omega))
  · refine hG.of (fun k hk => ?_) ?_ ?_ ?_ ?_ (fun q hq => ?_) (fun k hk => ?_)
    · unfold gX at hk
      rw [mwI_rk (by omega)]
    all_goals rw [mwI_rk (by omega)]
  · refine hO.of ?_ ?_ rfl (fun f hf => ?_) ?_ ?_ rfl (fun f hf => ?_)
    all_goals rw [mwI_rk (by omega)]
/-! copy -/
def cpT (f g : Nat → Int32) (s t n : Nat) : Nat → Int32 := fun q => if t ≤ q ∧ q < t + n then f (s + (q - t)) else g q
theorem cpT_zero {f g : Nat → Int32} {s t : Nat} : cpT f g s t 0 = g := by
  funext q
  unfold cpT
  rw [if_neg (by omega)]
theorem cpT_succ {f g : Nat → Int32} {s t j : Nat} : upd (cpT f g s t j) (t + j) (f (s + j)) = cpT f g s t (j + 1) := by
  funext q
  by_cases hq : q = t + j
  · subst hq
    rw [upd_at]
    unfold cpT
    rw [if_pos (by omega), Nat.add_sub_cancel_left]
  · rw [upd_ne hq]
    unfold cpT
    by_cases hq2 : t ≤ q ∧ q < t + j
    · rw [if_pos hq2, if_pos (by omega)]
    · rw [if_neg hq2, if_neg (by omega)]
theorem copyM1 (μ : mS) {r s n : Nat} (hr : r < 6) (hs : s + n ≤ 40) : lp big (un2 (X11_copy_b106 (nI r) (nI s) (nI n))) (μ, 0) = some (mrow μ 3 (cpT (μ.1 2) (μ.1 3) (40 * r + s) 0 n)) := by
  have H := lp_zero (b := un2 (X11_copy_b106 (nI r) (nI s) (nI n))) (n := n) (res := mrow μ 3 (cpT (μ.1 2) (μ.1 3) (40 * r + s) 0 n)) (fun j x => (mrow μ 3 (cpT (μ.1 2) (μ.1 3) (40 * r + s) 0 j), x)) (by omega) (fun j x hj hx => by
    show X11_copy_b106 (nI r) (nI s) (nI n) (mrow μ 3 (cpT (μ.1 2) (μ.1 3) (40 * r + s) 0 j)) x = some (.inl (mrow μ 3 (cpT (μ.1 2) (μ.1 3) (40 * r + s) 0 (j + 1)), x + 1))
    unfold X11_copy_b106
    have e1 := i_ix (c := 40) (cn := 40) (by decide) (nI_ti (n := r) (by omega)) (nI_ti (n := s) (by omega)) (by omega)
    have e2 := i_off e1 hx (by omega)
    have e3 := i_offn e1 hx (by omega)
    have hxn : x.toNatClampNeg = j := by rw [i_nat, hx]; rfl
    rw [if_neg (nle (by rw [nI_ti (by omega), hx]; omega)), if_pos (vin_iff.mpr (by rw [e2]; omega)), if_pos (vin_iff.mpr (by omega)), e3, hxn, mwI_row, mrow_mrow, mrow_at, mrow_ne (by decide)]
    have e4 := cpT_succ (f := μ.1 2) (g := μ.1 3) (s := 40 * r + s) (t := 0) (j := j)
    rw [Nat.zero_add] at e4
    rw [e4]) (fun x hx => by
    show X11_copy_b106 (nI r) (nI s) (nI n) _ x = _
    unfold X11_copy_b106
    rw [if_pos (ile (by rw [nI_ti (by omega), hx]; omega))])
  have H2 : lp big (un2 (X11_copy_b106 (nI r) (nI s) (nI n))) (mrow μ 3 (cpT (μ.1 2) (μ.1 3) (40 * r + s) 0 0), 0) = _ := H
  rw [cpT_zero, mrow_id] at H2
  exact H2
theorem copyM2 (μ : mS) {r s n : Nat} (hr : r < 6) (hs : s + n ≤ 40) : lp big (un2 (X11_copy_b143 (nI r) (nI s) (nI n))) (μ, 0) = some (mrow μ 2 (cpT (μ.1 3) (μ.1 2) 0 (40 * r + s) n)) := by
  have H := lp_zero (b := un2 (X11_copy_b143 (nI r) (nI s) (nI n))) (n := n) (res := mrow μ 2 (cpT (μ.1 3) (μ.1 2) 0 (40 * r + s) n)) (fun j x => (mrow μ 2 (cpT (μ.1 3) (μ.1 2) 0 (40 * r + s) j), x)) (by omega) (fun j x hj hx => by
    show X11_copy_b143 (nI r) (nI s) (nI n) (mrow μ 2 (cpT (μ.1 3) (μ.1 2) 0 (40 * r + s) j)) x = some (.inl (mrow μ 2 (cpT (μ.1 3) (μ.1 2) 0 (40 * r + s) (j + 1)), x + 1))
    unfold X11_copy_b143
    have e1 := i_ix (c := 40) (cn := 40) (by decide) (nI_ti (n := r) (by omega)) (nI_ti (n := s) (by omega)) (by omega)
    have e2 := i_off e1 hx (by omega)
    have e3 := i_offn e1 hx (by omega)
    have hxn : x.toNatClampNeg = j := by rw [i_nat, hx]; rfl
    rw [if_neg (nle (by rw [nI_ti (by omega), hx]; omega)), if_pos (vin_iff.mpr (by omega)), if_pos (vin_iff.mpr (by rw [e2]; omega)), e3, hxn, mwI_row, mrow_mrow, mrow_at, mrow_ne (by decide)]
    have e4 := cpT_succ (f := μ.1 3) (g := μ.1 2) (s := 0) (t := 40 * r + s) (j := j)
    rw [Nat.zero_add] at e4
    rw [e4]) (fun x hx => by
    show X11_copy_b143 (nI r) (nI s) (nI n) _ x = _
    unfold X11_copy_b143
    rw [if_pos (ile (by rw [nI_ti (by omega), hx]; omega))])
  have H2 : lp big (un2 (X11_copy_b143 (nI r) (nI s) (nI n))) (mrow μ 2 (cpT (μ.1 3) (μ.1 2) 0 (40 * r + s) 0), 0) = _ := H
  rw [cpT_zero, mrow_id] at H2
  exact H2
theorem l_add {x y : Int32} : (x.toInt64 + y.toInt64).toInt = x.toInt + y.toInt := by
  rw [Int64.toInt_add, l_of_i, l_of_i]
  have := i_lo x
  have := i_hi x
  have := i_lo y
  have := i_hi y
  exact Int.bmod_eq_of_le (by omega) (by omega)
theorem RR.m3 {σ μ : mS} (h : RR σ μ) (f : Nat → Int32) : RR σ (mrow μ 3 f) := by
  obtain ⟨hW, hT, ⟨c, hG⟩, hO⟩ := h
  refine ⟨hW.of rfl (fun _ _ => rfl) (mrow_ne (by decide)) (mrow_ne (by decide)), hT.of rfl (fun _ _ => rfl) (mrow_ne (by decide)) (mrow_ne (by decide)), ⟨c, hG.of (fun _ _ => rfl) ?_ ?_ (mrow_ne (by decide)) (mrow_ne (by decide)) (fun q _ => ?_) (fun q _ => ?_)⟩, hO.of rfl rfl rfl (fun _ _ => rfl) ?_ ?_ rfl (fun f _ => ?_)⟩
  all_goals rw [mrow_ne (by decide)]
theorem va_cpy_row {σ : mS} {k k2 s t n : Nat} : mcp σ k s k2 t n = mrow σ k2 (va_cpy (σ.1 k) (σ.1 k2) s t n) := rfl
theorem sim_copy {σ μ : mS} (h : RR σ μ) (a1 a2 a3 a4 a5 : Int32) : SIM (X10_copy σ a1 a2 a3 a4 a5) (X11_copy μ a1 a2 a3 a4 a5) := by
  unfold X10_copy X11_copy
  by_cases hb : a1.toInt < 0 ∨ 6 ≤ a1.toInt
  · rw [if_pos (isRow_zero.mpr hb), if_pos (isRowM_zero.mpr hb)]
    exact SIM.ret h rfl
  obtain ⟨r, hr, rfl⟩ := rowEx hb
  rw [if_neg (rowY hr).1, if_neg (rowY hr).2]
  by_cases hb2 : a3.toInt < 0 ∨ 6 ≤ a3.toInt
  · rw [if_pos (isRow_zero.mpr hb2), if_pos (isRowM_zero.mpr hb2)]
    exact SIM.ret h rfl
  obtain ⟨t, ht, rfl⟩ := rowEx hb2
  rw [if_neg (rowY ht).1, if_neg (rowY ht).2]
  have hv : vin (nI r) 6 = true := vinI hr (by decide)
  have hv2 : vin (nI t) 6 = true := vinI ht (by decide)
  obtain ⟨w1, w2, w3, w4⟩ := h.1 r hr
  obtain ⟨z1, z2, z3, z4⟩ := h.1 t ht
  refine SIM.ite Iff.rfl (fun h0 => ?_) (fun h0 => ?_)
  · have h5 : 0 ≤ a5.toInt := i_le.mp h0
    refine SIM.L hv (SIM.R hv ?_)
    rw [nI_nat (n := r) (by omega), nI_nat (n := t) (by omega), w1]
    refine SIM.ite Iff.rfl (fun c1 => ?_) (fun c1 => ?_)
    · rw [f1X, f1M, bd_some, bd_some]
      exact SIM.ret (h.fnd (by decide)) rfl
    have s1 : 0 ≤ (σ.1 24 r).toInt := by
      have : ¬ (σ.1 24 r).toInt < 0 := fun q => c1 (i_lt.mpr q)
      omega
    refine SIM.L hv2 (SIM.R hv2 ?_)
    rw [z1]
    refine SIM.ite Iff.rfl (fun c2 => ?_) (fun c2 => ?_)
    · have s2 : 0 ≤ (σ.1 24 t).toInt := i_le.mp c2
      unfold X10_reaches
      rw [nI_nat (n := r) (by omega), nI_nat (n := t) (by omega)]
      simp only [if_pos hv, if_pos hv2]
      have l1 : ((σ.1 24 r).toInt64 < a2.toInt64 + a5.toInt64) ↔ (σ.1 24 r).toInt < a2.toInt + a5.toInt := by rw [l_lt, l_of_i, l_add]
      have l2 : ((σ.1 24 t).toInt64 < a4.toInt64 + a5.toInt64) ↔ (σ.1 24 t).toInt < a4.toInt + a5.toInt := by rw [l_lt, l_of_i, l_add]
      have l3 : (a4.toInt64 + a5.toInt64 ≤ (σ.1 24 t).toInt64) ↔ a4.toInt + a5.toInt ≤ (σ.1 24 t).toInt := by rw [l_le, l_of_i, l_add]
      have far : ∀ (A : Option Int32) (B : Int32 → Option (Int32 × mS)), A = some 0 → A.bind (fun r18 => if r18 = 0 then bd (X10_found σ 2) (fun r22 s24 => some (r22, s24)) else B r18) = some ((-3), fndX σ 2) := fun A B e => by
        rw [e, Option.bind_some, if_pos rfl, f2X, bd_some]
      have near : ∀ (A : Option Int32) (B C : Option (Int32 × mS)), A = some 1 → A.bind (fun r18 => if r18 = 0 then C else B) = B := fun A B C e => by
        rw [e, Option.bind_some, if_neg (by decide)]
      by_cases b1 : a2 < 0
      · rw [far _ _ (if_pos b1), if_pos b1, f2M, bd_some]
        exact SIM.ret (h.fnd (by decide)) rfl
      have b1' : ¬ a2.toInt < 0 := fun q => b1 (i_lt.mpr q)
      rw [if_neg b1, if_neg b1]
      by_cases b3 : (σ.1 24 r).toInt < a2.toInt + a5.toInt
      · rw [far _ _ (if_pos (l1.mpr b3)), if_pos (l1.mpr b3), f2M, bd_some]
        by_cases b2 : a4 < 0
        · rw [if_pos b2]; exact SIM.ret (h.fnd (by decide)) rfl
        · rw [if_neg b2]; exact SIM.ret (h.fnd (by decide)) rfl
      rw [near _ _ _ (if_neg (fun q => b3 (l1.mp q))), if_neg (fun q => b3 (l1.mp q))]
      by_cases b2 : a4 < 0
      · rw [far _ _ (if_pos b2), if_pos b2, f2M, bd_some]
        exact SIM.ret (h.fnd (by decide)) rfl
      have b2' : ¬ a4.toInt < 0 := fun q => b2 (i_lt.mpr q)
      rw [if_neg b2, if_neg b2]
      by_cases b4 : (σ.1 24 t).toInt < a4.toInt + a5.toInt
      · rw [far _ _ (if_pos (l2.mpr b4)), if_neg (fun q => by have := l3.mp q; omega), f2M, bd_some]
        exact SIM.ret (h.fnd (by decide)) rfl
      rw [near _ _ _ (if_neg (fun q => b4 (l2.mp q))), if_pos (l3.mpr (by omega))]
      obtain ⟨n, hn, rfl⟩ := i_ex (a := a5) (m := 41) (by omega) (by omega)
      obtain ⟨s, hs, rfl⟩ := i_ex (a := a2) (m := 41) (by omega) (by omega)
      obtain ⟨d, hd, rfl⟩ := i_ex (a := a4) (m := 41) (by omega) (by omega)
      rw [nI_ti (n := n) (by omega), nI_ti (n := s) (by omega)] at b3
      rw [nI_ti (n := n) (by omega), nI_ti (n := d) (by omega)] at b4
      rw [nI_nat (n := n) (by omega), nI_nat (n := s) (by omega), nI_nat (n := d) (by omega), if_pos ⟨⟨⟨b1, b2⟩, fun q => by have := i_lt.mp q; rw [i_zero] at this; omega⟩, by omega, by omega⟩, copyM1 μ hr (by omega)]
      show SIM _ ((lp big (un2 (X11_copy_b143 (nI t) (nI d) (nI n))) (mrow μ 3 (cpT (μ.1 2) (μ.1 3) (40 * r + s) 0 n), 0)).bind _)
      rw [copyM2 _ ht (by omega), mrow_at, mrow_ne (by decide)]
      refine SIM.ret ?_ rfl
      rw [va_cpy_row]
      refine (h.m3 _).item ht (fun q hq hqr i hi => ?_) (fun i hi => ?_)
      · rw [mrow_ne (by decide)]
        unfold cpT
        rw [if_neg (by omega)]
      · unfold va_cpy cpT
        by_cases hin : d ≤ i ∧ i < d + n
        · rw [if_pos hin, if_pos (by omega), if_pos (by omega), Nat.zero_add, show 40 * r + s + (40 * t + i - (40 * t + d) - 0) = 40 * r + (s + (i - d)) by omega, w4 _ (by omega)]
        · rw [if_neg hin, if_neg (by omega)]
          exact z4 i hi
    · rw [f1X, f1M, bd_some, bd_some]
      exact SIM.ret (h.fnd (by decide)) rfl
  · rw [f5X, f5M, bd_some, bd_some]
    exact SIM.ret (h.fnd (by decide)) rfl
