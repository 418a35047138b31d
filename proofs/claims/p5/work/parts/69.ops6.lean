/-! undo, keep, on -/
theorem dtake_eq (σ : mS) {i i1 d : Nat} (hi : i < 4) (hi1 : i1 < 4) (hne : i ≠ i1) (hd : d ≤ 40) (hsz : σ.1 (160 + i1) 1 = nI d) : X1_take σ i i1 = some ((), mrow (mrow σ (160 + i) (upd (σ.1 (160 + i)) 1 (nI d))) (168 + i) (cpT (σ.1 (168 + i1)) (σ.1 (168 + i)) 0 0 d)) := by
  unfold X1_take
  rw [hsz]
  have H := lp_zero (b := un2 (X1_take_b10 i i1)) (n := d) (res := mrow (mrow σ (160 + i) (upd (σ.1 (160 + i)) 1 (nI d))) (168 + i) (cpT (σ.1 (168 + i1)) (σ.1 (168 + i)) 0 0 d)) (fun j y => (mrow (mrow σ (160 + i) (upd (σ.1 (160 + i)) 1 (nI d))) (168 + i) (cpT (σ.1 (168 + i1)) (σ.1 (168 + i)) 0 0 j), y)) (by omega) (fun j y hj hy => by
    have hyn : y.toNatClampNeg = j := by rw [i_nat, hy]; rfl
    have vy : vin y 40 = true := vin_iff.mpr (by omega)
    show X1_take_b10 i i1 (mrow (mrow σ (160 + i) (upd (σ.1 (160 + i)) 1 (nI d))) (168 + i) (cpT (σ.1 (168 + i1)) (σ.1 (168 + i)) 0 0 j)) y = some (.inl (mrow (mrow σ (160 + i) (upd (σ.1 (160 + i)) 1 (nI d))) (168 + i) (cpT (σ.1 (168 + i1)) (σ.1 (168 + i)) 0 0 (j + 1)), y + 1))
    unfold X1_take_b10
    have e4 := cpT_succ (f := σ.1 (168 + i1)) (g := σ.1 (168 + i)) (s := 0) (t := 0) (j := j)
    rw [Nat.zero_add] at e4
    rw [mrow_ne (by omega : 160 + i ≠ 168 + i), mrow_at, upd_at, if_neg (nle (by rw [nI_ti (by omega), hy]; omega)), if_pos vy, if_pos vy, hyn, mwI_row, mrow_mrow, mrow_at, mrow_ne (by omega : 168 + i1 ≠ 168 + i), mrow_ne (by omega : 168 + i1 ≠ 160 + i), e4]) (fun y hy => by
    show X1_take_b10 i i1 _ y = _
    unfold X1_take_b10
    rw [mrow_ne (by omega : 160 + i ≠ 168 + i), mrow_at, upd_at, if_pos (ile (by rw [nI_ti (by omega), hy]; omega))])
  have H2 : lp big (un2 (X1_take_b10 i i1)) (mrow (mrow σ (160 + i) (upd (σ.1 (160 + i)) 1 (nI d))) (168 + i) (cpT (σ.1 (168 + i1)) (σ.1 (168 + i)) 0 0 0), 0) = _ := H
  rw [cpT_zero, show mrow (mrow σ (160 + i) (upd (σ.1 (160 + i)) 1 (nI d))) (168 + i) (σ.1 (168 + i)) = mwI σ (160 + i) 1 (nI d) by rw [mrow_comm (by omega), mrow_id]; rfl] at H2
  rw [H2]
  rfl
theorem cpT_in {f g : Nat → Int32} {n q : Nat} (h : q < n) : cpT f g 0 0 n q = f q := by
  unfold cpT
  rw [if_pos (by omega), Nat.zero_add, Nat.sub_zero]
theorem sim_undo {σ μ : mS} (h : RR σ μ) (a1 : Int32) : SIM (X10_undo σ a1) (X11_undo μ a1) := by
  obtain ⟨c, hG⟩ := h.2.2.1
  have hG' := hG
  obtain ⟨g1, g2, g3, g4, g5, g6, g7, ⟨d, dn, d1, d2, d3, d4, d5⟩, g9⟩ := hG'
  have hP4 := hG.P4
  unfold X10_undo X11_undo
  rw [g7, d1]
  by_cases hb : a1.toInt < 0 ∨ (d : Int) < a1.toInt
  · refine SIM.R (in_zero.mpr (by rw [l_of_i, nI_ti (by omega)]; exact hb)) ?_
    by_cases h0 : a1.toInt < 0
    · exact SIM.L (i_lt.mpr h0) (SIM.ret h rfl)
    · exact SIM.nL (fun q => h0 (i_lt.mp q)) (SIM.nL (nle (by rw [nI_ti (by omega)]; omega)) (SIM.ret h rfl))
  obtain ⟨n, hn, rfl⟩ := i_ex (a := a1) (m := d + 1) (by omega) (by omega)
  have inN : ¬ X11_in (nI n).toInt64 0 (nI d).toInt64 = 0 := fun q => by
    have q2 := in_zero.mp q
    rw [l_of_i, nI_ti (by omega), nI_ti (by omega)] at q2
    have k0 : (0 : Int64).toInt = 0 := by decide
    omega
  refine SIM.nL (fun q => by have := i_lt.mp q; rw [i_zero] at this; omega) (SIM.L (ile (by rw [nI_ti (by omega), nI_ti (by omega)]; omega)) (SIM.nR inN ?_))
  generalize hS : mwI σ (160 + 3) 1 (nI n) = S
  have rS : ∀ q, q ≠ 163 → S.1 q = σ.1 q := fun q q1 => by rw [← hS, mwI_rk q1]
  have hCS : CF S c := g4.of (rS _ (by omega)) (rS _ (by omega)) (rS _ (by omega)) (fun i hi => rS _ (by omega))
  obtain ⟨τ, t1, t2, t3, t4⟩ := again_eq S (c := c) (d := n) (dn := dn) hCS (by rw [← hS, mwI_rd]) (by omega) (fun k hk => by rw [rS _ (by omega)]; exact d3 k (by omega))
  rw [t1, bd_some]
  have es : (nI d - nI n).toInt = (d : Int) - n := by rw [i_sub (by rw [nI_ti (by omega), nI_ti (by omega)]; omega) (by rw [nI_ti (by omega), nI_ti (by omega)]; omega), nI_ti (by omega), nI_ti (by omega)]
  have S3 : τ.1 (160 + 3) 1 = nI n := by rw [t3 _ (by omega) (by omega), ← hS, mwI_rd]
  have mk : ∀ ν : mS, FrH σ μ τ ν → ν.1 0 12 = nI n → ν.1 11 = μ.1 11 → getH (ν.1 10) 0 = rpl c dn n → (∀ b, 8 ≤ b → getH (ν.1 10) b = getH (μ.1 10) b) → RG τ ν c := fun ν hF v12 v11 w0 w1 => by
    refine ⟨by rw [hF.2.2.2.1 5 (by decide)]; exact g1, by rw [hF.2.2.1 6 (by decide) (by decide) (by decide)]; exact g2, by rw [hF.2.2.1 7 (by decide) (by decide) (by decide)]; exact g3, hF.cf g4, g5, by rw [t2, w0], by rw [v12, S3], ⟨n, dn, S3, by omega, fun k hk => ?_, w0, fun k hk => ?_⟩, fun k hk => ?_⟩
    · rw [t3 _ (by omega) (by omega), rS _ (by omega)]
      exact d3 k (by omega)
    · rw [w1 _ (by omega)]
      exact d5 k (by omega)
    · obtain ⟨b1, b2⟩ := g9 k hk
      rw [v11, t3 _ (by omega) (by omega), t3 _ (by omega) (by omega), rS _ (by omega), rS _ (by omega)]
      refine ⟨b1, ?_⟩
      rcases b2 with b2 | b2
      · exact Or.inl b2
      · exact Or.inr (b2.far (fun b' h1 h2 => w1 b' (by omega)))
  have frT : ∀ q, q ≠ 149 → q ≠ 157 → ¬ (160 ≤ q ∧ q < 164) → ¬ (168 ≤ q ∧ q < 172) → τ.1 q = σ.1 q := fun q q1 q2 q3 q4 => by rw [t3 q (by omega) (by omega), rS q (by omega)]
  have frT2 : τ.2 = σ.2 := by rw [t4, ← hS]; rfl
  by_cases he : d = n
  · subst he
    refine SIM.R (ile (by rw [es, i_zero]; omega)) ?_
    have hF : FrH σ μ τ μ := ⟨frT, frT2, fun _ _ _ _ => rfl, fun _ _ => rfl, rfl⟩
    exact SIM.ret (h.hallop hF (mk μ hF (by rw [g7, d1]) rfl d4 (fun _ _ => rfl))) rfl
  · have e8 : ((nI n + 1) * 8).toInt = ((8 * (n + 1) : Nat) : Int) := by
      have k8 : (8 : Int32).toInt = 8 := by decide
      have e : (nI n + 1).toInt = ((n + 1 : Nat) : Int) := i32_add (nI_ti (by omega)) (b := 1) (by decide) (by omega)
      rw [i_mul (by rw [k8, e]; omega) (by rw [k8, e]; omega), k8, e]
      omega
    refine SIM.nR (nle (by rw [es, i_zero]; omega)) ?_
    rw [copies_eq μ (s := 8 * (n + 1)) (t := 0) (n := 8) e8 (by decide) (by decide) (by omega) (by omega) (Or.inr (by omega)), bd_some]
    generalize hV : mwI (mrow μ 10 (cpF (μ.1 10) (8 * (n + 1)) 0 8)) 0 12 (nI n) = V
    have V10 : V.1 10 = cpF (μ.1 10) (8 * (n + 1)) 0 8 := by rw [← hV, mwI_rk (by decide), mrow_at]
    have hF : FrH σ μ τ V := ⟨frT, frT2, fun q q0 q10 q11 => by rw [← hV, mwI_rk q0, mrow_ne q10], fun q q12 => by rw [← hV, mwI_row, mrow_at, upd_ne q12, mrow_ne (by decide)], by rw [← hV]; rfl⟩
    refine SIM.ret (h.hallop hF (mk V hF (by rw [← hV, mwI_rd]) (by rw [← hV, mwI_rk (by decide), mrow_ne (by decide)]) ?_ (fun b hb => ?_))) rfl
    · rw [V10, getH_cp_in (by omega)]
      have := d5 n (by omega)
      rw [Nat.zero_add] at this
      rw [show 8 * (n + 1) + (0 - 0) = 8 * (n + 1) by omega]
      exact this
    · rw [V10, getH_cp_out (Or.inr (by omega))]
theorem keptEx {a : Int32} (h : ¬ (a.toInt < 0 ∨ 3 ≤ a.toInt)) : ∃ r, r < 3 ∧ a = nI r := i_ex (by omega) (by omega)
theorem in02 {a : Int32} : X11_in a.toInt64 0 2 = 0 ↔ (a.toInt < 0 ∨ 3 ≤ a.toInt) := by
  rw [in_zero]
  show a.toInt < 0 ∨ 2 < a.toInt ↔ _
  omega
theorem e328 {k : Nat} (hk : k < 3) : ((328 : Int32) * (nI k + 1)).toInt = ((328 * (k + 1) : Nat) : Int) := by
  have k8 : (328 : Int32).toInt = 328 := by decide
  have e : (nI k + 1).toInt = ((k + 1 : Nat) : Int) := i32_add (nI_ti (by omega)) (b := 1) (by decide) (by omega)
  rw [i_mul (by rw [k8, e]; omega) (by rw [k8, e]; omega), k8, e]
  omega
theorem sim_keep {σ μ : mS} (h : RR σ μ) (a1 : Int32) : SIM (X10_keep σ a1) (X11_keep μ a1) := by
  obtain ⟨c, hG⟩ := h.2.2.1
  have hG' := hG
  obtain ⟨g1, g2, g3, g4, g5, g6, g7, hD, g9⟩ := hG'
  have hD' := hD
  obtain ⟨d, dn, d1, d2, d3, d4, d5⟩ := hD'
  have hP4 := hG.P4
  unfold X10_keep X11_keep
  by_cases hb : a1.toInt < 0 ∨ 3 ≤ a1.toInt
  · exact SIM.L (isKept_zero.mpr hb) (SIM.R (in02.mpr hb) (SIM.ret h rfl))
  obtain ⟨k, hk, rfl⟩ := keptEx hb
  refine SIM.nL (fun q => hb (isKept_zero.mp q)) (SIM.nR (fun q => hb (in02.mp q)) ?_)
  rw [hG.pX, g1]
  refine SIM.ite Iff.rfl (fun _ => SIM.ret h rfl) (fun _ => SIM.L (vinI hk (by decide)) ?_)
  rw [nI_nat (n := k) (by omega), dtake_eq σ (i := k) (i1 := 3) (by omega) (by omega) (by omega) d2 d1, bd_some, copies_eq μ (s := 0) (t := 328 * (k + 1)) (n := 328) (by decide) (e328 hk) (by decide) (by omega) (by omega) (Or.inl (by omega)), bd_some]
  refine SIM.R (vinI hk (by decide)) ?_
  generalize hT : mrow (mrow σ (160 + k) (upd (σ.1 (160 + k)) 1 (nI d))) (168 + k) (cpT (σ.1 (168 + 3)) (σ.1 (168 + k)) 0 0 d) = T
  have r12 : (mrow μ 10 (cpF (μ.1 10) 0 (328 * (k + 1)) 328)).1 0 12 = nI d := by rw [mrow_ne (by decide), g7, d1]
  rw [r12, mwI_rk (by decide : (0 : Nat) ≠ 11), r12]
  generalize hV : mwI (mrow μ 10 (cpF (μ.1 10) 0 (328 * (k + 1)) 328)) 11 k (nI d) = V
  have rT : ∀ q, q ≠ 160 + k → q ≠ 168 + k → T.1 q = σ.1 q := fun q q1 q2 => by rw [← hT, mrow_ne q2, mrow_ne q1]
  have V10 : V.1 10 = cpF (μ.1 10) 0 (328 * (k + 1)) 328 := by rw [← hV, mwI_rk (by decide), mrow_at]
  have hF : FrH σ μ T V := ⟨fun q q1 q2 q3 q4 => rT q (by omega) (by omega), by rw [← hT]; rfl, fun q q0 q10 q11 => by rw [← hV, mwI_rk q11, mrow_ne q10], fun q q12 => by rw [← hV, mwI_rk (by decide), mrow_ne (by decide)], by rw [← hV]; rfl⟩
  have hlow : ∀ b, b + 8 ≤ 328 → getH (V.1 10) b = getH (μ.1 10) b := fun b hb => by rw [V10, getH_cp_out (Or.inl (by omega))]
  have T3 : T.1 (160 + 3) = σ.1 (160 + 3) := rT _ (by omega) (by omega)
  have T3b : T.1 (168 + 3) = σ.1 (168 + 3) := rT _ (by omega) (by omega)
  have hGT : RG T V c := by
    refine ⟨by rw [hF.2.2.2.1 5 (by decide)]; exact g1, by rw [hF.2.2.1 6 (by decide) (by decide) (by decide)]; exact g2, by rw [hF.2.2.1 7 (by decide) (by decide) (by decide)]; exact g3, hF.cf g4, g5, by rw [HX_of (rT _ (by omega) (by omega)) (rT _ (by omega) (by omega)), hlow 0 (by omega)]; exact g6, by rw [T3, ← hV, mwI_rk (by decide), mrow_ne (by decide)]; exact g7, ?_, fun q hq => ?_⟩
    · rw [T3, T3b]
      exact hD.far (fun b' h1 h2 => hlow b' (by omega))
    · by_cases e : q = k
      · subst e
        have t1 : T.1 (160 + q) 1 = nI d := by rw [← hT, mrow_ne (by omega), mrow_at, upd_at]
        have t2 : T.1 (168 + q) = cpT (σ.1 (168 + 3)) (σ.1 (168 + q)) 0 0 d := by rw [← hT, mrow_at]
        refine ⟨by rw [t1, ← hV, mwI_rd], Or.inr ⟨d, dn, t1, d2, fun z hz => ?_, ?_, fun z hz => ?_⟩⟩
        · rw [t2, cpT_in hz]
          exact d3 z hz
        · rw [V10, getH_cp_in (by omega), show 0 + (328 * (q + 1) - 328 * (q + 1)) = 0 by omega]
          exact d4
        · rw [V10, getH_cp_in (by omega), show 0 + (328 * (q + 1) + 8 * (z + 1) - 328 * (q + 1)) = 0 + 8 * (z + 1) by omega]
          exact d5 z hz
      · obtain ⟨b1, b2⟩ := g9 q hq
        rw [rT (160 + q) (by omega) (by omega), rT (168 + q) (by omega) (by omega)]
        refine ⟨by rw [← hV, mwI_row, mrow_at, upd_ne e, mrow_ne (by decide)]; exact b1, ?_⟩
        rcases b2 with b2 | b2
        · exact Or.inl b2
        · exact Or.inr (b2.far (fun b' h1 h2 => by rw [V10, getH_cp_out (by omega)]))
  exact SIM.ret (h.hallop hF hGT) (by rw [T3, d1])
theorem sim_on {σ μ : mS} (h : RR σ μ) (a1 : Int32) : SIM (X10_on σ a1) (X11_on μ a1) := by
  obtain ⟨c, hG⟩ := h.2.2.1
  have hG' := hG
  obtain ⟨g1, g2, g3, g4, g5, g6, g7, -, g9⟩ := hG'
  have hP4 := hG.P4
  unfold X10_on X11_on
  by_cases hb : a1.toInt < 0 ∨ 3 ≤ a1.toInt
  · exact SIM.L (isKept_zero.mpr hb) (SIM.R (in02.mpr hb) (SIM.ret h rfl))
  obtain ⟨k, hk, rfl⟩ := keptEx hb
  have vk : vin (nI k) 3 = true := vinI hk (by decide)
  refine SIM.nL (fun q => hb (isKept_zero.mp q)) (SIM.nR (fun q => hb (in02.mp q)) (SIM.L vk (SIM.R vk ?_)))
  obtain ⟨b1, b2⟩ := g9 k hk
  rw [nI_nat (n := k) (by omega), b1]
  rcases b2 with b2 | b2
  · rw [b2]
    refine SIM.nL (by decide) (SIM.nR (by decide) ?_)
    rw [f1X, f1M, bd_some, bd_some]
    exact SIM.ret (h.fnd (by decide)) rfl
  obtain ⟨d, dn, d1, d2, d3, d4, d5⟩ := b2
  rw [d1]
  have ge : (0 : Int32) ≤ nI d := ge0 (by rw [nI_ti (by omega)]; omega)
  refine SIM.L ge (SIM.L vk (SIM.R ge ?_))
  rw [dtake_eq σ (i := 3) (i1 := k) (by omega) (by omega) (by omega) d2 d1, bd_some, copies_eq μ (s := 328 * (k + 1)) (t := 0) (n := 328) (e328 hk) (by decide) (by decide) (by omega) (by omega) (Or.inr (by omega)), bd_some]
  refine SIM.R vk ?_
  generalize hS : mrow (mrow σ (160 + 3) (upd (σ.1 (160 + 3)) 1 (nI d))) (168 + 3) (cpT (σ.1 (168 + k)) (σ.1 (168 + 3)) 0 0 d) = S
  have rS : ∀ q, q ≠ 163 → q ≠ 171 → S.1 q = σ.1 q := fun q q1 q2 => by rw [← hS, mrow_ne q2, mrow_ne q1]
  have hCS : CF S c := g4.of (rS _ (by omega) (by omega)) (rS _ (by omega) (by omega)) (rS _ (by omega) (by omega)) (fun i hi => rS _ (by omega) (by omega))
  have s1 : S.1 (160 + 3) 1 = nI d := by rw [← hS, mrow_ne (by omega), mrow_at, upd_at]
  have s2 : S.1 (168 + 3) = cpT (σ.1 (168 + k)) (σ.1 (168 + 3)) 0 0 d := by rw [← hS, mrow_at]
  obtain ⟨τ, t1, t2, t3, t4⟩ := again_eq S (c := c) (d := d) (dn := dn) hCS s1 d2 (fun z hz => by rw [s2, cpT_in hz]; exact d3 z hz)
  have r11 : (mrow μ 10 (cpF (μ.1 10) (328 * (k + 1)) 0 328)).1 11 k = nI d := by rw [mrow_ne (by decide), b1, d1]
  rw [t1, bd_some, r11, mwI_rd]
  generalize hV : mwI (mrow μ 10 (cpF (μ.1 10) (328 * (k + 1)) 0 328)) 0 12 (nI d) = V
  have V10 : V.1 10 = cpF (μ.1 10) (328 * (k + 1)) 0 328 := by rw [← hV, mwI_rk (by decide), mrow_at]
  have hF : FrH σ μ τ V := ⟨fun q q1 q2 q3 q4 => by rw [t3 q (by omega) (by omega), rS q (by omega) (by omega)], by rw [t4, ← hS]; rfl, fun q q0 q10 q11 => by rw [← hV, mwI_rk q0, mrow_ne q10], fun q q12 => by rw [← hV, mwI_row, mrow_at, upd_ne q12, mrow_ne (by decide)], by rw [← hV]; rfl⟩
  have T3 : τ.1 (160 + 3) 1 = nI d := by rw [t3 _ (by omega) (by omega), s1]
  have w0 : getH (V.1 10) 0 = rpl c dn d := by
    rw [V10, getH_cp_in (by omega), show 328 * (k + 1) + (0 - 0) = 328 * (k + 1) by omega]
    exact d4
  have hGT : RG τ V c := by
    refine ⟨by rw [hF.2.2.2.1 5 (by decide)]; exact g1, by rw [hF.2.2.1 6 (by decide) (by decide) (by decide)]; exact g2, by rw [hF.2.2.1 7 (by decide) (by decide) (by decide)]; exact g3, hF.cf g4, g5, by rw [t2, w0], by rw [T3, ← hV, mwI_rd], ⟨d, dn, T3, d2, fun z hz => ?_, w0, fun z hz => ?_⟩, fun q hq => ?_⟩
    · rw [t3 _ (by omega) (by omega), s2, cpT_in hz]
      exact d3 z hz
    · rw [V10, getH_cp_in (by omega), show 328 * (k + 1) + (0 + 8 * (z + 1) - 0) = 328 * (k + 1) + 8 * (z + 1) by omega]
      exact d5 z hz
    · obtain ⟨b1, b2⟩ := g9 q hq
      rw [t3 (160 + q) (by omega) (by omega), t3 (168 + q) (by omega) (by omega), rS (160 + q) (by omega) (by omega), rS (168 + q) (by omega) (by omega)]
      refine ⟨by rw [← hV, mwI_rk (by decide), mrow_ne (by decide)]; exact b1, ?_⟩
      rcases b2 with b2 | b2
      · exact Or.inl b2
      · exact Or.inr (b2.far (fun b' h1 h2 => by rw [V10, getH_cp_out (Or.inr (by omega))]))
  exact SIM.ret (h.hallop hF hGT) T3
