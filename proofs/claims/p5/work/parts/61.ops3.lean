/-! mean, text, put -/
def smN (g : Nat → Int32) : Nat → Int64
  | 0 => 0
  | j + 1 => smN g j + (g j).toInt64
theorem smN_cong {f g : Nat → Int32} : ∀ {n : Nat}, (∀ i, i < n → f i = g i) → smN f n = smN g n
  | 0, _ => rfl
  | n + 1, h => by
    show smN f n + _ = smN g n + _
    rw [smN_cong (fun i hi => h i (by omega)), h n (by omega)]
theorem meanX (σ : mS) {r n : Nat} (hr : r < 6) (hn : n ≤ 40) (hs : (σ.1 24 r).toInt = (n : Int)) : lp big (un2 (X10_mean_b35 (nI r) σ)) (0, 0) = some (smN (σ.1 (16 + r)) n) :=
  lp_zero (b := un2 (X10_mean_b35 (nI r) σ)) (n := n) (res := smN (σ.1 (16 + r)) n) (fun j x => (smN (σ.1 (16 + r)) j, x)) (by omega) (fun j x hj hx => by
    show X10_mean_b35 (nI r) σ (smN (σ.1 (16 + r)) j) x = some (.inl (smN (σ.1 (16 + r)) j + (σ.1 (16 + r) j).toInt64, x + 1))
    unfold X10_mean_b35
    have hxn : x.toNatClampNeg = j := by rw [i_nat, hx]; rfl
    rw [nI_nat (by omega), if_neg (nle (by rw [hs, hx]; omega)), if_pos (vinI hr (by decide)), if_pos (vin_iff.mpr (by omega)), hxn]) (fun x hx => by
    show X10_mean_b35 (nI r) σ (smN (σ.1 (16 + r)) n) x = _
    unfold X10_mean_b35
    rw [nI_nat (by omega), if_pos (ile (by rw [hs, hx]; omega))])
theorem meanM (μ : mS) {r n : Nat} (hr : r < 6) (hn : n ≤ 40) (hs : (μ.1 1 r).toInt = (n : Int)) : lp big (un2 (X11_mean_b45 μ (nI r))) (0, 0) = some (smN (fun i => μ.1 2 (40 * r + i)) n) :=
  lp_zero (b := un2 (X11_mean_b45 μ (nI r))) (n := n) (res := smN (fun i => μ.1 2 (40 * r + i)) n) (fun j x => (smN (fun i => μ.1 2 (40 * r + i)) j, x)) (by omega) (fun j x hj hx => by
    show X11_mean_b45 μ (nI r) (smN (fun i => μ.1 2 (40 * r + i)) j) x = some (.inl (smN (fun i => μ.1 2 (40 * r + i)) j + (μ.1 2 (40 * r + j)).toInt64, x + 1))
    unfold X11_mean_b45
    have e1 := i_ix (c := 40) (cn := 40) (by decide) (nI_ti (n := r) (by omega)) hx (by omega)
    have e2 := i_ixn (c := 40) (cn := 40) (by decide) (nI_ti (n := r) (by omega)) hx (by omega)
    rw [if_pos (vinI hr (by decide)), nI_nat (by omega), if_neg (nle (by rw [hs, hx]; omega)), if_pos (vin_iff.mpr (by rw [e1]; omega)), e2]) (fun x hx => by
    show X11_mean_b45 μ (nI r) (smN (fun i => μ.1 2 (40 * r + i)) n) x = _
    unfold X11_mean_b45
    rw [if_pos (vinI hr (by decide)), nI_nat (by omega), if_pos (ile (by rw [hs, hx]; omega))])
theorem sim_mean {σ μ : mS} (h : RR σ μ) (a1 : Int32) : SIM (X10_mean σ a1) (X11_mean μ a1) := by
  unfold X10_mean X11_mean
  by_cases hb : a1.toInt < 0 ∨ 6 ≤ a1.toInt
  · rw [refRow_bad hb, bd_some, if_neg (by decide), if_pos (isRowM_zero.mpr hb)]
    exact SIM.ret h rfl
  obtain ⟨r, hr, rfl⟩ := rowEx hb
  have hv : vin (nI r) 6 = true := vinI hr (by decide)
  obtain ⟨w1, w2, w3, w4⟩ := h.1 r hr
  rw [if_neg (rowY hr).2]
  refine SIM.R hv ?_
  rw [nI_nat (by omega), w1]
  by_cases hs : (σ.1 24 r).toInt < 0
  · rw [refRow_no hr hs, bd_some, if_neg (by decide), if_neg (nle hs), f1M, bd_some]
    exact SIM.ret (h.fnd (by decide)) rfl
  rw [refRow_ok hr (by omega), bd_some, if_pos rfl]
  refine SIM.L hv (SIM.R (ge0 (by omega)) (SIM.R hv ?_))
  by_cases hz : (σ.1 24 r).toInt = 0
  · rw [if_neg (fun q => by have := i_lt.mp q; rw [i_zero] at this; omega), if_pos (i_eq.mpr (by rw [hz, i_zero])), f4X, f4M, bd_some, bd_some]
    exact SIM.ret (h.fnd (by decide)) rfl
  have hl : ¬ (σ.1 24 r).toInt64 = 0 := fun q => by
    have h1 := l_eq.mp q
    rw [l_of_i] at h1
    have h2 : (0 : Int64).toInt = 0 := by decide
    omega
  have hn : (σ.1 24 r).toInt = ((σ.1 24 r).toInt.toNat : Int) := by omega
  rw [if_pos (i_lt.mpr (by rw [i_zero]; omega)), if_neg (fun q => hz (by rw [i_eq.mp q, i_zero])), meanX σ (n := (σ.1 24 r).toInt.toNat) hr (by omega) hn, meanM μ (n := (σ.1 24 r).toInt.toNat) hr (by omega) (by rw [w1]; exact hn)]
  show SIM (if ¬ (σ.1 24 r).toInt64 = 0 then _ else none) (if vin (nI r) 6 = true then if ¬ (σ.1 24 r).toInt64 = 0 then _ else none else none)
  refine SIM.L hl (SIM.R hv (SIM.R hl ?_))
  rw [smN_cong (f := fun i => μ.1 2 (40 * r + i)) (g := σ.1 (16 + r)) (fun i hi => w4 i (by omega))]
  exact SIM.ret (h.asked _) rfl
theorem sim_text {σ μ : mS} (h : RR σ μ) (a1 a2 : Int32) : SIM (X10_text σ a1 a2) (X11_text μ a1 a2) := by
  unfold X10_text X11_text
  by_cases hb : a1.toInt < 0 ∨ 4 ≤ a1.toInt
  · rw [if_pos (isText_zero.mpr hb), if_pos (isTextM_zero.mpr hb)]
    exact SIM.ret h rfl
  obtain ⟨r, hr, rfl⟩ := textEx hb
  rw [if_neg (textY hr).1, if_neg (textY hr).2]
  refine SIM.ite Iff.rfl (fun h40 => SIM.ite Iff.rfl (fun h0 => ?_) (fun h0 => ?_)) (fun _ => SIM.ret h rfl)
  · have g0 : 0 ≤ a2.toInt := i_le.mp h0
    have g40 : a2.toInt ≤ 60 := i_le.mp h40
    have hv : vin (nI r) 4 = true := vinI hr (by decide)
    have e2 : a2.toInt = (a2.toInt.toNat : Int) := by omega
    refine SIM.L hv (SIM.R hv ?_)
    rw [fillB_eq _ _ _ _ (by decide), bd_some, if_pos hv, nI_nat (by omega), textM_lp _ (nI_ti (by omega)) hr e2 (by omega)]
    obtain ⟨hW, hT, ⟨c, hG⟩, hO⟩ := h
    refine SIM.ret ⟨?_, ?_, ⟨c, ?_⟩, ?_⟩ rfl
    · exact hW.of (by rw [mwI_rk (by omega), mrow_ne (by omega)]) (fun q hq => by rw [mwI_rk (by omega), mrow_ne (by omega)]) (by rw [mrow_ne (by omega), mwI_rk (by omega)]) (by rw [mrow_ne (by omega), mwI_rk (by omega)])
    · refine hT.set (r := r) (v := a2) (by omega) (fun q hq => ?_) (fun q hq hqr => ?_) (fun q hq => ?_) (fun q hq hqr i hi => ?_) (fun i hi => ?_)
      · rw [mwI_row, mrow_at, mrow_ne (by omega)]
        by_cases e : q = r
        · subst e; rw [upd_at, if_pos rfl]
        · rw [upd_ne e, if_neg e]
      · rw [mwI_rk (by omega), mrow_ne (by omega)]
      · rw [mrow_ne (by decide), mwI_row, mrow_at]
        by_cases e : q = r
        · subst e; rw [upd_at, if_pos rfl]
        · rw [upd_ne e, if_neg e]
      · rw [mrow_at, seg_out (by omega), mwI_rk (by decide)]
      · rw [mrow_at, seg_in (by omega), mwI_rk (by omega), mrow_at, seg_in (by omega)]
        decide
    · refine hG.of (fun k hk => ?_) ?_ ?_ ?_ ?_ (fun q hq => ?_) (fun k hk => ?_)
      · unfold gX at hk
        rw [mwI_rk (by omega), mrow_ne (by omega)]
      all_goals rw [mrow_ne (by omega), mwI_rk (by omega)]
    · refine hO.of ?_ ?_ rfl (fun f hf => ?_) ?_ ?_ rfl (fun f hf => ?_)
      · rw [mwI_rk (by omega), mrow_ne (by omega)]
      · rw [mwI_rk (by omega), mrow_ne (by omega)]
      · rw [mwI_rk (by omega), mrow_ne (by omega)]
      all_goals rw [mrow_ne (by omega), mwI_rk (by omega)]
  · rw [f5X, f5M, bd_some, bd_some]
    exact SIM.ret (h.fnd (by decide)) rfl
theorem refText_bad {σ : mS} {a : Int32} (h : a.toInt < 0 ∨ 4 ≤ a.toInt) : X10_refusedText σ a = some ((-1), σ) := by
  unfold X10_refusedText
  rw [if_pos (isText_zero.mpr h)]
theorem refText_no {σ : mS} {r : Nat} (hr : r < 4) (h : (σ.1 48 r).toInt < 0) : X10_refusedText σ (nI r) = some ((-3), fndX σ 1) := by
  unfold X10_refusedText
  rw [if_neg (textY hr).1, if_pos (vinI hr (by decide)), nI_nat (by omega), if_neg (nle h), f1X, bd_some]
theorem refText_ok {σ : mS} {r : Nat} (hr : r < 4) (h : 0 ≤ (σ.1 48 r).toInt) : X10_refusedText σ (nI r) = some (0, σ) := by
  unfold X10_refusedText
  rw [if_neg (textY hr).1, if_pos (vinI hr (by decide)), nI_nat (by omega), if_pos (ge0 h)]
theorem RR.byte {σ μ : mS} (h : RR σ μ) {r : Nat} (hr : r < 4) {F G : Nat → Int32} (hG2 : ∀ q, q < 4 → q ≠ r → ∀ i, i < 60 → G (60 * q + i) = μ.1 5 (60 * q + i)) (hc : ∀ i : Nat, (i : Int) < (σ.1 48 r).toInt → G (60 * r + i) = F i) : RR (mrow σ (40 + r) F) (mrow μ 5 G) := by
  obtain ⟨hW, hT, ⟨c, hG⟩, hO⟩ := h
  refine ⟨?_, ?_, ⟨c, ?_⟩, ?_⟩
  · exact hW.of (mrow_ne (by omega)) (fun q hq => mrow_ne (by omega)) (mrow_ne (by omega)) (mrow_ne (by omega))
  · obtain ⟨w1, w2, w3, w4⟩ := hT r hr
    refine hT.set (r := r) (v := σ.1 48 r) ⟨w2, w3⟩ (fun q hq => ?_) (fun q hq hqr => ?_) (fun q hq => ?_) (fun q hq hqr i hi => ?_) (fun i hi => ?_)
    · rw [mrow_ne (by omega)]
      by_cases e : q = r
      · subst e; rw [if_pos rfl]
      · rw [if_neg e]
    · rw [mrow_ne (by omega)]
    · rw [mrow_ne (by omega)]
      by_cases e : q = r
      · subst e; rw [if_pos rfl, w1]
      · rw [if_neg e]
    · rw [mrow_at, hG2 q hq hqr i hi]
    · rw [mrow_at, mrow_at, hc i hi]
  · refine hG.of (fun k hk => ?_) ?_ ?_ ?_ ?_ (fun q hq => ?_) (fun k hk => ?_)
    · unfold gX at hk
      rw [mrow_ne (by omega)]
    all_goals rw [mrow_ne (by omega)]
  · refine hO.of ?_ ?_ rfl (fun f hf => ?_) ?_ ?_ rfl (fun f hf => ?_)
    all_goals rw [mrow_ne (by omega)]
theorem sim_put {σ μ : mS} (h : RR σ μ) (a1 a2 a3 : Int32) : SIM (X10_put σ a1 a2 a3) (X11_put μ a1 a2 a3) := by
  unfold X10_put X11_put
  by_cases hb : a1.toInt < 0 ∨ 4 ≤ a1.toInt
  · rw [refText_bad hb, bd_some, if_neg (by decide), if_pos (isTextM_zero.mpr hb)]
    exact SIM.ret h rfl
  obtain ⟨r, hr, rfl⟩ := textEx hb
  have hv : vin (nI r) 4 = true := vinI hr (by decide)
  obtain ⟨w1, w2, w3, w4⟩ := h.2.1 r hr
  rw [if_neg (textY hr).2]
  refine SIM.R hv ?_
  rw [nI_nat (by omega), w1]
  by_cases hs : (σ.1 48 r).toInt < 0
  · rw [refText_no hr hs, bd_some, if_neg (by decide), if_neg (nle hs), f1M, bd_some]
    exact SIM.ret (h.fnd (by decide)) rfl
  rw [refText_ok hr (by omega), bd_some, if_pos rfl]
  refine SIM.R (ge0 (by omega)) (SIM.R hv ?_)
  by_cases hi : a2.toInt < 0 ∨ (σ.1 48 r).toInt ≤ a2.toInt
  · refine SIM.R ((in0_zero (by omega)).mpr hi) ?_
    rw [f2M, bd_some]
    by_cases h0 : a2 < 0
    · refine SIM.L h0 ?_
      rw [f2X, bd_some]
      exact SIM.ret (h.fnd (by decide)) rfl
    · refine SIM.nL h0 (SIM.L hv (SIM.nL (fun q => ?_) ?_))
      · have := i_lt.mp q
        have : ¬ a2.toInt < 0 := fun z => h0 (i_lt.mpr z)
        omega
      · rw [f2X, bd_some]
        exact SIM.ret (h.fnd (by decide)) rfl
  obtain ⟨i, hi1, rfl⟩ := i_ex (a := a2) (m := 60) (by omega) (by omega)
  have ei : (nI i).toInt = (i : Int) := nI_ti (by omega)
  have er : (nI r).toInt = (r : Int) := nI_ti (by omega)
  have ix := i_ixn (c := 60) (cn := 60) (by decide) er ei (by omega)
  have vx : vin (((60 : Int32) * nI r) + nI i) 240 = true := vin_iff.mpr (by rw [i_ix (c := 60) (cn := 60) (by decide) er ei (by omega)]; omega)
  have vi : vin (nI i) 60 = true := vinI hi1 (by decide)
  refine SIM.nL (fun q => by have := i_lt.mp q; rw [i_zero] at this; omega) (SIM.L hv (SIM.L (i_lt.mpr (by omega)) (SIM.L hv (SIM.L vi (SIM.L hv (SIM.L vi (SIM.nR (fun q => hi ((in0_zero (by omega)).mp q)) (SIM.R vx (SIM.R vx ?_)))))))))
  rw [nI_nat (n := i) (by omega), ix, w4 i (by omega)]
  refine SIM.ret ?_ rfl
  refine h.byte hr (fun q hq hqr j hj => upd_ne (by omega)) (fun j hj => ?_)
  by_cases e : j = i
  · subst e; rw [upd_at, upd_at]
  · rw [upd_ne (by omega), upd_ne e]
    exact w4 j hj
