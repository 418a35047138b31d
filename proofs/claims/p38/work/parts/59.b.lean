/-! rows and texts: both sides alike -/
theorem i_ex {a : Int32} {m : Nat} (h0 : 0 ≤ a.toInt) (h1 : a.toInt < (m : Int)) : ∃ r, r < m ∧ a = nI r := ⟨a.toInt.toNat, by omega, i_nI (by omega)⟩
theorem ge0 {x : Int32} (h : 0 ≤ x.toInt) : 0 ≤ x := i_le.mpr (by rw [i_zero]; exact h)
def fndX (σ : mS) (f : Nat) : mS := mwI (mwI σ 0 16 (nI f)) 208 f (σ.1 208 f + 1)
def fndM (μ : mS) (f : Nat) : mS := mwI (mwI μ 0 17 (nI f)) 12 f (μ.1 12 f + 1)
theorem found_eq (σ : mS) {f : Nat} (hf : f < 6) : X10_found σ (nI f) = some ((-3), fndX σ f) := by
  have vf : vin (nI f) 6 = true := vin_iff.mpr (by rw [nI_ti (by omega)]; omega)
  unfold X10_found
  rw [if_pos vf, if_pos vf, nI_nat (by omega), show (mwI σ 0 16 (nI f)).1 208 = σ.1 208 from mwI_rk (by decide)]
  rfl
theorem finds_eq (μ : mS) {f : Nat} (hf : f < 6) : X11_finds μ (nI f) = some ((-3), fndM μ f) := by
  have vf : vin (nI f) 6 = true := vin_iff.mpr (by rw [nI_ti (by omega)]; omega)
  unfold X11_finds
  rw [if_pos vf, if_pos vf, nI_nat (by omega), show (mwI μ 0 17 (nI f)).1 12 = μ.1 12 from mwI_rk (by decide)]
  rfl
theorem RR.fnd {σ μ : mS} (h : RR σ μ) {f : Nat} (hf : f < 6) : RR (fndX σ f) (fndM μ f) := by
  obtain ⟨v, τ, ν, e1, e2, hR⟩ := SIM.found h hf
  rw [found_eq σ hf] at e1
  rw [finds_eq μ hf] at e2
  cases e1
  cases e2
  exact hR
theorem f1X (σ : mS) : X10_found σ 1 = some ((-3), fndX σ 1) := found_eq σ (f := 1) (by decide)
theorem f2X (σ : mS) : X10_found σ 2 = some ((-3), fndX σ 2) := found_eq σ (f := 2) (by decide)
theorem f3X (σ : mS) : X10_found σ 3 = some ((-3), fndX σ 3) := found_eq σ (f := 3) (by decide)
theorem f4X (σ : mS) : X10_found σ 4 = some ((-3), fndX σ 4) := found_eq σ (f := 4) (by decide)
theorem f5X (σ : mS) : X10_found σ 5 = some ((-3), fndX σ 5) := found_eq σ (f := 5) (by decide)
theorem f1M (σ : mS) : X11_finds σ 1 = some ((-3), fndM σ 1) := finds_eq σ (f := 1) (by decide)
theorem f2M (σ : mS) : X11_finds σ 2 = some ((-3), fndM σ 2) := finds_eq σ (f := 2) (by decide)
theorem f3M (σ : mS) : X11_finds σ 3 = some ((-3), fndM σ 3) := finds_eq σ (f := 3) (by decide)
theorem f4M (σ : mS) : X11_finds σ 4 = some ((-3), fndM σ 4) := finds_eq σ (f := 4) (by decide)
theorem f5M (σ : mS) : X11_finds σ 5 = some ((-3), fndM σ 5) := finds_eq σ (f := 5) (by decide)
theorem vinI {r n : Nat} (h : r < n) (hn : n < 2147483648) : vin (nI r) n = true := vin_iff.mpr (by rw [nI_ti (by omega)]; omega)
theorem isRowM_zero {a : Int32} : X11_isRow a = 0 ↔ (a.toInt < 0 ∨ 6 ≤ a.toInt) := by
  unfold X11_isRow
  rw [in_zero]
  show a.toInt < 0 ∨ 5 < a.toInt ↔ _
  omega
theorem isTextM_zero {a : Int32} : X11_isText a = 0 ↔ (a.toInt < 0 ∨ 4 ≤ a.toInt) := by
  unfold X11_isText
  rw [in_zero]
  show a.toInt < 0 ∨ 3 < a.toInt ↔ _
  omega
theorem rowY {r : Nat} (hr : r < 6) : ¬ X10_isRow (nI r) = 0 ∧ ¬ X11_isRow (nI r) = 0 := by
  have e : (nI r).toInt = (r : Int) := nI_ti (by omega)
  exact ⟨fun h => by have := isRow_zero.mp h; omega, fun h => by have := isRowM_zero.mp h; omega⟩
theorem textY {r : Nat} (hr : r < 4) : ¬ X10_isText (nI r) = 0 ∧ ¬ X11_isText (nI r) = 0 := by
  have e : (nI r).toInt = (r : Int) := nI_ti (by omega)
  exact ⟨fun h => by have := isText_zero.mp h; omega, fun h => by have := isTextM_zero.mp h; omega⟩
theorem rowEx {a : Int32} (h : ¬ (a.toInt < 0 ∨ 6 ≤ a.toInt)) : ∃ r, r < 6 ∧ a = nI r := i_ex (by omega) (by omega)
theorem textEx {a : Int32} (h : ¬ (a.toInt < 0 ∨ 4 ≤ a.toInt)) : ∃ r, r < 4 ∧ a = nI r := i_ex (by omega) (by omega)
theorem refRow_bad {σ : mS} {a : Int32} (h : a.toInt < 0 ∨ 6 ≤ a.toInt) : X10_refusedRow σ a = some ((-1), σ) := by
  unfold X10_refusedRow
  rw [if_pos (isRow_zero.mpr h)]
theorem refRow_no {σ : mS} {r : Nat} (hr : r < 6) (h : (σ.1 24 r).toInt < 0) : X10_refusedRow σ (nI r) = some ((-3), fndX σ 1) := by
  unfold X10_refusedRow
  rw [if_neg (rowY hr).1, if_pos (vinI hr (by decide)), nI_nat (by omega), if_neg (nle h), f1X, bd_some]
theorem refRow_ok {σ : mS} {r : Nat} (hr : r < 6) (h : 0 ≤ (σ.1 24 r).toInt) : X10_refusedRow σ (nI r) = some (0, σ) := by
  unfold X10_refusedRow
  rw [if_neg (rowY hr).1, if_pos (vinI hr (by decide)), nI_nat (by omega), if_pos (ge0 h)]
theorem sim_row {σ μ : mS} (h : RR σ μ) (a1 a2 : Int32) : SIM (X10_row σ a1 a2) (X11_row μ a1 a2) := by
  unfold X10_row X11_row
  by_cases hb : a1.toInt < 0 ∨ 6 ≤ a1.toInt
  · rw [if_pos (isRow_zero.mpr hb), if_pos (isRowM_zero.mpr hb)]
    exact SIM.ret h rfl
  obtain ⟨r, hr, rfl⟩ := rowEx hb
  rw [if_neg (rowY hr).1, if_neg (rowY hr).2]
  refine SIM.ite Iff.rfl (fun h40 => SIM.ite Iff.rfl (fun h0 => ?_) (fun h0 => ?_)) (fun _ => SIM.ret h rfl)
  · have g0 : 0 ≤ a2.toInt := i_le.mp h0
    have g40 : a2.toInt ≤ 40 := i_le.mp h40
    have hv : vin (nI r) 6 = true := vinI hr (by decide)
    have e2 : a2.toInt = (a2.toInt.toNat : Int) := by omega
    rw [if_pos hv, fillI_eq _ _ _ _ (by decide), bd_some, if_pos hv, nI_nat (by omega), anew_eq μ (nI_ti (by omega)) hr e2 (by omega), bd_some]
    obtain ⟨hW, hT, ⟨c, hG⟩, hO⟩ := h
    refine SIM.ret ⟨?_, ?_, ⟨c, ?_⟩, ?_⟩ rfl
    · refine hW.set (r := r) (v := a2) (by omega) (fun q hq => ?_) (fun q hq hqr => ?_) (fun q hq => ?_) (fun q hq hqr i hi => ?_) (fun i hi => ?_)
      · rw [mwI_row, mrow_at, mrow_ne (by omega)]
        by_cases e : q = r
        · subst e; rw [upd_at, if_pos rfl]
        · rw [upd_ne e, if_neg e]
      · rw [mwI_rk (by omega), mrow_ne (by omega)]
      · rw [mrow_ne (by decide), mrow_at]
        by_cases e : q = r
        · subst e; rw [upd_at, if_pos rfl]
        · rw [upd_ne e, if_neg e]
      · rw [mrow_at, seg_out (by omega)]
      · rw [mrow_at, seg_in (by omega), mwI_rk (by omega), mrow_at, seg_in (by omega)]
    · exact hT.of (by rw [mwI_rk (by omega), mrow_ne (by omega)]) (fun q hq => by rw [mwI_rk (by omega), mrow_ne (by omega)]) (by rw [mrow_ne (by omega), mrow_ne (by omega)]) (by rw [mrow_ne (by omega), mrow_ne (by omega)])
    · refine hG.of (fun k hk => ?_) ?_ ?_ ?_ ?_ (fun q hq => ?_) (fun k hk => ?_)
      · unfold gX at hk
        rw [mwI_rk (by omega), mrow_ne (by omega)]
      all_goals rw [mrow_ne (by omega), mrow_ne (by omega)]
    · refine hO.of ?_ ?_ rfl (fun f hf => ?_) ?_ ?_ rfl (fun f hf => ?_)
      · rw [mwI_rk (by omega), mrow_ne (by omega)]
      · rw [mwI_rk (by omega), mrow_ne (by omega)]
      · rw [mwI_rk (by omega), mrow_ne (by omega)]
      all_goals rw [mrow_ne (by omega), mrow_ne (by omega)]
  · rw [f5X, f5M, bd_some, bd_some]
    exact SIM.ret (h.fnd (by decide)) rfl
/-- a row's place written anew on both sides (its size stays) -/
theorem RR.item {σ μ : mS} (h : RR σ μ) {r : Nat} (hr : r < 6) {F G : Nat → Int32} (hG2 : ∀ q, q < 6 → q ≠ r → ∀ i, i < 40 → G (40 * q + i) = μ.1 2 (40 * q + i)) (hc : ∀ i : Nat, (i : Int) < (σ.1 24 r).toInt → G (40 * r + i) = F i) : RR (mrow σ (16 + r) F) (mrow μ 2 G) := by
  obtain ⟨hW, hT, ⟨c, hG⟩, hO⟩ := h
  refine ⟨?_, ?_, ⟨c, ?_⟩, ?_⟩
  · obtain ⟨w1, w2, w3, w4⟩ := hW r hr
    refine hW.set (r := r) (v := σ.1 24 r) ⟨w2, w3⟩ (fun q hq => ?_) (fun q hq hqr => ?_) (fun q hq => ?_) (fun q hq hqr i hi => ?_) (fun i hi => ?_)
    · rw [mrow_ne (by omega)]
      by_cases e : q = r
      · subst e; rw [if_pos rfl]
      · rw [if_neg e]
    · rw [mrow_ne (by omega)]
    · rw [mrow_ne (by omega)]
      by_cases e : q = r
      · subst e; rw [if_pos rfl, w1]
      · rw [if_neg e]
    · rw [mrow_at, hG2 q hq hqr i hi]
    · rw [mrow_at, mrow_at, hc i hi]
  · exact hT.of (mrow_ne (by omega)) (fun q hq => mrow_ne (by omega)) (mrow_ne (by omega)) (mrow_ne (by omega))
  · refine hG.of (fun k hk => ?_) ?_ ?_ ?_ ?_ (fun q hq => ?_) (fun k hk => ?_)
    · unfold gX at hk
      rw [mrow_ne (by omega)]
    all_goals rw [mrow_ne (by omega)]
  · refine hO.of ?_ ?_ rfl (fun f hf => ?_) ?_ ?_ rfl (fun f hf => ?_)
    all_goals rw [mrow_ne (by omega)]
theorem in0_zero {a s : Int32} (hs : 0 ≤ s.toInt) : X11_in a.toInt64 0 (s - 1).toInt64 = 0 ↔ (a.toInt < 0 ∨ s.toInt ≤ a.toInt) := by
  rw [in_zero, l_of_i, i_sub (by show _ ≤ s.toInt - 1; omega) (by have := i_hi s; show s.toInt - 1 < _; omega)]
  show a.toInt < 0 ∨ s.toInt - 1 < a.toInt ↔ _
  omega
theorem refPlace_bad {σ : mS} {a b : Int32} (h : a.toInt < 0 ∨ 6 ≤ a.toInt) : X10_refusedPlace σ a b = some ((-1), σ) := by
  unfold X10_refusedPlace
  rw [refRow_bad h, bd_some, if_neg (by decide)]
theorem refPlace_no {σ : mS} {r : Nat} {b : Int32} (hr : r < 6) (h : (σ.1 24 r).toInt < 0) : X10_refusedPlace σ (nI r) b = some ((-3), fndX σ 1) := by
  unfold X10_refusedPlace
  rw [refRow_no hr h, bd_some, if_neg (by decide)]
theorem refPlace_out {σ : mS} {r : Nat} {b : Int32} (hr : r < 6) (h : 0 ≤ (σ.1 24 r).toInt) (hb : b.toInt < 0 ∨ (σ.1 24 r).toInt ≤ b.toInt) : X10_refusedPlace σ (nI r) b = some ((-3), fndX σ 2) := by
  unfold X10_refusedPlace
  rw [refRow_ok hr h, bd_some, if_pos rfl]
  by_cases h0 : b < 0
  · rw [if_pos h0, f2X, bd_some]
  · rw [if_neg h0, if_pos (vinI hr (by decide)), nI_nat (by omega), if_neg (fun q => ?_), f2X, bd_some]
    have := i_lt.mp q
    have : ¬ b.toInt < 0 := fun z => h0 (i_lt.mpr z)
    omega
theorem refPlace_ok {σ : mS} {r : Nat} {b : Int32} (hr : r < 6) (h0 : 0 ≤ b.toInt) (hb : b.toInt < (σ.1 24 r).toInt) : X10_refusedPlace σ (nI r) b = some (0, σ) := by
  unfold X10_refusedPlace
  rw [refRow_ok hr (by omega), bd_some, if_pos rfl, if_neg (fun q => by have := i_lt.mp q; rw [i_zero] at this; omega), if_pos (vinI hr (by decide)), nI_nat (by omega), if_pos (i_lt.mpr hb)]
theorem upd_row2 {μ : mS} {r i : Nat} {v : Int32} (hi : i < 40) : ∀ q, q < 6 → q ≠ r → ∀ j, j < 40 → upd (μ.1 2) (40 * r + i) v (40 * q + j) = μ.1 2 (40 * q + j) := fun q _ hqr j hj => upd_ne (by omega)
theorem sim_lay {σ μ : mS} (h : RR σ μ) (a1 a2 a3 : Int32) : SIM (X10_lay σ a1 a2 a3) (X11_lay μ a1 a2 a3) := by
  unfold X10_lay X11_lay
  by_cases hb : a1.toInt < 0 ∨ 6 ≤ a1.toInt
  · rw [refPlace_bad hb, bd_some, if_neg (by decide), if_pos (isRowM_zero.mpr hb)]
    exact SIM.ret h rfl
  obtain ⟨r, hr, rfl⟩ := rowEx hb
  have hv : vin (nI r) 6 = true := vinI hr (by decide)
  obtain ⟨w1, w2, w3, w4⟩ := h.1 r hr
  rw [if_neg (rowY hr).2, if_pos hv, nI_nat (by omega), w1]
  by_cases hs : (σ.1 24 r).toInt < 0
  · rw [refPlace_no hr hs, bd_some, if_neg (by decide), if_neg (nle hs), f1M, bd_some]
    exact SIM.ret (h.fnd (by decide)) rfl
  rw [if_pos (ile (by rw [i_zero]; omega)), if_pos hv]
  by_cases hi : a2.toInt < 0 ∨ (σ.1 24 r).toInt ≤ a2.toInt
  · rw [refPlace_out hr (by omega) hi, bd_some, if_neg (by decide), if_pos ((in0_zero (by omega)).mpr hi), f2M, bd_some]
    exact SIM.ret (h.fnd (by decide)) rfl
  obtain ⟨i, hi1, rfl⟩ := i_ex (a := a2) (m := 40) (by omega) (by omega)
  have ei : (nI i).toInt = (i : Int) := nI_ti (by omega)
  have er : (nI r).toInt = (r : Int) := nI_ti (by omega)
  have ix := i_ixn (c := 40) (cn := 40) (by decide) er ei (by omega)
  have vx : vin (((40 : Int32) * nI r) + nI i) 240 = true := vin_iff.mpr (by rw [i_ix (c := 40) (cn := 40) (by decide) er ei (by omega)]; omega)
  rw [refPlace_ok hr (by omega) (by omega), bd_some, if_pos rfl, if_pos hv, if_pos (vinI hi1 (by decide)), if_pos hv, if_pos (vinI hi1 (by decide)), nI_nat (by omega), if_neg (fun q => hi ((in0_zero (by omega)).mp q)), if_pos vx, if_pos vx, ix]
  show SIM (some _) (some (1, mwI (mwI μ 2 (40 * r + i) a3) 0 14 (μ.1 2 (40 * r + i))))
  rw [w4 i (by omega)]
  refine SIM.ret ?_ rfl
  have h1 : RR (mwI σ (16 + r) i a3) (mwI μ 2 (40 * r + i) a3) := h.item hr (upd_row2 hi1) (fun j hj => by
    by_cases e : j = i
    · subst e; rw [upd_at, upd_at]
    · rw [upd_ne (by omega), upd_ne e]
      exact w4 j hj)
  have h2 := h1.asked (σ.1 (16 + r) i)
  have e : mwI (mwI σ (16 + r) i a3) 0 13 (σ.1 (16 + r) i) = mwI (mwI σ 0 13 (σ.1 (16 + r) i)) (16 + r) i a3 := by
    rw [mwI_row, mwI_row, mwI_row, mwI_row, mrow_ne (by omega), mrow_ne (by omega), mrow_comm (by omega)]
  rw [e] at h2
  exact h2
theorem sim_at {σ μ : mS} (h : RR σ μ) (a1 a2 : Int32) : SIM (X10_at σ a1 a2) (X11_at μ a1 a2) := by
  unfold X10_at X11_at
  by_cases hb : a1.toInt < 0 ∨ 6 ≤ a1.toInt
  · rw [refPlace_bad hb, bd_some, if_neg (by decide), if_pos (isRowM_zero.mpr hb)]
    exact SIM.ret h rfl
  obtain ⟨r, hr, rfl⟩ := rowEx hb
  have hv : vin (nI r) 6 = true := vinI hr (by decide)
  obtain ⟨w1, w2, w3, w4⟩ := h.1 r hr
  rw [if_neg (rowY hr).2, if_pos hv, nI_nat (by omega), w1]
  by_cases hs : (σ.1 24 r).toInt < 0
  · rw [refPlace_no hr hs, bd_some, if_neg (by decide), if_neg (nle hs), f1M, bd_some]
    exact SIM.ret (h.fnd (by decide)) rfl
  rw [if_pos (ile (by rw [i_zero]; omega)), if_pos hv]
  by_cases hi : a2.toInt < 0 ∨ (σ.1 24 r).toInt ≤ a2.toInt
  · rw [refPlace_out hr (by omega) hi, bd_some, if_neg (by decide), if_pos ((in0_zero (by omega)).mpr hi), f2M, bd_some]
    exact SIM.ret (h.fnd (by decide)) rfl
  obtain ⟨i, hi1, rfl⟩ := i_ex (a := a2) (m := 40) (by omega) (by omega)
  have ei : (nI i).toInt = (i : Int) := nI_ti (by omega)
  have er : (nI r).toInt = (r : Int) := nI_ti (by omega)
  have ix := i_ixn (c := 40) (cn := 40) (by decide) er ei (by omega)
  have vx : vin (((40 : Int32) * nI r) + nI i) 240 = true := vin_iff.mpr (by rw [i_ix (c := 40) (cn := 40) (by decide) er ei (by omega)]; omega)
  rw [refPlace_ok hr (by omega) (by omega), bd_some, if_pos rfl, if_pos hv, if_pos (vinI hi1 (by decide)), nI_nat (by omega), if_neg (fun q => hi ((in0_zero (by omega)).mp q)), if_pos vx, ix]
  show SIM (some _) (some (1, mwI μ 0 14 (μ.1 2 (40 * r + i))))
  rw [w4 i (by omega)]
  exact SIM.ret (h.asked _) rfl

theorem sim_tear {σ μ : mS} (h : RR σ μ) (a1 : Int32) : SIM (X10_tear σ a1) (X11_tear μ a1) := by
  unfold X10_tear X11_tear
  by_cases hb : a1.toInt < 0 ∨ 6 ≤ a1.toInt
  · rw [refRow_bad hb, bd_some, if_neg (by decide), if_pos (isRowM_zero.mpr hb)]
    exact SIM.ret h rfl
  obtain ⟨r, hr, rfl⟩ := rowEx hb
  have hv : vin (nI r) 6 = true := vinI hr (by decide)
  obtain ⟨w1, w2, w3, w4⟩ := h.1 r hr
  rw [if_neg (rowY hr).2, if_pos hv, nI_nat (by omega), w1]
  by_cases hs : (σ.1 24 r).toInt < 0
  · rw [refRow_no hr hs, bd_some, if_neg (by decide), if_neg (nle hs), f1M, bd_some]
    exact SIM.ret (h.fnd (by decide)) rfl
  rw [refRow_ok hr (by omega), bd_some, if_pos rfl, if_pos hv, if_pos (ge0 (by omega)), if_pos hv]
  obtain ⟨hW, hT, ⟨c, hG⟩, hO⟩ := h
  refine SIM.ret ⟨?_, ?_, ⟨c, ?_⟩, ?_⟩ rfl
  · refine hW.set (r := r) (v := -1) (by decide) (fun q hq => ?_) (fun q hq hqr => ?_) (fun q hq => ?_) (fun q hq hqr i hi => ?_) (fun i hi => ?_)
    · rw [mwI_row, mrow_at]
      by_cases e : q = r
      · subst e; rw [upd_at, if_pos rfl]
      · rw [upd_ne e, if_neg e]
    · rw [mwI_rk (by omega)]
    · rw [mwI_row, mrow_at]
      by_cases e : q = r
      · subst e; rw [upd_at, if_pos rfl]
      · rw [upd_ne e, if_neg e]
    · rw [mwI_rk (by omega)]
    · have : (-1 : Int32).toInt = -1 := by decide
      omega
  · exact hT.of (mwI_rk (by omega)) (fun q hq => mwI_rk (by omega)) (mwI_rk (by omega)) (mwI_rk (by omega))
  · refine hG.of (fun k hk => ?_) ?_ ?_ ?_ ?_ (fun q hq => ?_) (fun k hk => ?_)
    · unfold gX at hk
      rw [mwI_rk (by omega)]
    all_goals rw [mwI_rk (by omega)]
  · refine hO.of ?_ ?_ rfl (fun f hf => ?_) ?_ ?_ rfl (fun f hf => ?_)
    all_goals rw [mwI_rk (by omega)]
/-! copy -/
def cpT (f g : Nat → Int32) (s t n : Nat) : Nat → Int32 := fun q => if t ≤ q ∧ q < t + n then f (s + (q - t)) else g q
theorem cpT_zero {f g : Nat → Int32} {s t : Nat} : cpT f g s t 0 = g := by
  funext q
  unfold cpT
  rw [if_neg (by omega)]
theorem cpT_succ {f g : Nat → Int32} {s t j : Nat} : upd (cpT f g s t j) (t + j) (f (s + j)) = cpT f g s t (j + 1) := by
  funext q
  by_cases hq : q = t + j
  · subst hq
    rw [upd_at]
    unfold cpT
    rw [if_pos (by omega), Nat.add_sub_cancel_left]
  · rw [upd_ne hq]
    unfold cpT
    by_cases hq2 : t ≤ q ∧ q < t + j
    · rw [if_pos hq2, if_pos (by omega)]
    · rw [if_neg hq2, if_neg (by omega)]
theorem copyM1 (μ : mS) {r s n : Nat} (hr : r < 6) (hs : s + n ≤ 40) : lp big (un2 (X11_copy_b106 (nI r) (nI s) (nI n))) (μ, 0) = some (mrow μ 3 (cpT (μ.1 2) (μ.1 3) (40 * r + s) 0 n)) := by
  have H := lp_zero (b := un2 (X11_copy_b106 (nI r) (nI s) (nI n))) (n := n) (res := mrow μ 3 (cpT (μ.1 2) (μ.1 3) (40 * r + s) 0 n)) (fun j x => (mrow μ 3 (cpT (μ.1 2) (μ.1 3) (40 * r + s) 0 j), x)) (by omega) (fun j x hj hx => by
    show X11_copy_b106 (nI r) (nI s) (nI n) (mrow μ 3 (cpT (μ.1 2) (μ.1 3) (40 * r + s) 0 j)) x = some (.inl (mrow μ 3 (cpT (μ.1 2) (μ.1 3) (40 * r + s) 0 (j + 1)), x + 1))
    unfold X11_copy_b106
    have e1 := i_ix (c := 40) (cn := 40) (by decide) (nI_ti (n := r) (by omega)) (nI_ti (n := s) (by omega)) (by omega)
    have e2 := i_off e1 hx (by omega)
    have e3 := i_offn e1 hx (by omega)
    have hxn : x.toNatClampNeg = j := by rw [i_nat, hx]; rfl
    rw [if_neg (nle (by rw [nI_ti (by omega), hx]; omega)), if_pos (vin_iff.mpr (by rw [e2]; omega)), if_pos (vin_iff.mpr (by omega)), e3, hxn, mwI_row, mrow_mrow, mrow_at, mrow_ne (by decide)]
    have e4 := cpT_succ (f := μ.1 2) (g := μ.1 3) (s := 40 * r + s) (t := 0) (j := j)
    rw [Nat.zero_add] at e4
    rw [e4]) (fun x hx => by
    show X11_copy_b106 (nI r) (nI s) (nI n) _ x = _
    unfold X11_copy_b106
    rw [if_pos (ile (by rw [nI_ti (by omega), hx]; omega))])
  have H2 : lp big (un2 (X11_copy_b106 (nI r) (nI s) (nI n))) (mrow μ 3 (cpT (μ.1 2) (μ.1 3) (40 * r + s) 0 0), 0) = _ := H
  rw [cpT_zero, mrow_id] at H2
  exact H2
theorem copyM2 (μ : mS) {r s n : Nat} (hr : r < 6) (hs : s + n ≤ 40) : lp big (un2 (X11_copy_b143 (nI r) (nI s) (nI n))) (μ, 0) = some (mrow μ 2 (cpT (μ.1 3) (μ.1 2) 0 (40 * r + s) n)) := by
  have H := lp_zero (b := un2 (X11_copy_b143 (nI r) (nI s) (nI n))) (n := n) (res := mrow μ 2 (cpT (μ.1 3) (μ.1 2) 0 (40 * r + s) n)) (fun j x => (mrow μ 2 (cpT (μ.1 3) (μ.1 2) 0 (40 * r + s) j), x)) (by omega) (fun j x hj hx => by
    show X11_copy_b143 (nI r) (nI s) (nI n) (mrow μ 2 (cpT (μ.1 3) (μ.1 2) 0 (40 * r + s) j)) x = some (.inl (mrow μ 2 (cpT (μ.1 3) (μ.1 2) 0 (40 * r + s) (j + 1)), x + 1))
    unfold X11_copy_b143
    have e1 := i_ix (c := 40) (cn := 40) (by decide) (nI_ti (n := r) (by omega)) (nI_ti (n := s) (by omega)) (by omega)
    have e2 := i_off e1 hx (by omega)
    have e3 := i_offn e1 hx (by omega)
    have hxn : x.toNatClampNeg = j := by rw [i_nat, hx]; rfl
    rw [if_neg (nle (by rw [nI_ti (by omega), hx]; omega)), if_pos (vin_iff.mpr (by omega)), if_pos (vin_iff.mpr (by rw [e2]; omega)), e3, hxn, mwI_row, mrow_mrow, mrow_at, mrow_ne (by decide)]
    have e4 := cpT_succ (f := μ.1 3) (g := μ.1 2) (s := 0) (t := 40 * r + s) (j := j)
    rw [Nat.zero_add] at e4
    rw [e4]) (fun x hx => by
    show X11_copy_b143 (nI r) (nI s) (nI n) _ x = _
    unfold X11_copy_b143
    rw [if_pos (ile (by rw [nI_ti (by omega), hx]; omega))])
  have H2 : lp big (un2 (X11_copy_b143 (nI r) (nI s) (nI n))) (mrow μ 2 (cpT (μ.1 3) (μ.1 2) 0 (40 * r + s) 0), 0) = _ := H
  rw [cpT_zero, mrow_id] at H2
  exact H2
theorem l_add {x y : Int32} : (x.toInt64 + y.toInt64).toInt = x.toInt + y.toInt := by
  rw [Int64.toInt_add, l_of_i, l_of_i]
  have := i_lo x
  have := i_hi x
  have := i_lo y
  have := i_hi y
  exact Int.bmod_eq_of_le (by omega) (by omega)
theorem RR.m3 {σ μ : mS} (h : RR σ μ) (f : Nat → Int32) : RR σ (mrow μ 3 f) := by
  obtain ⟨hW, hT, ⟨c, hG⟩, hO⟩ := h
  refine ⟨hW.of rfl (fun _ _ => rfl) (mrow_ne (by decide)) (mrow_ne (by decide)), hT.of rfl (fun _ _ => rfl) (mrow_ne (by decide)) (mrow_ne (by decide)), ⟨c, hG.of (fun _ _ => rfl) ?_ ?_ (mrow_ne (by decide)) (mrow_ne (by decide)) (fun q _ => ?_) (fun q _ => ?_)⟩, hO.of rfl rfl rfl (fun _ _ => rfl) ?_ ?_ rfl (fun f _ => ?_)⟩
  all_goals rw [mrow_ne (by decide)]
theorem va_cpy_row {σ : mS} {k k2 s t n : Nat} : mcp σ k s k2 t n = mrow σ k2 (va_cpy (σ.1 k) (σ.1 k2) s t n) := rfl
theorem sim_copy {σ μ : mS} (h : RR σ μ) (a1 a2 a3 a4 a5 : Int32) : SIM (X10_copy σ a1 a2 a3 a4 a5) (X11_copy μ a1 a2 a3 a4 a5) := by
  unfold X10_copy X11_copy
  by_cases hb : a1.toInt < 0 ∨ 6 ≤ a1.toInt
  · rw [if_pos (isRow_zero.mpr hb), if_pos (isRowM_zero.mpr hb)]
    exact SIM.ret h rfl
  obtain ⟨r, hr, rfl⟩ := rowEx hb
  rw [if_neg (rowY hr).1, if_neg (rowY hr).2]
  by_cases hb2 : a3.toInt < 0 ∨ 6 ≤ a3.toInt
  · rw [if_pos (isRow_zero.mpr hb2), if_pos (isRowM_zero.mpr hb2)]
    exact SIM.ret h rfl
  obtain ⟨t, ht, rfl⟩ := rowEx hb2
  rw [if_neg (rowY ht).1, if_neg (rowY ht).2]
  have hv : vin (nI r) 6 = true := vinI hr (by decide)
  have hv2 : vin (nI t) 6 = true := vinI ht (by decide)
  obtain ⟨w1, w2, w3, w4⟩ := h.1 r hr
  obtain ⟨z1, z2, z3, z4⟩ := h.1 t ht
  refine SIM.ite Iff.rfl (fun h0 => ?_) (fun h0 => ?_)
  · have h5 : 0 ≤ a5.toInt := i_le.mp h0
    refine SIM.L hv (SIM.R hv ?_)
    rw [nI_nat (n := r) (by omega), nI_nat (n := t) (by omega), w1]
    refine SIM.ite Iff.rfl (fun c1 => ?_) (fun c1 => ?_)
    · rw [f1X, f1M, bd_some, bd_some]
      exact SIM.ret (h.fnd (by decide)) rfl
    have s1 : 0 ≤ (σ.1 24 r).toInt := by
      have : ¬ (σ.1 24 r).toInt < 0 := fun q => c1 (i_lt.mpr q)
      omega
    refine SIM.L hv2 (SIM.R hv2 ?_)
    rw [z1]
    refine SIM.ite Iff.rfl (fun c2 => ?_) (fun c2 => ?_)
    · have s2 : 0 ≤ (σ.1 24 t).toInt := i_le.mp c2
      unfold X10_reaches
      rw [nI_nat (n := r) (by omega), nI_nat (n := t) (by omega)]
      simp only [if_pos hv, if_pos hv2]
      have l1 : ((σ.1 24 r).toInt64 < a2.toInt64 + a5.toInt64) ↔ (σ.1 24 r).toInt < a2.toInt + a5.toInt := by rw [l_lt, l_of_i, l_add]
      have l2 : ((σ.1 24 t).toInt64 < a4.toInt64 + a5.toInt64) ↔ (σ.1 24 t).toInt < a4.toInt + a5.toInt := by rw [l_lt, l_of_i, l_add]
      have l3 : (a4.toInt64 + a5.toInt64 ≤ (σ.1 24 t).toInt64) ↔ a4.toInt + a5.toInt ≤ (σ.1 24 t).toInt := by rw [l_le, l_of_i, l_add]
      have far : ∀ (A : Option Int32) (B : Int32 → Option (Int32 × mS)), A = some 0 → A.bind (fun r18 => if r18 = 0 then bd (X10_found σ 2) (fun r22 s24 => some (r22, s24)) else B r18) = some ((-3), fndX σ 2) := fun A B e => by
        rw [e, Option.bind_some, if_pos rfl, f2X, bd_some]
      have near : ∀ (A : Option Int32) (B C : Option (Int32 × mS)), A = some 1 → A.bind (fun r18 => if r18 = 0 then C else B) = B := fun A B C e => by
        rw [e, Option.bind_some, if_neg (by decide)]
      by_cases b1 : a2 < 0
      · rw [far _ _ (if_pos b1), if_pos b1, f2M, bd_some]
        exact SIM.ret (h.fnd (by decide)) rfl
      have b1' : ¬ a2.toInt < 0 := fun q => b1 (i_lt.mpr q)
      rw [if_neg b1, if_neg b1]
      by_cases b3 : (σ.1 24 r).toInt < a2.toInt + a5.toInt
      · rw [far _ _ (if_pos (l1.mpr b3)), if_pos (l1.mpr b3), f2M, bd_some]
        by_cases b2 : a4 < 0
        · rw [if_pos b2]; exact SIM.ret (h.fnd (by decide)) rfl
        · rw [if_neg b2]; exact SIM.ret (h.fnd (by decide)) rfl
      rw [near _ _ _ (if_neg (fun q => b3 (l1.mp q))), if_neg (fun q => b3 (l1.mp q))]
      by_cases b2 : a4 < 0
      · rw [far _ _ (if_pos b2), if_pos b2, f2M, bd_some]
        exact SIM.ret (h.fnd (by decide)) rfl
      have b2' : ¬ a4.toInt < 0 := fun q => b2 (i_lt.mpr q)
      rw [if_neg b2, if_neg b2]
      by_cases b4 : (σ.1 24 t).toInt < a4.toInt + a5.toInt
      · rw [far _ _ (if_pos (l2.mpr b4)), if_neg (fun q => by have := l3.mp q; omega), f2M, bd_some]
        exact SIM.ret (h.fnd (by decide)) rfl
      rw [near _ _ _ (if_neg (fun q => b4 (l2.mp q))), if_pos (l3.mpr (by omega))]
      obtain ⟨n, hn, rfl⟩ := i_ex (a := a5) (m := 41) (by omega) (by omega)
      obtain ⟨s, hs, rfl⟩ := i_ex (a := a2) (m := 41) (by omega) (by omega)
      obtain ⟨d, hd, rfl⟩ := i_ex (a := a4) (m := 41) (by omega) (by omega)
      rw [nI_ti (n := n) (by omega), nI_ti (n := s) (by omega)] at b3
      rw [nI_ti (n := n) (by omega), nI_ti (n := d) (by omega)] at b4
      rw [nI_nat (n := n) (by omega), nI_nat (n := s) (by omega), nI_nat (n := d) (by omega), if_pos ⟨⟨⟨b1, b2⟩, fun q => by have := i_lt.mp q; rw [i_zero] at this; omega⟩, by omega, by omega⟩, copyM1 μ hr (by omega)]
      show SIM _ ((lp big (un2 (X11_copy_b143 (nI t) (nI d) (nI n))) (mrow μ 3 (cpT (μ.1 2) (μ.1 3) (40 * r + s) 0 n), 0)).bind _)
      rw [copyM2 _ ht (by omega), mrow_at, mrow_ne (by decide)]
      refine SIM.ret ?_ rfl
      rw [va_cpy_row]
      refine (h.m3 _).item ht (fun q hq hqr i hi => ?_) (fun i hi => ?_)
      · rw [mrow_ne (by decide)]
        unfold cpT
        rw [if_neg (by omega)]
      · unfold va_cpy cpT
        by_cases hin : d ≤ i ∧ i < d + n
        · rw [if_pos hin, if_pos (by omega), if_pos (by omega), Nat.zero_add, show 40 * r + s + (40 * t + i - (40 * t + d) - 0) = 40 * r + (s + (i - d)) by omega, w4 _ (by omega)]
        · rw [if_neg hin, if_neg (by omega)]
          exact z4 i hi
    · rw [f1X, f1M, bd_some, bd_some]
      exact SIM.ret (h.fnd (by decide)) rfl
  · rw [f5X, f5M, bd_some, bd_some]
    exact SIM.ret (h.fnd (by decide)) rfl

/-! mean, text, put -/
def smN (g : Nat → Int32) : Nat → Int64
  | 0 => 0
  | j + 1 => smN g j + (g j).toInt64
theorem smN_cong {f g : Nat → Int32} : ∀ {n : Nat}, (∀ i, i < n → f i = g i) → smN f n = smN g n
  | 0, _ => rfl
  | n + 1, h => by
    show smN f n + _ = smN g n + _
    rw [smN_cong (fun i hi => h i (by omega)), h n (by omega)]
theorem meanX (σ : mS) {r n : Nat} (hr : r < 6) (hn : n ≤ 40) (hs : (σ.1 24 r).toInt = (n : Int)) : lp big (un2 (X10_mean_b35 (nI r) σ)) (0, 0) = some (smN (σ.1 (16 + r)) n) :=
  lp_zero (b := un2 (X10_mean_b35 (nI r) σ)) (n := n) (res := smN (σ.1 (16 + r)) n) (fun j x => (smN (σ.1 (16 + r)) j, x)) (by omega) (fun j x hj hx => by
    show X10_mean_b35 (nI r) σ (smN (σ.1 (16 + r)) j) x = some (.inl (smN (σ.1 (16 + r)) j + (σ.1 (16 + r) j).toInt64, x + 1))
    unfold X10_mean_b35
    have hxn : x.toNatClampNeg = j := by rw [i_nat, hx]; rfl
    rw [nI_nat (by omega), if_neg (nle (by rw [hs, hx]; omega)), if_pos (vinI hr (by decide)), if_pos (vin_iff.mpr (by omega)), hxn]) (fun x hx => by
    show X10_mean_b35 (nI r) σ (smN (σ.1 (16 + r)) n) x = _
    unfold X10_mean_b35
    rw [nI_nat (by omega), if_pos (ile (by rw [hs, hx]; omega))])
theorem meanM (μ : mS) {r n : Nat} (hr : r < 6) (hn : n ≤ 40) (hs : (μ.1 1 r).toInt = (n : Int)) : lp big (un2 (X11_mean_b45 μ (nI r))) (0, 0) = some (smN (fun i => μ.1 2 (40 * r + i)) n) :=
  lp_zero (b := un2 (X11_mean_b45 μ (nI r))) (n := n) (res := smN (fun i => μ.1 2 (40 * r + i)) n) (fun j x => (smN (fun i => μ.1 2 (40 * r + i)) j, x)) (by omega) (fun j x hj hx => by
    show X11_mean_b45 μ (nI r) (smN (fun i => μ.1 2 (40 * r + i)) j) x = some (.inl (smN (fun i => μ.1 2 (40 * r + i)) j + (μ.1 2 (40 * r + j)).toInt64, x + 1))
    unfold X11_mean_b45
    have e1 := i_ix (c := 40) (cn := 40) (by decide) (nI_ti (n := r) (by omega)) hx (by omega)
    have e2 := i_ixn (c := 40) (cn := 40) (by decide) (nI_ti (n := r) (by omega)) hx (by omega)
    rw [if_pos (vinI hr (by decide)), nI_nat (by omega), if_neg (nle (by rw [hs, hx]; omega)), if_pos (vin_iff.mpr (by rw [e1]; omega)), e2]) (fun x hx => by
    show X11_mean_b45 μ (nI r) (smN (fun i => μ.1 2 (40 * r + i)) n) x = _
    unfold X11_mean_b45
    rw [if_pos (vinI hr (by decide)), nI_nat (by omega), if_pos (ile (by rw [hs, hx]; omega))])
theorem sim_mean {σ μ : mS} (h : RR σ μ) (a1 : Int32) : SIM (X10_mean σ a1) (X11_mean μ a1) := by
  unfold X10_mean X11_mean
  by_cases hb : a1.toInt < 0 ∨ 6 ≤ a1.toInt
  · rw [refRow_bad hb, bd_some, if_neg (by decide), if_pos (isRowM_zero.mpr hb)]
    exact SIM.ret h rfl
  obtain ⟨r, hr, rfl⟩ := rowEx hb
  have hv : vin (nI r) 6 = true := vinI hr (by decide)
  obtain ⟨w1, w2, w3, w4⟩ := h.1 r hr
  rw [if_neg (rowY hr).2]
  refine SIM.R hv ?_
  rw [nI_nat (by omega), w1]
  by_cases hs : (σ.1 24 r).toInt < 0
  · rw [refRow_no hr hs, bd_some, if_neg (by decide), if_neg (nle hs), f1M, bd_some]
    exact SIM.ret (h.fnd (by decide)) rfl
  rw [refRow_ok hr (by omega), bd_some, if_pos rfl]
  refine SIM.L hv (SIM.R (ge0 (by omega)) (SIM.R hv ?_))
  by_cases hz : (σ.1 24 r).toInt = 0
  · rw [if_neg (fun q => by have := i_lt.mp q; rw [i_zero] at this; omega), if_pos (i_eq.mpr (by rw [hz, i_zero])), f4X, f4M, bd_some, bd_some]
    exact SIM.ret (h.fnd (by decide)) rfl
  have hl : ¬ (σ.1 24 r).toInt64 = 0 := fun q => by
    have h1 := l_eq.mp q
    rw [l_of_i] at h1
    have h2 : (0 : Int64).toInt = 0 := by decide
    omega
  have hn : (σ.1 24 r).toInt = ((σ.1 24 r).toInt.toNat : Int) := by omega
  rw [if_pos (i_lt.mpr (by rw [i_zero]; omega)), if_neg (fun q => hz (by rw [i_eq.mp q, i_zero])), meanX σ (n := (σ.1 24 r).toInt.toNat) hr (by omega) hn, meanM μ (n := (σ.1 24 r).toInt.toNat) hr (by omega) (by rw [w1]; exact hn)]
  show SIM (if ¬ (σ.1 24 r).toInt64 = 0 then _ else none) (if vin (nI r) 6 = true then if ¬ (σ.1 24 r).toInt64 = 0 then _ else none else none)
  refine SIM.L hl (SIM.R hv (SIM.R hl ?_))
  rw [smN_cong (f := fun i => μ.1 2 (40 * r + i)) (g := σ.1 (16 + r)) (fun i hi => w4 i (by omega))]
  exact SIM.ret (h.asked _) rfl
theorem sim_text {σ μ : mS} (h : RR σ μ) (a1 a2 : Int32) : SIM (X10_text σ a1 a2) (X11_text μ a1 a2) := by
  unfold X10_text X11_text
  by_cases hb : a1.toInt < 0 ∨ 4 ≤ a1.toInt
  · rw [if_pos (isText_zero.mpr hb), if_pos (isTextM_zero.mpr hb)]
    exact SIM.ret h rfl
  obtain ⟨r, hr, rfl⟩ := textEx hb
  rw [if_neg (textY hr).1, if_neg (textY hr).2]
  refine SIM.ite Iff.rfl (fun h40 => SIM.ite Iff.rfl (fun h0 => ?_) (fun h0 => ?_)) (fun _ => SIM.ret h rfl)
  · have g0 : 0 ≤ a2.toInt := i_le.mp h0
    have g40 : a2.toInt ≤ 60 := i_le.mp h40
    have hv : vin (nI r) 4 = true := vinI hr (by decide)
    have e2 : a2.toInt = (a2.toInt.toNat : Int) := by omega
    refine SIM.L hv (SIM.R hv ?_)
    rw [fillB_eq _ _ _ _ (by decide), bd_some, if_pos hv, nI_nat (by omega), textM_lp _ (nI_ti (by omega)) hr e2 (by omega)]
    obtain ⟨hW, hT, ⟨c, hG⟩, hO⟩ := h
    refine SIM.ret ⟨?_, ?_, ⟨c, ?_⟩, ?_⟩ rfl
    · exact hW.of (by rw [mwI_rk (by omega), mrow_ne (by omega)]) (fun q hq => by rw [mwI_rk (by omega), mrow_ne (by omega)]) (by rw [mrow_ne (by omega), mwI_rk (by omega)]) (by rw [mrow_ne (by omega), mwI_rk (by omega)])
    · refine hT.set (r := r) (v := a2) (by omega) (fun q hq => ?_) (fun q hq hqr => ?_) (fun q hq => ?_) (fun q hq hqr i hi => ?_) (fun i hi => ?_)
      · rw [mwI_row, mrow_at, mrow_ne (by omega)]
        by_cases e : q = r
        · subst e; rw [upd_at, if_pos rfl]
        · rw [upd_ne e, if_neg e]
      · rw [mwI_rk (by omega), mrow_ne (by omega)]
      · rw [mrow_ne (by decide), mwI_row, mrow_at]
        by_cases e : q = r
        · subst e; rw [upd_at, if_pos rfl]
        · rw [upd_ne e, if_neg e]
      · rw [mrow_at, seg_out (by omega), mwI_rk (by decide)]
      · rw [mrow_at, seg_in (by omega), mwI_rk (by omega), mrow_at, seg_in (by omega)]
        decide
    · refine hG.of (fun k hk => ?_) ?_ ?_ ?_ ?_ (fun q hq => ?_) (fun k hk => ?_)
      · unfold gX at hk
        rw [mwI_rk (by omega), mrow_ne (by omega)]
      all_goals rw [mrow_ne (by omega), mwI_rk (by omega)]
    · refine hO.of ?_ ?_ rfl (fun f hf => ?_) ?_ ?_ rfl (fun f hf => ?_)
      · rw [mwI_rk (by omega), mrow_ne (by omega)]
      · rw [mwI_rk (by omega), mrow_ne (by omega)]
      · rw [mwI_rk (by omega), mrow_ne (by omega)]
      all_goals rw [mrow_ne (by omega), mwI_rk (by omega)]
  · rw [f5X, f5M, bd_some, bd_some]
    exact SIM.ret (h.fnd (by decide)) rfl
theorem refText_bad {σ : mS} {a : Int32} (h : a.toInt < 0 ∨ 4 ≤ a.toInt) : X10_refusedText σ a = some ((-1), σ) := by
  unfold X10_refusedText
  rw [if_pos (isText_zero.mpr h)]
theorem refText_no {σ : mS} {r : Nat} (hr : r < 4) (h : (σ.1 48 r).toInt < 0) : X10_refusedText σ (nI r) = some ((-3), fndX σ 1) := by
  unfold X10_refusedText
  rw [if_neg (textY hr).1, if_pos (vinI hr (by decide)), nI_nat (by omega), if_neg (nle h), f1X, bd_some]
theorem refText_ok {σ : mS} {r : Nat} (hr : r < 4) (h : 0 ≤ (σ.1 48 r).toInt) : X10_refusedText σ (nI r) = some (0, σ) := by
  unfold X10_refusedText
  rw [if_neg (textY hr).1, if_pos (vinI hr (by decide)), nI_nat (by omega), if_pos (ge0 h)]
theorem RR.byte {σ μ : mS} (h : RR σ μ) {r : Nat} (hr : r < 4) {F G : Nat → Int32} (hG2 : ∀ q, q < 4 → q ≠ r → ∀ i, i < 60 → G (60 * q + i) = μ.1 5 (60 * q + i)) (hc : ∀ i : Nat, (i : Int) < (σ.1 48 r).toInt → G (60 * r + i) = F i) : RR (mrow σ (40 + r) F) (mrow μ 5 G) := by
  obtain ⟨hW, hT, ⟨c, hG⟩, hO⟩ := h
  refine ⟨?_, ?_, ⟨c, ?_⟩, ?_⟩
  · exact hW.of (mrow_ne (by omega)) (fun q hq => mrow_ne (by omega)) (mrow_ne (by omega)) (mrow_ne (by omega))
  · obtain ⟨w1, w2, w3, w4⟩ := hT r hr
    refine hT.set (r := r) (v := σ.1 48 r) ⟨w2, w3⟩ (fun q hq => ?_) (fun q hq hqr => ?_) (fun q hq => ?_) (fun q hq hqr i hi => ?_) (fun i hi => ?_)
    · rw [mrow_ne (by omega)]
      by_cases e : q = r
      · subst e; rw [if_pos rfl]
      · rw [if_neg e]
    · rw [mrow_ne (by omega)]
    · rw [mrow_ne (by omega)]
      by_cases e : q = r
      · subst e; rw [if_pos rfl, w1]
      · rw [if_neg e]
    · rw [mrow_at, hG2 q hq hqr i hi]
    · rw [mrow_at, mrow_at, hc i hi]
  · refine hG.of (fun k hk => ?_) ?_ ?_ ?_ ?_ (fun q hq => ?_) (fun k hk => ?_)
    · unfold gX at hk
      rw [mrow_ne (by omega)]
    all_goals rw [mrow_ne (by omega)]
  · refine hO.of ?_ ?_ rfl (fun f hf => ?_) ?_ ?_ rfl (fun f hf => ?_)
    all_goals rw [mrow_ne (by omega)]
theorem sim_put {σ μ : mS} (h : RR σ μ) (a1 a2 a3 : Int32) : SIM (X10_put σ a1 a2 a3) (X11_put μ a1 a2 a3) := by
  unfold X10_put X11_put
  by_cases hb : a1.toInt < 0 ∨ 4 ≤ a1.toInt
  · rw [refText_bad hb, bd_some, if_neg (by decide), if_pos (isTextM_zero.mpr hb)]
    exact SIM.ret h rfl
  obtain ⟨r, hr, rfl⟩ := textEx hb
  have hv : vin (nI r) 4 = true := vinI hr (by decide)
  obtain ⟨w1, w2, w3, w4⟩ := h.2.1 r hr
  rw [if_neg (textY hr).2]
  refine SIM.R hv ?_
  rw [nI_nat (by omega), w1]
  by_cases hs : (σ.1 48 r).toInt < 0
  · rw [refText_no hr hs, bd_some, if_neg (by decide), if_neg (nle hs), f1M, bd_some]
    exact SIM.ret (h.fnd (by decide)) rfl
  rw [refText_ok hr (by omega), bd_some, if_pos rfl]
  refine SIM.R (ge0 (by omega)) (SIM.R hv ?_)
  by_cases hi : a2.toInt < 0 ∨ (σ.1 48 r).toInt ≤ a2.toInt
  · refine SIM.R ((in0_zero (by omega)).mpr hi) ?_
    rw [f2M, bd_some]
    by_cases h0 : a2 < 0
    · refine SIM.L h0 ?_
      rw [f2X, bd_some]
      exact SIM.ret (h.fnd (by decide)) rfl
    · refine SIM.nL h0 (SIM.L hv (SIM.nL (fun q => ?_) ?_))
      · have := i_lt.mp q
        have : ¬ a2.toInt < 0 := fun z => h0 (i_lt.mpr z)
        omega
      · rw [f2X, bd_some]
        exact SIM.ret (h.fnd (by decide)) rfl
  obtain ⟨i, hi1, rfl⟩ := i_ex (a := a2) (m := 60) (by omega) (by omega)
  have ei : (nI i).toInt = (i : Int) := nI_ti (by omega)
  have er : (nI r).toInt = (r : Int) := nI_ti (by omega)
  have ix := i_ixn (c := 60) (cn := 60) (by decide) er ei (by omega)
  have vx : vin (((60 : Int32) * nI r) + nI i) 240 = true := vin_iff.mpr (by rw [i_ix (c := 60) (cn := 60) (by decide) er ei (by omega)]; omega)
  have vi : vin (nI i) 60 = true := vinI hi1 (by decide)
  refine SIM.nL (fun q => by have := i_lt.mp q; rw [i_zero] at this; omega) (SIM.L hv (SIM.L (i_lt.mpr (by omega)) (SIM.L hv (SIM.L vi (SIM.L hv (SIM.L vi (SIM.nR (fun q => hi ((in0_zero (by omega)).mp q)) (SIM.R vx (SIM.R vx ?_)))))))))
  rw [nI_nat (n := i) (by omega), ix, w4 i (by omega)]
  refine SIM.ret ?_ rfl
  refine h.byte hr (fun q hq hqr j hj => upd_ne (by omega)) (fun j hj => ?_)
  by_cases e : j = i
  · subst e; rw [upd_at, upd_at]
  · rw [upd_ne (by omega), upd_ne e]
    exact w4 j hj

/-! reading a text: both sides alike -/
theorem lpR {S R S' R' : Type} {b : S → Option (S ⊕ R)} {b' : S' → Option (S' ⊕ R')} (I : Nat → S → S' → Prop) {Q : R → R' → Prop} (h : ∀ n s s', I n s s' → (∃ t t' n', n' < n ∧ b s = some (.inl t) ∧ b' s' = some (.inl t') ∧ I n' t t') ∨ (∃ r r', b s = some (.inr r) ∧ b' s' = some (.inr r') ∧ Q r r')) : ∀ f n s s', I n s s' → n < f → ∃ r r', lp f b s = some r ∧ lp f b' s' = some r' ∧ Q r r'
  | 0, n, s, s', _, hf => absurd hf (Nat.not_lt_zero _)
  | f + 1, n, s, s', hI, hf => by
    rcases h n s s' hI with ⟨t, t', n', hn, e1, e2, hI'⟩ | ⟨r, r', e1, e2, hQ⟩
    · obtain ⟨r, r', g1, g2, g3⟩ := lpR I h f n' t t' hI' (by omega)
      refine ⟨r, r', ?_, ?_, g3⟩
      · unfold lp; rw [e1]; exact g1
      · unfold lp; rw [e2]; exact g2
    · refine ⟨r, r', ?_, ?_, hQ⟩
      · unfold lp; rw [e1]
      · unfold lp; rw [e2]
theorem lp_l {S R : Type} {b : S → Option (S ⊕ R)} {s t : S} {f : Nat} (e : b s = some (.inl t)) : lp (f + 1) b s = lp f b t := by
  show (match b s with | none => none | some (.inl s') => lp f b s' | some (.inr r) => some r) = _
  rw [e]
theorem lp_r {S R : Type} {b : S → Option (S ⊕ R)} {s : S} {r : R} {f : Nat} (e : b s = some (.inr r)) : lp (f + 1) b s = some r := by
  show (match b s with | none => none | some (.inl s') => lp f b s' | some (.inr r) => some r) = _
  rw [e]
theorem i_dbl {x : Int32} {p : Nat} (hx : x.toInt = (p : Int)) (hp : p < 1000) : (2 * x).toInt = ((2 * p : Nat) : Int) := by
  have e2 : (2 : Int32).toInt = 2 := by decide
  rw [i_mul (by rw [e2, hx]; omega) (by rw [e2, hx]; omega), e2, hx]
  omega
theorem kindBy_eq (σ : mS) (a : Int32) : X6_kindBy σ a = some (X11_kindOf a) := by
  by_cases h0 : a = 112
  · subst h0; rfl
  by_cases h1 : a = 119
  · subst h1; rfl
  by_cases h2 : a = 100
  · subst h2; rfl
  by_cases h3 : a = 104
  · subst h3; rfl
  by_cases h4 : a = 108
  · subst h4; rfl
  by_cases h5 : a = 115
  · subst h5; rfl
  have st : ∀ x : Int32, x = 0 ∨ x = 1 ∨ x = 2 ∨ x = 3 ∨ x = 4 ∨ x = 5 → un1 (X6_kindBy_b2 a) x = some (.inl (x + 1)) := by
    intro x hx
    show X6_kindBy_b2 a x = _
    unfold X6_kindBy_b2
    rcases hx with rfl | rfl | rfl | rfl | rfl | rfl
    · rw [if_neg (by decide), if_pos (by decide), if_neg (fun q => h0 q.symm)]
    · rw [if_neg (by decide), if_pos (by decide), if_neg (fun q => h1 q.symm)]
    · rw [if_neg (by decide), if_pos (by decide), if_neg (fun q => h2 q.symm)]
    · rw [if_neg (by decide), if_pos (by decide), if_neg (fun q => h3 q.symm)]
    · rw [if_neg (by decide), if_pos (by decide), if_neg (fun q => h4 q.symm)]
    · rw [if_neg (by decide), if_pos (by decide), if_neg (fun q => h5 q.symm)]
  have e6 : un1 (X6_kindBy_b2 a) 6 = some (.inr (.inl ())) := by
    show X6_kindBy_b2 a 6 = _
    unfold X6_kindBy_b2
    rw [if_pos (by decide)]
  unfold X6_kindBy X11_kindOf
  rw [if_neg h0, if_neg h1, if_neg h2, if_neg h3, if_neg h4, if_neg h5]
  have e : lp big (un1 (X6_kindBy_b2 a)) 0 = some (.inl ()) := by
    show lp (999999 + 1) _ _ = _
    rw [lp_l (st 0 (by decide)), show (0 : Int32) + 1 = 1 by decide]
    show lp (999998 + 1) _ _ = _
    rw [lp_l (st 1 (by decide)), show (1 : Int32) + 1 = 2 by decide]
    show lp (999997 + 1) _ _ = _
    rw [lp_l (st 2 (by decide)), show (2 : Int32) + 1 = 3 by decide]
    show lp (999996 + 1) _ _ = _
    rw [lp_l (st 3 (by decide)), show (3 : Int32) + 1 = 4 by decide]
    show lp (999995 + 1) _ _ = _
    rw [lp_l (st 4 (by decide)), show (4 : Int32) + 1 = 5 by decide]
    show lp (999994 + 1) _ _ = _
    rw [lp_l (st 5 (by decide)), show (5 : Int32) + 1 = 6 by decide]
    show lp (999993 + 1) _ _ = _
    exact lp_r e6
  rw [e]
  rfl
theorem kindOf_range (a : Int32) : X11_kindOf a = -1 ∨ ∃ r, r < 6 ∧ X11_kindOf a = nI r := by
  unfold X11_kindOf
  split
  · exact Or.inr ⟨0, by decide, rfl⟩
  split
  · exact Or.inr ⟨1, by decide, rfl⟩
  split
  · exact Or.inr ⟨2, by decide, rfl⟩
  split
  · exact Or.inr ⟨3, by decide, rfl⟩
  split
  · exact Or.inr ⟨4, by decide, rfl⟩
  split
  · exact Or.inr ⟨5, by decide, rfl⟩
  · exact Or.inl rfl
/-- the fault of a figure's place: none; the text's end, or the place -/
def dg (T : Nat → Int32) (n p : Nat) : Option Nat := if n ≤ p then some n else if T p < 48 then some p else if T p ≤ 57 then none else some p
def dg2 (T : Nat → Int32) (n p : Nat) : Option Nat := match dg T n p with | some v => some v | none => dg T n (p + 1)
theorem dg_cong {T T' : Nat → Int32} {n p : Nat} (h : ∀ i, i < n → T i = T' i) : dg T n p = dg T' n p := by
  unfold dg
  by_cases hp : n ≤ p
  · rw [if_pos hp, if_pos hp]
  · rw [if_neg hp, if_neg hp, h p (by omega)]
theorem dg2_cong {T T' : Nat → Int32} {n p : Nat} (h : ∀ i, i < n → T i = T' i) : dg2 T n p = dg2 T' n p := by
  unfold dg2
  rw [dg_cong h, dg_cong h]
theorem dgX {s : mS} {i1 n fr p q : Nat} {x3 : Int32} (hn : n ≤ 60) (hfr : fr ≤ 61) (hp : p < 6) (hx : x3.toInt = (p : Int)) (hq : q = fr + 2 * p ∨ q = fr + 2 * p + 1) : un1 (X6_readCard_b25 i1 (nI n) (nI fr) s x3) (nI q) = match dg (s.1 (40 + i1)) n q with | some v => some (.inr (.inr (.inr (.inr (nI v, s))))) | none => some (.inl (nI q + 1)) := by
  show X6_readCard_b25 i1 (nI n) (nI fr) s x3 (nI q) = _
  unfold X6_readCard_b25
  have e1 : ((nI fr + (2 * x3)) + 1).toInt = ((fr + 2 * p + 1 : Nat) : Int) := by
    have a1 : (2 * x3).toInt = ((2 * p : Nat) : Int) := i_dbl hx (by omega)
    exact i32_add (i32_add (nI_ti (by omega)) a1 (by omega)) (b := 1) (by decide) (by omega)
  rw [if_neg (fun z => by have := i_lt.mp z; rw [e1, nI_ti (by omega)] at this; omega)]
  unfold dg
  by_cases h1 : n ≤ q
  · rw [if_pos h1, if_neg (fun z => by have := i_lt.mp z; rw [nI_ti (by omega), nI_ti (by omega)] at this; omega)]
  · rw [if_neg h1, if_pos (i_lt.mpr (by rw [nI_ti (by omega), nI_ti (by omega)]; omega)), if_pos (vinI (by omega) (by decide)), nI_nat (by omega)]
    by_cases h2 : s.1 (40 + i1) q < 48
    · rw [if_pos h2, if_pos h2]
    · rw [if_neg h2, if_neg h2, if_pos (vinI (by omega) (by decide))]
      by_cases h3 : s.1 (40 + i1) q ≤ 57
      · rw [if_pos h3, if_pos h3]
      · rw [if_neg h3, if_neg h3]
theorem dgX2 {s : mS} {i1 n fr p : Nat} {x3 : Int32} (hn : n ≤ 60) (hfr : fr ≤ 61) (hp : p < 6) (hx : x3.toInt = (p : Int)) : lp big (un1 (X6_readCard_b25 i1 (nI n) (nI fr) s x3)) (nI fr + (2 * x3)) = match dg2 (s.1 (40 + i1)) n (fr + 2 * p) with | some v => some (.inr (.inr (.inr (nI v, s)))) | none => some (.inl ()) := by
  have a1 : (2 * x3).toInt = ((2 * p : Nat) : Int) := i_dbl hx (by omega)
  have e0 : nI fr + (2 * x3) = nI (fr + 2 * p) := i_nI (i32_add (nI_ti (by omega)) a1 (by omega))
  rw [e0]
  have st1 := dgX (s := s) (i1 := i1) hn hfr hp hx (q := fr + 2 * p) (Or.inl rfl)
  have st2 := dgX (s := s) (i1 := i1) hn hfr hp hx (q := fr + 2 * p + 1) (Or.inr rfl)
  unfold dg2
  show lp (999999 + 1) _ _ = _
  cases h1 : dg (s.1 (40 + i1)) n (fr + 2 * p) with
  | some v =>
    rw [h1] at st1
    rw [lp_r st1]
  | none =>
    rw [h1] at st1
    have e1 : nI (fr + 2 * p) + 1 = nI (fr + 2 * p + 1) := i_nI (i32_add (nI_ti (by omega)) (b := 1) (by decide) (by omega))
    rw [lp_l st1, e1]
    show lp (999998 + 1) _ _ = _
    cases h2 : dg (s.1 (40 + i1)) n (fr + 2 * p + 1) with
    | some v =>
      rw [h2] at st2
      rw [lp_r st2]
    | none =>
      rw [h2] at st2
      rw [lp_l st2]
      show lp (999997 + 1) _ _ = _
      refine lp_r ?_
      show X6_readCard_b25 i1 (nI n) (nI fr) s x3 _ = _
      unfold X6_readCard_b25
      have e2 : nI (fr + 2 * p + 1) + 1 = nI (fr + 2 * p + 2) := i_nI (i32_add (nI_ti (by omega)) (b := 1) (by decide) (by omega))
      rw [e0, e1, e2, if_pos (i_lt.mpr (by rw [nI_ti (by omega), nI_ti (by omega)]; omega))]
theorem dgM {m : mS} {t n fr p q : Nat} {x2 : Int32} (hn : n ≤ 60) (hfr : fr ≤ 61) (hp : p < 6) (ht : t < 4) (hx : x2.toInt = (p : Int)) (hl : m.1 4 t = nI n) (hq : q < 2) : un1 (X11_numbers_b21 (nI t) (nI fr) m x2) (nI q) = match dg (fun i => m.1 5 (60 * t + i)) n (fr + 2 * p + q) with | some v => some (.inr (.inr (.inr (.inr (nI v, m))))) | none => some (.inl (nI q + 1)) := by
  show X11_numbers_b21 (nI t) (nI fr) m x2 (nI q) = _
  unfold X11_numbers_b21
  have a1 : (2 * x2).toInt = ((2 * p : Nat) : Int) := i_dbl hx (by omega)
  have e0 : (nI fr + (2 * x2)) + nI q = nI (fr + 2 * p + q) := i_nI (i32_add (i32_add (nI_ti (by omega)) a1 (by omega)) (nI_ti (by omega)) (by omega))
  rw [if_neg (nle (by rw [nI_ti (by omega)]; show (q : Int) < 2; omega)), if_pos (vinI ht (by decide)), nI_nat (by omega), hl, e0]
  unfold dg X11_isFigure X11_lesser
  by_cases h1 : n ≤ fr + 2 * p + q
  · rw [if_pos h1, if_pos (ile (by rw [nI_ti (by omega), nI_ti (by omega)]; omega)), if_pos (vinI ht (by decide)), if_pos (ile (by rw [nI_ti (by omega), nI_ti (by omega)]; omega))]
  · have ix := i_ixn (c := 60) (cn := 60) (by decide) (nI_ti (n := t) (by omega)) (nI_ti (n := fr + 2 * p + q) (by omega)) (by omega)
    have vx : vin (((60 : Int32) * nI t) + nI (fr + 2 * p + q)) 240 = true := vin_iff.mpr (by rw [i_ix (c := 60) (cn := 60) (by decide) (nI_ti (n := t) (by omega)) (nI_ti (n := fr + 2 * p + q) (by omega)) (by omega)]; omega)
    have nl : ¬ nI n ≤ nI (fr + 2 * p + q) := nle (by rw [nI_ti (by omega), nI_ti (by omega)]; omega)
    rw [if_neg h1, if_neg nl, if_pos vx, ix, Option.bind_some, if_pos (vinI ht (by decide)), if_neg nl]
    by_cases h2 : m.1 5 (60 * t + (fr + 2 * p + q)) < 48
    · rw [if_pos h2, if_pos (in_zero.mpr (Or.inl (i_lt.mp h2)))]
    · rw [if_neg h2]
      by_cases h3 : m.1 5 (60 * t + (fr + 2 * p + q)) ≤ 57
      · rw [if_pos h3, if_neg (fun z => ?_)]
        rcases in_zero.mp z with z | z
        · exact h2 (i_lt.mpr z)
        · have := i_le.mp h3
          have e57 : (57 : Int32).toInt = 57 := by decide
          have e57' : (57 : Int64).toInt = 57 := by decide
          omega
      · rw [if_neg h3, if_pos (in_zero.mpr (Or.inr ?_))]
        have e57 : (57 : Int32).toInt = 57 := by decide
        have e57' : (57 : Int64).toInt = 57 := by decide
        have : ¬ (m.1 5 (60 * t + (fr + 2 * p + q))).toInt ≤ 57 := fun z => h3 (i_le.mpr (by rw [e57]; exact z))
        omega
theorem dgM2 {m : mS} {t n fr p : Nat} {x2 : Int32} (hn : n ≤ 60) (hfr : fr ≤ 61) (hp : p < 6) (ht : t < 4) (hx : x2.toInt = (p : Int)) (hl : m.1 4 t = nI n) : lp big (un1 (X11_numbers_b21 (nI t) (nI fr) m x2)) 0 = match dg2 (fun i => m.1 5 (60 * t + i)) n (fr + 2 * p) with | some v => some (.inr (.inr (.inr (nI v, m)))) | none => some (.inl ()) := by
  have st1 := dgM hn hfr hp ht hx hl (q := 0) (by decide)
  have st2 := dgM hn hfr hp ht hx hl (q := 1) (by decide)
  rw [Nat.add_zero] at st1
  unfold dg2
  show lp (999999 + 1) _ (nI 0) = _
  cases h1 : dg (fun i => m.1 5 (60 * t + i)) n (fr + 2 * p) with
  | some v =>
    rw [h1] at st1
    rw [lp_r st1]
  | none =>
    rw [h1] at st1
    rw [lp_l st1, show nI 0 + 1 = nI 1 by decide]
    show lp (999998 + 1) _ _ = _
    cases h2 : dg (fun i => m.1 5 (60 * t + i)) n (fr + 2 * p + 1) with
    | some v =>
      rw [h2] at st2
      rw [lp_r st2]
    | none =>
      rw [h2] at st2
      rw [lp_l st2]
      show lp (999997 + 1) _ _ = _
      refine lp_r ?_
      show X11_numbers_b21 (nI t) (nI fr) m x2 _ = _
      unfold X11_numbers_b21
      rw [if_pos (by decide)]

/-! a card read -/
def onB (f : Nat → Int32) (b : Nat) (num : Int32) : Nat → Bool
  | 0 => false
  | p + 1 => onB f b num p || decide (f (b + p) = num)
theorem onB_iff {f : Nat → Int32} {b : Nat} {num : Int32} : ∀ {p : Nat}, onB f b num p = true ↔ ∃ q, q < p ∧ f (b + q) = num
  | 0 => by
    constructor
    · intro h; cases h
    · rintro ⟨q, h, -⟩; exact absurd h (Nat.not_lt_zero _)
  | p + 1 => by
    show (onB f b num p || decide (f (b + p) = num)) = true ↔ _
    rw [Bool.or_eq_true, onB_iff, decide_eq_true_iff]
    constructor
    · rintro (⟨q, h1, h2⟩ | h)
      · exact ⟨q, by omega, h2⟩
      · exact ⟨p, by omega, h⟩
    · rintro ⟨q, h1, h2⟩
      by_cases e : q = p
      · subst e; exact Or.inr h2
      · exact Or.inl ⟨q, by omega, h2⟩
theorem isOn_eq (m : mS) {k p : Nat} {a2 : Int32} (hk : k < 4) (hp : p ≤ 6) (ha : a2.toInt = (p : Int)) (num : Int32) : X11_isOn m (nI k) a2 num = some (if onB (m.1 9) (6 * k) num p = true then 1 else 0) := by
  unfold X11_isOn
  have H := lp_zero (b := un2 (X11_isOn_b6 m (nI k) a2 num)) (n := p) (res := if onB (m.1 9) (6 * k) num p = true then (1 : Int32) else 0) (fun j x => (if onB (m.1 9) (6 * k) num j = true then (1 : Int32) else 0, x)) (by omega) (fun j x hj hx => by
    show X11_isOn_b6 m (nI k) a2 num (if onB (m.1 9) (6 * k) num j = true then (1 : Int32) else 0) x = some (.inl (if (onB (m.1 9) (6 * k) num j || decide (m.1 9 (6 * k + j) = num)) = true then (1 : Int32) else 0, x + 1))
    unfold X11_isOn_b6
    have e1 := i_ix (c := 6) (cn := 6) (by decide) (nI_ti (n := k) (by omega)) hx (by omega)
    have e2 := i_ixn (c := 6) (cn := 6) (by decide) (nI_ti (n := k) (by omega)) hx (by omega)
    rw [if_neg (nle (by rw [ha, hx]; omega)), if_pos (vin_iff.mpr (by rw [e1]; omega) : vin (((6 : Int32) * nI k) + x) 24 = true), e2]
    cases onB (m.1 9) (6 * k) num j with
    | true => rfl
    | false =>
      by_cases h : m.1 9 (6 * k + j) = num
      · rw [if_pos h]; simp [h]
      · rw [if_neg h]; simp [h]) (fun x hx => by
    show X11_isOn_b6 m (nI k) a2 num _ x = _
    unfold X11_isOn_b6
    rw [if_pos (ile (by rw [ha, hx]; omega))])
  have H2 : lp big (un2 (X11_isOn_b6 m (nI k) a2 num)) (0, 0) = _ := H
  rw [H2, Option.bind_some]
  show (if (if onB (m.1 9) (6 * k) num p = true then (1 : Int32) else 0) = 0 ∨ (if onB (m.1 9) (6 * k) num p = true then (1 : Int32) else 0) = 1 then _ else none) = _
  rw [if_pos]
  cases onB (m.1 9) (6 * k) num p
  · exact Or.inl rfl
  · exact Or.inr rfl
/-- p places of card k, alike on both sides, in order -/
def CP (s m : mS) (k p : Nat) : Prop := (∀ q, q < p → s.1 (80 + k) q = m.1 9 (6 * k + q) ∧ ∃ n, 1 ≤ n ∧ n ≤ 12 ∧ m.1 9 (6 * k + q) = nI n) ∧ ∀ q q', q < p → q' < p → m.1 9 (6 * k + q) = m.1 9 (6 * k + q') → q = q'
/-- what a card's reading leaves -/
def FrC (s0 m0 s m : mS) (k : Nat) : Prop := (∀ q, q ≠ 80 + k → s.1 q = s0.1 q) ∧ s.2 = s0.2 ∧ (∀ q, q ≠ 9 → m.1 q = m0.1 q) ∧ (∀ i, i < 6 * k → m.1 9 i = m0.1 9 i) ∧ m.2 = m0.2
theorem dg2_none {T : Nat → Int32} {n p : Nat} (h : dg2 T n p = none) : p + 1 < n := by
  unfold dg2 dg at h
  by_cases h1 : n ≤ p
  · rw [if_pos h1] at h; cases h
  · rw [if_neg h1] at h
    by_cases h2 : T p < 48
    · rw [if_pos h2] at h; cases h
    · rw [if_neg h2] at h
      by_cases h3 : T p ≤ 57
      · rw [if_pos h3] at h
        dsimp only at h
        by_cases h4 : n ≤ p + 1
        · rw [if_pos h4] at h; cases h
        · omega
      · rw [if_neg h3] at h; cases h
theorem dg_le {T : Nat → Int32} {n p v : Nat} (h : dg T n p = some v) : v ≤ n := by
  unfold dg at h
  by_cases h1 : n ≤ p
  · rw [if_pos h1] at h; cases h; omega
  · rw [if_neg h1] at h
    by_cases h2 : T p < 48
    · rw [if_pos h2] at h; cases h; omega
    · rw [if_neg h2] at h
      by_cases h3 : T p ≤ 57
      · rw [if_pos h3] at h; cases h
      · rw [if_neg h3] at h; cases h; omega
theorem dg2_le {T : Nat → Int32} {n p v : Nat} (h : dg2 T n p = some v) : v ≤ n := by
  unfold dg2 at h
  cases h1 : dg T n p with
  | some w => rw [h1] at h; cases h; exact dg_le h1
  | none => rw [h1] at h; exact dg_le h
/-- the number that two figures tell -/
def nm2 (T : Nat → Int32) (q : Nat) : Int32 := ((((T q) - 48) * 10) + (T (q + 1))) - 48
theorem card_sim {s0 m0 : mS} {t n fr k : Nat} (hn : n ≤ 60) (hfr : fr ≤ 60) (ht : t < 4) (hk : k < 4) (hs : s0.1 56 2 = nI k) (hl : m0.1 4 t = nI n) (hT : ∀ i, i < n → m0.1 5 (60 * t + i) = s0.1 (40 + t) i) : ∃ v s m, X6_readCard s0 t (nI n) (nI fr) = some (v, s) ∧ X11_numbers m0 (nI t) (nI k) (nI fr) = some (v, m) ∧ FrC s0 m0 s m k ∧ ((∃ u, u ≤ 60 ∧ v = nI u) ∨ (v = -9 ∧ CP s m k 6 ∧ fr + 12 ≤ n)) := by
  have key := lpR (b := un3 (X6_readCard_b6 t (nI n) (nI fr))) (b' := un2 (X11_numbers_b3 (nI t) (nI k) (nI fr)))
    (I := fun d q q' => ∃ p, p + d = 6 ∧ q.2.2.toInt = (p : Int) ∧ q'.2.toInt = (p : Int) ∧ FrC s0 m0 q.1 q'.1 k ∧ CP q.1 q'.1 k p ∧ (∀ v, 1 ≤ v → v ≤ 12 → bt q.2.1 v = onB (q'.1.1 9) (6 * k) (nI v) p) ∧ (p = 0 ∨ fr + 2 * p ≤ n))
    (Q := fun r r' => (∃ s m, r = .inl s ∧ r' = .inl m ∧ FrC s0 m0 s m k ∧ CP s m k 6 ∧ fr + 12 ≤ n) ∨ (∃ v s m, r = .inr (nI v, s) ∧ r' = .inr (nI v, m) ∧ v ≤ 60 ∧ FrC s0 m0 s m k)) ?_ big 6 (s0, 0, 0) (m0, 0) ?_ (by decide)
  · obtain ⟨r, r', e1, e2, hQ⟩ := key
    unfold X6_readCard X11_numbers
    rw [e1, e2, Option.bind_some, Option.bind_some]
    rcases hQ with ⟨s, m, rfl, rfl, hF, hC, hf⟩ | ⟨v, s, m, rfl, rfl, hv, hF⟩
    · exact ⟨-9, s, m, rfl, rfl, hF, Or.inr ⟨rfl, hC, hf⟩⟩
    · exact ⟨nI v, s, m, rfl, rfl, hF, Or.inl ⟨v, hv, rfl⟩⟩
  · intro d q q' hI
    obtain ⟨s1, x2, x3⟩ := q
    obtain ⟨m1, y⟩ := q'
    obtain ⟨p, hpd, hx, hy, hF, hC, hseen, hpos⟩ := hI
    dsimp only at hx hy hF hC hseen
    show (∃ t1 t1' n', n' < d ∧ X6_readCard_b6 t (nI n) (nI fr) s1 x2 x3 = _ ∧ X11_numbers_b3 (nI t) (nI k) (nI fr) m1 y = _ ∧ _) ∨ (∃ r r', X6_readCard_b6 t (nI n) (nI fr) s1 x2 x3 = _ ∧ X11_numbers_b3 (nI t) (nI k) (nI fr) m1 y = _ ∧ _)
    unfold X6_readCard_b6 X11_numbers_b3
    by_cases h6 : 6 ≤ p
    · right
      rw [if_pos (ile (by rw [hx]; show (6 : Int) ≤ p; omega)), if_pos (ile (by rw [hy]; show (6 : Int) ≤ p; omega))]
      exact ⟨_, _, rfl, rfl, Or.inl ⟨s1, m1, rfl, rfl, hF, by rw [show 6 = p by omega]; exact hC, by omega⟩⟩
    have r40 : s1.1 (40 + t) = s0.1 (40 + t) := hF.1 _ (by omega)
    have r56 : s1.1 56 2 = nI k := by rw [hF.1 56 (by omega)]; exact hs
    have l4 : m1.1 4 t = nI n := by rw [hF.2.2.1 4 (by decide)]; exact hl
    have m5 : m1.1 5 = m0.1 5 := hF.2.2.1 5 (by decide)
    rw [if_neg (nle (by rw [hx]; show (p : Int) < 6; omega)), if_neg (nle (by rw [hy]; show (p : Int) < 6; omega)), dgX2 hn (by omega) (by omega) hx, dgM2 hn (by omega) (by omega) ht hy l4, r40, m5, dg2_cong (T := fun i => m0.1 5 (60 * t + i)) (T' := s0.1 (40 + t)) hT]
    cases hd : dg2 (s0.1 (40 + t)) n (fr + 2 * p) with
    | some v =>
      right
      have hv := dg2_le hd
      exact ⟨_, _, rfl, rfl, Or.inr ⟨v, s1, m1, rfl, rfl, by omega, hF⟩⟩
    | none =>
      have hlt := dg2_none hd
      dsimp only
      rw [Option.bind_some, Option.bind_some]
      have a1 : (nI fr + (2 * x3)).toInt = ((fr + 2 * p : Nat) : Int) := i32_add (nI_ti (by omega)) (i_dbl hx (by omega)) (by omega)
      have a2 : (nI fr + (2 * y)).toInt = ((fr + 2 * p : Nat) : Int) := i32_add (nI_ti (by omega)) (i_dbl hy (by omega)) (by omega)
      have b1 : ((nI fr + (2 * x3)) + 1).toInt = ((fr + 2 * p + 1 : Nat) : Int) := i32_add a1 (b := 1) (by decide) (by omega)
      have c1 := i_ix (c := 60) (cn := 60) (by decide) (nI_ti (n := t) (by omega)) a2 (by omega)
      have c2 : ((((60 : Int32) * nI t) + (nI fr + (2 * y))) + 1).toInt = ((60 * t + (fr + 2 * p) + 1 : Nat) : Int) := i32_add c1 (b := 1) (by decide) (by omega)
      have n1 : (nI fr + (2 * x3)).toNatClampNeg = fr + 2 * p := by rw [i_nat, a1]; rfl
      have n2 : ((nI fr + (2 * x3)) + 1).toNatClampNeg = fr + 2 * p + 1 := by rw [i_nat, b1]; rfl
      have n3 : (((60 : Int32) * nI t) + (nI fr + (2 * y))).toNatClampNeg = 60 * t + (fr + 2 * p) := by rw [i_nat, c1]; rfl
      have n4 : ((((60 : Int32) * nI t) + (nI fr + (2 * y))) + 1).toNatClampNeg = 60 * t + (fr + 2 * p + 1) := by rw [i_nat, c2]; rfl
      show (∃ t1 t1' n', n' < d ∧ (if vin (nI fr + (2 * x3)) 60 = true then _ else none) = _ ∧ (if vin (((60 : Int32) * nI t) + (nI fr + (2 * y))) 240 = true then _ else none) = _ ∧ _) ∨ (∃ r r', (if vin (nI fr + (2 * x3)) 60 = true then _ else none) = _ ∧ (if vin (((60 : Int32) * nI t) + (nI fr + (2 * y))) 240 = true then _ else none) = _ ∧ _)
      rw [if_pos (vin_iff.mpr (by rw [a1]; clear a1 a2 b1 c1 c2 n1 n2 n3 n4; omega) : vin (nI fr + (2 * x3)) 60 = true), if_pos (vin_iff.mpr (by rw [b1]; clear a1 a2 b1 c1 c2 n1 n2 n3 n4; omega) : vin ((nI fr + (2 * x3)) + 1) 60 = true), if_pos (vin_iff.mpr (by rw [c1]; clear a1 a2 b1 c1 c2 n1 n2 n3 n4; omega) : vin (((60 : Int32) * nI t) + (nI fr + (2 * y))) 240 = true), if_pos (vin_iff.mpr (by rw [c2]; clear a1 a2 b1 c1 c2 n1 n2 n3 n4; omega) : vin ((((60 : Int32) * nI t) + (nI fr + (2 * y))) + 1) 240 = true), n1, n2, n3, n4, hT (fr + 2 * p) (by omega), hT (fr + 2 * p + 1) (by omega)]
      rw [show ((10 : Int32) * (s0.1 (40 + t) (fr + 2 * p) - 48)) = ((s0.1 (40 + t) (fr + 2 * p) - 48) * 10) from Int32.mul_comm _ _]
      rw [show ((((s0.1 (40 + t) (fr + 2 * p)) - 48) * 10) + (s0.1 (40 + t) (fr + 2 * p + 1))) - 48 = nm2 (s0.1 (40 + t)) (fr + 2 * p) from rfl]
      generalize nm2 (s0.1 (40 + t)) (fr + 2 * p) = N
      have eX : nI fr + (2 * x3) = nI (fr + 2 * p) := i_nI a1
      have eM : nI fr + (2 * y) = nI (fr + 2 * p) := i_nI a2
      rw [eX, eM]
      clear eX eM a1 a2 b1 c1 c2 n1 n2 n3 n4
      by_cases o1 : N < 1
      · right
        have z1 : X11_in N.toInt64 1 12 = 0 := in_zero.mpr (Or.inl (show N.toInt < 1 from i_lt.mp o1))
        rw [if_pos o1, if_pos z1]
        exact ⟨_, _, rfl, rfl, Or.inr ⟨fr + 2 * p, s1, m1, rfl, rfl, by omega, hF⟩⟩
      by_cases o2 : 12 < N
      · right
        have z1 : X11_in N.toInt64 1 12 = 0 := in_zero.mpr (Or.inr (show 12 < N.toInt from i_lt.mp o2))
        rw [if_neg o1, if_pos o2, if_pos z1]
        exact ⟨_, _, rfl, rfl, Or.inr ⟨fr + 2 * p, s1, m1, rfl, rfl, by omega, hF⟩⟩
      have e12 : (12 : Int32).toInt = 12 := by decide
      have o1' : ¬ N.toInt < 1 := fun z => o1 (i_lt.mpr (by rw [i_one]; exact z))
      have o2' : ¬ 12 < N.toInt := fun z => o2 (i_lt.mpr (by rw [e12]; exact z))
      obtain ⟨w, hw, rfl⟩ := i_ex (a := N) (m := 13) (by omega) (by omega)
      rw [nI_ti (by omega)] at o1' o2'
      have inY : ¬ X11_in (nI w).toInt64 1 12 = 0 := fun z => by
        rcases in_zero.mp z with z | z
        · have z' : (nI w).toInt < 1 := z
          rw [nI_ti (by omega)] at z'
          omega
        · have z' : 12 < (nI w).toInt := z
          rw [nI_ti (by omega)] at z'
          omega
      rw [if_neg o1, if_neg o2, if_neg inY, isOn_eq m1 hk (by omega) hy, bit_eq x2 (by omega), hseen w (by omega) (by omega), Option.bind_some]
      cases ho : onB (m1.1 9) (6 * k) (nI w) p with
      | true =>
        right
        exact ⟨_, _, rfl, rfl, Or.inr ⟨fr + 2 * p, s1, m1, rfl, rfl, by omega, hF⟩⟩
      | false =>
        left
        have f1 := i_ix (c := 6) (cn := 6) (by decide) (nI_ti (n := k) (by omega)) hy (by omega)
        have f2 := i_ixn (c := 6) (cn := 6) (by decide) (nI_ti (n := k) (by omega)) hy (by omega)
        have hxn : x3.toNatClampNeg = p := by rw [i_nat, hx]; rfl
        show ∃ t1 t1' n', n' < d ∧ (if vin (s1.1 56 2) 4 = true then if vin x3 6 = true then _ else none else none) = _ ∧ (if vin (((6 : Int32) * nI k) + y) 24 = true then _ else none) = _ ∧ _
        rw [r56, if_pos (vinI hk (by decide)), if_pos (vin_iff.mpr (by omega) : vin x3 6 = true), if_pos (vin_iff.mpr (by rw [f1]; omega) : vin (((6 : Int32) * nI k) + y) 24 = true), f2, hxn, nI_nat (by omega)]
        have hnew : ∀ q, q < p → ¬ m1.1 9 (6 * k + q) = nI w := fun q hq e => by
          have := onB_iff.mpr ⟨q, hq, e⟩
          rw [ho] at this
          cases this
        refine ⟨_, _, d - 1, by omega, rfl, rfl, p + 1, by omega, ?_, ?_, ⟨fun q hq => ?_, hF.2.1, fun q hq => ?_, fun i hi => ?_, hF.2.2.2.2⟩, ⟨fun q hq => ?_, fun q q' hq hq' e => ?_⟩, fun v v1 v2 => ?_, Or.inr (by omega)⟩
        · show (x3 + 1).toInt = _
          rw [i_inc (by omega), hx]; rfl
        · show (y + 1).toInt = _
          rw [i_inc (by omega), hy]; rfl
        · show (mwI s1 (80 + k) p (nI w)).1 q = _
          rw [mwI_rk hq]
          exact hF.1 q hq
        · show (mwI m1 9 (6 * k + p) (nI w)).1 q = _
          rw [mwI_rk hq]
          exact hF.2.2.1 q hq
        · show (mwI m1 9 (6 * k + p) (nI w)).1 9 i = _
          rw [mwI_row, mrow_at, upd_ne (by omega)]
          exact hF.2.2.2.1 i hi
        · show (mwI s1 (80 + k) p (nI w)).1 (80 + k) q = (mwI m1 9 (6 * k + p) (nI w)).1 9 (6 * k + q) ∧ ∃ n, 1 ≤ n ∧ n ≤ 12 ∧ (mwI m1 9 (6 * k + p) (nI w)).1 9 (6 * k + q) = nI n
          rw [mwI_row, mwI_row, mrow_at, mrow_at]
          by_cases e : q = p
          · subst e
            rw [upd_at, upd_at]
            exact ⟨rfl, w, by omega, by omega, rfl⟩
          · rw [upd_ne e, upd_ne (by omega)]
            exact hC.1 q (by omega)
        · have e' : upd (m1.1 9) (6 * k + p) (nI w) (6 * k + q) = upd (m1.1 9) (6 * k + p) (nI w) (6 * k + q') := by
            have e2 : (mwI m1 9 (6 * k + p) (nI w)).1 9 (6 * k + q) = (mwI m1 9 (6 * k + p) (nI w)).1 9 (6 * k + q') := e
            rw [mwI_row, mrow_at] at e2
            exact e2
          by_cases h1 : q = p
          · by_cases h2 : q' = p
            · omega
            · subst h1
              rw [upd_at, upd_ne (by omega)] at e'
              exact absurd e'.symm (hnew q' (by omega))
          · by_cases h2 : q' = p
            · subst h2
              rw [upd_at, upd_ne (by omega)] at e'
              exact absurd e' (hnew q (by omega))
            · rw [upd_ne (by omega), upd_ne (by omega)] at e'
              exact hC.2 q q' (by omega) (by omega) e'
        · show bt (x2 ||| ((1 : Int32) <<< (nI w &&& 31))) v = (onB ((mwI m1 9 (6 * k + p) (nI w)).1 9) (6 * k) (nI v) p || decide ((mwI m1 9 (6 * k + p) (nI w)).1 9 (6 * k + p) = nI v))
          rw [mwI_row, mrow_at, upd_at, b_or, shl_bt (by omega) (by omega), hseen v v1 v2]
          have c1 : onB (upd (m1.1 9) (6 * k + p) (nI w)) (6 * k) (nI v) p = onB (m1.1 9) (6 * k) (nI v) p := by
            have aux : ∀ z, z ≤ p → onB (upd (m1.1 9) (6 * k + p) (nI w)) (6 * k) (nI v) z = onB (m1.1 9) (6 * k) (nI v) z := by
              intro z
              induction z with
              | zero => intro _; rfl
              | succ z ih =>
                intro hz
                show (onB _ _ _ z || decide (upd (m1.1 9) (6 * k + p) (nI w) (6 * k + z) = nI v)) = (onB _ _ _ z || decide (m1.1 9 (6 * k + z) = nI v))
                rw [ih (by omega), upd_ne (by omega)]
            exact aux p (Nat.le_refl p)
          rw [c1]
          congr 1
          by_cases hvw : v = w
          · subst hvw; rw [decide_eq_true rfl, decide_eq_true rfl]
          · rw [decide_eq_false hvw, decide_eq_false (fun z => hvw ?_)]
            have z2 := i_eq.mp z
            rw [nI_ti (by omega), nI_ti (by omega)] at z2
            omega
  · exact ⟨0, rfl, i_zero, i_zero, ⟨fun _ _ => rfl, rfl, fun _ _ => rfl, fun _ _ => rfl, rfl⟩, ⟨fun q hq => absurd hq (Nat.not_lt_zero _), fun q q' hq _ _ => absurd hq (Nat.not_lt_zero _)⟩, fun v _ _ => b_0 v, Or.inl rfl⟩

/-! a text read -/
def FrR (σ μ s m : mS) : Prop := (∀ q, q ≠ 56 → q ≠ 64 → ¬ (80 ≤ q ∧ q < 84) → s.1 q = σ.1 q) ∧ s.2 = σ.2 ∧ (∀ q, q ≠ 0 → q ≠ 8 → q ≠ 9 → m.1 q = μ.1 q) ∧ (∀ q, q ≠ 8 → m.1 0 q = μ.1 0 q) ∧ m.2 = μ.2
theorem RR.scr {σ μ s m : mS} (h : RR σ μ) (hF : FrR σ μ s m) : RR s m := by
  obtain ⟨hW, hT, ⟨c, hG⟩, hO⟩ := h
  obtain ⟨f1, f2, f3, f4, f5⟩ := hF
  refine ⟨hW.of (f1 _ (by omega) (by omega) (by omega)) (fun r hr => f1 _ (by omega) (by omega) (by omega)) (f3 _ (by omega) (by omega) (by omega)) (f3 _ (by omega) (by omega) (by omega)), hT.of (f1 _ (by omega) (by omega) (by omega)) (fun r hr => f1 _ (by omega) (by omega) (by omega)) (f3 _ (by omega) (by omega) (by omega)) (f3 _ (by omega) (by omega) (by omega)), ⟨c, hG.of (fun k hk => f1 _ (by unfold gX at hk; omega) (by unfold gX at hk; omega) (by unfold gX at hk; omega)) (f4 _ (by omega)) (f4 _ (by omega)) (f3 _ (by omega) (by omega) (by omega)) (f3 _ (by omega) (by omega) (by omega)) (fun q _ => by rw [f3 _ (by omega) (by omega) (by omega)]) (fun q _ => by rw [f3 _ (by omega) (by omega) (by omega)])⟩, hO.of (by rw [f1 _ (by omega) (by omega) (by omega)]) (by rw [f1 _ (by omega) (by omega) (by omega)]) f2 (fun f _ => by rw [f1 _ (by omega) (by omega) (by omega)]) (f4 _ (by omega)) (f4 _ (by omega)) f5 (fun f _ => by rw [f3 _ (by omega) (by omega) (by omega)])⟩
/-- the players read so far -/
def PL (s m : mS) (k : Nat) : Prop := ∀ j, j < k → (∃ r, r < 6 ∧ s.1 64 j = nI r ∧ m.1 8 j = nI r) ∧ CP s m j 6
theorem CP.of {s m s' m' : mS} {j p : Nat} (h : CP s m j p) (h1 : s'.1 (80 + j) = s.1 (80 + j)) (h2 : ∀ q, q < p → m'.1 9 (6 * j + q) = m.1 9 (6 * j + q)) : CP s' m' j p := by
  refine ⟨fun q hq => ?_, fun q q' hq hq' e => ?_⟩
  · rw [h1, h2 q hq]
    exact h.1 q hq
  · rw [h2 q hq, h2 q' hq'] at e
    exact h.2 q q' hq hq' e
theorem m1_ne (u : Nat) (hu : u < 2147483648) : ¬ nI u = -9 := fun e => by
  have h := i_eq.mp e
  rw [nI_ti hu] at h
  have h2 : (-9 : Int32).toInt = -9 := by decide
  omega
theorem read_sim {σ μ : mS} {t n : Nat} (ht : t < 4) (hn : n ≤ 60) (hs : σ.1 48 t = nI n) (hl : μ.1 4 t = nI n) (hT : ∀ i, i < n → μ.1 5 (60 * t + i) = σ.1 (40 + t) i) : ∃ v s m, X6_read σ t (nI n) = some (v, s) ∧ X11_faultOf μ (nI t) = some (v, m) ∧ FrR σ μ s m ∧ (v = -9 → ∃ k, 1 ≤ k ∧ k ≤ 4 ∧ s.1 56 2 = nI k ∧ m.1 0 8 = nI k ∧ PL s m k) := by
  have key := lpR (b := un2 (X6_read_b7 t (nI n))) (b' := un2 (X11_faultOf_b7 (nI t)))
    (I := fun d q q' => ∃ a k, a + d = n ∧ k ≤ 4 ∧ q.2.toInt = (a : Int) ∧ q'.2.toInt = (a : Int) ∧ FrR σ μ q.1 q'.1 ∧ q.1.1 56 2 = nI k ∧ q'.1.1 0 8 = nI k ∧ PL q.1 q'.1 k)
    (Q := fun r r' => (∃ s m k, r = .inl s ∧ r' = .inl m ∧ FrR σ μ s m ∧ k ≤ 4 ∧ s.1 56 2 = nI k ∧ m.1 0 8 = nI k ∧ PL s m k) ∨ (∃ v s m, r = .inr (nI v, s) ∧ r' = .inr (nI v, m) ∧ v ≤ 60 ∧ FrR σ μ s m)) ?_ big n (mwI σ 56 2 0, 0) (mwI μ 0 8 0, 0) ?_ (by show n < 1000000; omega)
  · obtain ⟨r, r', e1, e2, hQ⟩ := key
    unfold X6_read X11_faultOf
    rw [e1, e2, Option.bind_some, Option.bind_some]
    rcases hQ with ⟨s, m, k, rfl, rfl, hF, hk, h1, h2, hP⟩ | ⟨v, s, m, rfl, rfl, hv, hF⟩
    · have l4 : m.1 4 t = nI n := by rw [hF.2.2.1 4 (by decide) (by decide) (by decide)]; exact hl
      show ∃ v s' m', (if s.1 56 2 = 0 then some (nI n, s) else some ((-9), s)) = _ ∧ (if m.1 0 8 = 0 then if vin (nI t) 4 = true then some (m.1 4 (nI t).toNatClampNeg, m) else none else some ((-9), m)) = _ ∧ _
      rw [h1, h2, if_pos (vinI ht (by decide)), nI_nat (by omega), l4]
      by_cases hz : nI k = 0
      · rw [if_pos hz, if_pos hz]
        exact ⟨nI n, s, m, rfl, rfl, hF, fun e => absurd e (m1_ne n (by omega))⟩
      · rw [if_neg hz, if_neg hz]
        refine ⟨-9, s, m, rfl, rfl, hF, fun _ => ⟨k, ?_, hk, h1, h2, hP⟩⟩
        rcases Nat.eq_zero_or_pos k with e | e
        · subst e; exact absurd rfl hz
        · exact e
    · exact ⟨nI v, s, m, rfl, rfl, hF, fun e => absurd e (m1_ne v (by omega))⟩
  · intro d q q' hI
    obtain ⟨s1, x⟩ := q
    obtain ⟨m1, y⟩ := q'
    obtain ⟨a, k, had, hk, hx, hy, hF, hs1, hm1, hP⟩ := hI
    dsimp only at hx hy hF hs1 hm1 hP
    have l4 : m1.1 4 t = nI n := by rw [hF.2.2.1 4 (by decide) (by decide) (by decide)]; exact hl
    have r40 : s1.1 (40 + t) = σ.1 (40 + t) := hF.1 _ (by omega) (by omega) (by omega)
    have m5 : m1.1 5 = μ.1 5 := hF.2.2.1 5 (by decide) (by decide) (by decide)
    have vt : vin (nI t) 4 = true := vinI ht (by decide)
    show (∃ t1 t1' n', n' < d ∧ X6_read_b7 t (nI n) s1 x = _ ∧ X11_faultOf_b7 (nI t) m1 y = _ ∧ _) ∨ (∃ r r', X6_read_b7 t (nI n) s1 x = _ ∧ X11_faultOf_b7 (nI t) m1 y = _ ∧ _)
    unfold X6_read_b7 X11_faultOf_b7
    rw [if_pos vt, nI_nat (n := t) (by omega), l4]
    by_cases hend : n ≤ a
    · right
      rw [if_pos (ile (by rw [nI_ti (by omega), hx]; omega)), if_pos (ile (by rw [nI_ti (by omega), hy]; omega))]
      exact ⟨_, _, rfl, rfl, Or.inl ⟨s1, m1, k, rfl, rfl, hF, hk, hs1, hm1, hP⟩⟩
    have hxn : x.toNatClampNeg = a := by rw [i_nat, hx]; rfl
    have vx : vin x 60 = true := vin_iff.mpr (by omega)
    have c1 := i_ix (c := 60) (cn := 60) (by decide) (nI_ti (n := t) (by omega)) hy (by omega)
    have c2 := i_ixn (c := 60) (cn := 60) (by decide) (nI_ti (n := t) (by omega)) hy (by omega)
    have vy : vin (((60 : Int32) * nI t) + y) 240 = true := vin_iff.mpr (by rw [c1]; omega)
    rw [if_neg (nle (by rw [nI_ti (by omega), hx]; omega)), if_neg (nle (by rw [nI_ti (by omega), hy]; omega)), if_pos vx, if_pos vy, hxn, c2, r40, m5, hT a (by omega)]
    by_cases h32 : σ.1 (40 + t) a = 32
    · left
      rw [if_pos h32, if_pos h32]
      exact ⟨_, _, d - 1, by omega, rfl, rfl, a + 1, k, by omega, hk, by show (x + 1).toInt = _; rw [i_inc (by omega), hx]; rfl, by show (y + 1).toInt = _; rw [i_inc (by omega), hy]; rfl, hF, hs1, hm1, hP⟩
    rw [if_neg h32, if_neg h32, if_pos vx, if_pos vy, kindBy_eq, Option.bind_some, hs1, hm1]
    generalize hL : X11_kindOf (σ.1 (40 + t) a) = L
    have hLr := kindOf_range (σ.1 (40 + t) a)
    rw [hL] at hLr
    have xa : x = nI a := i_nI hx
    have ya : y = nI a := i_nI hy
    by_cases hneg : L < 0
    · right
      rw [if_pos hneg, if_pos hneg, xa, ya]
      exact ⟨_, _, rfl, rfl, Or.inr ⟨a, s1, m1, rfl, rfl, by omega, hF⟩⟩
    rw [if_neg hneg, if_neg hneg]
    by_cases hk4 : k = 4
    · right
      subst hk4
      rw [if_neg (by decide), if_pos (by decide), xa, ya]
      exact ⟨_, _, rfl, rfl, Or.inr ⟨a, s1, m1, rfl, rfl, by omega, hF⟩⟩
    have hk4' : ¬ nI k = 4 := fun e => by
      have h1 : (nI k).toInt = 4 := i_eq.mp e
      rw [nI_ti (by omega)] at h1
      omega
    rw [if_pos (i_lt.mpr (by rw [nI_ti (by omega)]; show (k : Int) < 4; omega) : nI k < 4), if_neg hk4']
    have ea : x + 1 = nI (a + 1) := i_nI (by rw [i_inc (by omega), hx]; rfl)
    have eb : y + 1 = nI (a + 1) := i_nI (by rw [i_inc (by omega), hy]; rfl)
    obtain ⟨v, s2, m2, g1, g2, hC, hres⟩ := card_sim (s0 := s1) (m0 := m1) (t := t) (n := n) (fr := a + 1) (k := k) hn (by omega) ht (by omega) hs1 l4 (fun i hi => by rw [m5, r40]; exact hT i hi)
    rw [ea, eb, g1, g2, bd_some, bd_some]
    have hF2 : FrR σ μ s2 m2 := ⟨fun q q1 q2 q3 => by rw [hC.1 q (by omega)]; exact hF.1 q q1 q2 q3, hC.2.1.trans hF.2.1, fun q q1 q2 q3 => by rw [hC.2.2.1 q q3]; exact hF.2.2.1 q q1 q2 q3, fun q q1 => by rw [hC.2.2.1 0 (by decide)]; exact hF.2.2.2.1 q q1, hC.2.2.2.2.trans hF.2.2.2.2⟩
    have s56 : s2.1 56 2 = nI k := by rw [hC.1 56 (by omega)]; exact hs1
    have m08 : m2.1 0 8 = nI k := by rw [hC.2.2.1 0 (by decide)]; exact hm1
    rcases hres with ⟨u, hu, rfl⟩ | ⟨rfl, hCP, hlen⟩
    · right
      rw [if_neg (m1_ne u (by omega)), if_neg (m1_ne u (by omega))]
      exact ⟨_, _, rfl, rfl, Or.inr ⟨u, s2, m2, rfl, rfl, hu, hF2⟩⟩
    · left
      have vk : vin (nI k) 4 = true := vinI (by omega) (by decide)
      rw [if_pos rfl, if_pos rfl, s56, m08, if_pos vk, if_pos vk, nI_nat (by omega)]
      obtain ⟨r, hr, er⟩ : ∃ r, r < 6 ∧ L = nI r := by
        rcases hLr with e | e
        · exact absurd (by rw [e]; decide) hneg
        · exact e
      rw [show (mwI s2 64 k L).1 56 2 = nI k by rw [mwI_rk (by decide)]; exact s56, show (mwI m2 8 k L).1 0 8 = nI k by rw [mwI_rk (by decide)]; exact m08]
      have ek : nI k + 1 = nI (k + 1) := i_nI (i32_add (nI_ti (by omega)) (b := 1) (by decide) (by omega))
      have e13 : ∀ z : Int32, z.toInt = (a : Int) → (z + 13).toInt = ((a + 13 : Nat) : Int) := fun z hz => i32_add hz (b := 13) (by decide) (by omega)
      rw [ek]
      refine ⟨_, _, d - 13, by omega, rfl, rfl, a + 13, k + 1, by omega, by omega, e13 x hx, e13 y hy, ⟨fun q q1 q2 q3 => ?_, hF2.2.1, fun q q1 q2 q3 => ?_, fun q q1 => ?_, hF2.2.2.2.2⟩, mwI_rd, mwI_rd, fun j hj => ?_⟩
      · show (mwI (mwI s2 64 k L) 56 2 (nI (k + 1))).1 q = _
        rw [mwI_rk q1, mwI_rk q2]
        exact hF2.1 q q1 q2 q3
      · show (mwI (mwI m2 8 k L) 0 8 (nI (k + 1))).1 q = _
        rw [mwI_rk q1, mwI_rk q2]
        exact hF2.2.2.1 q q1 q2 q3
      · show (mwI (mwI m2 8 k L) 0 8 (nI (k + 1))).1 0 q = _
        rw [mwI_row, mrow_at, upd_ne q1, mwI_rk (by decide)]
        exact hF2.2.2.2.1 q q1
      · show (∃ r, r < 6 ∧ (mwI (mwI s2 64 k L) 56 2 (nI (k + 1))).1 64 j = nI r ∧ (mwI (mwI m2 8 k L) 0 8 (nI (k + 1))).1 8 j = nI r) ∧ CP (mwI (mwI s2 64 k L) 56 2 (nI (k + 1))) (mwI (mwI m2 8 k L) 0 8 (nI (k + 1))) j 6
        rw [mwI_rk (by decide : (64 : Nat) ≠ 56), mwI_rk (by decide : (8 : Nat) ≠ 0), mwI_row, mwI_row, mrow_at, mrow_at]
        by_cases e : j = k
        · subst e
          rw [upd_at, upd_at]
          refine ⟨⟨r, hr, er, er⟩, hCP.of ?_ (fun q hq => ?_)⟩
          · rw [mwI_rk (by omega), mrow_ne (by omega)]
          · rw [mwI_rk (by omega), mrow_ne (by omega)]
        · rw [upd_ne e, upd_ne e]
          obtain ⟨p1, p2⟩ := hP j (by omega)
          refine ⟨?_, p2.of ?_ (fun q hq => ?_)⟩
          · rw [hC.1 64 (by omega), hC.2.2.1 8 (by decide)]
            exact p1
          · rw [mwI_rk (by omega), mrow_ne (by omega), hC.1 _ (by omega)]
          · rw [mwI_rk (by omega), mrow_ne (by omega), hC.2.2.2.1 _ (by omega)]
  · refine ⟨0, 0, by omega, by omega, i_zero, i_zero, ⟨fun q q1 q2 q3 => ?_, rfl, fun q q1 q2 q3 => ?_, fun q q1 => ?_, rfl⟩, mwI_rd, mwI_rd, fun j hj => absurd hj (Nat.not_lt_zero _)⟩
    · exact mwI_rk q1
    · exact mwI_rk q1
    · show (mwI μ 0 8 0).1 0 q = _
      rw [mwI_row, mrow_at, upd_ne q1]
theorem sim_fault {σ μ : mS} (h : RR σ μ) (a1 : Int32) : SIM (X10_fault σ a1) (X11_fault μ a1) := by
  unfold X10_fault X11_fault
  by_cases hb : a1.toInt < 0 ∨ 4 ≤ a1.toInt
  · rw [refText_bad hb, bd_some, if_neg (by decide), if_pos (isTextM_zero.mpr hb)]
    exact SIM.ret h rfl
  obtain ⟨r, hr, rfl⟩ := textEx hb
  have hv : vin (nI r) 4 = true := vinI hr (by decide)
  obtain ⟨w1, w2, w3, w4⟩ := h.2.1 r hr
  rw [if_neg (textY hr).2]
  refine SIM.R hv ?_
  rw [nI_nat (by omega), w1]
  by_cases hs : (σ.1 48 r).toInt < 0
  · rw [refText_no hr hs, bd_some, if_neg (by decide), if_neg (nle hs), f1M, bd_some]
    exact SIM.ret (h.fnd (by decide)) rfl
  rw [refText_ok hr (by omega), bd_some, if_pos rfl]
  refine SIM.R (ge0 (by omega)) (SIM.L hv (SIM.L hv ?_))
  obtain ⟨n, hn, en⟩ := i_ex (a := σ.1 48 r) (m := 61) (by omega) (by omega)
  have en2 : (σ.1 48 r).toInt = (n : Int) := by rw [en, nI_ti (by omega)]
  obtain ⟨v, s, m, e1, e2, hF, -⟩ := read_sim (σ := σ) (μ := μ) hr (by omega) en (by rw [w1]; exact en) (fun i hi => w4 i (by omega))
  rw [en, e1, e2, bd_some, bd_some]
  exact SIM.ret (h.scr hF) rfl

/-! a hall made by a text -/
def cbG (f : Nat → Int32) : Nat → Int32
  | 0 => 0
  | p + 1 => cbG f p ||| ((1 : Int32) <<< ((f p) &&& 31))
theorem cbG_cb {f cd : Nat → Int32} {i : Nat} : ∀ {p : Nat}, (∀ q, q < p → f q = cd (6 * i + q)) → cbG f p = cbN cd i p
  | 0, _ => rfl
  | p + 1, h => by
    show cbG f p ||| _ = cbN cd i p ||| _
    rw [cbG_cb (fun q hq => h q (by omega)), h p (by omega)]
theorem fillC (s : mS) {i : Nat} {x : Int32} (hi : i < 4) (hx : x.toInt = (i : Int)) : lp big (un2 (X7_fillBy_b39 x)) (s, 0) = some (mrow (mrow s (128 + i) (cpT (s.1 (80 + i)) (s.1 (128 + i)) 0 0 6)) 136 (upd (s.1 136) i (s.1 136 i ||| cbG (s.1 (80 + i)) 6))) := by
  have hxn : x.toNatClampNeg = i := by rw [i_nat, hx]; rfl
  have vx : vin x 4 = true := vin_iff.mpr (by omega)
  have H := lp_zero (b := un2 (X7_fillBy_b39 x)) (n := 6) (res := mrow (mrow s (128 + i) (cpT (s.1 (80 + i)) (s.1 (128 + i)) 0 0 6)) 136 (upd (s.1 136) i (s.1 136 i ||| cbG (s.1 (80 + i)) 6))) (fun j y => (mrow (mrow s (128 + i) (cpT (s.1 (80 + i)) (s.1 (128 + i)) 0 0 j)) 136 (upd (s.1 136) i (s.1 136 i ||| cbG (s.1 (80 + i)) j)), y)) (by omega) (fun j y hj hy => by
    have hyn : y.toNatClampNeg = j := by rw [i_nat, hy]; rfl
    have vy : vin y 6 = true := vin_iff.mpr (by omega)
    show X7_fillBy_b39 x (mrow (mrow s (128 + i) (cpT (s.1 (80 + i)) (s.1 (128 + i)) 0 0 j)) 136 (upd (s.1 136) i (s.1 136 i ||| cbG (s.1 (80 + i)) j))) y = some (.inl (mrow (mrow s (128 + i) (cpT (s.1 (80 + i)) (s.1 (128 + i)) 0 0 (j + 1))) 136 (upd (s.1 136) i (s.1 136 i ||| (cbG (s.1 (80 + i)) j ||| ((1 : Int32) <<< ((s.1 (80 + i) j) &&& 31))))), y + 1))
    unfold X7_fillBy_b39
    rw [if_neg (nle (by rw [hy]; show (j : Int) < 6; omega))]
    simp only [if_pos vx, if_pos vy, hxn, hyn]
    have r80 : (mrow (mrow s (128 + i) (cpT (s.1 (80 + i)) (s.1 (128 + i)) 0 0 j)) 136 (upd (s.1 136) i (s.1 136 i ||| cbG (s.1 (80 + i)) j))).1 (80 + i) = s.1 (80 + i) := by rw [mrow_ne (by omega), mrow_ne (by omega)]
    rw [r80, mwI_rd, mwI_rk (by omega : (136 : Nat) ≠ 128 + i), mrow_at, upd_at, mwI_row, mwI_row, mrow_ne (by omega : 128 + i ≠ 136), mrow_at, mrow_ne (by omega : (136 : Nat) ≠ 128 + i), mrow_at, mrow_comm (k := 136) (k' := 128 + i) (by omega), mrow_mrow, mrow_mrow, or_assoc]
    have e4 := cpT_succ (f := s.1 (80 + i)) (g := s.1 (128 + i)) (s := 0) (t := 0) (j := j)
    rw [Nat.zero_add] at e4
    rw [e4]
    have e5 : ∀ v w : Int32, upd (upd (s.1 136) i v) i w = upd (s.1 136) i w := fun v w => by
      funext q
      by_cases hq : q = i
      · subst hq; rw [upd_at, upd_at]
      · rw [upd_ne hq, upd_ne hq, upd_ne hq]
    rw [e5]) (fun y hy => by
    show X7_fillBy_b39 x _ y = _
    unfold X7_fillBy_b39
    rw [if_pos (ile (by rw [hy]; show (6 : Int) ≤ 6; omega))])
  have H2 : lp big (un2 (X7_fillBy_b39 x)) (mrow (mrow s (128 + i) (cpT (s.1 (80 + i)) (s.1 (128 + i)) 0 0 0)) 136 (upd (s.1 136) i (s.1 136 i ||| 0)), 0) = _ := H
  rw [cpT_zero, or_zero, upd_self rfl, mrow_id, mrow_id] at H2
  exact H2
theorem fillBy_eq (s : mS) {k : Nat} (hk : k ≤ 4) (hs : s.1 56 2 = nI k) : Hs (X7_fillBy s) (fun q => (∀ r, r ≠ 88 → r ≠ 112 → r ≠ 136 → ¬ (128 ≤ r ∧ r < 132) → q.2.1 r = s.1 r) ∧ q.2.2 = s.2 ∧ q.2.1 88 4 = nI k ∧ ∀ i, i < k → q.2.1 112 i = s.1 64 i ∧ q.2.1 136 i = cbG (s.1 (80 + i)) 6 ∧ ∀ p, p < 6 → q.2.1 (128 + i) p = s.1 (80 + i) p) := by
  unfold X7_fillBy
  rw [hs]
  refine Hs.bind (P := fun τ => (∀ r, r ≠ 88 → r ≠ 112 → r ≠ 136 → ¬ (128 ≤ r ∧ r < 132) → τ.1 r = s.1 r) ∧ τ.2 = s.2 ∧ τ.1 88 4 = nI k ∧ ∀ i, i < k → τ.1 112 i = s.1 64 i ∧ τ.1 136 i = cbG (s.1 (80 + i)) 6 ∧ ∀ p, p < 6 → τ.1 (128 + i) p = s.1 (80 + i) p) (Hs.loop (I := fun q => ∃ j, j ≤ k ∧ q.2.toInt = (j : Int) ∧ (∀ r, r ≠ 88 → r ≠ 112 → r ≠ 136 → ¬ (128 ≤ r ∧ r < 132) → q.1.1 r = s.1 r) ∧ q.1.2 = s.2 ∧ q.1.1 88 4 = nI k ∧ ∀ i, i < j → q.1.1 112 i = s.1 64 i ∧ q.1.1 136 i = cbG (s.1 (80 + i)) 6 ∧ ∀ p, p < 6 → q.1.1 (128 + i) p = s.1 (80 + i) p) (fun q => 4 - q.2.toNatClampNeg) (fun q hq => ?_) big (mwI s 88 4 (nI k), 0) ?_ ?_) (fun τ h => ?_)
  · obtain ⟨S, x⟩ := q
    obtain ⟨j, hj, hx, hF, h2, h88, hd⟩ := hq
    dsimp only at hx hF h2 h88 hd ⊢
    show Hs (X7_fillBy_b10 S x) _
    unfold X7_fillBy_b10
    rw [h88]
    by_cases he : k ≤ j
    · refine Hs.pos (ile (by rw [nI_ti (by omega), hx]; omega)) (Hs.inr ⟨hF, h2, h88, ?_⟩)
      rw [show k = j by omega]
      exact hd
    have vx : vin x 4 = true := vin_iff.mpr (by omega)
    have hxn : x.toNatClampNeg = j := by rw [i_nat, hx]; rfl
    refine Hs.neg (nle (by rw [nI_ti (by omega), hx]; omega)) (Hs.pos vx (Hs.pos vx (Hs.pos vx ?_)))
    rw [hxn, fillC _ (by omega) hx, Option.bind_some]
    refine Hs.inl ⟨⟨j + 1, by omega, by show (x + 1).toInt = _; rw [i_inc (by omega), hx]; rfl, fun r r1 r2 r3 r4 => ?_, h2, ?_, fun i hi => ?_⟩, ?_⟩
    · show (mrow (mrow (mwI (mwI S 112 j (S.1 64 j)) 136 j 0) (128 + j) _) 136 _).1 r = _
      rw [mrow_ne r3, mrow_ne (by omega), mwI_rk r3, mwI_rk r2]
      exact hF r r1 r2 r3 r4
    · show (mrow (mrow (mwI (mwI S 112 j (S.1 64 j)) 136 j 0) (128 + j) _) 136 _).1 88 4 = _
      rw [mrow_ne (by omega), mrow_ne (by omega), mwI_rk (by omega), mwI_rk (by omega)]
      exact h88
    · have r64 : S.1 64 = s.1 64 := hF 64 (by omega) (by omega) (by omega) (by omega)
      have r80 : ∀ z, z < 4 → S.1 (80 + z) = s.1 (80 + z) := fun z hz => hF _ (by omega) (by omega) (by omega) (by omega)
      show (mrow (mrow (mwI (mwI S 112 j (S.1 64 j)) 136 j 0) (128 + j) _) 136 _).1 112 i = _ ∧ (mrow (mrow (mwI (mwI S 112 j (S.1 64 j)) 136 j 0) (128 + j) _) 136 _).1 136 i = _ ∧ ∀ p, p < 6 → (mrow (mrow (mwI (mwI S 112 j (S.1 64 j)) 136 j 0) (128 + j) _) 136 _).1 (128 + i) p = _
      rw [mrow_ne (by omega : (112 : Nat) ≠ 136), mrow_ne (by omega : (112 : Nat) ≠ 128 + j), mwI_rk (by omega : (112 : Nat) ≠ 136), mrow_at, mwI_rk (by omega : 80 + j ≠ 136), mwI_rk (by omega : 80 + j ≠ 112), r80 j (by omega), mwI_row (k := 112), mrow_at, mwI_rd, mwI_row (k := 136), mrow_at, r64]
      by_cases e : i = j
      · subst e
        rw [upd_at, upd_at, zero_or]
        refine ⟨rfl, rfl, fun p hp => ?_⟩
        rw [mrow_ne (by omega), mrow_at]
        unfold cpT
        rw [if_pos (by omega), Nat.zero_add, Nat.sub_zero]
      · obtain ⟨d1, d2, d3⟩ := hd i (by omega)
        rw [upd_ne e, upd_ne e, upd_ne e, mrow_ne (by omega : (136 : Nat) ≠ 112)]
        refine ⟨d1, d2, fun p hp => ?_⟩
        rw [mrow_ne (by omega), mrow_ne (by omega), mrow_ne (by omega), mrow_ne (by omega)]
        exact d3 p hp
    · show 4 - (x + 1).toNatClampNeg < 4 - j
      rw [i_nat, i_inc (by omega), hx]
      omega
  · refine ⟨0, Nat.zero_le _, i_zero, fun r r1 r2 r3 r4 => mwI_rk r1, rfl, mwI_rd, fun i hi => absurd hi (Nat.not_lt_zero _)⟩
  · show 4 - 0 < 1000000
    omega
  · exact ⟨_, rfl, h⟩
theorem hall60 (s : mS) : lp big (un2 X10_hall_b60) (s, 0) = some (mwI (mwI (mwI s (160 + 0) 1 (-1)) (160 + 1) 1 (-1)) (160 + 2) 1 (-1)) := rfl
theorem hall139 (s : mS) : lp big (un2 X11_hall_b139) (s, 0) = some (mwI (mwI (mwI s 11 0 (-1)) 11 1 (-1)) 11 2 (-1)) := rfl
theorem hall48 (m : mS) {k : Nat} (hk : k ≤ 4) (h5 : m.1 0 5 = nI k) : lp big (un2 X11_hall_b48) (m, 0) = some (mrow m 6 (cpT (m.1 8) (m.1 6) 0 0 k)) := by
  have H := lp_zero (b := un2 X11_hall_b48) (n := k) (res := mrow m 6 (cpT (m.1 8) (m.1 6) 0 0 k)) (fun j y => (mrow m 6 (cpT (m.1 8) (m.1 6) 0 0 j), y)) (by omega) (fun j y hj hy => by
    have hyn : y.toNatClampNeg = j := by rw [i_nat, hy]; rfl
    have vy : vin y 4 = true := vin_iff.mpr (by omega)
    show X11_hall_b48 (mrow m 6 (cpT (m.1 8) (m.1 6) 0 0 j)) y = some (.inl (mrow m 6 (cpT (m.1 8) (m.1 6) 0 0 (j + 1)), y + 1))
    unfold X11_hall_b48
    have e4 := cpT_succ (f := m.1 8) (g := m.1 6) (s := 0) (t := 0) (j := j)
    rw [Nat.zero_add] at e4
    rw [mrow_ne (by decide : (0 : Nat) ≠ 6), h5, if_neg (nle (by rw [nI_ti (by omega), hy]; omega)), if_pos vy, if_pos vy, hyn, mwI_row, mrow_mrow, mrow_at, mrow_ne (by decide : (8 : Nat) ≠ 6), e4]) (fun y hy => by
    show X11_hall_b48 _ y = _
    unfold X11_hall_b48
    rw [mrow_ne (by decide : (0 : Nat) ≠ 6), h5, if_pos (ile (by rw [nI_ti (by omega), hy]; omega))])
  have H2 : lp big (un2 X11_hall_b48) (mrow m 6 (cpT (m.1 8) (m.1 6) 0 0 0), 0) = _ := H
  rw [cpT_zero, mrow_id] at H2
  exact H2
theorem hall76 (m : mS) : lp big (un2 X11_hall_b76) (m, 0) = some (mrow m 7 (cpT (m.1 9) (m.1 7) 0 0 24)) := by
  have H := lp_zero (b := un2 X11_hall_b76) (n := 24) (res := mrow m 7 (cpT (m.1 9) (m.1 7) 0 0 24)) (fun j y => (mrow m 7 (cpT (m.1 9) (m.1 7) 0 0 j), y)) (by omega) (fun j y hj hy => by
    have hyn : y.toNatClampNeg = j := by rw [i_nat, hy]; rfl
    have vy : vin y 24 = true := vin_iff.mpr (by omega)
    show X11_hall_b76 (mrow m 7 (cpT (m.1 9) (m.1 7) 0 0 j)) y = some (.inl (mrow m 7 (cpT (m.1 9) (m.1 7) 0 0 (j + 1)), y + 1))
    unfold X11_hall_b76
    have e4 := cpT_succ (f := m.1 9) (g := m.1 7) (s := 0) (t := 0) (j := j)
    rw [Nat.zero_add] at e4
    rw [if_neg (nle (by rw [hy]; show (j : Int) < 24; omega)), if_pos vy, if_pos vy, hyn, mwI_row, mrow_mrow, mrow_at, mrow_ne (by decide : (9 : Nat) ≠ 7), e4]) (fun y hy => by
    show X11_hall_b76 _ y = _
    unfold X11_hall_b76
    rw [if_pos (ile (by rw [hy]; show (24 : Int) ≤ 24; omega))])
  have H2 : lp big (un2 X11_hall_b76) (mrow m 7 (cpT (m.1 9) (m.1 7) 0 0 0), 0) = _ := H
  rw [cpT_zero, mrow_id] at H2
  exact H2
theorem hall102 (m : mS) : lp big (un2 X11_hall_b102) (m, 0) = some (mrow m 10 (cpT (frH 1) (m.1 10) 0 0 8)) := by
  have H := lp_zero (b := un2 X11_hall_b102) (n := 8) (res := mrow m 10 (cpT (frH 1) (m.1 10) 0 0 8)) (fun j y => (mrow m 10 (cpT (frH 1) (m.1 10) 0 0 j), y)) (by omega) (fun j y hj hy => by
    have hyn : y.toNatClampNeg = j := by rw [i_nat, hy]; rfl
    have vy : vin y 1360 = true := vin_iff.mpr (by omega)
    show X11_hall_b102 (mrow m 10 (cpT (frH 1) (m.1 10) 0 0 j)) y = some (.inl (mrow m 10 (cpT (frH 1) (m.1 10) 0 0 (j + 1)), y + 1))
    unfold X11_hall_b102
    have e4 := cpT_succ (f := frH 1) (g := m.1 10) (s := 0) (t := 0) (j := j)
    rw [Nat.zero_add] at e4
    rw [if_neg (nle (by rw [hy]; show (j : Int) < 8; omega)), if_pos vy, hyn, ← e4, mwI_row, mrow_mrow, mrow_at]
    by_cases h5 : j = 5
    · rw [if_pos (i_eq.mpr (by rw [hy, h5]; rfl)), h5]
      rfl
    · rw [if_neg (fun e => h5 (by have := i_eq.mp e; rw [hy] at this; have h9 : (j : Int) = 5 := this; omega)), if_pos vy, mwI_row, mrow_mrow, mrow_at]
      have e0 : frH 1 j = 0 := by unfold frH; rw [if_neg h5]
      rw [e0]) (fun y hy => by
    show X11_hall_b102 _ y = _
    unfold X11_hall_b102
    rw [if_pos (ile (by rw [hy]; show (8 : Int) ≤ 8; omega))])
  have H2 : lp big (un2 X11_hall_b102) (mrow m 10 (cpT (frH 1) (m.1 10) 0 0 0), 0) = _ := H
  rw [cpT_zero, mrow_id] at H2
  exact H2

theorem un1_app {A0 α : Type} {f : A0 → α} {a : A0} : un1 f a = f a := rfl
set_option maxHeartbeats 4000000 in
theorem sim_hall {σ μ : mS} (h : RR σ μ) (a1 : Int32) : SIM (X10_hall σ a1) (X11_hall μ a1) := by
  unfold X10_hall X11_hall
  by_cases hb : a1.toInt < 0 ∨ 4 ≤ a1.toInt
  · rw [refText_bad hb, bd_some, if_neg (by decide), if_pos (isTextM_zero.mpr hb)]
    exact SIM.ret h rfl
  obtain ⟨r, hr, rfl⟩ := textEx hb
  have hv : vin (nI r) 4 = true := vinI hr (by decide)
  obtain ⟨w1, w2, w3, w4⟩ := h.2.1 r hr
  rw [if_neg (textY hr).2]
  refine SIM.R hv ?_
  rw [nI_nat (by omega), w1]
  by_cases hs : (σ.1 48 r).toInt < 0
  · rw [refText_no hr hs, bd_some, if_neg (by decide), if_neg (nle hs), f1M, bd_some]
    exact SIM.ret (h.fnd (by decide)) rfl
  rw [refText_ok hr (by omega), bd_some, if_pos rfl]
  refine SIM.R (ge0 (by omega)) (SIM.L hv (SIM.L hv ?_))
  obtain ⟨n, hn, en⟩ := i_ex (a := σ.1 48 r) (m := 61) (by omega) (by omega)
  have en2 : (σ.1 48 r).toInt = (n : Int) := by rw [en, nI_ti (by omega)]
  obtain ⟨v, s, m, e1, e2, hF, hok⟩ := read_sim (σ := σ) (μ := μ) hr (by omega) en (by rw [w1]; exact en) (fun i hi => w4 i (by omega))
  rw [en, e1, e2, bd_some, bd_some]
  refine SIM.ite Iff.rfl (fun hv9 => ?_) (fun _ => SIM.ret (h.scr hF) rfl)
  obtain ⟨k, hk1, hk4, s56, m08, hP⟩ := hok hv9
  obtain ⟨⟨u, s15⟩, f0, f1, f2, f3, f4⟩ := fillBy_eq s hk4 s56
  dsimp only at f1 f2 f3 f4
  rw [f0, bd_some, hall60, Option.bind_some, m08, hall48 _ hk4 mwI_rd, Option.bind_some]
  have hRs := h.scr hF
  generalize hS : mwI (mwI (mwI (mwI s15 (160 + 3) 1 0) (160 + 0) 1 (-1)) (160 + 1) 1 (-1)) (160 + 2) 1 (-1) = S
  have rS : ∀ q, ¬ (160 ≤ q ∧ q < 164) → S.1 q = s15.1 q := fun q hq => by rw [← hS, mwI_rk (by omega), mwI_rk (by omega), mwI_rk (by omega), mwI_rk (by omega)]
  have S2 : S.2 = s.2 := by rw [← hS]; exact f2
  have k0 : S.1 (160 + 0) 1 = -1 := by rw [← hS, mwI_rk (by decide), mwI_rk (by decide), mwI_rd]
  have k1 : S.1 (160 + 1) 1 = -1 := by rw [← hS, mwI_rk (by decide), mwI_rd]
  have k2 : S.1 (160 + 2) 1 = -1 := by rw [← hS, mwI_rd]
  have k3 : S.1 (160 + 3) 1 = 0 := by rw [← hS, mwI_rk (by decide), mwI_rk (by decide), mwI_rk (by decide), mwI_rd]
  have p88 : S.1 88 4 = nI k := by rw [rS 88 (by omega)]; exact f3
  rw [un1_app, un1_app, begin_eq S (by decide), bd_some, hall76, Option.bind_some, un1_app, hall102, Option.bind_some, un1_app, hall139, Option.bind_some, un1_app]
  generalize hN : mrow (mrow (mrow (mwI m 0 5 (nI k)) 6 (cpT ((mwI m 0 5 (nI k)).1 8) ((mwI m 0 5 (nI k)).1 6) 0 0 k)) 7 (cpT ((mrow (mwI m 0 5 (nI k)) 6 (cpT ((mwI m 0 5 (nI k)).1 8) ((mwI m 0 5 (nI k)).1 6) 0 0 k)).1 9) ((mrow (mwI m 0 5 (nI k)) 6 (cpT ((mwI m 0 5 (nI k)).1 8) ((mwI m 0 5 (nI k)).1 6) 0 0 k)).1 7) 0 0 24)) 10 (cpT (frH 1) ((mrow (mrow (mwI m 0 5 (nI k)) 6 (cpT ((mwI m 0 5 (nI k)).1 8) ((mwI m 0 5 (nI k)).1 6) 0 0 k)) 7 (cpT ((mrow (mwI m 0 5 (nI k)) 6 (cpT ((mwI m 0 5 (nI k)).1 8) ((mwI m 0 5 (nI k)).1 6) 0 0 k)).1 9) ((mrow (mwI m 0 5 (nI k)) 6 (cpT ((mwI m 0 5 (nI k)).1 8) ((mwI m 0 5 (nI k)).1 6) 0 0 k)).1 7) 0 0 24)).1 10) 0 0 8) = N
  have rN : ∀ q, q ≠ 0 → q ≠ 6 → q ≠ 7 → q ≠ 10 → N.1 q = m.1 q := fun q q0 q6 q7 q10 => by rw [← hN, mrow_ne q10, mrow_ne q7, mrow_ne q6, mwI_rk q0]
  have N2 : N.2 = m.2 := by rw [← hN]; rfl
  have N0 : N.1 0 = upd (m.1 0) 5 (nI k) := by rw [← hN, mrow_ne (by decide), mrow_ne (by decide), mrow_ne (by decide), mwI_row, mrow_at]
  have N6 : ∀ i, i < k → N.1 6 i = m.1 8 i := fun i hi => by
    rw [← hN, mrow_ne (by decide), mrow_ne (by decide), mrow_at, mwI_rk (by decide)]
    unfold cpT
    rw [if_pos (by omega), Nat.zero_add, Nat.sub_zero]
  have N7 : ∀ i, i < 24 → N.1 7 i = m.1 9 i := fun i hi => by
    rw [← hN, mrow_ne (by decide), mrow_at, mrow_ne (by decide), mwI_rk (by decide)]
    unfold cpT
    rw [if_pos (by omega), Nat.zero_add, Nat.sub_zero]
  have N10 : ∀ q, q < 8 → N.1 10 q = frH 1 q := fun q hq => by
    rw [← hN, mrow_at]
    unfold cpT
    rw [if_pos (by omega), Nat.zero_add, Nat.sub_zero]
  have fr1 : frH 1 = frH k := by
    funext q
    unfold frH
    rw [if_neg (by decide : ¬ (1 = 0)), if_neg (by omega : ¬ (k = 0))]
  -- the new memory of the reference
  generalize hV : mwI (mwI (mwI (mwI N 0 12 0) 11 0 (-1)) 11 1 (-1)) 11 2 (-1) = V
  have rV : ∀ q, q ≠ 0 → q ≠ 11 → V.1 q = N.1 q := fun q q0 q11 => by rw [← hV, mwI_rk q11, mwI_rk q11, mwI_rk q11, mwI_rk q0]
  have V0 : V.1 0 = upd (N.1 0) 12 0 := by rw [← hV, mwI_rk (by decide), mwI_rk (by decide), mwI_rk (by decide), mwI_row, mrow_at]
  have V11 : ∀ q, q < 3 → V.1 11 q = -1 := fun q hq => by
    rcases (show q = 0 ∨ q = 1 ∨ q = 2 by omega) with rfl | rfl | rfl
    · rw [← hV]; rfl
    · rw [← hV]; rfl
    · rw [← hV]; rfl
  have V2 : V.2 = m.2 := by rw [← hV]; exact N2
  generalize hX : hlX S 5 (seg 0 4 0 (S.1 (152 + 5))) 0 (if (S.1 88 4) = 0 then 0 else 8190) 0 0 = X
  have rX : ∀ q, q ≠ 152 + 5 → q ≠ 144 + 5 → X.1 q = S.1 q := fun q q1 q2 => by rw [← hX, hlX_row q1 q2]
  have X2e : X.2 = s.2 := by rw [← hX]; exact S2
  have X5 : HX X 5 = frH k := by rw [← hX, begin_HX (P := k) (by rw [p88, nI_ti (by omega)])]
  have sX : ∀ q, q ≠ 157 → q ≠ 149 → ¬ (160 ≤ q ∧ q < 164) → q ≠ 88 → q ≠ 112 → q ≠ 136 → ¬ (128 ≤ q ∧ q < 132) → X.1 q = s.1 q := fun q a1 a2 a3 a4 a5 a6 a7 => by rw [rX q (by omega) (by omega), rS q a3]; exact f1 q a4 a5 a6 a7
  have sV : ∀ q, q ≠ 0 → q ≠ 6 → q ≠ 7 → q ≠ 10 → q ≠ 11 → V.1 q = m.1 q := fun q a0 a6 a7 a10 a11 => by rw [rV q a0 a11, rN q a0 a6 a7 a10]
  have ans : X.1 88 4 = V.1 0 5 := by rw [rX 88 (by omega) (by omega), p88, V0, upd_ne (by decide), N0, upd_at]
  obtain ⟨hW, hT, -, hO⟩ := hRs
  refine SIM.ret ⟨?_, ?_, ⟨(k, V.1 6, V.1 7), ?_⟩, ?_⟩ ans
  · exact hW.of (sX _ (by omega) (by omega) (by omega) (by omega) (by omega) (by omega) (by omega)) (fun q hq => sX _ (by omega) (by omega) (by omega) (by omega) (by omega) (by omega) (by omega)) (sV _ (by omega) (by omega) (by omega) (by omega) (by omega)) (sV _ (by omega) (by omega) (by omega) (by omega) (by omega))
  · exact hT.of (sX _ (by omega) (by omega) (by omega) (by omega) (by omega) (by omega) (by omega)) (fun q hq => sX _ (by omega) (by omega) (by omega) (by omega) (by omega) (by omega) (by omega)) (sV _ (by omega) (by omega) (by omega) (by omega) (by omega)) (sV _ (by omega) (by omega) (by omega) (by omega) (by omega))
  · have V6 : ∀ i, i < k → V.1 6 i = m.1 8 i := fun i hi => by rw [rV 6 (by decide) (by decide)]; exact N6 i hi
    have V7 : ∀ i, i < 24 → V.1 7 i = m.1 9 i := fun i hi => by rw [rV 7 (by decide) (by decide)]; exact N7 i hi
    have g0 : getH (V.1 10) 0 = frH k := by
      funext q
      unfold getH
      by_cases hq : q < 8
      · rw [if_pos hq, Nat.zero_add, rV 10 (by decide) (by decide), N10 q hq, fr1]
      · rw [if_neg hq]
        unfold frH
        rw [if_neg (by omega)]
    refine ⟨?_, rfl, rfl, ⟨?_, hk4, fun i hi => ⟨?_, ?_, fun p hp => ⟨?_, ?_⟩⟩⟩, fun i hi p q hp hq e => ?_, ?_, ?_, ⟨0, fun _ => 0, ?_, by omega, fun z hz => absurd hz (Nat.not_lt_zero _), g0, fun z hz => absurd hz (Nat.not_lt_zero _)⟩, fun z hz => ⟨?_, Or.inl ?_⟩⟩
    · rw [V0, upd_ne (by decide), N0, upd_at]
    · rw [rX 88 (by omega) (by omega), p88, nI_ti (by omega)]
    · obtain ⟨r9, hr9, q1, q2⟩ := (hP i hi).1
      exact ⟨r9, hr9, by rw [rX 112 (by omega) (by omega), rS 112 (by omega), (f4 i hi).1]; exact q1, by show V.1 6 i = _; rw [V6 i hi]; exact q2⟩
    · rw [rX 136 (by omega) (by omega), rS 136 (by omega), (f4 i hi).2.1]
      refine cbG_cb (fun q hq => ?_)
      rw [((hP i hi).2.1 q hq).1]
      exact (V7 _ (by have : i < k := hi; omega)).symm
    · rw [rX (128 + i) (by omega) (by omega), rS (128 + i) (by have : i < k := hi; omega), (f4 i hi).2.2 p hp, ((hP i hi).2.1 p hp).1]
      exact (V7 _ (by have : i < k := hi; omega)).symm
    · obtain ⟨w, y1, y2, y3⟩ := ((hP i hi).2.1 p hp).2
      exact ⟨w, y1, y2, by show V.1 7 (6 * i + p) = _; rw [V7 _ (by have : i < k := hi; omega)]; exact y3⟩
    · have e' : V.1 7 (6 * i + p) = V.1 7 (6 * i + q) := e
      rw [V7 _ (by have : i < k := hi; omega), V7 _ (by have : i < k := hi; omega)] at e'
      exact (hP i hi).2.2 p q hp hq e'
    · rw [X5, g0]
    · rw [V0, upd_at, rX _ (by omega) (by omega), k3]
    · rw [rX _ (by omega) (by omega), k3]; rfl
    · rw [V11 z hz, rX _ (by omega) (by omega)]
      rcases (show z = 0 ∨ z = 1 ∨ z = 2 by omega) with rfl | rfl | rfl
      · exact k0.symm
      · exact k1.symm
      · exact k2.symm
    · rw [rX _ (by omega) (by omega)]
      rcases (show z = 0 ∨ z = 1 ∨ z = 2 by omega) with rfl | rfl | rfl
      · exact k0
      · exact k1
      · exact k2
  · refine hO.of ?_ ?_ X2e (fun f hf => ?_) ?_ ?_ V2 (fun f hf => ?_)
    · rw [sX 0 (by omega) (by omega) (by omega) (by omega) (by omega) (by omega) (by omega)]
    · rw [sX 0 (by omega) (by omega) (by omega) (by omega) (by omega) (by omega) (by omega)]
    · rw [sX 208 (by omega) (by omega) (by omega) (by omega) (by omega) (by omega) (by omega)]
    · rw [V0, upd_ne (by decide), N0, upd_ne (by decide)]
    · rw [V0, upd_ne (by decide), N0, upd_ne (by decide)]
    · rw [sV 12 (by omega) (by omega) (by omega) (by omega) (by omega)]

