/-! rows and texts: both sides alike -/
theorem i_ex {a : Int32} {m : Nat} (h0 : 0 ≤ a.toInt) (h1 : a.toInt < (m : Int)) : ∃ r, r < m ∧ a = nI r := ⟨a.toInt.toNat, by omega, i_nI (by omega)⟩
theorem ge0 {x : Int32} (h : 0 ≤ x.toInt) : 0 ≤ x := i_le.mpr (by rw [i_zero]; exact h)
def fndX (σ : mS) (f : Nat) : mS := mwI (mwI σ 0 16 (nI f)) 208 f (σ.1 208 f + 1)
def fndM (μ : mS) (f : Nat) : mS := mwI (mwI μ 0 17 (nI f)) 12 f (μ.1 12 f + 1)
theorem found_eq (σ : mS) {f : Nat} (hf : f < 6) : X10_found σ (nI f) = some ((-3), fndX σ f) := by
  have vf : vin (nI f) 6 = true := vin_iff.mpr (by rw [nI_ti (by omega)]; omega)
  unfold X10_found
  rw [if_pos vf, if_pos vf, nI_nat (by omega), show (mwI σ 0 16 (nI f)).1 208 = σ.1 208 from mwI_rk (by decide)]
  rfl
theorem finds_eq (μ : mS) {f : Nat} (hf : f < 6) : X11_finds μ (nI f) = some ((-3), fndM μ f) := by
  have vf : vin (nI f) 6 = true := vin_iff.mpr (by rw [nI_ti (by omega)]; omega)
  unfold X11_finds
  rw [if_pos vf, if_pos vf, nI_nat (by omega), show (mwI μ 0 17 (nI f)).1 12 = μ.1 12 from mwI_rk (by decide)]
  rfl
theorem RR.fnd {σ μ : mS} (h : RR σ μ) {f : Nat} (hf : f < 6) : RR (fndX σ f) (fndM μ f) := by
  obtain ⟨v, τ, ν, e1, e2, hR⟩ := SIM.found h hf
  rw [found_eq σ hf] at e1
  rw [finds_eq μ hf] at e2
  cases e1
  cases e2
  exact hR
theorem f1X (σ : mS) : X10_found σ 1 = some ((-3), fndX σ 1) := found_eq σ (f := 1) (by decide)
theorem f2X (σ : mS) : X10_found σ 2 = some ((-3), fndX σ 2) := found_eq σ (f := 2) (by decide)
theorem f3X (σ : mS) : X10_found σ 3 = some ((-3), fndX σ 3) := found_eq σ (f := 3) (by decide)
theorem f4X (σ : mS) : X10_found σ 4 = some ((-3), fndX σ 4) := found_eq σ (f := 4) (by decide)
theorem f5X (σ : mS) : X10_found σ 5 = some ((-3), fndX σ 5) := found_eq σ (f := 5) (by decide)
theorem f1M (σ : mS) : X11_finds σ 1 = some ((-3), fndM σ 1) := finds_eq σ (f := 1) (by decide)
theorem f2M (σ : mS) : X11_finds σ 2 = some ((-3), fndM σ 2) := finds_eq σ (f := 2) (by decide)
theorem f3M (σ : mS) : X11_finds σ 3 = some ((-3), fndM σ 3) := finds_eq σ (f := 3) (by decide)
theorem f4M (σ : mS) : X11_finds σ 4 = some ((-3), fndM σ 4) := finds_eq σ (f := 4) (by decide)
theorem f5M (σ : mS) : X11_finds σ 5 = some ((-3), fndM σ 5) := finds_eq σ (f := 5) (by decide)
theorem vinI {r n : Nat} (h : r < n) (hn : n < 2147483648) : vin (nI r) n = true := vin_iff.mpr (by rw [nI_ti (by omega)]; omega)
theorem isRowM_zero {a : Int32} : X11_isRow a = 0 ↔ (a.toInt < 0 ∨ 6 ≤ a.toInt) := by
  unfold X11_isRow
  rw [in_zero]
  show a.toInt < 0 ∨ 5 < a.toInt ↔ _
  omega
theorem isTextM_zero {a : Int32} : X11_isText a = 0 ↔ (a.toInt < 0 ∨ 4 ≤ a.toInt) := by
  unfold X11_isText
  rw [in_zero]
  show a.toInt < 0 ∨ 3 < a.toInt ↔ _
  omega
theorem rowY {r : Nat} (hr : r < 6) : ¬ X10_isRow (nI r) = 0 ∧ ¬ X11_isRow (nI r) = 0 := by
  have e : (nI r).toInt = (r : Int) := nI_ti (by omega)
  exact ⟨fun h => by have := isRow_zero.mp h; omega, fun h => by have := isRowM_zero.mp h; omega⟩
theorem textY {r : Nat} (hr : r < 4) : ¬ X10_isText (nI r) = 0 ∧ ¬ X11_isText (nI r) = 0 := by
  have e : (nI r).toInt = (r : Int) := nI_ti (by omega)
  exact ⟨fun h => by have := isText_zero.mp h; omega, fun h => by have := isTextM_zero.mp h; omega⟩
theorem rowEx {a : Int32} (h : ¬ (a.toInt < 0 ∨ 6 ≤ a.toInt)) : ∃ r, r < 6 ∧ a = nI r := i_ex (by omega) (by omega)
theorem textEx {a : Int32} (h : ¬ (a.toInt < 0 ∨ 4 ≤ a.toInt)) : ∃ r, r < 4 ∧ a = nI r := i_ex (by omega) (by omega)
theorem refRow_bad {σ : mS} {a : Int32} (h : a.toInt < 0 ∨ 6 ≤ a.toInt) : X10_refusedRow σ a = some ((-1), σ) := by
  unfold X10_refusedRow
  rw [if_pos (isRow_zero.mpr h)]
theorem refRow_no {σ : mS} {r : Nat} (hr : r < 6) (h : (σ.1 24 r).toInt < 0) : X10_refusedRow σ (nI r) = some ((-3), fndX σ 1) := by
  unfold X10_refusedRow
  rw [if_neg (rowY hr).1, if_pos (vinI hr (by decide)), nI_nat (by omega), if_neg (nle h), f1X, bd_some]
theorem refRow_ok {σ : mS} {r : Nat} (hr : r < 6) (h : 0 ≤ (σ.1 24 r).toInt) : X10_refusedRow σ (nI r) = some (0, σ) := by
  unfold X10_refusedRow
  rw [if_neg (rowY hr).1, if_pos (vinI hr (by decide)), nI_nat (by omega), if_pos (ge0 h)]
theorem sim_row {σ μ : mS} (h : RR σ μ) (a1 a2 : Int32) : SIM (X10_row σ a1 a2) (X11_row μ a1 a2) := by
  unfold X10_row X11_row
  by_cases hb : a1.toInt < 0 ∨ 6 ≤ a1.toInt
  · rw [if_pos (isRow_zero.mpr hb), if_pos (isRowM_zero.mpr hb)]
    exact SIM.ret h rfl
  obtain ⟨r, hr, rfl⟩ := rowEx hb
  rw [if_neg (rowY hr).1, if_neg (rowY hr).2]
  refine SIM.ite Iff.rfl (fun h40 => SIM.ite Iff.rfl (fun h0 => ?_) (fun h0 => ?_)) (fun _ => SIM.ret h rfl)
  · have g0 : 0 ≤ a2.toInt := i_le.mp h0
    have g40 : a2.toInt ≤ 40 := i_le.mp h40
    have hv : vin (nI r) 6 = true := vinI hr (by decide)
    have e2 : a2.toInt = (a2.toInt.toNat : Int) := by omega
    rw [if_pos hv, fillI_eq _ _ _ _ (by decide), bd_some, if_pos hv, nI_nat (by omega), anew_eq μ (nI_ti (by omega)) hr e2 (by omega), bd_some]
    obtain ⟨hW, hT, ⟨c, hG⟩, hO⟩ := h
    refine SIM.ret ⟨?_, ?_, ⟨c, ?_⟩, ?_⟩ rfl
    · refine hW.set (r := r) (v := a2) (by omega) (fun q hq => ?_) (fun q hq hqr => ?_) (fun q hq => ?_) (fun q hq hqr i hi => ?_) (fun i hi => ?_)
      · rw [mwI_row, mrow_at, mrow_ne (by omega)]
        by_cases e : q = r
        · subst e; rw [upd_at, if_pos rfl]
        · rw [upd_ne e, if_neg e]
      · rw [mwI_rk (by omega), mrow_ne (by omega)]
      · rw [mrow_ne (by decide), mrow_at]
        by_cases e : q = r
        · subst e; rw [upd_at, if_pos rfl]
        · rw [upd_ne e, if_neg e]
      · rw [mrow_at, seg_out (by omega)]
      · rw [mrow_at, seg_in (by omega), mwI_rk (by omega), mrow_at, seg_in (by omega)]
    · exact hT.of (by rw [mwI_rk (by omega), mrow_ne (by omega)]) (fun q hq => by rw [mwI_rk (by omega), mrow_ne (by omega)]) (by rw [mrow_ne (by omega), mrow_ne (by omega)]) (by rw [mrow_ne (by omega), mrow_ne (by omega)])
    · refine hG.of (fun k hk => ?_) ?_ ?_ ?_ ?_ (fun q hq => ?_) (fun k hk => ?_)
      · unfold gX at hk
        rw [mwI_rk (by omega), mrow_ne (by omega)]
      all_goals rw [mrow_ne (by omega), mrow_ne (by omega)]
    · refine hO.of ?_ ?_ rfl (fun f hf => ?_) ?_ ?_ rfl (fun f hf => ?_)
      · rw [mwI_rk (by omega), mrow_ne (by omega)]
      · rw [mwI_rk (by omega), mrow_ne (by omega)]
      · rw [mwI_rk (by omega), mrow_ne (by omega)]
      all_goals rw [mrow_ne (by omega), mrow_ne (by omega)]
  · rw [f5X, f5M, bd_some, bd_some]
    exact SIM.ret (h.fnd (by decide)) rfl
/-- a row's place written anew on both sides (its size stays) -/
theorem RR.item {σ μ : mS} (h : RR σ μ) {r : Nat} (hr : r < 6) {F G : Nat → Int32} (hG2 : ∀ q, q < 6 → q ≠ r → ∀ i, i < 40 → G (40 * q + i) = μ.1 2 (40 * q + i)) (hc : ∀ i : Nat, (i : Int) < (σ.1 24 r).toInt → G (40 * r + i) = F i) : RR (mrow σ (16 + r) F) (mrow μ 2 G) := by
  obtain ⟨hW, hT, ⟨c, hG⟩, hO⟩ := h
  refine ⟨?_, ?_, ⟨c, ?_⟩, ?_⟩
  · obtain ⟨w1, w2, w3, w4⟩ := hW r hr
    refine hW.set (r := r) (v := σ.1 24 r) ⟨w2, w3⟩ (fun q hq => ?_) (fun q hq hqr => ?_) (fun q hq => ?_) (fun q hq hqr i hi => ?_) (fun i hi => ?_)
    · rw [mrow_ne (by omega)]
      by_cases e : q = r
      · subst e; rw [if_pos rfl]
      · rw [if_neg e]
    · rw [mrow_ne (by omega)]
    · rw [mrow_ne (by omega)]
      by_cases e : q = r
      · subst e; rw [if_pos rfl, w1]
      · rw [if_neg e]
    · rw [mrow_at, hG2 q hq hqr i hi]
    · rw [mrow_at, mrow_at, hc i hi]
  · exact hT.of (mrow_ne (by omega)) (fun q hq => mrow_ne (by omega)) (mrow_ne (by omega)) (mrow_ne (by omega))
  · refine hG.of (fun k hk => ?_) ?_ ?_ ?_ ?_ (fun q hq => ?_) (fun k hk => ?_)
    · unfold gX at hk
      rw [mrow_ne (by omega)]
    all_goals rw [mrow_ne (by omega)]
  · refine hO.of ?_ ?_ rfl (fun f hf => ?_) ?_ ?_ rfl (fun f hf => ?_)
    all_goals rw [mrow_ne (by omega)]
theorem in0_zero {a s : Int32} (hs : 0 ≤ s.toInt) : X11_in a.toInt64 0 (s - 1).toInt64 = 0 ↔ (a.toInt < 0 ∨ s.toInt ≤ a.toInt) := by
  rw [in_zero, l_of_i, i_sub (by show _ ≤ s.toInt - 1; omega) (by have := i_hi s; show s.toInt - 1 < _; omega)]
  show a.toInt < 0 ∨ s.toInt - 1 < a.toInt ↔ _
  omega
theorem refPlace_bad {σ : mS} {a b : Int32} (h : a.toInt < 0 ∨ 6 ≤ a.toInt) : X10_refusedPlace σ a b = some ((-1), σ) := by
  unfold X10_refusedPlace
  rw [refRow_bad h, bd_some, if_neg (by decide)]
theorem refPlace_no {σ : mS} {r : Nat} {b : Int32} (hr : r < 6) (h : (σ.1 24 r).toInt < 0) : X10_refusedPlace σ (nI r) b = some ((-3), fndX σ 1) := by
  unfold X10_refusedPlace
  rw [refRow_no hr h, bd_some, if_neg (by decide)]
theorem refPlace_out {σ : mS} {r : Nat} {b : Int32} (hr : r < 6) (h : 0 ≤ (σ.1 24 r).toInt) (hb : b.toInt < 0 ∨ (σ.1 24 r).toInt ≤ b.toInt) : X10_refusedPlace σ (nI r) b = some ((-3), fndX σ 2) := by
  unfold X10_refusedPlace
  rw [refRow_ok hr h, bd_some, if_pos rfl]
  by_cases h0 : b < 0
  · rw [if_pos h0, f2X, bd_some]
  · rw [if_neg h0, if_pos (vinI hr (by decide)), nI_nat (by omega), if_neg (fun q => ?_), f2X, bd_some]
    have := i_lt.mp q
    have : ¬ b.toInt < 0 := fun z => h0 (i_lt.mpr z)
    omega
theorem refPlace_ok {σ : mS} {r : Nat} {b : Int32} (hr : r < 6) (h0 : 0 ≤ b.toInt) (hb : b.toInt < (σ.1 24 r).toInt) : X10_refusedPlace σ (nI r) b = some (0, σ) := by
  unfold X10_refusedPlace
  rw [refRow_ok hr (by omega), bd_some, if_pos rfl, if_neg (fun q => by have := i_lt.mp q; rw [i_zero] at this; omega), if_pos (vinI hr (by decide)), nI_nat (by omega), if_pos (i_lt.mpr hb)]
theorem upd_row2 {μ : mS} {r i : Nat} {v : Int32} (hi : i < 40) : ∀ q, q < 6 → q ≠ r → ∀ j, j < 40 → upd (μ.1 2) (40 * r + i) v (40 * q + j) = μ.1 2 (40 * q + j) := fun q _ hqr j hj => upd_ne (by omega)
theorem sim_lay {σ μ : mS} (h : RR σ μ) (a1 a2 a3 : Int32) : SIM (X10_lay σ a1 a2 a3) (X11_lay μ a1 a2 a3) := by
  unfold X10_lay X11_lay
  by_cases hb : a1.toInt < 0 ∨ 6 ≤ a1.toInt
  · rw [refPlace_bad hb, bd_some, if_neg (by decide), if_pos (isRowM_zero.mpr hb)]
    exact SIM.ret h rfl
  obtain ⟨r, hr, rfl⟩ := rowEx hb
  have hv : vin (nI r) 6 = true := vinI hr (by decide)
  obtain ⟨w1, w2, w3, w4⟩ := h.1 r hr
  rw [if_neg (rowY hr).2, if_pos hv, nI_nat (by omega), w1]
  by_cases hs : (σ.1 24 r).toInt < 0
  · rw [refPlace_no hr hs, bd_some, if_neg (by decide), if_neg (nle hs), f1M, bd_some]
    exact SIM.ret (h.fnd (by decide)) rfl
  rw [if_pos (ile (by rw [i_zero]; omega)), if_pos hv]
  by_cases hi : a2.toInt < 0 ∨ (σ.1 24 r).toInt ≤ a2.toInt
  · rw [refPlace_out hr (by omega) hi, bd_some, if_neg (by decide), if_pos ((in0_zero (by omega)).mpr hi), f2M, bd_some]
    exact SIM.ret (h.fnd (by decide)) rfl
  obtain ⟨i, hi1, rfl⟩ := i_ex (a := a2) (m := 40) (by omega) (by omega)
  have ei : (nI i).toInt = (i : Int) := nI_ti (by omega)
  have er : (nI r).toInt = (r : Int) := nI_ti (by omega)
  have ix := i_ixn (c := 40) (cn := 40) (by decide) er ei (by omega)
  have vx : vin (((40 : Int32) * nI r) + nI i) 240 = true := vin_iff.mpr (by rw [i_ix (c := 40) (cn := 40) (by decide) er ei (by omega)]; omega)
  rw [refPlace_ok hr (by omega) (by omega), bd_some, if_pos rfl, if_pos hv, if_pos (vinI hi1 (by decide)), if_pos hv, if_pos (vinI hi1 (by decide)), nI_nat (by omega), if_neg (fun q => hi ((in0_zero (by omega)).mp q)), if_pos vx, if_pos vx, ix]
  show SIM (some _) (some (1, mwI (mwI μ 2 (40 * r + i) a3) 0 14 (μ.1 2 (40 * r + i))))
  rw [w4 i (by omega)]
  refine SIM.ret ?_ rfl
  have h1 : RR (mwI σ (16 + r) i a3) (mwI μ 2 (40 * r + i) a3) := h.item hr (upd_row2 hi1) (fun j hj => by
    by_cases e : j = i
    · subst e; rw [upd_at, upd_at]
    · rw [upd_ne (by omega), upd_ne e]
      exact w4 j hj)
  have h2 := h1.asked (σ.1 (16 + r) i)
  have e : mwI (mwI σ (16 + r) i a3) 0 13 (σ.1 (16 + r) i) = mwI (mwI σ 0 13 (σ.1 (16 + r) i)) (16 + r) i a3 := by
    rw [mwI_row, mwI_row, mwI_row, mwI_row, mrow_ne (by omega), mrow_ne (by omega), mrow_comm (by omega)]
  rw [e] at h2
  exact h2
theorem sim_at {σ μ : mS} (h : RR σ μ) (a1 a2 : Int32) : SIM (X10_at σ a1 a2) (X11_at μ a1 a2) := by
  unfold X10_at X11_at
  by_cases hb : a1.toInt < 0 ∨ 6 ≤ a1.toInt
  · rw [refPlace_bad hb, bd_some, if_neg (by decide), if_pos (isRowM_zero.mpr hb)]
    exact SIM.ret h rfl
  obtain ⟨r, hr, rfl⟩ := rowEx hb
  have hv : vin (nI r) 6 = true := vinI hr (by decide)
  obtain ⟨w1, w2, w3, w4⟩ := h.1 r hr
  rw [if_neg (rowY hr).2, if_pos hv, nI_nat (by omega), w1]
  by_cases hs : (σ.1 24 r).toInt < 0
  · rw [refPlace_no hr hs, bd_some, if_neg (by decide), if_neg (nle hs), f1M, bd_some]
    exact SIM.ret (h.fnd (by decide)) rfl
  rw [if_pos (ile (by rw [i_zero]; omega)), if_pos hv]
  by_cases hi : a2.toInt < 0 ∨ (σ.1 24 r).toInt ≤ a2.toInt
  · rw [refPlace_out hr (by omega) hi, bd_some, if_neg (by decide), if_pos ((in0_zero (by omega)).mpr hi), f2M, bd_some]
    exact SIM.ret (h.fnd (by decide)) rfl
  obtain ⟨i, hi1, rfl⟩ := i_ex (a := a2) (m := 40) (by omega) (by omega)
  have ei : (nI i).toInt = (i : Int) := nI_ti (by omega)
  have er : (nI r).toInt = (r : Int) := nI_ti (by omega)
  have ix := i_ixn (c := 40) (cn := 40) (by decide) er ei (by omega)
  have vx : vin (((40 : Int32) * nI r) + nI i) 240 = true := vin_iff.mpr (by rw [i_ix (c := 40) (cn := 40) (by decide) er ei (by omega)]; omega)
  rw [refPlace_ok hr (by omega) (by omega), bd_some, if_pos rfl, if_pos hv, if_pos (vinI hi1 (by decide)), nI_nat (by omega), if_neg (fun q => hi ((in0_zero (by omega)).mp q)), if_pos vx, ix]
  show SIM (some _) (some (1, mwI μ 0 14 (μ.1 2 (40 * r + i))))
  rw [w4 i (by omega)]
  exact SIM.ret (h.asked _) rfl
