/-! players -/
theorem RG.hv {σ μ : mS} {c : cT} (h : RG σ μ c) : HV (HX σ 5) := by
  obtain ⟨-, -, -, hC, -, h6, -, hD, -⟩ := h
  obtain ⟨d, dn, -, -, h3, h4, -⟩ := hD
  rw [h6, h4]
  exact HV_rpl hC.2.1 (fun q hq => (h3 q hq).2)
theorem RG.mk {σ μ : mS} {c : cT} (h : RG σ μ c) {j : Nat} (hj : j < 4) : μ.1 10 j = σ.1 (152 + 5) j := by
  have e := congrFun h.2.2.2.2.2.1 j
  rw [getH_lt (by omega), Nat.zero_add] at e
  rw [← e]
  unfold HX
  rw [if_pos hj]
theorem RG.won {σ μ : mS} {c : cT} (h : RG σ μ c) : μ.1 10 4 = σ.1 (144 + 5) 2 := (congrFun h.2.2.2.2.2.1 4).symm
theorem RG.bag {σ μ : mS} {c : cT} (h : RG σ μ c) : μ.1 10 5 = σ.1 (144 + 5) 3 := (congrFun h.2.2.2.2.2.1 5).symm
theorem RG.cal {σ μ : mS} {c : cT} (h : RG σ μ c) : μ.1 10 6 = σ.1 (144 + 5) 5 := (congrFun h.2.2.2.2.2.1 6).symm
theorem RG.las {σ μ : mS} {c : cT} (h : RG σ μ c) : μ.1 10 7 = σ.1 (144 + 5) 4 := (congrFun h.2.2.2.2.2.1 7).symm
theorem RG.P4 {σ μ : mS} {c : cT} (h : RG σ μ c) : c.1 ≤ 4 := h.2.2.2.1.2.1
theorem RG.pX {σ μ : mS} {c : cT} (h : RG σ μ c) : σ.1 88 4 = nI c.1 := i_nI h.2.2.2.1.1
theorem RG.plX {σ μ : mS} {c : cT} (h : RG σ μ c) {a : Int32} : X10_isPlayer σ a = 0 ↔ (a.toInt < 0 ∨ (c.1 : Int) ≤ a.toInt) := by rw [isPlayer_zero, h.2.2.2.1.1]
theorem RG.plM {σ μ : mS} {c : cT} (h : RG σ μ c) {a : Int32} : X11_isPlayer μ a = 0 ↔ (a.toInt < 0 ∨ (c.1 : Int) ≤ a.toInt) := by
  unfold X11_isPlayer
  have e : (μ.1 0 5).toInt = (c.1 : Int) := by rw [h.1, nI_ti (by have := h.P4; omega)]
  rw [in0_zero (by omega), e]
theorem RG.kd {σ μ : mS} {c : cT} (h : RG σ μ c) {i : Nat} (hi : i < c.1) : ∃ r, r < 6 ∧ σ.1 112 i = nI r ∧ μ.1 6 i = nI r ∧ X7_kindAt σ (nI i) = some r := by
  obtain ⟨r, hr, e1, e2⟩ := (h.2.2.2.1.2.2 i hi).1
  have h4 := h.P4
  refine ⟨r, hr, e1, by rw [← h.2.1]; exact e2, ?_⟩
  unfold X7_kindAt
  rw [if_pos (vinI (by omega) (by decide)), nI_nat (by omega), e1, if_pos (vinI hr (by decide)), nI_nat (by omega)]
theorem plEx {σ μ : mS} {c : cT} (h : RG σ μ c) {a : Int32} (hb : ¬ (a.toInt < 0 ∨ (c.1 : Int) ≤ a.toInt)) : ∃ i, i < c.1 ∧ i < 4 ∧ a = nI i := by
  obtain ⟨i, hi, e⟩ := i_ex (a := a) (m := c.1) (by omega) (by omega)
  exact ⟨i, hi, by have := h.P4; omega, e⟩
theorem eqL {w v : Nat} (hw : w < 2147483648) (hv : v < 2147483648) : (nI w = nI v) ↔ w = v := ⟨fun e => by
  have := i_eq.mp e
  rw [nI_ti hw, nI_ti hv] at this
  omega, fun e => by rw [e]⟩
theorem told_eq {σ μ : mS} {c : cT} (h : RG σ μ c) {i w : Nat} (hi : i < c.1) (hw : w < 5) : ∃ v, X10_ofPlayer σ (nI i) (nI w) = some v ∧ X11_told μ (nI i) (nI w) = some v := by
  obtain ⟨r, hr, e1, e2, e3⟩ := h.kd hi
  have h4 := h.P4
  have vi : vin (nI i) 4 = true := vinI (by omega) (by decide)
  have vi2 : vin (nI i) 1360 = true := vinI (by omega) (by decide)
  obtain ⟨m, hm, em⟩ := h.hv.1 i (by omega)
  have em2 : σ.1 (152 + 5) i = nI m := by rw [← em]; unfold HX; rw [if_pos (by omega)]
  unfold X10_ofPlayer X11_told
  rw [e3, Option.bind_some]
  simp only [if_pos vi, if_pos vi2, nI_nat (n := i) (by omega), e1, e2, h.mk (show i < 4 by omega), em2, needs_eq, Option.bind_some, lacks_eq r hr m hm]
  rcases (show w = 0 ∨ w = 1 ∨ w = 2 ∨ w = 3 ∨ w = 4 by omega) with rfl | rfl | rfl | rfl | rfl
  · exact ⟨nI r, rfl, rfl⟩
  · exact ⟨nI m, rfl, rfl⟩
  · refine ⟨((σ.1 (144 + 5) 2) >>> (nI i &&& 31)) &&& 1, rfl, ?_⟩
    rw [← h.won]
    rfl
  · by_cases hz : ndT (nI r) (nI m) = 0
    · exact ⟨1, by rw [if_pos hz]; rfl, by rw [if_pos hz]; rfl⟩
    · exact ⟨0, by rw [if_neg hz]; rfl, by rw [if_neg hz]; rfl⟩
  · exact ⟨ndT (nI r) (nI m), rfl, rfl⟩
theorem sim_player {σ μ : mS} (h : RR σ μ) (a1 a2 : Int32) : SIM (X10_player σ a1 a2) (X11_player μ a1 a2) := by
  obtain ⟨c, hG⟩ := h.2.2.1
  unfold X10_player X11_player
  by_cases hb : a1.toInt < 0 ∨ (c.1 : Int) ≤ a1.toInt
  · rw [if_pos (hG.plX.mpr hb), if_pos (hG.plM.mpr hb)]
    exact SIM.ret h rfl
  rw [if_neg (fun q => hb (hG.plX.mp q)), if_neg (fun q => hb (hG.plM.mp q))]
  obtain ⟨i, hi, hi4, rfl⟩ := plEx hG hb
  by_cases h0 : a2.toInt < 0
  · refine SIM.L (i_lt.mpr h0) (SIM.R (in_zero.mpr (Or.inl h0)) (SIM.ret h rfl))
  by_cases h5 : 4 < a2.toInt
  · exact SIM.nL (fun q => h0 (i_lt.mp q)) (SIM.nL (nle h5) (SIM.R (in_zero.mpr (Or.inr h5)) (SIM.ret h rfl)))
  obtain ⟨w, hw, rfl⟩ := i_ex (a := a2) (m := 5) (by omega) (by omega)
  refine SIM.nL (fun q => h0 (i_lt.mp q)) (SIM.L (ile (show (nI w).toInt ≤ 4 by omega)) (SIM.nR (fun q => ?_) ?_))
  · rcases in_zero.mp q with q | q
    · exact h0 q
    · exact h5 q
  obtain ⟨v, t1, t2⟩ := told_eq hG hi hw
  rw [t1, t2, Option.bind_some, Option.bind_some]
  exact SIM.ret (h.asked v) rfl
theorem sim_card {σ μ : mS} (h : RR σ μ) (a1 a2 : Int32) : SIM (X10_card σ a1 a2) (X11_card μ a1 a2) := by
  obtain ⟨c, hG⟩ := h.2.2.1
  unfold X10_card X11_card
  by_cases hb : a1.toInt < 0 ∨ (c.1 : Int) ≤ a1.toInt
  · rw [if_pos (hG.plX.mpr hb), if_pos (hG.plM.mpr hb)]
    exact SIM.ret h rfl
  rw [if_neg (fun q => hb (hG.plX.mp q)), if_neg (fun q => hb (hG.plM.mp q))]
  obtain ⟨i, hi, hi4, rfl⟩ := plEx hG hb
  by_cases hp : a2.toInt < 0 ∨ 6 ≤ a2.toInt
  · refine SIM.L (isPlace_zero.mpr hp) (SIM.R (in_zero.mpr (show a2.toInt < 0 ∨ 5 < a2.toInt by omega)) (SIM.ret h rfl))
  obtain ⟨p, hp6, rfl⟩ := i_ex (a := a2) (m := 6) (by omega) (by omega)
  have ep : (nI p).toInt = (p : Int) := nI_ti (by omega)
  have ei : (nI i).toInt = (i : Int) := nI_ti (by omega)
  have c1 := i_ix (c := 6) (cn := 6) (by decide) ei ep (by omega)
  have c2 := i_ixn (c := 6) (cn := 6) (by decide) ei ep (by omega)
  refine SIM.nL (fun q => hp (isPlace_zero.mp q)) (SIM.L (vinI hi4 (by decide)) (SIM.L (vinI hp6 (by decide)) (SIM.nR (fun q => ?_) (SIM.R (vin_iff.mpr (by rw [c1]; omega)) ?_))))
  · have q2 : (nI p).toInt < 0 ∨ 5 < (nI p).toInt := in_zero.mp q
    omega
  rw [c2, nI_nat (n := i) (by omega), nI_nat (n := p) (by omega), ((hG.2.2.2.1.2.2 i hi).2.2 p hp6).1, hG.2.2.1]
  exact SIM.ret (h.asked _) rfl
theorem hears_ok {σ μ : mS} (h : RR σ μ) (a1 a2 a3 a4 : Int32) : ∃ v w, X10_hears σ a1 a2 a3 a4 = some v ∧ X11_hears μ a1 a2 a3 a4 = some w := by
  obtain ⟨c, hG⟩ := h.2.2.1
  unfold X10_hears X11_hears
  by_cases hb : a1.toInt < 0 ∨ (c.1 : Int) ≤ a1.toInt
  · rw [if_pos (hG.plX.mpr hb), if_pos (hG.plM.mpr hb)]
    exact ⟨_, _, rfl, rfl⟩
  rw [if_neg (fun q => hb (hG.plX.mp q)), if_neg (fun q => hb (hG.plM.mp q))]
  obtain ⟨i, hi, hi4, rfl⟩ := plEx hG hb
  obtain ⟨r, hr, e1, e2, e3⟩ := hG.kd hi
  rw [e3, if_pos (vinI hi4 (by decide)), Option.bind_some]
  have hX : ∃ v, (if X10_isNumber a2 = 0 then some (-1 : Int32) else if a3 < 0 then some (-1) else if a3 ≤ 12 then if a3 = a2 then some (-1) else if a4 < 0 then some (-1) else if a4 ≤ 99 then some (kd_X5_heard r a2 a3 a4) else some (-1) else some (-1)) = some v := by
    split
    · exact ⟨_, rfl⟩
    split
    · exact ⟨_, rfl⟩
    split
    · split
      · exact ⟨_, rfl⟩
      split
      · exact ⟨_, rfl⟩
      split
      · exact ⟨_, rfl⟩
      · exact ⟨_, rfl⟩
    · exact ⟨_, rfl⟩
  obtain ⟨v, hv⟩ := hX
  have hM : ∃ w, (if X11_in a2.toInt64 1 12 = 0 then some (-1 : Int32) else if X11_in a3.toInt64 0 12 = 0 then some (-1) else if X11_in a4.toInt64 0 99 = 0 then some (-1) else some (X11_heard (μ.1 6 (nI i).toNatClampNeg) a2 a3 a4)) = some w := by
    split
    · exact ⟨_, rfl⟩
    split
    · exact ⟨_, rfl⟩
    split
    · exact ⟨_, rfl⟩
    · exact ⟨_, rfl⟩
  obtain ⟨w, hw⟩ := hM
  exact ⟨v, w, hv, hw⟩
theorem holds_eq {σ : mS} {i n : Nat} (hn : n < 32) : X2_holds σ i (nI n) = if bt (σ.1 (144 + i) 3) n = true then 1 else 0 := by
  unfold X2_holds
  rw [bit_eq _ hn]
  cases bt (σ.1 (144 + i) 3) n <;> decide
theorem marksByX {σ μ : mS} {c : cT} (h : RG σ μ c) {i r n : Nat} (hi : i < c.1) (hr : r < 6) (hn : n < 31) : X10_marksBy σ (nI r) (nI i) (nI n) = some (σ.1 (152 + 5) i ||| mbT (μ.1 7) i (X11_heard (nI r) (nI n) (μ.1 10 7) (μ.1 10 6))) := by
  have h4 := h.P4
  unfold X10_marksBy
  rw [if_pos (vinI hr (by decide)), if_pos (vinI (by omega) (by decide)), nI_nat (n := i) (by omega), nI_nat (n := r) (by omega), heard_eq hr hn, marked_eq σ h.2.2.2.1 (nI_ti (by omega)) hi, h.2.2.1, h.las, h.cal]
  rfl
theorem which_ok {σ μ : mS} (h : RR σ μ) (a1 a2 : Int32) : ∃ v, X10_which σ a1 a2 = some v ∧ X11_which μ a1 a2 = some v := by
  obtain ⟨c, hG⟩ := h.2.2.1
  unfold X10_which X11_which
  by_cases hb : a1.toInt < 0 ∨ (c.1 : Int) ≤ a1.toInt
  · rw [if_pos (hG.plX.mpr hb), if_pos (hG.plM.mpr hb)]
    exact ⟨_, rfl, rfl⟩
  rw [if_neg (fun q => hb (hG.plX.mp q)), if_neg (fun q => hb (hG.plM.mp q))]
  obtain ⟨i, hi, hi4, rfl⟩ := plEx hG hb
  by_cases h0 : a2.toInt < 0
  · have z : X11_in a2.toInt64 0 63 = 0 := in_zero.mpr (Or.inl h0)
    rw [if_pos (i_lt.mpr h0), if_pos z]
    exact ⟨_, rfl, rfl⟩
  by_cases h6 : 63 < a2.toInt
  · have z : X11_in a2.toInt64 0 63 = 0 := in_zero.mpr (Or.inr h6)
    rw [if_neg (fun q => h0 (i_lt.mp q)), if_neg (nle (show (63 : Int32).toInt < a2.toInt from h6)), if_pos z]
    exact ⟨_, rfl, rfl⟩
  have z : ¬ X11_in a2.toInt64 0 63 = 0 := fun q => by
    rcases in_zero.mp q with q | q
    · exact h0 q
    · exact h6 q
  rw [if_neg (fun q => h0 (i_lt.mp q)), if_pos (ile (show a2.toInt ≤ 63 by omega)), if_neg z]
  obtain ⟨r, hr, e1, e2, e3⟩ := hG.kd hi
  obtain ⟨y, y', l1, l2, hy⟩ := lpR (b := un2 (X10_which_b25 σ (nI i) a2)) (b' := un2 (X11_which_b27 μ (nI i) a2)) (I := fun d q q' => ∃ n, n + d = 13 ∧ 1 ≤ n ∧ q.2.toInt = (n : Int) ∧ q'.2.toInt = (n : Int) ∧ q.1 = q'.1) (Q := fun y y' => y = y') (fun d q q' hI => by
    obtain ⟨x, xn⟩ := q
    obtain ⟨y, yn⟩ := q'
    obtain ⟨n, hnd, hn1, hx, hy, rfl⟩ := hI
    dsimp only at hx hy
    show (∃ t1 t1' n', n' < d ∧ X10_which_b25 σ (nI i) a2 x xn = _ ∧ X11_which_b27 μ (nI i) a2 x yn = _ ∧ _) ∨ (∃ r r', X10_which_b25 σ (nI i) a2 x xn = _ ∧ X11_which_b27 μ (nI i) a2 x yn = _ ∧ _)
    unfold X10_which_b25 X11_which_b27
    by_cases he : 13 ≤ n
    · right
      rw [if_pos (i_lt.mpr (by rw [hx]; show (12 : Int) < n; omega)), if_pos (ile (by rw [hy]; show (13 : Int) ≤ n; omega))]
      exact ⟨x, x, rfl, rfl, rfl⟩
    left
    have hx' : (xn + 1).toInt = ((n + 1 : Nat) : Int) := by rw [i_inc (by omega), hx]; rfl
    have hy' : (yn + 1).toInt = ((n + 1 : Nat) : Int) := by rw [i_inc (by omega), hy]; rfl
    have v1 : vin (nI i) 1360 = true := vinI (by omega) (by decide)
    have v2 : vin (nI i) 4 = true := vinI hi4 (by decide)
    have k7 : (7 : Int32).toNatClampNeg = 7 := by decide
    have k6 : (6 : Int32).toNatClampNeg = 6 := by decide
    have k5 : (5 : Int32).toNatClampNeg = 5 := by decide
    rw [if_neg (fun q => by have := i_lt.mp q; rw [hx] at this; have h9 : (12 : Int) < n := this; omega), if_neg (nle (by rw [hy]; show (n : Int) < 13; omega)), i_nI hx, i_nI hy]
    rw [i_nI hx] at hx'
    rw [i_nI hy] at hy'
    have v7 : vin 7 1360 = true := by decide
    have v6 : vin 6 1360 = true := by decide
    have v5 : vin 5 1360 = true := by decide
    simp only [if_pos v1, if_pos v2, if_pos v7, if_pos v6, if_pos v5, k7, k6, k5, nI_nat (n := i) (show i < 2147483648 by omega)]
    rw [e1, e2, marksBy_eq μ (nI_ti (by omega)) hi4, Option.bind_some, marksByX hG hi hr (by omega), Option.bind_some, has_eq _ (by omega), holds_eq (by omega), hG.bag, hG.mk hi4]
    by_cases hb2 : bt (σ.1 (144 + 5) 3) n = true
    · have n10 : ¬ (1 : Int32) = 0 := by decide
      simp only [if_pos hb2, if_neg n10]
      by_cases hm : (σ.1 (152 + 5) i ||| mbT (μ.1 7) i (X11_heard (nI r) (nI n) (μ.1 10 7) (μ.1 10 6))) = a2
      · simp only [if_pos hm]
        exact ⟨_, _, d - 1, by omega, rfl, rfl, n + 1, by omega, by omega, hx', hy', rfl⟩
      · simp only [if_neg hm, or_zero]
        exact ⟨_, _, d - 1, by omega, rfl, rfl, n + 1, by omega, by omega, hx', hy', rfl⟩
    · simp only [if_neg hb2, if_true, or_zero]
      exact ⟨_, _, d - 1, by omega, rfl, rfl, n + 1, by omega, by omega, hx', hy', rfl⟩) big 12 (0, 1) (0, 1) ⟨1, rfl, by omega, i_one, i_one, rfl⟩ (by decide)
  subst hy
  rw [l1, l2]
  exact ⟨y, rfl, rfl⟩
