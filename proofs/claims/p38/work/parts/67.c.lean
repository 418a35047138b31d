/-! players -/
theorem RG.hv {σ μ : mS} {c : cT} (h : RG σ μ c) : HV (HX σ 5) := by
  obtain ⟨-, -, -, hC, -, h6, -, hD, -⟩ := h
  obtain ⟨d, dn, -, -, h3, h4, -⟩ := hD
  rw [h6, h4]
  exact HV_rpl hC.2.1 (fun q hq => (h3 q hq).2)
theorem RG.mk {σ μ : mS} {c : cT} (h : RG σ μ c) {j : Nat} (hj : j < 4) : μ.1 10 j = σ.1 (152 + 5) j := by
  have e := congrFun h.2.2.2.2.2.1 j
  rw [getH_lt (by omega), Nat.zero_add] at e
  rw [← e]
  unfold HX
  rw [if_pos hj]
theorem RG.won {σ μ : mS} {c : cT} (h : RG σ μ c) : μ.1 10 4 = σ.1 (144 + 5) 2 := (congrFun h.2.2.2.2.2.1 4).symm
theorem RG.bag {σ μ : mS} {c : cT} (h : RG σ μ c) : μ.1 10 5 = σ.1 (144 + 5) 3 := (congrFun h.2.2.2.2.2.1 5).symm
theorem RG.cal {σ μ : mS} {c : cT} (h : RG σ μ c) : μ.1 10 6 = σ.1 (144 + 5) 5 := (congrFun h.2.2.2.2.2.1 6).symm
theorem RG.las {σ μ : mS} {c : cT} (h : RG σ μ c) : μ.1 10 7 = σ.1 (144 + 5) 4 := (congrFun h.2.2.2.2.2.1 7).symm
theorem RG.P4 {σ μ : mS} {c : cT} (h : RG σ μ c) : c.1 ≤ 4 := h.2.2.2.1.2.1
theorem RG.pX {σ μ : mS} {c : cT} (h : RG σ μ c) : σ.1 88 4 = nI c.1 := i_nI h.2.2.2.1.1
theorem RG.plX {σ μ : mS} {c : cT} (h : RG σ μ c) {a : Int32} : X10_isPlayer σ a = 0 ↔ (a.toInt < 0 ∨ (c.1 : Int) ≤ a.toInt) := by rw [isPlayer_zero, h.2.2.2.1.1]
theorem RG.plM {σ μ : mS} {c : cT} (h : RG σ μ c) {a : Int32} : X11_isPlayer μ a = 0 ↔ (a.toInt < 0 ∨ (c.1 : Int) ≤ a.toInt) := by
  unfold X11_isPlayer
  have e : (μ.1 0 5).toInt = (c.1 : Int) := by rw [h.1, nI_ti (by have := h.P4; omega)]
  rw [in0_zero (by omega), e]
theorem RG.kd {σ μ : mS} {c : cT} (h : RG σ μ c) {i : Nat} (hi : i < c.1) : ∃ r, r < 6 ∧ σ.1 112 i = nI r ∧ μ.1 6 i = nI r ∧ X7_kindAt σ (nI i) = some r := by
  obtain ⟨r, hr, e1, e2⟩ := (h.2.2.2.1.2.2 i hi).1
  have h4 := h.P4
  refine ⟨r, hr, e1, by rw [← h.2.1]; exact e2, ?_⟩
  unfold X7_kindAt
  rw [if_pos (vinI (by omega) (by decide)), nI_nat (by omega), e1, if_pos (vinI hr (by decide)), nI_nat (by omega)]
theorem plEx {σ μ : mS} {c : cT} (h : RG σ μ c) {a : Int32} (hb : ¬ (a.toInt < 0 ∨ (c.1 : Int) ≤ a.toInt)) : ∃ i, i < c.1 ∧ i < 4 ∧ a = nI i := by
  obtain ⟨i, hi, e⟩ := i_ex (a := a) (m := c.1) (by omega) (by omega)
  exact ⟨i, hi, by have := h.P4; omega, e⟩
theorem eqL {w v : Nat} (hw : w < 2147483648) (hv : v < 2147483648) : (nI w = nI v) ↔ w = v := ⟨fun e => by
  have := i_eq.mp e
  rw [nI_ti hw, nI_ti hv] at this
  omega, fun e => by rw [e]⟩
theorem told_eq {σ μ : mS} {c : cT} (h : RG σ μ c) {i w : Nat} (hi : i < c.1) (hw : w < 5) : ∃ v, X10_ofPlayer σ (nI i) (nI w) = some v ∧ X11_told μ (nI i) (nI w) = some v := by
  obtain ⟨r, hr, e1, e2, e3⟩ := h.kd hi
  have h4 := h.P4
  have vi : vin (nI i) 4 = true := vinI (by omega) (by decide)
  have vi2 : vin (nI i) 1360 = true := vinI (by omega) (by decide)
  obtain ⟨m, hm, em⟩ := h.hv.1 i (by omega)
  have em2 : σ.1 (152 + 5) i = nI m := by rw [← em]; unfold HX; rw [if_pos (by omega)]
  unfold X10_ofPlayer X11_told
  rw [e3, Option.bind_some]
  simp only [if_pos vi, if_pos vi2, nI_nat (n := i) (by omega), e1, e2, h.mk (show i < 4 by omega), em2, needs_eq, Option.bind_some, lacks_eq r hr m hm]
  rcases (show w = 0 ∨ w = 1 ∨ w = 2 ∨ w = 3 ∨ w = 4 by omega) with rfl | rfl | rfl | rfl | rfl
  · exact ⟨nI r, rfl, rfl⟩
  · exact ⟨nI m, rfl, rfl⟩
  · refine ⟨((σ.1 (144 + 5) 2) >>> (nI i &&& 31)) &&& 1, rfl, ?_⟩
    rw [← h.won]
    rfl
  · by_cases hz : ndT (nI r) (nI m) = 0
    · exact ⟨1, by rw [if_pos hz]; rfl, by rw [if_pos hz]; rfl⟩
    · exact ⟨0, by rw [if_neg hz]; rfl, by rw [if_neg hz]; rfl⟩
  · exact ⟨ndT (nI r) (nI m), rfl, rfl⟩
theorem sim_player {σ μ : mS} (h : RR σ μ) (a1 a2 : Int32) : SIM (X10_player σ a1 a2) (X11_player μ a1 a2) := by
  obtain ⟨c, hG⟩ := h.2.2.1
  unfold X10_player X11_player
  by_cases hb : a1.toInt < 0 ∨ (c.1 : Int) ≤ a1.toInt
  · rw [if_pos (hG.plX.mpr hb), if_pos (hG.plM.mpr hb)]
    exact SIM.ret h rfl
  rw [if_neg (fun q => hb (hG.plX.mp q)), if_neg (fun q => hb (hG.plM.mp q))]
  obtain ⟨i, hi, hi4, rfl⟩ := plEx hG hb
  by_cases h0 : a2.toInt < 0
  · refine SIM.L (i_lt.mpr h0) (SIM.R (in_zero.mpr (Or.inl h0)) (SIM.ret h rfl))
  by_cases h5 : 4 < a2.toInt
  · exact SIM.nL (fun q => h0 (i_lt.mp q)) (SIM.nL (nle h5) (SIM.R (in_zero.mpr (Or.inr h5)) (SIM.ret h rfl)))
  obtain ⟨w, hw, rfl⟩ := i_ex (a := a2) (m := 5) (by omega) (by omega)
  refine SIM.nL (fun q => h0 (i_lt.mp q)) (SIM.L (ile (show (nI w).toInt ≤ 4 by omega)) (SIM.nR (fun q => ?_) ?_))
  · rcases in_zero.mp q with q | q
    · exact h0 q
    · exact h5 q
  obtain ⟨v, t1, t2⟩ := told_eq hG hi hw
  rw [t1, t2, Option.bind_some, Option.bind_some]
  exact SIM.ret (h.asked v) rfl
theorem sim_card {σ μ : mS} (h : RR σ μ) (a1 a2 : Int32) : SIM (X10_card σ a1 a2) (X11_card μ a1 a2) := by
  obtain ⟨c, hG⟩ := h.2.2.1
  unfold X10_card X11_card
  by_cases hb : a1.toInt < 0 ∨ (c.1 : Int) ≤ a1.toInt
  · rw [if_pos (hG.plX.mpr hb), if_pos (hG.plM.mpr hb)]
    exact SIM.ret h rfl
  rw [if_neg (fun q => hb (hG.plX.mp q)), if_neg (fun q => hb (hG.plM.mp q))]
  obtain ⟨i, hi, hi4, rfl⟩ := plEx hG hb
  by_cases hp : a2.toInt < 0 ∨ 6 ≤ a2.toInt
  · refine SIM.L (isPlace_zero.mpr hp) (SIM.R (in_zero.mpr (show a2.toInt < 0 ∨ 5 < a2.toInt by omega)) (SIM.ret h rfl))
  obtain ⟨p, hp6, rfl⟩ := i_ex (a := a2) (m := 6) (by omega) (by omega)
  have ep : (nI p).toInt = (p : Int) := nI_ti (by omega)
  have ei : (nI i).toInt = (i : Int) := nI_ti (by omega)
  have c1 := i_ix (c := 6) (cn := 6) (by decide) ei ep (by omega)
  have c2 := i_ixn (c := 6) (cn := 6) (by decide) ei ep (by omega)
  refine SIM.nL (fun q => hp (isPlace_zero.mp q)) (SIM.L (vinI hi4 (by decide)) (SIM.L (vinI hp6 (by decide)) (SIM.nR (fun q => ?_) (SIM.R (vin_iff.mpr (by rw [c1]; omega)) ?_))))
  · have q2 : (nI p).toInt < 0 ∨ 5 < (nI p).toInt := in_zero.mp q
    omega
  rw [c2, nI_nat (n := i) (by omega), nI_nat (n := p) (by omega), ((hG.2.2.2.1.2.2 i hi).2.2 p hp6).1, hG.2.2.1]
  exact SIM.ret (h.asked _) rfl
theorem hears_ok {σ μ : mS} (h : RR σ μ) (a1 a2 a3 a4 : Int32) : ∃ v w, X10_hears σ a1 a2 a3 a4 = some v ∧ X11_hears μ a1 a2 a3 a4 = some w := by
  obtain ⟨c, hG⟩ := h.2.2.1
  unfold X10_hears X11_hears
  by_cases hb : a1.toInt < 0 ∨ (c.1 : Int) ≤ a1.toInt
  · rw [if_pos (hG.plX.mpr hb), if_pos (hG.plM.mpr hb)]
    exact ⟨_, _, rfl, rfl⟩
  rw [if_neg (fun q => hb (hG.plX.mp q)), if_neg (fun q => hb (hG.plM.mp q))]
  obtain ⟨i, hi, hi4, rfl⟩ := plEx hG hb
  obtain ⟨r, hr, e1, e2, e3⟩ := hG.kd hi
  rw [e3, if_pos (vinI hi4 (by decide)), Option.bind_some]
  have hX : ∃ v, (if X10_isNumber a2 = 0 then some (-1 : Int32) else if a3 < 0 then some (-1) else if a3 ≤ 12 then if a3 = a2 then some (-1) else if a4 < 0 then some (-1) else if a4 ≤ 99 then some (kd_X5_heard r a2 a3 a4) else some (-1) else some (-1)) = some v := by
    split
    · exact ⟨_, rfl⟩
    split
    · exact ⟨_, rfl⟩
    split
    · split
      · exact ⟨_, rfl⟩
      split
      · exact ⟨_, rfl⟩
      split
      · exact ⟨_, rfl⟩
      · exact ⟨_, rfl⟩
    · exact ⟨_, rfl⟩
  obtain ⟨v, hv⟩ := hX
  have hM : ∃ w, (if X11_in a2.toInt64 1 12 = 0 then some (-1 : Int32) else if X11_in a3.toInt64 0 12 = 0 then some (-1) else if X11_in a4.toInt64 0 99 = 0 then some (-1) else some (X11_heard (μ.1 6 (nI i).toNatClampNeg) a2 a3 a4)) = some w := by
    split
    · exact ⟨_, rfl⟩
    split
    · exact ⟨_, rfl⟩
    split
    · exact ⟨_, rfl⟩
    · exact ⟨_, rfl⟩
  obtain ⟨w, hw⟩ := hM
  exact ⟨v, w, hv, hw⟩
theorem holds_eq {σ : mS} {i n : Nat} (hn : n < 32) : X2_holds σ i (nI n) = if bt (σ.1 (144 + i) 3) n = true then 1 else 0 := by
  unfold X2_holds
  rw [bit_eq _ hn]
  cases bt (σ.1 (144 + i) 3) n <;> decide
theorem marksByX {σ μ : mS} {c : cT} (h : RG σ μ c) {i r n : Nat} (hi : i < c.1) (hr : r < 6) (hn : n < 31) : X10_marksBy σ (nI r) (nI i) (nI n) = some (σ.1 (152 + 5) i ||| mbT (μ.1 7) i (X11_heard (nI r) (nI n) (μ.1 10 7) (μ.1 10 6))) := by
  have h4 := h.P4
  unfold X10_marksBy
  rw [if_pos (vinI hr (by decide)), if_pos (vinI (by omega) (by decide)), nI_nat (n := i) (by omega), nI_nat (n := r) (by omega), heard_eq hr hn, marked_eq σ h.2.2.2.1 (nI_ti (by omega)) hi, h.2.2.1, h.las, h.cal]
  rfl
theorem which_ok {σ μ : mS} (h : RR σ μ) (a1 a2 : Int32) : ∃ v, X10_which σ a1 a2 = some v ∧ X11_which μ a1 a2 = some v := by
  obtain ⟨c, hG⟩ := h.2.2.1
  unfold X10_which X11_which
  by_cases hb : a1.toInt < 0 ∨ (c.1 : Int) ≤ a1.toInt
  · rw [if_pos (hG.plX.mpr hb), if_pos (hG.plM.mpr hb)]
    exact ⟨_, rfl, rfl⟩
  rw [if_neg (fun q => hb (hG.plX.mp q)), if_neg (fun q => hb (hG.plM.mp q))]
  obtain ⟨i, hi, hi4, rfl⟩ := plEx hG hb
  by_cases h0 : a2.toInt < 0
  · have z : X11_in a2.toInt64 0 63 = 0 := in_zero.mpr (Or.inl h0)
    rw [if_pos (i_lt.mpr h0), if_pos z]
    exact ⟨_, rfl, rfl⟩
  by_cases h6 : 63 < a2.toInt
  · have z : X11_in a2.toInt64 0 63 = 0 := in_zero.mpr (Or.inr h6)
    rw [if_neg (fun q => h0 (i_lt.mp q)), if_neg (nle (show (63 : Int32).toInt < a2.toInt from h6)), if_pos z]
    exact ⟨_, rfl, rfl⟩
  have z : ¬ X11_in a2.toInt64 0 63 = 0 := fun q => by
    rcases in_zero.mp q with q | q
    · exact h0 q
    · exact h6 q
  rw [if_neg (fun q => h0 (i_lt.mp q)), if_pos (ile (show a2.toInt ≤ 63 by omega)), if_neg z]
  obtain ⟨r, hr, e1, e2, e3⟩ := hG.kd hi
  obtain ⟨y, y', l1, l2, hy⟩ := lpR (b := un2 (X10_which_b25 σ (nI i) a2)) (b' := un2 (X11_which_b27 μ (nI i) a2)) (I := fun d q q' => ∃ n, n + d = 13 ∧ 1 ≤ n ∧ q.2.toInt = (n : Int) ∧ q'.2.toInt = (n : Int) ∧ q.1 = q'.1) (Q := fun y y' => y = y') (fun d q q' hI => by
    obtain ⟨x, xn⟩ := q
    obtain ⟨y, yn⟩ := q'
    obtain ⟨n, hnd, hn1, hx, hy, rfl⟩ := hI
    dsimp only at hx hy
    show (∃ t1 t1' n', n' < d ∧ X10_which_b25 σ (nI i) a2 x xn = _ ∧ X11_which_b27 μ (nI i) a2 x yn = _ ∧ _) ∨ (∃ r r', X10_which_b25 σ (nI i) a2 x xn = _ ∧ X11_which_b27 μ (nI i) a2 x yn = _ ∧ _)
    unfold X10_which_b25 X11_which_b27
    by_cases he : 13 ≤ n
    · right
      rw [if_pos (i_lt.mpr (by rw [hx]; show (12 : Int) < n; omega)), if_pos (ile (by rw [hy]; show (13 : Int) ≤ n; omega))]
      exact ⟨x, x, rfl, rfl, rfl⟩
    left
    have hx' : (xn + 1).toInt = ((n + 1 : Nat) : Int) := by rw [i_inc (by omega), hx]; rfl
    have hy' : (yn + 1).toInt = ((n + 1 : Nat) : Int) := by rw [i_inc (by omega), hy]; rfl
    have v1 : vin (nI i) 1360 = true := vinI (by omega) (by decide)
    have v2 : vin (nI i) 4 = true := vinI hi4 (by decide)
    have k7 : (7 : Int32).toNatClampNeg = 7 := by decide
    have k6 : (6 : Int32).toNatClampNeg = 6 := by decide
    have k5 : (5 : Int32).toNatClampNeg = 5 := by decide
    rw [if_neg (fun q => by have := i_lt.mp q; rw [hx] at this; have h9 : (12 : Int) < n := this; omega), if_neg (nle (by rw [hy]; show (n : Int) < 13; omega)), i_nI hx, i_nI hy]
    rw [i_nI hx] at hx'
    rw [i_nI hy] at hy'
    have v7 : vin 7 1360 = true := by decide
    have v6 : vin 6 1360 = true := by decide
    have v5 : vin 5 1360 = true := by decide
    simp only [if_pos v1, if_pos v2, if_pos v7, if_pos v6, if_pos v5, k7, k6, k5, nI_nat (n := i) (show i < 2147483648 by omega)]
    rw [e1, e2, marksBy_eq μ (nI_ti (by omega)) hi4, Option.bind_some, marksByX hG hi hr (by omega), Option.bind_some, has_eq _ (by omega), holds_eq (by omega), hG.bag, hG.mk hi4]
    by_cases hb2 : bt (σ.1 (144 + 5) 3) n = true
    · have n10 : ¬ (1 : Int32) = 0 := by decide
      simp only [if_pos hb2, if_neg n10]
      by_cases hm : (σ.1 (152 + 5) i ||| mbT (μ.1 7) i (X11_heard (nI r) (nI n) (μ.1 10 7) (μ.1 10 6))) = a2
      · simp only [if_pos hm]
        exact ⟨_, _, d - 1, by omega, rfl, rfl, n + 1, by omega, by omega, hx', hy', rfl⟩
      · simp only [if_neg hm, or_zero]
        exact ⟨_, _, d - 1, by omega, rfl, rfl, n + 1, by omega, by omega, hx', hy', rfl⟩
    · simp only [if_neg hb2, if_true, or_zero]
      exact ⟨_, _, d - 1, by omega, rfl, rfl, n + 1, by omega, by omega, hx', hy', rfl⟩) big 12 (0, 1) (0, 1) ⟨1, rfl, by omega, i_one, i_one, rfl⟩ (by decide)
  subst hy
  rw [l1, l2]
  exact ⟨y, rfl, rfl⟩

/-! deeds: call, rub, undo, keep, on -/
def FrH (σ μ τ ν : mS) : Prop := (∀ q, q ≠ 149 → q ≠ 157 → ¬ (160 ≤ q ∧ q < 164) → ¬ (168 ≤ q ∧ q < 172) → τ.1 q = σ.1 q) ∧ τ.2 = σ.2 ∧ (∀ q, q ≠ 0 → q ≠ 10 → q ≠ 11 → ν.1 q = μ.1 q) ∧ (∀ q, q ≠ 12 → ν.1 0 q = μ.1 0 q) ∧ ν.2 = μ.2
theorem RR.hallop {σ μ τ ν : mS} {c : cT} (h : RR σ μ) (hF : FrH σ μ τ ν) (hG : RG τ ν c) : RR τ ν := by
  obtain ⟨hW, hT, -, hO⟩ := h
  obtain ⟨f1, f2, f3, f4, f5⟩ := hF
  refine ⟨hW.of (f1 _ (by omega) (by omega) (by omega) (by omega)) (fun r hr => f1 _ (by omega) (by omega) (by omega) (by omega)) (f3 _ (by omega) (by omega) (by omega)) (f3 _ (by omega) (by omega) (by omega)), hT.of (f1 _ (by omega) (by omega) (by omega) (by omega)) (fun r hr => f1 _ (by omega) (by omega) (by omega) (by omega)) (f3 _ (by omega) (by omega) (by omega)) (f3 _ (by omega) (by omega) (by omega)), ⟨c, hG⟩, hO.of (by rw [f1 _ (by omega) (by omega) (by omega) (by omega)]) (by rw [f1 _ (by omega) (by omega) (by omega) (by omega)]) f2 (fun f _ => by rw [f1 _ (by omega) (by omega) (by omega) (by omega)]) (f4 _ (by omega)) (f4 _ (by omega)) f5 (fun f _ => by rw [f3 _ (by omega) (by omega) (by omega)])⟩
theorem FrH.cf {σ μ τ ν : mS} {c : cT} (hF : FrH σ μ τ ν) (hC : CF σ c) : CF τ c := hC.of (hF.1 _ (by omega) (by omega) (by omega) (by omega)) (hF.1 _ (by omega) (by omega) (by omega) (by omega)) (hF.1 _ (by omega) (by omega) (by omega) (by omega)) (fun i hi => hF.1 _ (by omega) (by omega) (by omega) (by omega))
theorem RD.far {c : cT} {sz : Int32} {dr f g : Nat → Int32} {b : Nat} (h : RD c sz dr f b) (hg : ∀ b', b ≤ b' → b' + 8 ≤ b + 328 → getH g b' = getH f b') : RD c sz dr g b := by
  obtain ⟨d, dn, h1, h2, h3, h4, h5⟩ := h
  exact ⟨d, dn, h1, h2, h3, by rw [hg b (by omega) (by omega)]; exact h4, fun k hk => by rw [hg _ (by omega) (by omega)]; exact h5 k hk⟩
/-- one more deed -/
theorem RG.push {σ μ τ ν : mS} {c : cT} {d m : Nat} (h : RG σ μ c) (hF : FrH σ μ τ ν) (hd : d < 40) (hsz : σ.1 (160 + 3) 1 = nI d) (hm : dOK c.1 m) (x1 : HX τ 5 = dStep c (HX σ 5) m) (x2 : τ.1 (160 + 3) 1 = nI (d + 1)) (x3 : ∀ k, k ≤ d → τ.1 (168 + 3) k = upd (σ.1 (168 + 3)) d (nI m) k) (x4 : ∀ k, k < 3 → τ.1 (160 + k) 1 = σ.1 (160 + k) 1 ∧ τ.1 (168 + k) = σ.1 (168 + k)) (m1 : ν.1 0 12 = nI (d + 1)) (m2 : ν.1 11 = μ.1 11) (g0 : getH (ν.1 10) 0 = dStep c (getH (μ.1 10) 0) m) (g1 : getH (ν.1 10) (8 * (d + 1)) = getH (μ.1 10) 0) (g2 : ∀ b, 8 ≤ b → b + 8 ≤ 8 * (d + 1) ∨ 8 * (d + 2) ≤ b → getH (ν.1 10) b = getH (μ.1 10) b) : RG τ ν c := by
  obtain ⟨a1, a2, a3, a4, a5, a6, a7, a8, a9⟩ := h
  refine ⟨by rw [hF.2.2.2.1 5 (by decide)]; exact a1, by rw [hF.2.2.1 6 (by decide) (by decide) (by decide)]; exact a2, by rw [hF.2.2.1 7 (by decide) (by decide) (by decide)]; exact a3, hF.cf a4, a5, by rw [x1, g0, a6], by rw [m1, x2], ?_, fun k hk => ?_⟩
  · obtain ⟨d', dn, h1, h2, h3, h4, h5⟩ := a8
    have e : d' = d := by
      rw [hsz] at h1
      exact ((eqL (by omega) (by omega)).mp h1).symm
    subst e
    have cg : ∀ k, k ≤ d' → rpl c (fun q => if q = d' then m else dn q) k = rpl c dn k := fun k hk => rpl_cong (fun q hq => by rw [if_neg (by omega)])
    refine ⟨d' + 1, fun q => if q = d' then m else dn q, x2, by omega, fun k hk => ?_, ?_, fun k hk => ?_⟩
    · rw [x3 k (by omega)]
      by_cases e : k = d'
      · subst e
        simp only [upd_at, if_true]
        exact ⟨trivial, hm⟩
      · simp only [upd_ne e, if_neg e]
        exact h3 k (by omega)
    · show _ = dStep c (rpl c _ d') (if d' = d' then m else dn d')
      rw [if_pos rfl, cg d' (by omega), g0, h4]
    · rw [cg k (by omega), Nat.zero_add]
      by_cases e : k = d'
      · subst e
        rw [g1, h4]
      · rw [g2 _ (by omega) (Or.inl (by omega))]
        have := h5 k (by omega)
        rw [Nat.zero_add] at this
        exact this
  · obtain ⟨b1, b2⟩ := a9 k hk
    obtain ⟨c1, c2⟩ := x4 k hk
    refine ⟨by rw [m2, c1]; exact b1, ?_⟩
    rw [c1, c2]
    rcases b2 with b2 | b2
    · exact Or.inl b2
    · exact Or.inr (b2.far (fun b' h1 h2 => g2 b' (by omega) (Or.inr (by omega))))
theorem add_eq (σ : mS) {d : Nat} {v : Int32} (hd : d < 40) (hsz : σ.1 (160 + 3) 1 = nI d) : X1_add σ 3 v = some ((), mrow (mrow σ (168 + 3) (upd (σ.1 (168 + 3)) d v)) (160 + 3) (upd (σ.1 (160 + 3)) 1 (nI (d + 1)))) := by
  unfold X1_add
  have e : nI d + 1 = nI (d + 1) := i_nI (i32_add (nI_ti (by omega)) (b := 1) (by decide) (by omega))
  rw [hsz, if_neg (nle (by rw [nI_ti (by omega)]; show (d : Int) < 40; omega)), if_pos (vinI hd (by decide)), nI_nat (by omega), mwI_rk (by decide : 160 + 3 ≠ 168 + 3), hsz, e, mwI_row, mwI_row, mrow_ne (by decide : 160 + 3 ≠ 168 + 3)]
theorem known_eq (μ : mS) {d : Nat} (hd : d < 40) (h12 : μ.1 0 12 = nI d) : X11_known μ = some ((), mrow (mwI μ 0 12 (nI (d + 1))) 10 (cpF (μ.1 10) 0 (8 * (d + 1)) 8)) := by
  unfold X11_known
  have e : nI d + 1 = nI (d + 1) := i_nI (i32_add (nI_ti (by omega)) (b := 1) (by decide) (by omega))
  have e8 : (nI (d + 1) * 8).toInt = ((8 * (d + 1) : Nat) : Int) := by
    have k8 : (8 : Int32).toInt = 8 := by decide
    rw [i_mul (by rw [k8, nI_ti (by omega)]; omega) (by rw [k8, nI_ti (by omega)]; omega), k8, nI_ti (by omega)]
    omega
  rw [h12, e, mwI_rd, copies_eq _ (s := 0) (t := 8 * (d + 1)) (n := 8) (by decide) e8 (by decide) (by omega) (by omega) (Or.inl (by omega)), bd_some, mwI_rk (by decide : (10 : Nat) ≠ 0)]
theorem dnum {σ μ : mS} {c : cT} (h : RG σ μ c) : ∃ d, d ≤ 40 ∧ σ.1 (160 + 3) 1 = nI d ∧ μ.1 0 12 = nI d := by
  obtain ⟨d, dn, h1, h2, -⟩ := h.2.2.2.2.2.2.2.1
  exact ⟨d, h2, h1, by rw [h.2.2.2.2.2.2.1]; exact h1⟩
/-- a number called in both, d deeds done -/
theorem call_both {σ μ : mS} {c : cT} (h : RR σ μ) (hG : RG σ μ c) {d n : Nat} (hd : d < 40) (hsz : σ.1 (160 + 3) 1 = nI d) (h12 : μ.1 0 12 = nI d) (hn : 1 ≤ n ∧ n ≤ 12) : ∃ v τ ν, X10_doCall σ (nI n) = some (v, τ) ∧ bd (X11_known μ) (fun r12 s14 => bd (X11_calls s14 (0) (nI n)) (fun r15 s17 => some (r15, s17))) = some (v, ν) ∧ RR τ ν ∧ RG τ ν c ∧ τ.1 (160 + 3) 1 = nI (d + 1) := by
  have hP4 := hG.P4
  have hC := hG.2.2.2.1
  have hV := hG.hv
  unfold X10_doCall
  rw [add_eq σ hd hsz, bd_some, known_eq μ hd h12, bd_some]
  generalize hS : mrow (mrow σ (168 + 3) (upd (σ.1 (168 + 3)) d (nI n))) (160 + 3) (upd (σ.1 (160 + 3)) 1 (nI (d + 1))) = S
  have rS : ∀ q, q ≠ 163 → q ≠ 171 → S.1 q = σ.1 q := fun q q1 q2 => by rw [← hS, mrow_ne q1, mrow_ne q2]
  have S2 : S.2 = σ.2 := by rw [← hS]; rfl
  have hCS : CF S c := hC.of (rS _ (by omega) (by omega)) (rS _ (by omega) (by omega)) (rS _ (by omega) (by omega)) (fun i hi => rS _ (by omega) (by omega))
  have hHS : HX S 5 = HX σ 5 := HX_of (rS _ (by omega) (by omega)) (rS _ (by omega) (by omega))
  rw [ring15 S (by decide) hCS (by rw [hHS]; exact hV.m hP4) (by omega), bd_some, hHS]
  generalize hN : mrow (mwI μ 0 12 (nI (d + 1))) 10 (cpF (μ.1 10) 0 (8 * (d + 1)) 8) = N
  have rN : ∀ q, q ≠ 0 → q ≠ 10 → N.1 q = μ.1 q := fun q q0 q10 => by rw [← hN, mrow_ne q10, mwI_rk q0]
  have N0 : N.1 0 = upd (μ.1 0) 12 (nI (d + 1)) := by rw [← hN, mrow_ne (by decide), mwI_row, mrow_at]
  have N10 : N.1 10 = cpF (μ.1 10) 0 (8 * (d + 1)) 8 := by rw [← hN, mrow_at]
  have N2 : N.2 = μ.2 := by rw [← hN]; rfl
  have hP5 : (N.1 0 5).toInt = (c.1 : Int) := by rw [N0, upd_ne (by decide), hG.1, nI_ti (by omega)]
  have hcf : cfM N c.1 = c := by
    unfold cfM
    rw [rN 6 (by decide) (by decide), rN 7 (by decide) (by decide), ← hG.2.1, ← hG.2.2.1]
  have gN0 : getH (N.1 10) 0 = HX σ 5 := by rw [N10, getH_cp_out (Or.inl (by omega))]; exact hG.2.2.2.2.2.1.symm
  rw [calls_eq N (a1 := 0) (b := 0) (P := c.1) (by decide) (by decide) hP5 hP4, bd_some, hcf, gN0]
  have n4 : N.1 10 (0 + 4) = HX σ 5 4 := by
    have := congrFun gN0 4
    rw [getH_lt (by omega)] at this
    exact this
  rw [n4]
  generalize hTe : rgX S c 5 15 (nI n) = T
  generalize hVv : mrow N 10 (putH (N.1 10) 0 (ringH c (HX σ 5) (nI n))) = V
  have rT : ∀ q, q ≠ 149 → q ≠ 157 → T.1 q = S.1 q := fun q q1 q2 => by rw [← hTe, rgX_row q2 q1]
  have hF : FrH σ μ T V := ⟨fun q q1 q2 q3 q4 => by rw [rT q q1 q2, rS q (by omega) (by omega)], by rw [← hTe, rgX_2, S2], fun q q0 q10 q11 => by rw [← hVv, mrow_ne q10, rN q q0 q10], fun q q12 => by rw [← hVv, mrow_ne (by decide), N0, upd_ne q12], by rw [← hVv]; exact N2⟩
  have hd1 : T.1 (160 + 3) 1 = nI (d + 1) := by rw [rT _ (by omega) (by omega), ← hS, mrow_at, upd_at]
  have hst : ∀ h' : hT, dStep c h' n = ringH c h' (nI n) := fun h' => by unfold dStep; rw [if_pos (by omega)]
  have V10 : V.1 10 = putH (cpF (μ.1 10) 0 (8 * (d + 1)) 8) 0 (ringH c (HX σ 5) (nI n)) := by rw [← hVv, mrow_at, N10]
  have hGT : RG T V c := by
    refine hG.push hF hd hsz (Or.inl hn) ?_ hd1 (fun k hk => ?_) (fun k hk => ⟨?_, ?_⟩) ?_ ?_ ?_ ?_ (fun b h8 hb => ?_)
    · rw [← hTe, rgX_HX hP4, hHS, hst]
    · rw [rT _ (by omega) (by omega), ← hS, mrow_ne (by decide), mrow_at]
    · rw [rT _ (by omega) (by omega), rS _ (by omega) (by omega)]
    · rw [rT _ (by omega) (by omega), rS _ (by omega) (by omega)]
    · rw [← hVv, mrow_ne (by decide), N0, upd_at]
    · rw [← hVv, mrow_ne (by decide), rN 11 (by decide) (by decide)]
    · rw [V10, getH_put (ringH_8 hP4 (fun q hq => by rw [hG.2.2.2.2.2.1]; exact getH_8 q hq)), hst, ← hG.2.2.2.2.2.1]
    · rw [V10, getH_put_out (Or.inr (by omega)), getH_cp_in (by omega)]
      rw [show 0 + (8 * (d + 1) - 8 * (d + 1)) = 0 by omega]
    · rw [V10, getH_put_out (Or.inr (by omega)), getH_cp_out (by omega)]
  exact ⟨_, T, V, rfl, rfl, h.hallop hF hGT, hGT, hd1⟩
/-- a place rubbed in both -/
theorem rub_both {σ μ : mS} {c : cT} (h : RR σ μ) (hG : RG σ μ c) {d i p : Nat} (hd : d < 40) (hsz : σ.1 (160 + 3) 1 = nI d) (h12 : μ.1 0 12 = nI d) (hi : i < c.1) (hp : p < 6) : ∃ τ m ν, X10_doRub σ (nI i) (nI p) = some ((), τ) ∧ X11_known μ = some ((), m) ∧ ν = mwI m 10 i ((m.1 10 i) ^^^ ((1 : Int32) <<< (nI p &&& 31))) ∧ RR τ ν ∧ RG τ ν c ∧ τ.1 (160 + 3) 1 = nI (d + 1) := by
  have hP4 := hG.P4
  unfold X10_doRub
  have ec : (((16 : Int32) + (nI i * 6)) + nI p) = nI (16 + 6 * i + p) := by
    have k6 : (6 : Int32).toInt = 6 := by decide
    have e6 : (nI i * 6).toInt = ((6 * i : Nat) : Int) := by
      rw [i_mul (by rw [k6, nI_ti (by omega)]; omega) (by rw [k6, nI_ti (by omega)]; omega), k6, nI_ti (by omega)]
      omega
    exact i_nI (i32_add (i32_add (a := 16) (by decide) e6 (by omega)) (nI_ti (by omega)) (by omega))
  rw [ec, add_eq σ hd hsz, bd_some, known_eq μ hd h12]
  generalize hS : mrow (mrow σ (168 + 3) (upd (σ.1 (168 + 3)) d (nI (16 + 6 * i + p)))) (160 + 3) (upd (σ.1 (160 + 3)) 1 (nI (d + 1))) = S
  have rS : ∀ q, q ≠ 163 → q ≠ 171 → S.1 q = σ.1 q := fun q q1 q2 => by rw [← hS, mrow_ne q1, mrow_ne q2]
  have S2 : S.2 = σ.2 := by rw [← hS]; rfl
  have hHS : HX S 5 = HX σ 5 := HX_of (rS _ (by omega) (by omega)) (rS _ (by omega) (by omega))
  rw [turn_eq S (by omega), bd_some]
  generalize hN : mrow (mwI μ 0 12 (nI (d + 1))) 10 (cpF (μ.1 10) 0 (8 * (d + 1)) 8) = N
  have rN : ∀ q, q ≠ 0 → q ≠ 10 → N.1 q = μ.1 q := fun q q0 q10 => by rw [← hN, mrow_ne q10, mwI_rk q0]
  have N0 : N.1 0 = upd (μ.1 0) 12 (nI (d + 1)) := by rw [← hN, mrow_ne (by decide), mwI_row, mrow_at]
  have N10 : N.1 10 = cpF (μ.1 10) 0 (8 * (d + 1)) 8 := by rw [← hN, mrow_at]
  have N2 : N.2 = μ.2 := by rw [← hN]; rfl
  have gN0 : getH (N.1 10) 0 = HX σ 5 := by rw [N10, getH_cp_out (Or.inl (by omega))]; exact hG.2.2.2.2.2.1.symm
  generalize hTe : mrow S (152 + 5) (upd (S.1 (152 + 5)) i (S.1 (152 + 5) i ^^^ ((1 : Int32) <<< (nI p &&& 31)))) = T
  refine ⟨T, N, _, rfl, rfl, rfl, ?_⟩
  generalize hVv : mwI N 10 i ((N.1 10 i) ^^^ ((1 : Int32) <<< (nI p &&& 31))) = V
  have rT : ∀ q, q ≠ 157 → T.1 q = S.1 q := fun q q1 => by rw [← hTe, mrow_ne q1]
  have hF : FrH σ μ T V := ⟨fun q q1 q2 q3 q4 => by rw [rT q q2, rS q (by omega) (by omega)], by rw [← hTe]; exact S2, fun q q0 q10 q11 => by rw [← hVv, mwI_rk q10, rN q q0 q10], fun q q12 => by rw [← hVv, mwI_rk (by decide), N0, upd_ne q12], by rw [← hVv]; exact N2⟩
  have hd1 : T.1 (160 + 3) 1 = nI (d + 1) := by rw [rT _ (by omega), ← hS, mrow_at, upd_at]
  have hst : ∀ h' : hT, dStep c h' (16 + 6 * i + p) = turnH h' i p := fun h' => by
    unfold dStep
    rw [if_neg (by omega), show (16 + 6 * i + p - 16) / 6 = i by omega, show (16 + 6 * i + p - 16) % 6 = p by omega]
  have V10 : V.1 10 = upd (N.1 10) i ((N.1 10 i) ^^^ ((1 : Int32) <<< (nI p &&& 31))) := by rw [← hVv, mwI_row, mrow_at]
  have g0 : getH (V.1 10) 0 = turnH (HX σ 5) i p := by
    rw [V10, ← gN0]
    unfold turnH
    rw [getH_lt (show i < 8 by omega), Nat.zero_add]
    funext q
    by_cases hq : q < 8
    · rw [getH_lt hq, Nat.zero_add]
      by_cases e : q = i
      · subst e; rw [upd_at, upd_at]
      · rw [upd_ne e, upd_ne e, getH_lt hq, Nat.zero_add]
    · rw [upd_ne (by omega), getH_8 q (by omega), getH_8 q (by omega)]
  have gfar : ∀ b, 8 ≤ b → getH (V.1 10) b = getH (N.1 10) b := fun b hb => by
    funext q
    unfold getH
    by_cases hq : q < 8
    · rw [if_pos hq, if_pos hq, V10, upd_ne (by omega)]
    · rw [if_neg hq, if_neg hq]
  have hGT : RG T V c := by
    refine hG.push hF hd hsz (m := 16 + 6 * i + p) (Or.inr (by omega)) ?_ hd1 (fun k hk => ?_) (fun k hk => ⟨?_, ?_⟩) ?_ ?_ ?_ ?_ (fun b h8 hb => ?_)
    · rw [← hTe, turn_HX (by omega), hHS, hst]
    · rw [rT _ (by omega), ← hS, mrow_ne (by decide), mrow_at]
    · rw [rT _ (by omega), rS _ (by omega) (by omega)]
    · rw [rT _ (by omega), rS _ (by omega) (by omega)]
    · rw [← hVv, mwI_rk (by decide), N0, upd_at]
    · rw [← hVv, mwI_rk (by decide), rN 11 (by decide) (by decide)]
    · rw [g0, hst, ← hG.2.2.2.2.2.1]
    · rw [gfar _ (by omega), N10, getH_cp_in (by omega)]
      rw [show 0 + (8 * (d + 1) - 8 * (d + 1)) = 0 by omega]
    · rw [gfar _ h8, N10, getH_cp_out (by omega)]
  exact ⟨h.hallop hF hGT, hGT, hd1⟩
theorem pz {c : Nat} (h : c ≤ 4) : (nI c = 0) ↔ c = 0 := eqL (v := 0) (by omega) (by omega)
theorem sim_call {σ μ : mS} (h : RR σ μ) (a1 : Int32) : SIM (X10_call σ a1) (X11_call μ a1) := by
  obtain ⟨c, hG⟩ := h.2.2.1
  have hP4 := hG.P4
  unfold X10_call X11_call
  by_cases hb : a1.toInt < 1 ∨ 12 < a1.toInt
  · exact SIM.L (isNumber_zero.mpr hb) (SIM.R (in_zero.mpr hb) (SIM.ret h rfl))
  obtain ⟨n, hn, rfl⟩ := i_ex (a := a1) (m := 13) (by omega) (by omega)
  rw [nI_ti (by omega)] at hb
  refine SIM.nL (fun q => by have := isNumber_zero.mp q; rw [nI_ti (by omega)] at this; exact hb this) (SIM.nR (fun q => by have q2 : (nI n).toInt < 1 ∨ 12 < (nI n).toInt := in_zero.mp q; rw [nI_ti (by omega)] at q2; exact hb q2) ?_)
  rw [hG.pX, hG.1]
  refine SIM.ite Iff.rfl (fun _ => SIM.ret h rfl) (fun hp => SIM.R (by decide) ?_)
  rw [show (5 : Int32).toNatClampNeg = 5 by decide, hG.bag, has_eq _ (by omega), holds_eq (by omega)]
  refine SIM.ite Iff.rfl (fun _ => SIM.ret h rfl) (fun _ => ?_)
  obtain ⟨d, hd, e1, e2⟩ := dnum hG
  rw [e1, e2]
  by_cases h40 : d = 40
  · subst h40
    exact SIM.nL (by decide) (SIM.R (by decide) (SIM.ret h rfl))
  refine SIM.L (i_lt.mpr (by rw [nI_ti (by omega)]; show (d : Int) < 40; omega)) (SIM.nR (fun q => h40 ((eqL (v := 40) (by omega) (by omega)).mp q)) ?_)
  obtain ⟨v, τ, ν, g1, g2, hR, -⟩ := call_both h hG (by omega) e1 e2 (n := n) (by omega)
  rw [g1, g2, bd_some]
  exact ⟨v, τ, ν, rfl, rfl, hR⟩
theorem sim_rub {σ μ : mS} (h : RR σ μ) (a1 a2 : Int32) : SIM (X10_rub σ a1 a2) (X11_rub μ a1 a2) := by
  obtain ⟨c, hG⟩ := h.2.2.1
  have hP4 := hG.P4
  unfold X10_rub X11_rub
  by_cases hb : a1.toInt < 0 ∨ (c.1 : Int) ≤ a1.toInt
  · rw [if_pos (hG.plX.mpr hb), if_pos (hG.plM.mpr hb)]
    exact SIM.ret h rfl
  rw [if_neg (fun q => hb (hG.plX.mp q)), if_neg (fun q => hb (hG.plM.mp q))]
  obtain ⟨i, hi, hi4, rfl⟩ := plEx hG hb
  by_cases hp : a2.toInt < 0 ∨ 6 ≤ a2.toInt
  · refine SIM.L (isPlace_zero.mpr hp) (SIM.R (in_zero.mpr (show a2.toInt < 0 ∨ 5 < a2.toInt by omega)) (SIM.ret h rfl))
  obtain ⟨p, hp6, rfl⟩ := i_ex (a := a2) (m := 6) (by omega) (by omega)
  refine SIM.nL (fun q => hp (isPlace_zero.mp q)) (SIM.nR (fun q => by have q2 : (nI p).toInt < 0 ∨ 5 < (nI p).toInt := in_zero.mp q; omega) ?_)
  obtain ⟨d, hd, e1, e2⟩ := dnum hG
  rw [e1, e2]
  by_cases h40 : d = 40
  · subst h40
    exact SIM.nL (by decide) (SIM.R (by decide) (SIM.ret h rfl))
  refine SIM.L (i_lt.mpr (by rw [nI_ti (by omega)]; show (d : Int) < 40; omega)) (SIM.nR (fun q => h40 ((eqL (v := 40) (by omega) (by omega)).mp q)) ?_)
  obtain ⟨τ, m, ν, g1, g2, g3, hR, hG2, -⟩ := rub_both h hG (by omega) e1 e2 hi hp6
  have v1 : vin (nI i) 1360 = true := vinI (by omega) (by decide)
  rw [g1, g2, bd_some, bd_some, if_pos (vinI hi4 (by decide)), if_pos v1, if_pos v1, if_pos v1, nI_nat (by omega), ← g3]
  exact SIM.ret hR (hG2.mk hi4).symm

/-! undo, keep, on -/
theorem dtake_eq (σ : mS) {i i1 d : Nat} (hi : i < 4) (hi1 : i1 < 4) (hne : i ≠ i1) (hd : d ≤ 40) (hsz : σ.1 (160 + i1) 1 = nI d) : X1_take σ i i1 = some ((), mrow (mrow σ (160 + i) (upd (σ.1 (160 + i)) 1 (nI d))) (168 + i) (cpT (σ.1 (168 + i1)) (σ.1 (168 + i)) 0 0 d)) := by
  unfold X1_take
  rw [hsz]
  have H := lp_zero (b := un2 (X1_take_b10 i i1)) (n := d) (res := mrow (mrow σ (160 + i) (upd (σ.1 (160 + i)) 1 (nI d))) (168 + i) (cpT (σ.1 (168 + i1)) (σ.1 (168 + i)) 0 0 d)) (fun j y => (mrow (mrow σ (160 + i) (upd (σ.1 (160 + i)) 1 (nI d))) (168 + i) (cpT (σ.1 (168 + i1)) (σ.1 (168 + i)) 0 0 j), y)) (by omega) (fun j y hj hy => by
    have hyn : y.toNatClampNeg = j := by rw [i_nat, hy]; rfl
    have vy : vin y 40 = true := vin_iff.mpr (by omega)
    show X1_take_b10 i i1 (mrow (mrow σ (160 + i) (upd (σ.1 (160 + i)) 1 (nI d))) (168 + i) (cpT (σ.1 (168 + i1)) (σ.1 (168 + i)) 0 0 j)) y = some (.inl (mrow (mrow σ (160 + i) (upd (σ.1 (160 + i)) 1 (nI d))) (168 + i) (cpT (σ.1 (168 + i1)) (σ.1 (168 + i)) 0 0 (j + 1)), y + 1))
    unfold X1_take_b10
    have e4 := cpT_succ (f := σ.1 (168 + i1)) (g := σ.1 (168 + i)) (s := 0) (t := 0) (j := j)
    rw [Nat.zero_add] at e4
    rw [mrow_ne (by omega : 160 + i ≠ 168 + i), mrow_at, upd_at, if_neg (nle (by rw [nI_ti (by omega), hy]; omega)), if_pos vy, if_pos vy, hyn, mwI_row, mrow_mrow, mrow_at, mrow_ne (by omega : 168 + i1 ≠ 168 + i), mrow_ne (by omega : 168 + i1 ≠ 160 + i), e4]) (fun y hy => by
    show X1_take_b10 i i1 _ y = _
    unfold X1_take_b10
    rw [mrow_ne (by omega : 160 + i ≠ 168 + i), mrow_at, upd_at, if_pos (ile (by rw [nI_ti (by omega), hy]; omega))])
  have H2 : lp big (un2 (X1_take_b10 i i1)) (mrow (mrow σ (160 + i) (upd (σ.1 (160 + i)) 1 (nI d))) (168 + i) (cpT (σ.1 (168 + i1)) (σ.1 (168 + i)) 0 0 0), 0) = _ := H
  rw [cpT_zero, show mrow (mrow σ (160 + i) (upd (σ.1 (160 + i)) 1 (nI d))) (168 + i) (σ.1 (168 + i)) = mwI σ (160 + i) 1 (nI d) by rw [mrow_comm (by omega), mrow_id]; rfl] at H2
  rw [H2]
  rfl
theorem cpT_in {f g : Nat → Int32} {n q : Nat} (h : q < n) : cpT f g 0 0 n q = f q := by
  unfold cpT
  rw [if_pos (by omega), Nat.zero_add, Nat.sub_zero]
theorem sim_undo {σ μ : mS} (h : RR σ μ) (a1 : Int32) : SIM (X10_undo σ a1) (X11_undo μ a1) := by
  obtain ⟨c, hG⟩ := h.2.2.1
  have hG' := hG
  obtain ⟨g1, g2, g3, g4, g5, g6, g7, ⟨d, dn, d1, d2, d3, d4, d5⟩, g9⟩ := hG'
  have hP4 := hG.P4
  unfold X10_undo X11_undo
  rw [g7, d1]
  by_cases hb : a1.toInt < 0 ∨ (d : Int) < a1.toInt
  · refine SIM.R (in_zero.mpr (by rw [l_of_i, nI_ti (by omega)]; exact hb)) ?_
    by_cases h0 : a1.toInt < 0
    · exact SIM.L (i_lt.mpr h0) (SIM.ret h rfl)
    · exact SIM.nL (fun q => h0 (i_lt.mp q)) (SIM.nL (nle (by rw [nI_ti (by omega)]; omega)) (SIM.ret h rfl))
  obtain ⟨n, hn, rfl⟩ := i_ex (a := a1) (m := d + 1) (by omega) (by omega)
  have inN : ¬ X11_in (nI n).toInt64 0 (nI d).toInt64 = 0 := fun q => by
    have q2 := in_zero.mp q
    rw [l_of_i, nI_ti (by omega), nI_ti (by omega)] at q2
    have k0 : (0 : Int64).toInt = 0 := by decide
    omega
  refine SIM.nL (fun q => by have := i_lt.mp q; rw [i_zero] at this; omega) (SIM.L (ile (by rw [nI_ti (by omega), nI_ti (by omega)]; omega)) (SIM.nR inN ?_))
  generalize hS : mwI σ (160 + 3) 1 (nI n) = S
  have rS : ∀ q, q ≠ 163 → S.1 q = σ.1 q := fun q q1 => by rw [← hS, mwI_rk q1]
  have hCS : CF S c := g4.of (rS _ (by omega)) (rS _ (by omega)) (rS _ (by omega)) (fun i hi => rS _ (by omega))
  obtain ⟨τ, t1, t2, t3, t4⟩ := again_eq S (c := c) (d := n) (dn := dn) hCS (by rw [← hS, mwI_rd]) (by omega) (fun k hk => by rw [rS _ (by omega)]; exact d3 k (by omega))
  rw [t1, bd_some]
  have es : (nI d - nI n).toInt = (d : Int) - n := by rw [i_sub (by rw [nI_ti (by omega), nI_ti (by omega)]; omega) (by rw [nI_ti (by omega), nI_ti (by omega)]; omega), nI_ti (by omega), nI_ti (by omega)]
  have S3 : τ.1 (160 + 3) 1 = nI n := by rw [t3 _ (by omega) (by omega), ← hS, mwI_rd]
  have mk : ∀ ν : mS, FrH σ μ τ ν → ν.1 0 12 = nI n → ν.1 11 = μ.1 11 → getH (ν.1 10) 0 = rpl c dn n → (∀ b, 8 ≤ b → getH (ν.1 10) b = getH (μ.1 10) b) → RG τ ν c := fun ν hF v12 v11 w0 w1 => by
    refine ⟨by rw [hF.2.2.2.1 5 (by decide)]; exact g1, by rw [hF.2.2.1 6 (by decide) (by decide) (by decide)]; exact g2, by rw [hF.2.2.1 7 (by decide) (by decide) (by decide)]; exact g3, hF.cf g4, g5, by rw [t2, w0], by rw [v12, S3], ⟨n, dn, S3, by omega, fun k hk => ?_, w0, fun k hk => ?_⟩, fun k hk => ?_⟩
    · rw [t3 _ (by omega) (by omega), rS _ (by omega)]
      exact d3 k (by omega)
    · rw [w1 _ (by omega)]
      exact d5 k (by omega)
    · obtain ⟨b1, b2⟩ := g9 k hk
      rw [v11, t3 _ (by omega) (by omega), t3 _ (by omega) (by omega), rS _ (by omega), rS _ (by omega)]
      refine ⟨b1, ?_⟩
      rcases b2 with b2 | b2
      · exact Or.inl b2
      · exact Or.inr (b2.far (fun b' h1 h2 => w1 b' (by omega)))
  have frT : ∀ q, q ≠ 149 → q ≠ 157 → ¬ (160 ≤ q ∧ q < 164) → ¬ (168 ≤ q ∧ q < 172) → τ.1 q = σ.1 q := fun q q1 q2 q3 q4 => by rw [t3 q (by omega) (by omega), rS q (by omega)]
  have frT2 : τ.2 = σ.2 := by rw [t4, ← hS]; rfl
  by_cases he : d = n
  · subst he
    refine SIM.R (ile (by rw [es, i_zero]; omega)) ?_
    have hF : FrH σ μ τ μ := ⟨frT, frT2, fun _ _ _ _ => rfl, fun _ _ => rfl, rfl⟩
    exact SIM.ret (h.hallop hF (mk μ hF (by rw [g7, d1]) rfl d4 (fun _ _ => rfl))) rfl
  · have e8 : ((nI n + 1) * 8).toInt = ((8 * (n + 1) : Nat) : Int) := by
      have k8 : (8 : Int32).toInt = 8 := by decide
      have e : (nI n + 1).toInt = ((n + 1 : Nat) : Int) := i32_add (nI_ti (by omega)) (b := 1) (by decide) (by omega)
      rw [i_mul (by rw [k8, e]; omega) (by rw [k8, e]; omega), k8, e]
      omega
    refine SIM.nR (nle (by rw [es, i_zero]; omega)) ?_
    rw [copies_eq μ (s := 8 * (n + 1)) (t := 0) (n := 8) e8 (by decide) (by decide) (by omega) (by omega) (Or.inr (by omega)), bd_some]
    generalize hV : mwI (mrow μ 10 (cpF (μ.1 10) (8 * (n + 1)) 0 8)) 0 12 (nI n) = V
    have V10 : V.1 10 = cpF (μ.1 10) (8 * (n + 1)) 0 8 := by rw [← hV, mwI_rk (by decide), mrow_at]
    have hF : FrH σ μ τ V := ⟨frT, frT2, fun q q0 q10 q11 => by rw [← hV, mwI_rk q0, mrow_ne q10], fun q q12 => by rw [← hV, mwI_row, mrow_at, upd_ne q12, mrow_ne (by decide)], by rw [← hV]; rfl⟩
    refine SIM.ret (h.hallop hF (mk V hF (by rw [← hV, mwI_rd]) (by rw [← hV, mwI_rk (by decide), mrow_ne (by decide)]) ?_ (fun b hb => ?_))) rfl
    · rw [V10, getH_cp_in (by omega)]
      have := d5 n (by omega)
      rw [Nat.zero_add] at this
      rw [show 8 * (n + 1) + (0 - 0) = 8 * (n + 1) by omega]
      exact this
    · rw [V10, getH_cp_out (Or.inr (by omega))]
theorem keptEx {a : Int32} (h : ¬ (a.toInt < 0 ∨ 3 ≤ a.toInt)) : ∃ r, r < 3 ∧ a = nI r := i_ex (by omega) (by omega)
theorem in02 {a : Int32} : X11_in a.toInt64 0 2 = 0 ↔ (a.toInt < 0 ∨ 3 ≤ a.toInt) := by
  rw [in_zero]
  show a.toInt < 0 ∨ 2 < a.toInt ↔ _
  omega
theorem e328 {k : Nat} (hk : k < 3) : ((328 : Int32) * (nI k + 1)).toInt = ((328 * (k + 1) : Nat) : Int) := by
  have k8 : (328 : Int32).toInt = 328 := by decide
  have e : (nI k + 1).toInt = ((k + 1 : Nat) : Int) := i32_add (nI_ti (by omega)) (b := 1) (by decide) (by omega)
  rw [i_mul (by rw [k8, e]; omega) (by rw [k8, e]; omega), k8, e]
  omega
theorem sim_keep {σ μ : mS} (h : RR σ μ) (a1 : Int32) : SIM (X10_keep σ a1) (X11_keep μ a1) := by
  obtain ⟨c, hG⟩ := h.2.2.1
  have hG' := hG
  obtain ⟨g1, g2, g3, g4, g5, g6, g7, hD, g9⟩ := hG'
  have hD' := hD
  obtain ⟨d, dn, d1, d2, d3, d4, d5⟩ := hD'
  have hP4 := hG.P4
  unfold X10_keep X11_keep
  by_cases hb : a1.toInt < 0 ∨ 3 ≤ a1.toInt
  · exact SIM.L (isKept_zero.mpr hb) (SIM.R (in02.mpr hb) (SIM.ret h rfl))
  obtain ⟨k, hk, rfl⟩ := keptEx hb
  refine SIM.nL (fun q => hb (isKept_zero.mp q)) (SIM.nR (fun q => hb (in02.mp q)) ?_)
  rw [hG.pX, g1]
  refine SIM.ite Iff.rfl (fun _ => SIM.ret h rfl) (fun _ => SIM.L (vinI hk (by decide)) ?_)
  rw [nI_nat (n := k) (by omega), dtake_eq σ (i := k) (i1 := 3) (by omega) (by omega) (by omega) d2 d1, bd_some, copies_eq μ (s := 0) (t := 328 * (k + 1)) (n := 328) (by decide) (e328 hk) (by decide) (by omega) (by omega) (Or.inl (by omega)), bd_some]
  refine SIM.R (vinI hk (by decide)) ?_
  generalize hT : mrow (mrow σ (160 + k) (upd (σ.1 (160 + k)) 1 (nI d))) (168 + k) (cpT (σ.1 (168 + 3)) (σ.1 (168 + k)) 0 0 d) = T
  have r12 : (mrow μ 10 (cpF (μ.1 10) 0 (328 * (k + 1)) 328)).1 0 12 = nI d := by rw [mrow_ne (by decide), g7, d1]
  rw [r12, mwI_rk (by decide : (0 : Nat) ≠ 11), r12]
  generalize hV : mwI (mrow μ 10 (cpF (μ.1 10) 0 (328 * (k + 1)) 328)) 11 k (nI d) = V
  have rT : ∀ q, q ≠ 160 + k → q ≠ 168 + k → T.1 q = σ.1 q := fun q q1 q2 => by rw [← hT, mrow_ne q2, mrow_ne q1]
  have V10 : V.1 10 = cpF (μ.1 10) 0 (328 * (k + 1)) 328 := by rw [← hV, mwI_rk (by decide), mrow_at]
  have hF : FrH σ μ T V := ⟨fun q q1 q2 q3 q4 => rT q (by omega) (by omega), by rw [← hT]; rfl, fun q q0 q10 q11 => by rw [← hV, mwI_rk q11, mrow_ne q10], fun q q12 => by rw [← hV, mwI_rk (by decide), mrow_ne (by decide)], by rw [← hV]; rfl⟩
  have hlow : ∀ b, b + 8 ≤ 328 → getH (V.1 10) b = getH (μ.1 10) b := fun b hb => by rw [V10, getH_cp_out (Or.inl (by omega))]
  have T3 : T.1 (160 + 3) = σ.1 (160 + 3) := rT _ (by omega) (by omega)
  have T3b : T.1 (168 + 3) = σ.1 (168 + 3) := rT _ (by omega) (by omega)
  have hGT : RG T V c := by
    refine ⟨by rw [hF.2.2.2.1 5 (by decide)]; exact g1, by rw [hF.2.2.1 6 (by decide) (by decide) (by decide)]; exact g2, by rw [hF.2.2.1 7 (by decide) (by decide) (by decide)]; exact g3, hF.cf g4, g5, by rw [HX_of (rT _ (by omega) (by omega)) (rT _ (by omega) (by omega)), hlow 0 (by omega)]; exact g6, by rw [T3, ← hV, mwI_rk (by decide), mrow_ne (by decide)]; exact g7, ?_, fun q hq => ?_⟩
    · rw [T3, T3b]
      exact hD.far (fun b' h1 h2 => hlow b' (by omega))
    · by_cases e : q = k
      · subst e
        have t1 : T.1 (160 + q) 1 = nI d := by rw [← hT, mrow_ne (by omega), mrow_at, upd_at]
        have t2 : T.1 (168 + q) = cpT (σ.1 (168 + 3)) (σ.1 (168 + q)) 0 0 d := by rw [← hT, mrow_at]
        refine ⟨by rw [t1, ← hV, mwI_rd], Or.inr ⟨d, dn, t1, d2, fun z hz => ?_, ?_, fun z hz => ?_⟩⟩
        · rw [t2, cpT_in hz]
          exact d3 z hz
        · rw [V10, getH_cp_in (by omega), show 0 + (328 * (q + 1) - 328 * (q + 1)) = 0 by omega]
          exact d4
        · rw [V10, getH_cp_in (by omega), show 0 + (328 * (q + 1) + 8 * (z + 1) - 328 * (q + 1)) = 0 + 8 * (z + 1) by omega]
          exact d5 z hz
      · obtain ⟨b1, b2⟩ := g9 q hq
        rw [rT (160 + q) (by omega) (by omega), rT (168 + q) (by omega) (by omega)]
        refine ⟨by rw [← hV, mwI_row, mrow_at, upd_ne e, mrow_ne (by decide)]; exact b1, ?_⟩
        rcases b2 with b2 | b2
        · exact Or.inl b2
        · exact Or.inr (b2.far (fun b' h1 h2 => by rw [V10, getH_cp_out (by omega)]))
  exact SIM.ret (h.hallop hF hGT) (by rw [T3, d1])
theorem sim_on {σ μ : mS} (h : RR σ μ) (a1 : Int32) : SIM (X10_on σ a1) (X11_on μ a1) := by
  obtain ⟨c, hG⟩ := h.2.2.1
  have hG' := hG
  obtain ⟨g1, g2, g3, g4, g5, g6, g7, -, g9⟩ := hG'
  have hP4 := hG.P4
  unfold X10_on X11_on
  by_cases hb : a1.toInt < 0 ∨ 3 ≤ a1.toInt
  · exact SIM.L (isKept_zero.mpr hb) (SIM.R (in02.mpr hb) (SIM.ret h rfl))
  obtain ⟨k, hk, rfl⟩ := keptEx hb
  have vk : vin (nI k) 3 = true := vinI hk (by decide)
  refine SIM.nL (fun q => hb (isKept_zero.mp q)) (SIM.nR (fun q => hb (in02.mp q)) (SIM.L vk (SIM.R vk ?_)))
  obtain ⟨b1, b2⟩ := g9 k hk
  rw [nI_nat (n := k) (by omega), b1]
  rcases b2 with b2 | b2
  · rw [b2]
    refine SIM.nL (by decide) (SIM.nR (by decide) ?_)
    rw [f1X, f1M, bd_some, bd_some]
    exact SIM.ret (h.fnd (by decide)) rfl
  obtain ⟨d, dn, d1, d2, d3, d4, d5⟩ := b2
  rw [d1]
  have ge : (0 : Int32) ≤ nI d := ge0 (by rw [nI_ti (by omega)]; omega)
  refine SIM.L ge (SIM.L vk (SIM.R ge ?_))
  rw [dtake_eq σ (i := 3) (i1 := k) (by omega) (by omega) (by omega) d2 d1, bd_some, copies_eq μ (s := 328 * (k + 1)) (t := 0) (n := 328) (e328 hk) (by decide) (by decide) (by omega) (by omega) (Or.inr (by omega)), bd_some]
  refine SIM.R vk ?_
  generalize hS : mrow (mrow σ (160 + 3) (upd (σ.1 (160 + 3)) 1 (nI d))) (168 + 3) (cpT (σ.1 (168 + k)) (σ.1 (168 + 3)) 0 0 d) = S
  have rS : ∀ q, q ≠ 163 → q ≠ 171 → S.1 q = σ.1 q := fun q q1 q2 => by rw [← hS, mrow_ne q2, mrow_ne q1]
  have hCS : CF S c := g4.of (rS _ (by omega) (by omega)) (rS _ (by omega) (by omega)) (rS _ (by omega) (by omega)) (fun i hi => rS _ (by omega) (by omega))
  have s1 : S.1 (160 + 3) 1 = nI d := by rw [← hS, mrow_ne (by omega), mrow_at, upd_at]
  have s2 : S.1 (168 + 3) = cpT (σ.1 (168 + k)) (σ.1 (168 + 3)) 0 0 d := by rw [← hS, mrow_at]
  obtain ⟨τ, t1, t2, t3, t4⟩ := again_eq S (c := c) (d := d) (dn := dn) hCS s1 d2 (fun z hz => by rw [s2, cpT_in hz]; exact d3 z hz)
  have r11 : (mrow μ 10 (cpF (μ.1 10) (328 * (k + 1)) 0 328)).1 11 k = nI d := by rw [mrow_ne (by decide), b1, d1]
  rw [t1, bd_some, r11, mwI_rd]
  generalize hV : mwI (mrow μ 10 (cpF (μ.1 10) (328 * (k + 1)) 0 328)) 0 12 (nI d) = V
  have V10 : V.1 10 = cpF (μ.1 10) (328 * (k + 1)) 0 328 := by rw [← hV, mwI_rk (by decide), mrow_at]
  have hF : FrH σ μ τ V := ⟨fun q q1 q2 q3 q4 => by rw [t3 q (by omega) (by omega), rS q (by omega) (by omega)], by rw [t4, ← hS]; rfl, fun q q0 q10 q11 => by rw [← hV, mwI_rk q0, mrow_ne q10], fun q q12 => by rw [← hV, mwI_row, mrow_at, upd_ne q12, mrow_ne (by decide)], by rw [← hV]; rfl⟩
  have T3 : τ.1 (160 + 3) 1 = nI d := by rw [t3 _ (by omega) (by omega), s1]
  have w0 : getH (V.1 10) 0 = rpl c dn d := by
    rw [V10, getH_cp_in (by omega), show 328 * (k + 1) + (0 - 0) = 328 * (k + 1) by omega]
    exact d4
  have hGT : RG τ V c := by
    refine ⟨by rw [hF.2.2.2.1 5 (by decide)]; exact g1, by rw [hF.2.2.1 6 (by decide) (by decide) (by decide)]; exact g2, by rw [hF.2.2.1 7 (by decide) (by decide) (by decide)]; exact g3, hF.cf g4, g5, by rw [t2, w0], by rw [T3, ← hV, mwI_rd], ⟨d, dn, T3, d2, fun z hz => ?_, w0, fun z hz => ?_⟩, fun q hq => ?_⟩
    · rw [t3 _ (by omega) (by omega), s2, cpT_in hz]
      exact d3 z hz
    · rw [V10, getH_cp_in (by omega), show 328 * (k + 1) + (0 + 8 * (z + 1) - 0) = 328 * (k + 1) + 8 * (z + 1) by omega]
      exact d5 z hz
    · obtain ⟨b1, b2⟩ := g9 q hq
      rw [t3 (160 + q) (by omega) (by omega), t3 (168 + q) (by omega) (by omega), rS (160 + q) (by omega) (by omega), rS (168 + q) (by omega) (by omega)]
      refine ⟨by rw [← hV, mwI_rk (by decide), mrow_ne (by decide)]; exact b1, ?_⟩
      rcases b2 with b2 | b2
      · exact Or.inl b2
      · exact Or.inr (b2.far (fun b' h1 h2 => by rw [V10, getH_cp_out (Or.inr (by omega))]))
  exact SIM.ret (h.hallop hF hGT) T3

/-! what comes, tried aside -/
def FrX (σ τ : mS) : Prop := (∀ q, ¬ (144 ≤ q ∧ q < 149) → ¬ (152 ≤ q ∧ q < 157) → q ≠ 192 → q ≠ 200 → q ≠ 0 → τ.1 q = σ.1 q) ∧ (∀ q, q ≠ 11 → τ.1 0 q = σ.1 0 q) ∧ τ.2 = σ.2
def FrM (μ ν : mS) : Prop := (∀ q, q ≠ 10 → q ≠ 13 → q ≠ 14 → q ≠ 15 → ν.1 q = μ.1 q) ∧ (∀ q, q < 1312 → ν.1 10 q = μ.1 10 q) ∧ ν.2 = μ.2
theorem FrX.rf {σ : mS} : FrX σ σ := ⟨fun _ _ _ _ _ _ => rfl, fun _ _ => rfl, rfl⟩
theorem FrM.rf {σ : mS} : FrM σ σ := ⟨fun _ _ _ _ _ => rfl, fun _ _ => rfl, rfl⟩
theorem FrX.tr {a b c : mS} (h1 : FrX a b) (h2 : FrX b c) : FrX a c := ⟨fun q a1 a2 a3 a4 a5 => (h2.1 q a1 a2 a3 a4 a5).trans (h1.1 q a1 a2 a3 a4 a5), fun q a1 => (h2.2.1 q a1).trans (h1.2.1 q a1), h2.2.2.trans h1.2.2⟩
theorem FrM.tr {a b c : mS} (h1 : FrM a b) (h2 : FrM b c) : FrM a c := ⟨fun q a1 a2 a3 a4 => (h2.1 q a1 a2 a3 a4).trans (h1.1 q a1 a2 a3 a4), fun q a1 => (h2.2.1 q a1).trans (h1.2.1 q a1), h2.2.2.trans h1.2.2⟩
theorem RG.tri {σ μ τ ν : mS} {c : cT} (hG : RG σ μ c) (hX : FrX σ τ) (hM : FrM μ ν) : RG τ ν c := hG.of (fun k hk => hX.1 k (by unfold gX at hk; omega) (by unfold gX at hk; omega) (by unfold gX at hk; omega) (by unfold gX at hk; omega) (by unfold gX at hk; omega)) (by rw [hM.1 0 (by decide) (by decide) (by decide) (by decide)]) (by rw [hM.1 0 (by decide) (by decide) (by decide) (by decide)]) (hM.1 6 (by decide) (by decide) (by decide) (by decide)) (hM.1 7 (by decide) (by decide) (by decide) (by decide)) hM.2.1 (fun k _ => by rw [hM.1 11 (by decide) (by decide) (by decide) (by decide)])
theorem RR.tri {σ μ τ ν : mS} (h : RR σ μ) (hX : FrX σ τ) (hM : FrM μ ν) : RR τ ν := by
  obtain ⟨hW, hT, ⟨c, hG⟩, hO⟩ := h
  refine ⟨hW.of (hX.1 _ (by omega) (by omega) (by omega) (by omega) (by omega)) (fun r hr => hX.1 _ (by omega) (by omega) (by omega) (by omega) (by omega)) (hM.1 1 (by decide) (by decide) (by decide) (by decide)) (hM.1 2 (by decide) (by decide) (by decide) (by decide)), hT.of (hX.1 _ (by omega) (by omega) (by omega) (by omega) (by omega)) (fun r hr => hX.1 _ (by omega) (by omega) (by omega) (by omega) (by omega)) (hM.1 4 (by decide) (by decide) (by decide) (by decide)) (hM.1 5 (by decide) (by decide) (by decide) (by decide)), ⟨c, hG.tri hX hM⟩, hO.of (hX.2.1 13 (by decide)) (hX.2.1 16 (by decide)) hX.2.2 (fun f _ => by rw [hX.1 208 (by omega) (by omega) (by omega) (by omega) (by omega)]) (by rw [hM.1 0 (by decide) (by decide) (by decide) (by decide)]) (by rw [hM.1 0 (by decide) (by decide) (by decide) (by decide)]) hM.2.2 (fun f _ => by rw [hM.1 12 (by decide) (by decide) (by decide) (by decide)])⟩
theorem FrX.cf {σ τ : mS} {c : cT} (hX : FrX σ τ) (hC : CF σ c) : CF τ c := hC.of (hX.1 _ (by omega) (by omega) (by omega) (by omega) (by omega)) (hX.1 _ (by omega) (by omega) (by omega) (by omega) (by omega)) (hX.1 _ (by omega) (by omega) (by omega) (by omega) (by omega)) (fun i hi => hX.1 _ (by omega) (by omega) (by omega) (by omega) (by omega))
def ringW (c : cT) (who : Int32) (h : hT) (num : Int32) : hT := fun s => if s < 4 then (if s < c.1 ∧ bt who s = true then nmk c h num s else h s) else if s = 4 then h 4 ||| wnsW c who h num c.1 else if s = 5 then h 5 &&& (((1 : Int32) <<< (num &&& 31)) ^^^ (-1)) else if s = 6 then h 6 + 1 else if s = 7 then num else 0
theorem rgX_HXW {σ : mS} {c : cT} {i : Nat} {who num : Int32} : HX (rgX σ c i who num) i = ringW c who (HX σ i) num := by
  funext s
  show (if s < 4 then (rgX σ c i who num).1 (152 + i) s else if s = 4 then (rgX σ c i who num).1 (144 + i) 2 else if s = 5 then (rgX σ c i who num).1 (144 + i) 3 else if s = 6 then (rgX σ c i who num).1 (144 + i) 5 else if s = 7 then (rgX σ c i who num).1 (144 + i) 4 else 0) = _
  rw [rgX_152, rgX_144]
  unfold ringW
  by_cases h4 : s < 4
  · rw [if_pos h4, if_pos h4]
    unfold mkX
    by_cases hb : s < c.1 ∧ bt who s = true
    · rw [if_pos hb, if_pos hb]
    · rw [if_neg hb, if_neg hb]
      unfold HX
      rw [if_pos h4]
  · rw [if_neg h4, if_neg h4]
    rfl
theorem ringW_15 {c : cT} {h : hT} {num : Int32} (hP : c.1 ≤ 4) (h8 : ∀ q, 8 ≤ q → h q = 0) : ringW c 15 h num = ringH c h num := by
  funext s
  unfold ringW ringH
  by_cases h4 : s < 4
  · rw [if_pos h4]
    by_cases hs : s < c.1
    · rw [if_pos ⟨hs, bt15 s h4⟩, if_pos hs]
    · rw [if_neg (fun z => hs z.1), if_neg hs, if_neg (by omega), if_neg (by omega), if_neg (by omega), if_neg (by omega)]
  · rw [if_neg h4, if_neg (by omega : ¬ s < c.1), wnsW_15 hP]
    by_cases e4 : s = 4
    · rw [if_pos e4, if_pos e4]
    · rw [if_neg e4, if_neg e4]
      by_cases e5 : s = 5
      · rw [if_pos e5, if_pos e5]
      · rw [if_neg e5, if_neg e5]
        by_cases e6 : s = 6
        · rw [if_pos e6, if_pos e6]
        · rw [if_neg e6, if_neg e6]
          by_cases e7 : s = 7
          · rw [if_pos e7, if_pos e7]
          · rw [if_neg e7, if_neg e7, h8 s (by omega)]
theorem HX_8 {σ : mS} {i : Nat} : ∀ q, 8 ≤ q → HX σ i q = 0 := fun q hq => by
  unfold HX
  rw [if_neg (by omega), if_neg (by omega), if_neg (by omega), if_neg (by omega), if_neg (by omega)]
theorem step_eq (s : mS) {c : cT} {e n : Nat} {who : Int32} (he : e < 4) (hC : CF s c) (hM : HM c (HX s e)) (hn : n < 31) : ∃ s', X10_stepAhead s (nI e) (nI n) who = some ((HX s e 4 ||| wnsW c who (HX s e) (nI n) c.1) &&& ((HX s e 4) ^^^ (-1)), s') ∧ HX s' (e + 1) = ringW c who (HX s e) (nI n) ∧ (∀ q, q ≠ 192 → q ≠ 144 + (e + 1) → q ≠ 152 + (e + 1) → s'.1 q = s.1 q) ∧ s'.1 192 = upd (s.1 192) e (nI n) ∧ s'.2 = s.2 := by
  unfold X10_stepAhead
  have e1 : (nI e + 1).toInt = ((e + 1 : Nat) : Int) := i32_add (nI_ti (by omega)) (b := 1) (by decide) (by omega)
  have e2 : (nI e + 1).toNatClampNeg = e + 1 := by rw [i_nat, e1]; rfl
  have v1 : vin (nI e + 1) 5 = true := vin_iff.mpr (by rw [e1]; omega)
  rw [if_pos (vinI he (by decide)), if_pos v1, if_pos (vinI (by omega) (by decide)), nI_nat (by omega), e2]
  generalize hS : mwI s 192 e (nI n) = S
  have rS : ∀ q, q ≠ 192 → S.1 q = s.1 q := fun q hq => by rw [← hS, mwI_rk hq]
  rw [take_eq S (by omega) (by omega) (by omega), bd_some, if_pos v1]
  generalize hT : hlX S (e + 1) (fun q => if q < 4 then S.1 (152 + e) q else S.1 (152 + (e + 1)) q) (S.1 (144 + e) 2) (S.1 (144 + e) 3) (S.1 (144 + e) 4) (S.1 (144 + e) 5) = T
  have rT : ∀ q, q ≠ 144 + (e + 1) → q ≠ 152 + (e + 1) → T.1 q = S.1 q := fun q q1 q2 => by rw [← hT, hlX_row q2 q1]
  have hHT : HX T (e + 1) = HX s e := by
    rw [← hT, take_HX]
    exact HX_of (rS _ (by omega)) (rS _ (by omega))
  have hCT : CF T c := hC.of (by rw [rT _ (by omega) (by omega), rS _ (by omega)]) (by rw [rT _ (by omega) (by omega), rS _ (by omega)]) (by rw [rT _ (by omega) (by omega), rS _ (by omega)]) (fun i hi => by rw [rT _ (by omega) (by omega), rS _ (by omega)])
  rw [ring_eq T (i := e + 1) (by omega) hCT (by rw [hHT]; exact hM) hn, bd_some]
  have h4 : T.1 (144 + (e + 1)) 2 = HX s e 4 := congrFun hHT 4
  refine ⟨rgX T c (e + 1) who (nI n), ?_, ?_, fun q q1 q2 q3 => ?_, ?_, ?_⟩
  · rw [hHT, h4]
    unfold rgX
    rw [hHT, h4]
  · rw [rgX_HXW, hHT]
  · rw [rgX_row q3 q2, rT q q2 q3, rS q q1]
  · rw [rgX_row (by omega) (by omega), rT _ (by omega) (by omega), ← hS, mwI_row, mrow_at]
  · rw [rgX_2, ← hT]
    show S.2 = s.2
    rw [← hS]
    rfl
set_option maxRecDepth 100000 in
theorem bc16 : ∀ n, n < 16 → J6_bitCount_0f7a4 (nI n) = bitsT (nI n) := by decide +kernel
set_option maxRecDepth 100000 in
theorem bc64 : ∀ n, n < 64 → J6_bitCount_0f7a4 (nI n) = bitsT (nI n) := by decide +kernel
/-- the reference's call in a slot that is tried -/
theorem tcall {μ m : mS} {c : cT} {σ : mS} {b n : Nat} (hG : RG σ μ c) (hF : FrM μ m) (hb : 1312 ≤ b) (hb2 : b + 8 ≤ 1360) : ∃ m', X11_calls m (nI b) (nI n) = some (wns c (getH (m.1 10) b) (nI n) c.1 &&& ((getH (m.1 10) b 4) ^^^ (-1)), m') ∧ getH (m'.1 10) b = ringH c (getH (m.1 10) b) (nI n) ∧ (∀ b', b' + 8 ≤ b ∨ b + 8 ≤ b' → getH (m'.1 10) b' = getH (m.1 10) b') ∧ FrM μ m' ∧ (∀ q, q ≠ 10 → m'.1 q = m.1 q) := by
  have hP4 := hG.P4
  have m0 : m.1 0 = μ.1 0 := hF.1 0 (by decide) (by decide) (by decide) (by decide)
  have hcf : cfM m c.1 = c := by
    unfold cfM
    rw [hF.1 6 (by decide) (by decide) (by decide) (by decide), hF.1 7 (by decide) (by decide) (by decide) (by decide), ← hG.2.1, ← hG.2.2.1]
  rw [calls_eq m (a1 := nI b) (b := b) (P := c.1) (nI_ti (by omega)) hb2 (by rw [m0, hG.1, nI_ti (by omega)]) hP4, hcf]
  have e4 : m.1 10 (b + 4) = getH (m.1 10) b 4 := (getH_lt (by omega)).symm
  refine ⟨mrow m 10 (putH (m.1 10) b (ringH c (getH (m.1 10) b) (nI n))), by rw [e4], ?_, fun b' hb' => ?_, ⟨fun q q1 q2 q3 q4 => ?_, fun q hq => ?_, hF.2.2⟩, fun q hq => mrow_ne hq⟩
  · rw [mrow_at, getH_put (ringH_8 hP4 getH_8)]
  · rw [mrow_at, getH_put_out hb']
  · rw [mrow_ne q1]
    exact hF.1 q q1 q2 q3 q4
  · rw [mrow_at]
    unfold putH
    rw [if_neg (by omega)]
    exact hF.2.1 q hq
theorem tcopy {μ m : mS} {s t : Nat} (hF : FrM μ m) (hs : s + 8 ≤ 1360) (ht : 1312 ≤ t) (ht2 : t + 8 ≤ 1360) (hd : s + 8 ≤ t) : ∃ m', X11_copies m (nI s) (nI t) 8 = some ((), m') ∧ getH (m'.1 10) t = getH (m.1 10) s ∧ (∀ b', b' + 8 ≤ t ∨ t + 8 ≤ b' → getH (m'.1 10) b' = getH (m.1 10) b') ∧ FrM μ m' ∧ (∀ q, q ≠ 10 → m'.1 q = m.1 q) := by
  rw [copies_eq m (s := s) (t := t) (n := 8) (nI_ti (by omega)) (nI_ti (by omega)) (by decide) hs ht2 (Or.inl hd)]
  refine ⟨_, rfl, ?_, fun b' hb' => ?_, ⟨fun q q1 q2 q3 q4 => ?_, fun q hq => ?_, hF.2.2⟩, fun q hq => mrow_ne hq⟩
  · rw [mrow_at, getH_cp_in (by omega), show s + (t - t) = s by omega]
  · rw [mrow_at, getH_cp_out hb']
  · rw [mrow_ne q1]
    exact hF.1 q q1 q2 q3 q4
  · rw [mrow_at]
    unfold cpF
    rw [if_neg (by omega)]
    exact hF.2.1 q hq

theorem and_lt16 {x y : Int32} (hx : ∃ m, m < 16 ∧ x = nI m) : ∃ m, m < 16 ∧ x &&& y = nI m := by
  obtain ⟨a, ha, rfl⟩ := hx
  exact ⟨_, Nat.lt_of_le_of_lt Nat.and_le_left ha, and_nI a y⟩
theorem take0 {σ : mS} : ∃ s, X2_take σ ((0 : Int32).toNatClampNeg) 5 = some ((), s) ∧ HX s 0 = HX σ 5 ∧ FrX σ s ∧ s.1 0 = σ.1 0 ∧ s.1 192 = σ.1 192 := by
  refine ⟨_, take_eq σ (i := 0) (i1 := 5) (by decide) (by decide) (by decide), take_HX, ⟨fun q q1 q2 q3 q4 q5 => hlX_row (by omega) (by omega), fun q q1 => by rw [hlX_row (by omega) (by omega)], rfl⟩, hlX_row (by omega) (by omega), hlX_row (by omega) (by omega)⟩
theorem step15 {σ s : mS} {c : cT} {e n : Nat} (he : e < 4) (hX : FrX σ s) (hC : CF σ c) (hV : HV (HX s e)) (hn : n < 31) : ∃ s', X10_stepAhead s (nI e) (nI n) 15 = some (wns c (HX s e) (nI n) c.1 &&& ((HX s e 4) ^^^ (-1)), s') ∧ HX s' (e + 1) = ringH c (HX s e) (nI n) ∧ FrX σ s' ∧ (∀ j, j < 6 → j ≠ e + 1 → HX s' j = HX s j) ∧ s'.1 192 = upd (s.1 192) e (nI n) ∧ s'.1 0 = s.1 0 := by
  have hCs := hX.cf hC
  obtain ⟨s', g1, g2, g3, g4, g5⟩ := step_eq s (c := c) (who := 15) he hCs (hV.m hC.2.1) hn
  refine ⟨s', ?_, ?_, ⟨fun q q1 q2 q3 q4 q5 => ?_, fun q q1 => ?_, g5.trans hX.2.2⟩, fun j hj6 hj => HX_of (g3 _ (by omega) (by omega) (by omega)) (g3 _ (by omega) (by omega) (by omega)), g4, g3 0 (by omega) (by omega) (by omega)⟩
  · rw [g1, or_andn, wnsW_15 hC.2.1]
  · rw [g2, ringW_15 hC.2.1 HX_8]
  · rw [g3 q q3 (by omega) (by omega)]
    exact hX.1 q q1 q2 q3 q4 q5
  · rw [g3 0 (by omega) (by omega) (by omega)]
    exact hX.2.1 q q1
theorem i0 : nI 0 = 0 := rfl
theorem sim_safe {σ μ : mS} (h : RR σ μ) : SIM (X10_safe σ) (X11_safe μ) := by
  obtain ⟨c, hG⟩ := h.2.2.1
  have hP4 := hG.P4
  have hC := hG.2.2.2.1
  have hV := hG.hv
  unfold X10_safe X11_safe
  rw [hG.pX, hG.1]
  refine SIM.ite Iff.rfl (fun _ => SIM.ret h rfl) (fun _ => SIM.L (by decide) ?_)
  obtain ⟨s0, a1, a2, a3, -⟩ := take0 (σ := σ)
  rw [a1, bd_some]
  obtain ⟨r, r', l1, l2, s, m, y1, y2, rfl, rfl, hX, hM⟩ := lpR (b := un5 X10_safe_b35) (b' := un5 X11_safe_b19)
    (I := fun d q q' => ∃ n, n + d = 13 ∧ 1 ≤ n ∧ q.2.2.2.2.toInt = (n : Int) ∧ q'.2.2.2.2.toInt = (n : Int) ∧ q.2.1 = q'.2.1 ∧ q.2.2.1 = q'.2.2.2.1 ∧ q.2.2.2.1 = q'.2.2.1 ∧ FrX σ q.1 ∧ HX q.1 0 = HX σ 5 ∧ FrM μ q'.1)
    (Q := fun r r' => ∃ s m y1 y2, r = (s, y1, y2) ∧ r' = (m, y1, y2) ∧ FrX σ s ∧ FrM μ m) (fun d q q' hI => by
    obtain ⟨s, x8, x9, x10, x⟩ := q
    obtain ⟨m, z4, z5, z6, y⟩ := q'
    obtain ⟨n, hnd, hn1, hx, hy, e1, e2, e3, hX, hH, hM⟩ := hI
    dsimp only at hx hy e1 e2 e3 hX hH hM
    subst e1
    subst e2
    subst e3
    show (∃ t1 t1' n', n' < d ∧ X10_safe_b35 s x8 x9 x10 x = _ ∧ X11_safe_b19 m x8 x10 x9 y = _ ∧ _) ∨ (∃ r r', X10_safe_b35 s x8 x9 x10 x = _ ∧ X11_safe_b19 m x8 x10 x9 y = _ ∧ _)
    unfold X10_safe_b35 X11_safe_b19
    by_cases hend : 13 ≤ n
    · right
      rw [if_pos (i_lt.mpr (by rw [hx]; show (12 : Int) < n; omega)), if_pos (ile (by rw [hy]; show (13 : Int) ≤ n; omega))]
      exact ⟨_, _, rfl, rfl, s, m, x8, x10, rfl, rfl, hX, hM⟩
    left
    have hx' : (x + 1).toInt = ((n + 1 : Nat) : Int) := by rw [i_inc (by omega), hx]; rfl
    have hy' : (y + 1).toInt = ((n + 1 : Nat) : Int) := by rw [i_inc (by omega), hy]; rfl
    have bagS : s.1 (144 + 5) 3 = σ.1 (144 + 5) 3 := by rw [hX.1 149 (by omega) (by omega) (by omega) (by omega) (by omega)]
    have bagM : m.1 10 5 = σ.1 (144 + 5) 3 := by rw [hM.2.1 5 (by omega)]; exact hG.bag
    rw [if_neg (fun q => by have := i_lt.mp q; rw [hx] at this; have h9 : (12 : Int) < n := this; omega), if_neg (nle (by rw [hy]; show (n : Int) < 13; omega)), if_pos (by decide : vin 5 1360 = true), show (5 : Int32).toNatClampNeg = 5 by decide, bagM]
    have xe := i_nI hx
    have ye := i_nI hy
    subst xe
    subst ye
    rw [has_eq _ (by omega), holds_eq (by omega), bagS]
    have n10 : ¬ (1 : Int32) = 0 := by decide
    by_cases hb : bt (σ.1 (144 + 5) 3) n = true
    case neg =>
      simp only [if_neg hb, if_true]
      exact ⟨_, _, d - 1, by omega, rfl, rfl, n + 1, by omega, by omega, hx', hy', rfl, rfl, rfl, hX, hH, hM⟩
    case pos =>
      simp only [if_pos hb, if_neg n10]
      obtain ⟨s', f1, f2, f3, f4, -⟩ := step15 (σ := σ) (s := s) (c := c) (e := 0) (n := n) (by decide) hX hC (by rw [hH]; exact hV) (by omega)
      obtain ⟨m1, k1, k2, k3, k4, -⟩ := tcopy (μ := μ) (m := m) (s := 0) (t := 1312) hM (by decide) (by decide) (by decide) (by decide)
      have gm : getH (m1.1 10) 1312 = HX σ 5 := by
        rw [k2, hG.2.2.2.2.2.1]
        exact getH_of (by omega) hM.2.1
      obtain ⟨m2, q1, q2, q3, q4, -⟩ := tcall (b := 1312) (n := n) hG k4 (by decide) (by decide)
      have f1' : X10_stepAhead s 0 (nI n) 15 = some (wns c (HX s 0) (nI n) c.1 &&& ((HX s 0 4) ^^^ (-1)), s') := f1
      have k1' : X11_copies m 0 1312 8 = some ((), m1) := k1
      have q1' : X11_calls m1 1312 (nI n) = some (wns c (getH (m1.1 10) 1312) (nI n) c.1 &&& ((getH (m1.1 10) 1312 4) ^^^ (-1)), m2) := q1
      obtain ⟨w, hw, ew⟩ := and_lt16 (y := (HX σ 5 4) ^^^ (-1)) (wns_lt c (HX σ 5) (nI n) c.1 hP4)
      show ∃ t1 t1' n', n' < d ∧ (bd (X10_stepAhead s 0 (nI n) 15) _) = _ ∧ (bd (X11_copies m 0 1312 8) _) = _ ∧ _
      rw [f1', k1', bd_some, bd_some, q1', bd_some, gm, hH, ew, bits_eq, Option.bind_some, bc16 w hw]
      generalize bitsT (nI w) = B
      have fin : ∀ (X8 X9 X10 : Int32), ∃ t1 t1' n', n' < d ∧ (some (Sum.inl (s', X8, X9, X10, nI n + 1)) : Option ((mS × Int32 × Int32 × Int32 × Int32) ⊕ (mS × Int32 × Int32))) = some (.inl t1) ∧ (some (Sum.inl (m2, X8, X10, X9, nI n + 1)) : Option ((mS × Int32 × Int32 × Int32 × Int32) ⊕ (mS × Int32 × Int32))) = some (.inl t1') ∧ ∃ n0, n0 + n' = 13 ∧ 1 ≤ n0 ∧ t1.2.2.2.2.toInt = (n0 : Int) ∧ t1'.2.2.2.2.toInt = (n0 : Int) ∧ t1.2.1 = t1'.2.1 ∧ t1.2.2.1 = t1'.2.2.2.1 ∧ t1.2.2.2.1 = t1'.2.2.1 ∧ FrX σ t1.1 ∧ HX t1.1 0 = HX σ 5 ∧ FrM μ t1'.1 := fun X8 X9 X10 => ⟨_, _, d - 1, by omega, rfl, rfl, n + 1, by omega, by omega, hx', hy', rfl, rfl, rfl, f3, by show HX s' 0 = _; rw [f4 0 (by decide) (by decide)]; exact hH, q4⟩
      have e8 : (x8 ||| (if B = 0 then ((1 : Int32) <<< (nI n &&& 31)) else 0)) = (if B = 0 then (x8 ||| ((1 : Int32) <<< (nI n &&& 31))) else x8) := by
        by_cases hz : B = 0
        · rw [if_pos hz, if_pos hz]
        · rw [if_neg hz, if_neg hz, or_zero]
      rw [un1_app, un1_app, un1_app, un1_app, e8]
      unfold X11_larger
      by_cases hle : B ≤ x9
      · rw [if_pos hle, if_pos hle, if_pos hle]
        show ∃ t1 t1' n', n' < d ∧ (if B = x9 then _ else _) = _ ∧ _
        by_cases heq : B = x9
        · have hnl : ¬ B < x9 := fun q => by have := i_lt.mp q; rw [heq] at this; omega
          rw [if_pos heq, if_neg hnl]
          exact fin _ _ _
        · have hlt : B < x9 := i_lt.mpr (by
            have h1 := i_le.mp hle
            have h2 : ¬ B.toInt = x9.toInt := fun q => heq (i_eq.mpr q)
            omega)
          rw [if_neg heq, if_pos hlt, or_zero]
          exact fin _ _ _
      · rw [if_neg hle, if_neg hle, if_neg hle]
        show ∃ t1 t1' n', n' < d ∧ (if B = B then _ else _) = _ ∧ _
        have hnl : ¬ B < x9 := fun q => hle (i_le.mpr (by have := i_lt.mp q; omega))
        rw [if_pos rfl, if_neg hnl]
        exact fin _ _ _) big 12 (s0, 0, 0, 0, 1) (μ, 0, 0, 0, 1) ⟨1, rfl, by omega, i_one, i_one, rfl, rfl, rfl, a3, a2, FrM.rf⟩ (by decide)
  rw [l1, l2, Option.bind_some, Option.bind_some]
  exact SIM.ret ((h.tri hX hM).asked y2) rfl

/-! run -/
theorem sm1_inl {A0 T : Type} {f : A0 → Option T} {a : A0} : sm1 f (.inl a) = f a := rfl
theorem sm1_inr {A0 T : Type} {f : A0 → Option T} {t : T} : sm1 f (.inr t) = some t := rfl
theorem sm2_inl {A0 A1 T : Type} {f : A0 → A1 → Option T} {a : A0 × A1} : sm2 f (.inl a) = f a.1 a.2 := rfl
theorem sim_run {σ μ : mS} (h : RR σ μ) (a1 : Int32) : SIM (X10_run σ a1) (X11_run μ a1) := by
  obtain ⟨c, hG⟩ := h.2.2.1
  have hP4 := hG.P4
  have hC := hG.2.2.2.1
  have hV := hG.hv
  unfold X10_run X11_run
  rw [hG.pX, hG.1]
  refine SIM.ite Iff.rfl (fun _ => SIM.ret h rfl) (fun _ => ?_)
  by_cases hb : a1.toInt < 0 ∨ 6 ≤ a1.toInt
  · rw [refRow_bad hb, bd_some, if_neg (by decide), if_pos (isRowM_zero.mpr hb)]
    exact SIM.ret h rfl
  obtain ⟨r, hr, rfl⟩ := rowEx hb
  have hv : vin (nI r) 6 = true := vinI hr (by decide)
  obtain ⟨w1, w2, w3, w4⟩ := h.1 r hr
  rw [if_neg (rowY hr).2]
  refine SIM.R hv ?_
  rw [nI_nat (by omega), w1]
  by_cases hs : (σ.1 24 r).toInt < 0
  · rw [refRow_no hr hs, bd_some, if_neg (by decide), if_neg (nle hs), f1M, bd_some]
    exact SIM.ret (h.fnd (by decide)) rfl
  rw [refRow_ok hr (by omega), bd_some, if_pos rfl]
  refine SIM.L hv (SIM.R (ge0 (by omega)) (SIM.R hv ?_))
  refine SIM.ite Iff.rfl (fun h12 => ?_) (fun _ => ?_)
  rotate_left
  · rw [f5X, f5M, bd_some, bd_some]
    exact SIM.ret (h.fnd (by decide)) rfl
  have g12 : (σ.1 24 r).toInt ≤ 12 := i_le.mp h12
  obtain ⟨z, hz, ez⟩ := i_ex (a := σ.1 24 r) (m := 13) (by omega) (by omega)
  have ez2 : (σ.1 24 r).toInt = (z : Int) := by rw [ez, nI_ti (by omega)]
  obtain ⟨q1, q2, l1, l2, hQ⟩ := lpR (b := un1 (X10_run_b47 (nI r) σ)) (b' := un1 (X11_run_b54 μ (nI r)))
    (I := fun d x y => ∃ k, k + d = z ∧ x.toInt = (k : Int) ∧ y.toInt = (k : Int) ∧ ∀ j, j < k → ∃ n, 1 ≤ n ∧ n ≤ 12 ∧ σ.1 (16 + r) j = nI n)
    (Q := fun r1 r2 => (r1 = .inl () ∧ r2 = .inl () ∧ ∀ j, j < z → ∃ n, 1 ≤ n ∧ n ≤ 12 ∧ σ.1 (16 + r) j = nI n) ∨ (r1 = .inr (-3, fndX σ 3) ∧ r2 = .inr (-3, fndM μ 3))) (fun d x y hI => by
    obtain ⟨k, hkd, hx, hy, hk⟩ := hI
    show (∃ t1 t1' n', n' < d ∧ X10_run_b47 (nI r) σ x = _ ∧ X11_run_b54 μ (nI r) y = _ ∧ _) ∨ (∃ r1 r2, X10_run_b47 (nI r) σ x = _ ∧ X11_run_b54 μ (nI r) y = _ ∧ _)
    unfold X10_run_b47 X11_run_b54
    have c1 := i_ix (c := 40) (cn := 40) (by decide) (nI_ti (n := r) (by omega)) hy (by omega)
    have c2 := i_ixn (c := 40) (cn := 40) (by decide) (nI_ti (n := r) (by omega)) hy (by omega)
    have hxn : x.toNatClampNeg = k := by rw [i_nat, hx]; rfl
    rw [if_pos hv, if_pos hv, nI_nat (n := r) (by omega), w1]
    by_cases he : z ≤ k
    · right
      rw [if_pos (ile (by rw [ez2, hx]; omega)), if_pos (ile (by rw [ez2, hy]; omega))]
      exact ⟨_, _, rfl, rfl, Or.inl ⟨rfl, rfl, fun j hj => hk j (by omega)⟩⟩
    rw [if_neg (nle (by rw [ez2, hx]; omega)), if_neg (nle (by rw [ez2, hy]; omega)), if_pos (vin_iff.mpr (by omega) : vin x 40 = true), if_pos (vin_iff.mpr (by rw [c1]; omega) : vin (((40 : Int32) * nI r) + y) 240 = true), c2, hxn, w4 k (by omega)]
    by_cases hbad : (σ.1 (16 + r) k).toInt < 1 ∨ 12 < (σ.1 (16 + r) k).toInt
    · right
      have zM : X11_in (σ.1 (16 + r) k).toInt64 1 12 = 0 := in_zero.mpr hbad
      rw [if_pos (isNumber_zero.mpr hbad), if_pos zM, f3X, f3M, bd_some, bd_some]
      exact ⟨_, _, rfl, rfl, Or.inr ⟨rfl, rfl⟩⟩
    · left
      have zM : ¬ X11_in (σ.1 (16 + r) k).toInt64 1 12 = 0 := fun q => hbad (in_zero.mp q)
      rw [if_neg (fun q => hbad (isNumber_zero.mp q)), if_neg zM]
      refine ⟨_, _, d - 1, by omega, rfl, rfl, k + 1, by omega, by rw [i_inc (by omega), hx]; rfl, by rw [i_inc (by omega), hy]; rfl, fun j hj => ?_⟩
      by_cases e : j = k
      · subst e
        obtain ⟨n, hn, en⟩ := i_ex (a := σ.1 (16 + r) j) (m := 13) (by omega) (by omega)
        have : (σ.1 (16 + r) j).toInt = (n : Int) := by rw [en, nI_ti (by omega)]
        exact ⟨n, by omega, by omega, en⟩
      · exact hk j (by omega)) big z 0 0 ⟨0, by omega, i_zero, i_zero, fun j hj => absurd hj (Nat.not_lt_zero _)⟩ (by show z < 1000000; omega)
  rw [l1, l2, Option.bind_some, Option.bind_some]
  rcases hQ with ⟨rfl, rfl, hnum⟩ | ⟨rfl, rfl⟩
  rotate_left
  · exact SIM.ret (h.fnd (by decide)) rfl
  obtain ⟨s0, t1, t2, t3, -⟩ := take0 (σ := σ)
  obtain ⟨m0, k1, k2, k3, k4, -⟩ := tcopy (μ := μ) (m := μ) (s := 0) (t := 1312) FrM.rf (by decide) (by decide) (by decide) (by decide)
  have k1' : X11_copies μ 0 1312 8 = some ((), m0) := k1
  rw [sm1_inl, sm1_inl]
  refine SIM.L (by decide) ?_
  rw [k1', bd_some]
  rw [t1, bd_some]
  obtain ⟨q1, q2, l1, l2, s, m, y, rfl, rfl, hX, hM, hw⟩ := lpR (b := un2 (X10_run_b101 (nI r) σ)) (b' := un2 (X11_run_b110 (nI r)))
    (I := fun d q q' => ∃ k, k + d = z ∧ q.2.toInt = (k : Int) ∧ q'.2.toInt = (k : Int) ∧ FrX σ q.1 ∧ FrM μ q'.1 ∧ HX q.1 0 = getH (q'.1.1 10) 1312 ∧ HV (HX q.1 0))
    (Q := fun r1 r2 => ∃ s m y, r1 = (s, y) ∧ r2 = (m, y) ∧ FrX σ s ∧ FrM μ m ∧ HX s 0 = getH (m.1 10) 1312) (fun d q q' hI => by
    obtain ⟨s, x⟩ := q
    obtain ⟨m, y⟩ := q'
    obtain ⟨k, hkd, hx, hy, hX, hM, hH, hVs⟩ := hI
    dsimp only at hx hy hX hM hH hVs
    have xe := i_nI hx
    have ye := i_nI hy
    subst xe
    subst ye
    show (∃ t1 t1' n', n' < d ∧ X10_run_b101 (nI r) σ s (nI k) = _ ∧ X11_run_b110 (nI r) m (nI k) = _ ∧ _) ∨ (∃ r1 r2, X10_run_b101 (nI r) σ s (nI k) = _ ∧ X11_run_b110 (nI r) m (nI k) = _ ∧ _)
    unfold X10_run_b101 X11_run_b110
    have c1 := i_ix (c := 40) (cn := 40) (by decide) (nI_ti (n := r) (by omega)) hy (by omega)
    have c2 := i_ixn (c := 40) (cn := 40) (by decide) (nI_ti (n := r) (by omega)) hy (by omega)
    have vy : vin (((40 : Int32) * nI r) + nI k) 240 = true := by
      by_cases he : z ≤ k
      · exact vin_iff.mpr (by rw [c1]; omega)
      · exact vin_iff.mpr (by rw [c1]; omega)
    have m1r : m.1 1 r = σ.1 24 r := by rw [hM.1 1 (by decide) (by decide) (by decide) (by decide)]; exact w1
    simp only [if_pos hv, nI_nat (n := r) (show r < 2147483648 by omega), m1r]
    by_cases he : z ≤ k
    · right
      rw [if_pos (ile (by rw [ez2, hx]; omega)), if_pos (ile (by rw [ez2, hx]; omega))]
      exact ⟨_, _, rfl, rfl, s, m, _, rfl, rfl, hX, hM, hH⟩
    have vx : vin (nI k) 40 = true := vinI (by omega) (by decide)
    obtain ⟨n, n1, n2, en⟩ := hnum k (by omega)
    have srow : s.1 (16 + r) k = nI n := by rw [hX.1 (16 + r) (by omega) (by omega) (by omega) (by omega) (by omega)]; exact en
    have mrw : m.1 2 (40 * r + k) = nI n := by rw [hM.1 2 (by decide) (by decide) (by decide) (by decide), w4 k (by omega)]; exact en
    rw [if_neg (nle (by rw [ez2, hx]; omega)), if_neg (nle (by rw [ez2, hx]; omega))]
    simp only [if_pos vx, if_pos vy, nI_nat (n := k) (show k < 2147483648 by omega), c2, srow, mrw, if_pos (by decide : vin 1317 1360 = true), show (1317 : Int32).toNatClampNeg = 1317 by decide, show (0 : Int32).toNatClampNeg = 0 by decide]
    have bg : m.1 10 1317 = s.1 (144 + 0) 3 := by
      have e5 := congrFun hH 5
      rw [getH_lt (by omega)] at e5
      exact e5.symm
    rw [has_eq _ (by omega), holds_eq (by omega), bg]
    have n10 : ¬ (1 : Int32) = 0 := by decide
    by_cases hbit : bt (s.1 (144 + 0) 3) n = true
    · left
      simp only [if_pos hbit, if_neg n10]
      obtain ⟨m2, g1, g2, g3, g4, -⟩ := tcall (b := 1312) (n := n) hG hM (by decide) (by decide)
      have g1' : X11_calls m 1312 (nI n) = some (wns c (getH (m.1 10) 1312) (nI n) c.1 &&& ((getH (m.1 10) 1312 4) ^^^ (-1)), m2) := g1
      rw [ring15 s (by decide) (hX.cf hC) (hVs.m hP4) (by omega), g1', bd_some, bd_some]
      refine ⟨_, _, d - 1, by omega, rfl, rfl, k + 1, by omega, by show (nI k + 1).toInt = _; rw [i_inc (by omega), hx]; rfl, by show (nI k + 1).toInt = _; rw [i_inc (by omega), hx]; rfl, ⟨fun q a1 a2 a3 a4 a5 => ?_, fun q a1 => ?_, ?_⟩, g4, ?_, ?_⟩
      · show (rgX s c 0 15 (nI n)).1 q = _
        rw [rgX_row (by omega) (by omega)]
        exact hX.1 q a1 a2 a3 a4 a5
      · show (rgX s c 0 15 (nI n)).1 0 q = _
        rw [rgX_row (by omega) (by omega)]
        exact hX.2.1 q a1
      · exact hX.2.2
      · show HX (rgX s c 0 15 (nI n)) 0 = getH (m2.1 10) 1312
        rw [rgX_HX hP4, g2, hH]
      · show HV (HX (rgX s c 0 15 (nI n)) 0)
        rw [rgX_HX hP4]
        exact hVs.ring hP4 _
    · right
      simp only [if_neg hbit, if_true]
      exact ⟨_, _, rfl, rfl, s, m, _, rfl, rfl, hX, hM, hH⟩) big z (s0, 0) (m0, 0) ⟨0, by omega, i_zero, i_zero, t3, k4, by rw [t2, k2]; exact hG.2.2.2.2.2.1, by rw [t2]; exact hV⟩ (by show z < 1000000; omega)
  rw [l1, l2, Option.bind_some, Option.bind_some]
  show SIM (some (((mwI s 0 13 y).1 (144 + (0 : Int32).toNatClampNeg) 2), mwI s 0 13 y)) (if vin 1316 1360 = true then some (((mwI m 0 14 y).1 10 (1316 : Int32).toNatClampNeg), mwI m 0 14 y) else none)
  refine SIM.R (by decide) (SIM.ret ((h.tri hX hM).asked y) ?_)
  rw [mwI_rk (by decide), mwI_rk (by decide)]
  have e4 := congrFun hw 4
  rw [getH_lt (by omega)] at e4
  exact e4

/-! lots -/
theorem i_div {a d : Int32} {m D : Nat} (ha : a.toInt = (m : Int)) (hd : d.toInt = (D : Int)) (hm : m < 2147483648) : (a / d).toInt = ((m / D : Nat) : Int) := by
  rw [Int32.toInt_div, ha, hd]
  have e : Int.tdiv (m : Int) (D : Int) = ((m / D : Nat) : Int) := rfl
  have le : m / D ≤ m := Nat.div_le_self m D
  rw [e]
  generalize m / D = q at le
  exact i32_bm (by omega) (by omega)
theorem i_rem {a d : Int32} {m D : Nat} (ha : a.toInt = (m : Int)) (hd : d.toInt = (D : Int)) (hm : m < 2147483648) : a - a / d * d = nI (m % D) := by
  have e1 := i_div ha hd hm
  have le : m / D * D ≤ m := Nat.div_mul_le_self m D
  have e2 : (a / d * d).toInt = ((m / D * D : Nat) : Int) := by
    rw [i_mul (by rw [e1, hd]; have : (0 : Int) ≤ ((m / D * D : Nat) : Int) := Int.natCast_nonneg _; rw [← Int.natCast_mul]; omega) (by rw [e1, hd, ← Int.natCast_mul]; omega), e1, hd, Int.natCast_mul]
  have e3 : m - m / D * D = m % D := by
    have := Nat.div_add_mod m D
    rw [Nat.mul_comm] at this
    omega
  exact i_nI (by rw [i_sub (by rw [ha, e2]; omega) (by rw [ha, e2]; omega), ha, e2, ← e3]; omega)
/-- the next lot -/
theorem l_next {v : Int32} {k : Nat} (hk : v.toInt = (k : Int)) : ∃ m : Nat, m < 2147483647 ∧ ((v.toInt64 * 48271) - (v.toInt64 * 48271) / 2147483647 * 2147483647).toInt = (m : Int) := by
  have hh := i_hi v
  have e0 : (v.toInt64 * 48271).toInt = ((k * 48271 : Nat) : Int) := by
    rw [Int64.toInt_mul, l_of_i, hk, show (48271 : Int64).toInt = 48271 by decide, Int.bmod_eq_of_le (by omega) (by omega)]
    omega
  have e1 : ((v.toInt64 * 48271) / 2147483647).toInt = ((k * 48271 / 2147483647 : Nat) : Int) := by
    rw [Int64.toInt_div, e0, show (2147483647 : Int64).toInt = ((2147483647 : Nat) : Int) by decide, show Int.tdiv ((k * 48271 : Nat) : Int) ((2147483647 : Nat) : Int) = ((k * 48271 / 2147483647 : Nat) : Int) from rfl]
    exact Int.bmod_eq_of_le (by omega) (by omega)
  have e2 : ((v.toInt64 * 48271) / 2147483647 * 2147483647).toInt = ((k * 48271 / 2147483647 * 2147483647 : Nat) : Int) := by
    rw [Int64.toInt_mul, e1, show (2147483647 : Int64).toInt = 2147483647 by decide, Int.bmod_eq_of_le (by omega) (by omega)]
    omega
  refine ⟨k * 48271 % 2147483647, by omega, ?_⟩
  rw [Int64.toInt_sub, e0, e2, Int.bmod_eq_of_le (by omega) (by omega)]
  omega
theorem l_i {w : Int64} {m : Nat} (h : w.toInt = (m : Int)) (hm : m < 2147483648) : w.toInt32 = nI m ∧ (nI m).toInt64 = w := by
  have e : w.toInt32 = nI m := i_nI (by rw [Int64.toInt_toInt32, h]; exact i32_bm (by omega) (by omega))
  exact ⟨e, l_eq.mpr (by rw [l_of_i, nI_ti hm, h])⟩
theorem l_step {k : Nat} (hk : (nI k).toInt = (k : Int)) : ∃ (W : Int64) (m : Nat), m < 2147483647 ∧ (((nI k).toInt64 * 48271) - ((nI k).toInt64 * 48271) / 2147483647 * 2147483647) = W ∧ W.toInt32 = nI m ∧ (nI m).toInt64 = W := by
  obtain ⟨m, hm, e⟩ := l_next hk
  exact ⟨_, m, hm, rfl, l_i e (Nat.lt_of_lt_of_le hm (by decide))⟩
theorem bag_has : ∀ n, n < 4096 → n ≠ 0 → ∃ m, m < 12 ∧ bt (nI (2 * n)) (m + 1) = true := by
  have key : ∀ a, a < 64 → ∀ b, b < 64 → 64 * a + b ≠ 0 → (List.range 12).any (fun m => bt (nI (2 * (64 * a + b))) (m + 1)) = true := by decide +kernel
  intro n h1 h2
  have k := key (n / 64) (by omega) (n % 64) (by omega)
  rw [show 64 * (n / 64) + n % 64 = n by omega] at k
  obtain ⟨m, hm, e⟩ := List.any_eq_true.mp (k h2)
  exact ⟨m, List.mem_range.mp hm, e⟩
theorem find_both {σ μ : mS} {n m : Nat} (hbX : σ.1 (144 + 5) 3 = nI (2 * n)) (hbM : μ.1 10 5 = nI (2 * n)) (hn : n < 4096) (h0 : n ≠ 0) (s : Nat) (hs : s < 12) : ∃ y, 1 ≤ y ∧ y ≤ 12 ∧ lp big (un2 (X10_doLot_b62 σ)) (nI s + 1, 0) = some (nI y) ∧ lp big (un1 (X11_lots_b139 μ)) (nI s + 1) = some (nI y) := by
  obtain ⟨z, hz, ez⟩ := bag_has n hn h0
  have e1 : nI s + 1 = nI (s + 1) := i_nI (i32_add (nI_ti (by omega)) (b := 1) (by decide) (by omega))
  obtain ⟨r1, r2, l1, l2, y, rfl, rfl, hy1, hy2⟩ := lpR (b := un2 (X10_doLot_b62 σ)) (b' := un1 (X11_lots_b139 μ))
    (I := fun d q q' => ∃ t, t + d = 12 ∧ q = (nI ((s + t) % 12 + 1), nI t) ∧ q' = nI ((s + t) % 12 + 1) ∧ ∀ t', t' < t → bt (nI (2 * n)) ((s + t') % 12 + 1) = false)
    (Q := fun r1 r2 => ∃ y, r1 = nI y ∧ r2 = nI y ∧ 1 ≤ y ∧ y ≤ 12) (fun d q q' hI => by
    obtain ⟨t, ht, rfl, rfl, hno⟩ := hI
    have ml : (s + t) % 12 < 12 := Nat.mod_lt _ (by decide)
    show (∃ t1 t1' n', n' < d ∧ X10_doLot_b62 σ (nI ((s + t) % 12 + 1)) (nI t) = _ ∧ X11_lots_b139 μ (nI ((s + t) % 12 + 1)) = _ ∧ _) ∨ (∃ r1 r2, X10_doLot_b62 σ (nI ((s + t) % 12 + 1)) (nI t) = _ ∧ X11_lots_b139 μ (nI ((s + t) % 12 + 1)) = _ ∧ _)
    unfold X10_doLot_b62 X11_lots_b139
    rw [if_pos (by decide : vin 5 1360 = true), show (5 : Int32).toNatClampNeg = 5 by decide, has_eq _ (by omega), holds_eq (by omega), hbX, hbM]
    by_cases h12 : t = 12
    · exfalso
      subst h12
      have hx : (s + (z + 12 - s) % 12) % 12 = z := by omega
      have := hno ((z + 12 - s) % 12) (Nat.mod_lt _ (by decide))
      rw [hx, ez] at this
      exact absurd this (by decide)
    rw [if_neg (nle (by rw [nI_ti (by omega)]; show (t : Int) < 12; omega))]
    by_cases hb : bt (nI (2 * n)) ((s + t) % 12 + 1) = true
    · right
      rw [if_pos hb, if_neg (by decide), if_neg (by decide)]
      exact ⟨_, _, rfl, rfl, _, rfl, rfl, by omega, by omega⟩
    · left
      rw [if_neg hb, if_pos rfl, if_pos rfl]
      have e2 : nI ((s + t) % 12 + 1) - nI ((s + t) % 12 + 1) / 12 * 12 + 1 = nI ((s + (t + 1)) % 12 + 1) := by
        rw [i_rem (m := (s + t) % 12 + 1) (D := 12) (nI_ti (by omega)) (by decide) (by omega)]
        have : ((s + t) % 12 + 1) % 12 = (s + (t + 1)) % 12 := by omega
        rw [this]
        exact i_nI (i32_add (nI_ti (by omega)) (b := 1) (by decide) (by omega))
      have e3 : nI t + 1 = nI (t + 1) := i_nI (i32_add (nI_ti (by omega)) (b := 1) (by decide) (by omega))
      rw [e2, e3]
      refine ⟨_, _, d - 1, by omega, rfl, rfl, t + 1, by omega, rfl, rfl, fun t' h' => ?_⟩
      by_cases e : t' = t
      · subst e
        exact Bool.eq_false_iff.mpr hb
      · exact hno t' (by omega)) big 12 (nI s + 1, 0) (nI s + 1) ⟨0, rfl, by rw [e1, show (s + 0) % 12 = s by omega]; rfl, by rw [e1, show (s + 0) % 12 = s by omega], fun t' h' => absurd h' (Nat.not_lt_zero _)⟩ (by show 12 < 1000000; omega)
  exact ⟨y, hy1, hy2, l1, l2⟩
theorem bd_calls {μ m ν : mS} {n v : Int32} (h1 : X11_known μ = some ((), m)) (h2 : bd (X11_known μ) (fun r12 s14 => bd (X11_calls s14 (0) n) (fun r15 s17 => some (r15, s17))) = some (v, ν)) : X11_calls m 0 n = some (v, ν) := by
  rw [h1, bd_some] at h2
  cases hc : X11_calls m 0 n with
  | none => rw [hc] at h2; exact absurd h2 (by intro q; cases q)
  | some x =>
    obtain ⟨a, b⟩ := x
    rw [hc, bd_some] at h2
    exact h2
/-- one lot drawn in both -/
theorem lot_both {σ μ : mS} {c : cT} (h : RR σ μ) (hG : RG σ μ c) {d m : Nat} (hd : d < 40) (hsz : σ.1 (160 + 3) 1 = nI d) (h12 : μ.1 0 12 = nI d) (hc : 0 < c.1) {a1 : Int32} {x12 : Int64} {x13 : Int32} (hgo : ¬ a1 ≤ x13) {W : Int64} (hW : ((x12 * 48271) - (x12 * 48271) / 2147483647 * 2147483647) = W) (hA : W.toInt32 = nI m) (hm : m < 2147483647) : ∃ τ ν, X10_doLot σ (nI m) = some ((), τ) ∧ X11_lots_b56 a1 μ x12 x13 = some (.inl (ν, W, x13 + 1)) ∧ RR τ ν ∧ RG τ ν c ∧ τ.1 (160 + 3) 1 = nI (d + 1) := by
  have hP4 := hG.P4
  unfold X10_doLot X11_lots_b56
  rw [hW, hA, if_neg hgo, hG.pX]
  have am : (nI m).toInt = (m : Int) := nI_ti (by omega)
  have ac : (nI c.1).toInt = (c.1 : Int) := nI_ti (by omega)
  have r1 : nI m - nI m / nI c.1 * nI c.1 = nI (m % c.1) := i_rem am ac (by omega)
  have mc : m % c.1 < c.1 := Nat.mod_lt _ hc
  have r2 : (nI m / 64) - (nI m / 64) / 6 * 6 = nI (m / 64 % 6) := i_rem (i_div am (d := 64) (D := 64) (by decide) (by omega)) (by decide) (by omega)
  have r3 : nI m - nI m / 12 * 12 = nI (m % 12) := i_rem am (by decide) (by omega)
  have c0 : ¬ nI c.1 = 0 := fun q => by have := (pz hP4).mp q; omega
  have cp : ¬ nI c.1 ≤ 0 := nle (by rw [ac]; show (0 : Int) < _; omega)
  have hkn := known_eq μ hd h12
  generalize hN : mrow (mwI μ 0 12 (nI (d + 1))) 10 (cpF (μ.1 10) 0 (8 * (d + 1)) 8) = N at hkn
  have N5 : N.1 0 5 = nI c.1 := by rw [← hN, mrow_ne (by decide), mwI_row, mrow_at, upd_ne (by decide)]; exact hG.1
  have N10 : N.1 10 5 = σ.1 (144 + 5) 3 := by
    have e : getH (N.1 10) 0 = getH (μ.1 10) 0 := by rw [← hN, mrow_at, getH_cp_out (Or.inl (by omega))]
    have e5 := congrFun e 5
    rw [getH_lt (by omega), getH_lt (by omega)] at e5
    exact e5.trans hG.bag
  obtain ⟨τ, m', ν, g1, g2, g3, hR, hG2, hs2⟩ := rub_both h hG hd hsz h12 mc (p := m / 64 % 6) (Nat.mod_lt _ (by decide))
  have em : m' = N := by rw [hkn] at g2; cases g2; rfl
  subst em
  have v1 : vin (nI (m % c.1)) 1360 = true := vinI (by omega) (by decide)
  rw [hkn, bd_some, N5, r1, r2, r3, nI_nat (by omega), show (5 : Int32).toNatClampNeg = 5 by decide, N10]
  by_cases h7 : ((nI m / 8) - (nI m / 8) / 8 * 8) = 7
  · rw [if_pos h7, if_pos h7, if_neg cp, if_pos c0, if_pos c0, if_pos v1, if_pos v1, g1, bd_some, ← g3]
    exact ⟨τ, ν, rfl, rfl, hR, hG2, hs2⟩
  rw [if_neg h7, if_neg h7, if_pos (by decide : vin 5 1360 = true)]
  obtain ⟨nb, hnb, eb⟩ := hG.hv.2.2
  have eb' : σ.1 (144 + 5) 3 = nI (2 * nb) := eb
  by_cases hb : σ.1 (144 + 5) 3 = 0
  · rw [if_pos hb, if_pos hb, if_neg cp, if_pos c0, if_pos c0, if_pos v1, if_pos v1, g1, bd_some, ← g3]
    exact ⟨τ, ν, rfl, rfl, hR, hG2, hs2⟩
  rw [if_neg hb, if_neg hb]
  obtain ⟨y, y1, y2, f1, f2⟩ := find_both (σ := σ) (μ := m') (n := nb) (m := 0) eb' (by rw [N10]; exact eb') hnb (fun q => hb (by rw [eb', q]; rfl)) (m % 12) (Nat.mod_lt _ (by decide))
  obtain ⟨v, τ', ν', k1, k2, kR, kG, ks⟩ := call_both h hG hd hsz h12 (n := y) ⟨y1, y2⟩
  rw [f1, f2, Option.bind_some, Option.bind_some, un1_app, un1_app, k1, bd_calls hkn k2, bd_some, bd_some]
  exact ⟨τ', ν', rfl, rfl, kR, kG, ks⟩
theorem sim_lots {σ μ : mS} (h : RR σ μ) (a1 a2 : Int32) : SIM (X10_lots σ a1 a2) (X11_lots μ a1 a2) := by
  obtain ⟨c, hG⟩ := h.2.2.1
  have hP4 := hG.P4
  unfold X10_lots X11_lots
  by_cases b1 : a1.toInt < 1 ∨ 20 < a1.toInt
  · rw [if_pos (in_zero.mpr b1 : X11_in a1.toInt64 1 20 = 0)]
    by_cases b2 : a1.toInt < 1
    · exact SIM.L (i_lt.mpr b2) (SIM.ret h rfl)
    · exact SIM.nL (fun q => b2 (i_lt.mp q)) (SIM.L (i_lt.mpr (by show (20 : Int) < _; omega)) (SIM.ret h rfl))
  refine SIM.nL (fun q => b1 (Or.inl (i_lt.mp q))) (SIM.nL (fun q => b1 (Or.inr (i_lt.mp q))) (SIM.nR (fun q => b1 (in_zero.mp q)) ?_))
  have hi2 := i_hi a2
  by_cases b2 : a2.toInt < 1 ∨ 2147483646 < a2.toInt
  · rw [if_pos (in_zero.mpr b2 : X11_in a2.toInt64 1 2147483646 = 0)]
    by_cases b3 : a2.toInt < 1
    · exact SIM.L (i_lt.mpr b3) (SIM.ret h rfl)
    · exact SIM.nL (fun q => b3 (i_lt.mp q)) (SIM.nL (fun q => by have q2 := l_lt.mp q; rw [l_of_i] at q2; have : a2.toInt < 2147483647 := q2; omega) (SIM.ret h rfl))
  refine SIM.nL (fun q => b2 (Or.inl (i_lt.mp q))) (SIM.L (l_lt.mpr (by rw [l_of_i]; show a2.toInt < 2147483647; omega)) (SIM.nR (fun q => b2 (in_zero.mp q)) ?_))
  rw [hG.pX, hG.1]
  refine SIM.ite Iff.rfl (fun _ => SIM.ret h rfl) (fun hc0 => ?_)
  have hc : 0 < c.1 := Nat.pos_of_ne_zero (fun q => hc0 ((pz hP4).mpr q))
  obtain ⟨d, hd, e1, e2⟩ := dnum hG
  rw [e1, e2]
  refine SIM.ite Iff.rfl (fun h40 => ?_) (fun _ => SIM.ret h rfl)
  obtain ⟨g, hg, eg⟩ := i_ex (a := a1) (m := 21) (by omega) (by omega)
  subst eg
  obtain ⟨k0, hk0, ek⟩ := i_ex (a := a2) (m := 2147483647) (by omega) (by omega)
  subst ek
  have h40' : d + g ≤ 40 := by
    have q := i_le.mp h40
    rw [i32_add (nI_ti (n := d) (by omega)) (nI_ti (n := g) (by omega)) (by omega)] at q
    have q' : ((d + g : Nat) : Int) ≤ 40 := q
    omega
  obtain ⟨r1, r2, l1, l2, hR, hG2⟩ := lpR (b := un3 (X10_lots_b62 (nI g))) (b' := un3 (X11_lots_b56 (nI g)))
    (I := fun w q q' => ∃ t k, t + w = g ∧ k < 2147483647 ∧ q.2 = (nI k, nI t) ∧ q'.2 = ((nI k).toInt64, nI t) ∧ RR q.1 q'.1 ∧ RG q.1 q'.1 c ∧ q.1.1 (160 + 3) 1 = nI (d + t))
    (Q := fun r1 r2 => RR r1 r2 ∧ RG r1 r2 c) (fun w q q' hI => by
    obtain ⟨s, q2⟩ := q
    obtain ⟨m, q2'⟩ := q'
    obtain ⟨t, k, ht, hk, ea, eb, hR, hG', hsz⟩ := hI
    dsimp only at ea eb hR hG' hsz
    subst ea
    subst eb
    show (∃ t1 t1' n', n' < w ∧ X10_lots_b62 (nI g) s (nI k) (nI t) = _ ∧ X11_lots_b56 (nI g) m (nI k).toInt64 (nI t) = _ ∧ _) ∨ (∃ r1 r2, X10_lots_b62 (nI g) s (nI k) (nI t) = _ ∧ X11_lots_b56 (nI g) m (nI k).toInt64 (nI t) = _ ∧ _)
    by_cases he : g ≤ t
    · right
      have : nI g ≤ nI t := ile (by rw [nI_ti (by omega), nI_ti (by omega)]; omega)
      unfold X10_lots_b62 X11_lots_b56
      rw [if_pos this, if_pos this]
      exact ⟨_, _, rfl, rfl, hR, hG'⟩
    · left
      have hgo : ¬ nI g ≤ nI t := nle (by rw [nI_ti (by omega), nI_ti (by omega)]; omega)
      obtain ⟨W, m', hm', ew, f1, f2⟩ := l_step (k := k) (nI_ti (by omega))
      obtain ⟨τ, ν, x1, x2, x3, x4, x5⟩ := lot_both hR hG' (d := d + t) (m := m') (by omega) hsz (by rw [hG'.2.2.2.2.2.2.1]; exact hsz) hc hgo ew f1 hm'
      have e3 : nI t + 1 = nI (t + 1) := i_nI (i32_add (nI_ti (by omega)) (b := 1) (by decide) (by omega))
      have ec : (48271 : Int64) * (nI k).toInt64 = (nI k).toInt64 * 48271 := Int64.mul_comm _ _
      have x1' : X10_lots_b62 (nI g) s (nI k) (nI t) = some (.inl (τ, nI m', nI t + 1)) := by
        unfold X10_lots_b62
        rw [if_neg hgo, ec, ew, f1, x1, bd_some]
      rw [x1', x2, e3]
      exact ⟨_, _, w - 1, by omega, rfl, rfl, t + 1, m', by omega, hm', rfl, by rw [f2], x3, x4, x5⟩) big g (σ, nI k0, 0) (μ, (nI k0).toInt64, 0) ⟨0, k0, by omega, hk0, rfl, rfl, h, hG, by rw [e1]; rfl⟩ (by show g < 1000000; omega)
  rw [l1, l2, Option.bind_some, Option.bind_some, un1_app, un1_app]
  exact SIM.R (by decide) (SIM.ret hR hG2.won.symm)

