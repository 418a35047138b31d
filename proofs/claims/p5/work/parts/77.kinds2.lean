/-! kinds, the pairs held against each kind -/
def FK (m0 m : mS) : Prop := (∀ q, q ≠ 10 → m.1 q = m0.1 q) ∧ (∀ q, q < 1312 → m.1 10 q = m0.1 10 q) ∧ m.2 = m0.2
theorem fit_both {σ μ m0 : mS} {c : cT} (hG : RG σ μ c) {i r κ z : Nat} (hi : i < c.1) (hr : r < 6) (hκ : κ < 6) (hz : z ≤ 8) (hs : σ.1 24 r = nI (2 * z)) (hok : ∀ j, j < z → prOK σ r j) (r0 : m0.1 0 5 = nI c.1) (r1 : m0.1 1 r = nI (2 * z)) (r2 : ∀ j, j < 2 * z → m0.1 2 (40 * r + j) = σ.1 (16 + r) j) (r7 : m0.1 7 = c.2.2) (r6 : m0.1 6 i = nI κ) : ∀ d k f f' m H, k + d = z → d + 1 < f → d + 1 < f' → FK m0 m → getH (m.1 10) 1312 = H → HV H → ∃ (v : Bool) (m' : mS), lp f (un5 (X10_fitsPairs_b41 σ (nI κ) (nI i) (nI r))) (H i, H 5, H 7, H 6, nI (2 * k)) = some (if v = true then .inl () else .inr 0) ∧ lp f' (un3 (X11_kindsBy_b44 (nI i) (nI r))) (m, 1, nI (2 * k)) = some (m', if v = true then 1 else 0) ∧ FK m0 m' := by
  have hP4 := hG.P4
  have hv : vin (nI r) 6 = true := vinI hr (by omega)
  intro d
  induction d with
  | zero =>
    intro k f f' m H hk hf hf' hF hH hV
    obtain ⟨f, rfl⟩ : ∃ g, f = g + 1 := ⟨f - 1, by omega⟩
    obtain ⟨f', rfl⟩ : ∃ g, f' = g + 1 := ⟨f' - 1, by omega⟩
    have ek : k = z := by omega
    subst ek
    refine ⟨true, m, lp_r ?_, lp_r ?_, hF⟩
    · show X10_fitsPairs_b41 σ (nI κ) (nI i) (nI r) (H i) (H 5) (H 7) (H 6) (nI (2 * k)) = _
      unfold X10_fitsPairs_b41
      rw [if_pos hv, nI_nat (by omega), hs, nI_s _ (by omega), if_pos (ile (by rw [nI_ti (by omega), nI_ti (by omega)]; omega))]
      rfl
    · show X11_kindsBy_b44 (nI i) (nI r) m 1 (nI (2 * k)) = _
      unfold X11_kindsBy_b44
      rw [if_pos hv, nI_nat (by omega), hF.1 1 (by decide), r1, if_pos le_nI]
      rfl
  | succ d ih =>
    intro k f f' m H hk hf hf' hF hH hV
    obtain ⟨f, rfl⟩ : ∃ g, f = g + 1 := ⟨f - 1, by omega⟩
    obtain ⟨f', rfl⟩ : ∃ g, f' = g + 1 := ⟨f' - 1, by omega⟩
    obtain ⟨⟨n, n1, n2, en⟩, -, -⟩ := hok k (by omega)
    have p1 : nI (2 * k) + 1 = nI (2 * k + 1) := nI_s _ (by omega)
    have p2 : nI (2 * k) + 2 = nI (2 * (k + 1)) := nI_p (2 * k) 2 (by omega)
    have c1 := i_ix (c := 40) (cn := 40) (by decide) (nI_ti (n := r) (by omega)) (nI_ti (n := 2 * k) (by omega)) (by omega)
    have c2 := i_ixn (c := 40) (cn := 40) (by decide) (nI_ti (n := r) (by omega)) (nI_ti (n := 2 * k) (by omega)) (by omega)
    have c0 : ((40 : Int32) * nI r) + nI (2 * k) = nI (40 * r + 2 * k) := i_nI c1
    have c3 : nI (40 * r + 2 * k) + 1 = nI (40 * r + 2 * k + 1) := nI_s _ (by omega)
    have it : m.1 2 (40 * r + 2 * k) = nI n := by rw [hF.1 2 (by decide), r2 _ (by omega), en]
    have it2 : m.1 2 (40 * r + 2 * k + 1) = σ.1 (16 + r) (2 * k + 1) := by rw [hF.1 2 (by decide), Nat.add_assoc, r2 _ (by omega)]
    have h5 : m.1 10 1317 = H 5 := by
      have := congrFun hH 5
      rw [getH_lt (by omega)] at this
      exact this
    have P5 : (m.1 0 5).toInt = (c.1 : Int) := by rw [hF.1 0 (by decide), r0, nI_ti (by omega)]
    have hcal := calls_eq m (a1 := 1312) (num := nI n) (b := 1312) (P := c.1) (by decide) (by decide) P5 hP4
    rw [hH] at hcal
    generalize hcc : cfM m c.1 = cc at hcal
    have cc1 : cc.1 = c.1 := by rw [← hcc]; rfl
    have cc2 : cc.2.1 i = nI κ := by rw [← hcc]; show m.1 6 i = _; rw [hF.1 6 (by decide), r6]
    have cc3 : cc.2.2 = c.2.2 := by rw [← hcc]; show m.1 7 = _; rw [hF.1 7 (by decide), r7]
    generalize hm2 : mrow m 10 (putH (m.1 10) 1312 (ringH cc H (nI n))) = m2 at hcal
    have m2r : ∀ q, q ≠ 10 → m2.1 q = m.1 q := fun q hq => by rw [← hm2, mrow_ne hq]
    have m2g : getH (m2.1 10) 1312 = ringH cc H (nI n) := by rw [← hm2, mrow_at]; exact getH_put (ringH_8 (by omega) (fun q hq => by rw [← hH]; exact getH_8 q hq))
    have F2 : FK m0 m2 := ⟨fun q hq => by rw [m2r q hq]; exact hF.1 q hq, fun q hq => by
      rw [← hm2, mrow_at]
      unfold putH
      rw [if_neg (by omega)]
      exact hF.2.1 q hq, by rw [← hm2]; exact hF.2.2⟩
    have V2 : HV (ringH cc H (nI n)) := hV.ring (by omega) _
    have R_i : ringH cc H (nI n) i = H i ||| mbT c.2.2 i (X11_heard (nI κ) (nI n) (H 7) (H 6)) := by
      unfold ringH nmk
      rw [if_pos (by omega), cc2, cc3]
    have R_5 : ringH cc H (nI n) 5 = H 5 &&& (((1 : Int32) <<< (nI n &&& 31)) ^^^ (-1)) := by unfold ringH; rw [if_neg (by omega), if_neg (by decide), if_pos rfl]
    have R_6 : ringH cc H (nI n) 6 = H 6 + 1 := by unfold ringH; rw [if_neg (by omega), if_neg (by decide), if_neg (by decide), if_pos rfl]
    have R_7 : ringH cc H (nI n) 7 = nI n := by unfold ringH; rw [if_neg (by omega), if_neg (by decide), if_neg (by decide), if_neg (by decide), if_pos rfl]
    obtain ⟨mi, hmi, emi⟩ := V2.1 i (by omega)
    have oi : m2.1 10 (1312 + i) = ringH cc H (nI n) i := by
      have := congrFun m2g i
      rw [getH_lt (by omega)] at this
      exact this
    have ii : ((1312 : Int32) + nI i) = nI (1312 + i) := nI_p 1312 i (by omega)
    have X0 : X10_fitsPairs_b41 σ (nI κ) (nI i) (nI r) (H i) (H 5) (H 7) (H 6) (nI (2 * k)) = if bt (H 5) n = true then (if bitsT (ringH cc H (nI n) i) = σ.1 (16 + r) (2 * k + 1) then some (.inl (ringH cc H (nI n) i, ringH cc H (nI n) 5, ringH cc H (nI n) 7, ringH cc H (nI n) 6, nI (2 * (k + 1)))) else some (.inr (.inr 0))) else some (.inr (.inr 0)) := by
      unfold X10_fitsPairs_b41
      simp only [if_pos hv, nI_nat (n := r) (show r < 2147483648 by omega), hs, p1, if_neg (lt_nI (a := 2 * k + 1) (b := 2 * z) (by omega) (by omega) (by omega)), if_pos (vinI (r := 2 * k) (n := 40) (by omega) (by omega)), nI_nat (n := 2 * k) (show 2 * k < 2147483648 by omega), en, bit_eq (H 5) (n := n) (by omega), if_pos (vinI (r := κ) (n := 6) (by omega) (by omega)), nI_nat (n := κ) (show κ < 2147483648 by omega), heard_eq hκ (n := n) (by omega), marked_eq σ hG.2.2.2.1 (nI_ti (n := i) (by omega)) hi, Option.bind_some, if_pos (vinI (r := 2 * k + 1) (n := 40) (by omega) (by omega)), nI_nat (n := 2 * k + 1) (show 2 * k + 1 < 2147483648 by omega), ← R_i, ← R_5, ← R_6, R_7, p2]
      rw [emi, bc64 mi hmi]
      by_cases b : bt (H 5) n = true
      · rw [if_pos b, if_pos b, if_neg (by decide)]
      · rw [if_neg b, if_neg b, if_pos rfl]
    have M0 : X11_kindsBy_b44 (nI i) (nI r) m 1 (nI (2 * k)) = if bt (H 5) n = true then (if bitsT (ringH cc H (nI n) i) = σ.1 (16 + r) (2 * k + 1) then some (.inl (m2, 1, nI (2 * (k + 1)))) else some (.inl (m2, 0, nI (2 * (k + 1))))) else some (.inl (m, 0, nI (2 * (k + 1)))) := by
      unfold X11_kindsBy_b44
      simp only [if_pos hv, nI_nat (n := r) (show r < 2147483648 by omega), hF.1 1 (by decide), r1, if_neg (lt_nI (a := 2 * k) (b := 2 * z) (by omega) (by omega) (by omega)), if_neg (show ¬ (1 : Int32) = 0 by decide), c3, c0, if_pos (vinI (r := 40 * r + 2 * k) (n := 240) (by omega) (by omega)), if_pos (show vin 1317 1360 = true by decide), show (1317 : Int32).toNatClampNeg = 1317 by decide, nI_nat (n := 40 * r + 2 * k) (show 40 * r + 2 * k < 2147483648 by omega), it, h5, has_eq (H 5) (n := n) (by omega), hcal, bd_some, ii, if_pos (vinI (r := 1312 + i) (n := 1360) (by omega) (by omega)), nI_nat (n := 1312 + i) (show 1312 + i < 2147483648 by omega), bits_eq, Option.bind_some, oi, if_pos (vinI (r := 40 * r + 2 * k + 1) (n := 240) (by omega) (by omega)), nI_nat (n := 40 * r + 2 * k + 1) (show 40 * r + 2 * k + 1 < 2147483648 by omega), m2r 2 (by decide), it2, p2]
      by_cases b : bt (H 5) n = true
      · rw [if_pos b, if_pos b, if_neg (by decide)]
      · rw [if_neg b, if_neg b, if_pos rfl]
    have stop : ∀ m' : mS, FK m0 m' → lp f' (un3 (X11_kindsBy_b44 (nI i) (nI r))) (m', 0, nI (2 * (k + 1))) = some (m', 0) := by
      intro m' hF'
      obtain ⟨f', rfl⟩ : ∃ g, f' = g + 1 := ⟨f' - 1, by omega⟩
      refine lp_r ?_
      show X11_kindsBy_b44 (nI i) (nI r) m' 0 (nI (2 * (k + 1))) = _
      unfold X11_kindsBy_b44
      rw [if_pos hv]
      by_cases q : m'.1 1 (nI r).toNatClampNeg ≤ nI (2 * (k + 1))
      · rw [if_pos q]
      · rw [if_neg q, if_pos rfl]
    by_cases b : bt (H 5) n = true
    · rw [if_pos b] at X0 M0
      by_cases e : bitsT (ringH cc H (nI n) i) = σ.1 (16 + r) (2 * k + 1)
      · rw [if_pos e] at X0 M0
        obtain ⟨v, m', g1, g2, g3⟩ := ih (k + 1) f f' m2 (ringH cc H (nI n)) (by omega) (by omega) (by omega) F2 m2g V2
        exact ⟨v, m', (lp_l X0).trans g1, (lp_l M0).trans g2, g3⟩
      · rw [if_neg e] at X0 M0
        exact ⟨false, m2, lp_r X0, (lp_l M0).trans (stop m2 F2), F2⟩
    · rw [if_neg b] at X0 M0
      exact ⟨false, m, lp_r X0, (lp_l M0).trans (stop m hF), hF⟩
/-- between the kinds: the reference's memory but for player i's kind and the tried hall -/
def FI (i : Nat) (μ m : mS) : Prop := (∀ q, q ≠ 6 → q ≠ 10 → m.1 q = μ.1 q) ∧ (∀ j, j ≠ i → m.1 6 j = μ.1 6 j) ∧ (∀ q, q < 1312 → m.1 10 q = μ.1 10 q) ∧ m.2 = μ.2
theorem kinds_both {σ μ : mS} {c : cT} (h : RR σ μ) (hG : RG σ μ c) {i r z : Nat} (hi : i < c.1) (hr : r < 6) (hz : z ≤ 8) (hs : σ.1 24 r = nI (2 * z)) (hok : ∀ j, j < z → prOK σ r j) : ∃ v ν, X10_fittingKinds σ (nI i) (nI r) = some v ∧ X11_kindsBy μ (nI i) (nI r) = some (v, ν) ∧ FrM μ ν := by
  have hP4 := hG.P4
  obtain ⟨w1, w2, w3, w4⟩ := h.1 r hr
  have vi : vin (nI i) 4 = true := vinI (by omega) (by omega)
  have ni : (nI i).toNatClampNeg = i := nI_nat (by omega)
  unfold X10_fittingKinds X11_kindsBy
  obtain ⟨v1, q2, l1, l2, m, rfl, hm⟩ := lpR (b := un2 (X10_fittingKinds_b5 σ (nI i) (nI r))) (b' := un3 (X11_kindsBy_b13 (nI i) (nI r)))
    (I := fun d q q' => ∃ κ v s, κ + d = 6 ∧ q = (v, nI κ) ∧ q' = (s, v, nI κ) ∧ FI i μ s) (Q := fun r1 r2 => ∃ s, r2 = (s, r1) ∧ FI i μ s) (fun d q q' hI => by
    obtain ⟨κ, v, s, hd, rfl, rfl, f1, f2, f3, f4⟩ := hI
    show (∃ t1 t1' n', n' < d ∧ X10_fittingKinds_b5 σ (nI i) (nI r) v (nI κ) = _ ∧ X11_kindsBy_b13 (nI i) (nI r) s v (nI κ) = _ ∧ _) ∨ (∃ r1 r2, X10_fittingKinds_b5 σ (nI i) (nI r) v (nI κ) = _ ∧ X11_kindsBy_b13 (nI i) (nI r) s v (nI κ) = _ ∧ _)
    unfold X10_fittingKinds_b5 X11_kindsBy_b13
    by_cases he : κ = 6
    · subst he
      right
      exact ⟨_, _, rfl, rfl, s, rfl, f1, f2, f3, f4⟩
    have l6 : ¬ (6 : Int32) ≤ nI κ := lt_nI (a := κ) (b := 6) (by omega) (by omega) (by omega)
    rw [if_neg l6, if_neg l6, if_pos vi, ni]
    have e0 := copies_eq (mwI s 6 i (nI κ)) (a1 := 0) (a2 := 1312) (a3 := 8) (s := 0) (t := 1312) (n := 8) (by decide) (by decide) (by decide) (by decide) (by decide) (Or.inl (by decide))
    generalize hm0 : mrow (mwI s 6 i (nI κ)) 10 (cpF ((mwI s 6 i (nI κ)).1 10) 0 1312 8) = m0 at e0
    have s10 : (mwI s 6 i (nI κ)).1 10 = s.1 10 := mwI_rk (by decide)
    have m0r : ∀ q, q ≠ 6 → q ≠ 10 → m0.1 q = μ.1 q := fun q q6 q10 => by rw [← hm0, mrow_ne q10, mwI_rk q6]; exact f1 q q6 q10
    have m06 : m0.1 6 = upd (s.1 6) i (nI κ) := by rw [← hm0, mrow_ne (by decide), mwI_row, mrow_at]
    have m010 : m0.1 10 = cpF (s.1 10) 0 1312 8 := by rw [← hm0, mrow_at, s10]
    have g0 : getH (m0.1 10) 1312 = HX σ 5 := by
      rw [m010, getH_cp_in (by omega), hG.2.2.2.2.2.1]
      funext q
      unfold getH
      by_cases hq : q < 8
      · rw [if_pos hq, if_pos hq]
        exact f3 _ (by omega)
      · rw [if_neg hq, if_neg hq]
    have low : ∀ q, q < 1312 → m0.1 10 q = μ.1 10 q := fun q hq => by
      have := congrFun (getH_cp_out (f := s.1 10) (s := 0) (t := 1312) (n := 8) (b := if q < 1304 then q else 1304) (by split <;> omega)) (if q < 1304 then 0 else q - 1304)
      rw [m010]
      by_cases x : q < 1304
      · rw [if_pos x, if_pos x, getH_lt (by omega), getH_lt (by omega), Nat.add_zero] at this
        rw [this]
        exact f3 q hq
      · rw [if_neg x, if_neg x, getH_lt (by omega), getH_lt (by omega), show 1304 + (q - 1304) = q by omega] at this
        rw [this]
        exact f3 q hq
    rw [e0, bd_some]
    obtain ⟨b, m', g1, g2, g3, g4, g5⟩ := fit_both hG (m0 := m0) hi hr (κ := κ) (by omega) hz hs hok (by rw [m0r 0 (by decide) (by decide)]; exact hG.1) (by rw [m0r 1 (by decide) (by decide), w1, hs]) (fun j hj => by rw [m0r 2 (by decide) (by decide)]; exact w4 j (by rw [hs, nI_ti (by omega)]; omega)) (by rw [m0r 7 (by decide) (by decide)]; exact hG.2.2.1.symm) (by rw [m06, upd_at]) z 0 big big m0 (HX σ 5) (by omega) (by show z + 1 < 1000000; omega) (by show z + 1 < 1000000; omega) ⟨fun _ _ => rfl, fun _ _ => rfl, rfl⟩ g0 hG.hv
    have x5 : X10_fitsPairs σ (nI κ) (nI i) (nI r) = some (if b = true then 1 else 0) := by
      unfold X10_fitsPairs
      have g1' : lp big (un5 (X10_fitsPairs_b41 σ (nI κ) (nI i) (nI r))) ((σ.1 (152 + 5) i), (σ.1 (144 + 5) 3), (σ.1 (144 + 5) 4), (σ.1 (144 + 5) 5), 0) = some (if b = true then .inl () else .inr 0) := by
        rw [← g1]
        show _ = lp big _ ((if i < 4 then σ.1 (152 + 5) i else if i = 4 then σ.1 (144 + 5) 2 else if i = 5 then σ.1 (144 + 5) 3 else if i = 6 then σ.1 (144 + 5) 5 else if i = 7 then σ.1 (144 + 5) 4 else 0), _, _, _, _)
        rw [if_pos (by omega)]
        rfl
      rw [if_pos vi, ni, g1', Option.bind_some]
      cases b <;> rfl
    have g2' : lp big (un3 (X11_kindsBy_b44 (nI i) (nI r))) (m0, 1, 0) = some (m', if b = true then 1 else 0) := g2
    rw [x5, g2', Option.bind_some, Option.bind_some]
    have FI' : FI i μ m' := by
      refine ⟨fun q q6 q10 => by rw [g3 q q10]; exact m0r q q6 q10, fun j hj => by rw [g3 6 (by decide), m06, upd_ne hj]; exact f2 j hj, fun q hq => by rw [g4 q hq]; exact low q hq, ?_⟩
      rw [g5, ← hm0]
      exact f4
    left
    have sk := nI_s κ (by omega)
    cases b with
    | true => exact ⟨_, _, d - 1, by omega, rfl, rfl, κ + 1, _, m', by omega, by rw [sk], by rw [sk], FI'⟩
    | false => exact ⟨_, _, d - 1, by omega, rfl, rfl, κ + 1, v, m', by omega, by rw [sk], by rw [sk, or_zero], FI'⟩) big 6 (0, 0) (μ, 0, 0) ⟨0, 0, μ, rfl, rfl, rfl, fun _ _ _ => rfl, fun _ _ => rfl, fun _ _ => rfl, rfl⟩ (by show 6 < 1000000; omega)
  rw [l1, l2, Option.bind_some, Option.bind_some, if_pos vi, un1_app, ni]
  refine ⟨v1, mwI m 6 i (μ.1 6 i), rfl, ?_, fun q a1 a2 a3 a4 => ?_, fun q hq => ?_, ?_⟩
  · show (if vin (nI i) 4 = true then some (v1, mwI m 6 i (μ.1 6 i)) else none) = _
    rw [if_pos vi]
  · by_cases e : q = 6
    · subst e
      rw [mwI_row, mrow_at]
      funext j
      by_cases ej : j = i
      · subst ej
        rw [upd_at]
      · rw [upd_ne ej]
        exact hm.2.1 j ej
    · rw [mwI_rk e]
      exact hm.1 q e a1
  · rw [mwI_rk (by decide)]
    exact hm.2.2.1 q hq
  · exact hm.2.2.2
theorem sim_kinds {σ μ : mS} (h : RR σ μ) (a1 a2 : Int32) : SIM (X10_kinds σ a1 a2) (X11_kinds μ a1 a2) := by
  obtain ⟨c, hG⟩ := h.2.2.1
  have hP4 := hG.P4
  unfold X10_kinds X11_kinds
  by_cases hb : a1.toInt < 0 ∨ (c.1 : Int) ≤ a1.toInt
  · unfold X10_refusedPairs
    rw [if_pos (hG.plX.mpr hb), if_pos (hG.plM.mpr hb), bd_some, if_neg (by decide)]
    exact SIM.ret h rfl
  obtain ⟨i, hi, hi4, rfl⟩ := plEx hG hb
  by_cases hb2 : a2.toInt < 0 ∨ 6 ≤ a2.toInt
  · unfold X10_refusedPairs
    rw [if_neg (fun q => hb (hG.plX.mp q)), if_neg (fun q => hb (hG.plM.mp q)), refRow_bad hb2, bd_some, if_neg (by decide), bd_some, if_neg (by decide), if_pos (isRowM_zero.mpr hb2)]
    exact SIM.ret h rfl
  obtain ⟨r, hr, rfl⟩ := rowEx hb2
  rw [if_neg (fun q => hb (hG.plM.mp q)), if_neg (rowY hr).2]
  rcases pairs_both h hG hi hr with ⟨z, hz, hs, hok, x1, x2⟩ | ⟨f, f1, f2, x1, x2⟩
  · rw [x1, x2, bd_some, if_pos rfl, Option.bind_some, if_pos (by decide)]
    obtain ⟨v, ν, y1, y2, y3⟩ := kinds_both h hG hi hr hz hs hok
    rw [y1, y2, Option.bind_some, bd_some]
    exact SIM.ret (h.tri FrX.rf y3) rfl
  · rw [x1, x2, bd_some, if_neg (by decide), Option.bind_some, if_neg (show ¬ nI f ≤ 0 from lt_nI (a := 0) (b := f) (by omega) (by omega) (by omega)), finds_eq μ f2, bd_some]
    exact SIM.ret (h.fnd f2) rfl
