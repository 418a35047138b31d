theorem and_lt16 {x y : Int32} (hx : ∃ m, m < 16 ∧ x = nI m) : ∃ m, m < 16 ∧ x &&& y = nI m := by
  obtain ⟨a, ha, rfl⟩ := hx
  exact ⟨_, Nat.lt_of_le_of_lt Nat.and_le_left ha, and_nI a y⟩
theorem take0 {σ : mS} : ∃ s, X2_take σ ((0 : Int32).toNatClampNeg) 5 = some ((), s) ∧ HX s 0 = HX σ 5 ∧ FrX σ s ∧ s.1 0 = σ.1 0 ∧ s.1 192 = σ.1 192 := by
  refine ⟨_, take_eq σ (i := 0) (i1 := 5) (by decide) (by decide) (by decide), take_HX, ⟨fun q q1 q2 q3 q4 q5 => hlX_row (by omega) (by omega), fun q q1 => by rw [hlX_row (by omega) (by omega)], rfl⟩, hlX_row (by omega) (by omega), hlX_row (by omega) (by omega)⟩
theorem step15 {σ s : mS} {c : cT} {e n : Nat} (he : e < 4) (hX : FrX σ s) (hC : CF σ c) (hV : HV (HX s e)) (hn : n < 31) : ∃ s', X10_stepAhead s (nI e) (nI n) 15 = some (wns c (HX s e) (nI n) c.1 &&& ((HX s e 4) ^^^ (-1)), s') ∧ HX s' (e + 1) = ringH c (HX s e) (nI n) ∧ FrX σ s' ∧ (∀ j, j < 6 → j ≠ e + 1 → HX s' j = HX s j) ∧ s'.1 192 = upd (s.1 192) e (nI n) ∧ s'.1 0 = s.1 0 := by
  have hCs := hX.cf hC
  obtain ⟨s', g1, g2, g3, g4, g5⟩ := step_eq s (c := c) (who := 15) he hCs (hV.m hC.2.1) hn
  refine ⟨s', ?_, ?_, ⟨fun q q1 q2 q3 q4 q5 => ?_, fun q q1 => ?_, g5.trans hX.2.2⟩, fun j hj6 hj => HX_of (g3 _ (by omega) (by omega) (by omega)) (g3 _ (by omega) (by omega) (by omega)), g4, g3 0 (by omega) (by omega) (by omega)⟩
  · rw [g1, or_andn, wnsW_15 hC.2.1]
  · rw [g2, ringW_15 hC.2.1 HX_8]
  · rw [g3 q q3 (by omega) (by omega)]
    exact hX.1 q q1 q2 q3 q4 q5
  · rw [g3 0 (by omega) (by omega) (by omega)]
    exact hX.2.1 q q1
theorem i0 : nI 0 = 0 := rfl
theorem sim_safe {σ μ : mS} (h : RR σ μ) : SIM (X10_safe σ) (X11_safe μ) := by
  obtain ⟨c, hG⟩ := h.2.2.1
  have hP4 := hG.P4
  have hC := hG.2.2.2.1
  have hV := hG.hv
  unfold X10_safe X11_safe
  rw [hG.pX, hG.1]
  refine SIM.ite Iff.rfl (fun _ => SIM.ret h rfl) (fun _ => SIM.L (by decide) ?_)
  obtain ⟨s0, a1, a2, a3, -⟩ := take0 (σ := σ)
  rw [a1, bd_some]
  obtain ⟨r, r', l1, l2, s, m, y1, y2, rfl, rfl, hX, hM⟩ := lpR (b := un5 X10_safe_b35) (b' := un5 X11_safe_b19)
    (I := fun d q q' => ∃ n, n + d = 13 ∧ 1 ≤ n ∧ q.2.2.2.2.toInt = (n : Int) ∧ q'.2.2.2.2.toInt = (n : Int) ∧ q.2.1 = q'.2.1 ∧ q.2.2.1 = q'.2.2.2.1 ∧ q.2.2.2.1 = q'.2.2.1 ∧ FrX σ q.1 ∧ HX q.1 0 = HX σ 5 ∧ FrM μ q'.1)
    (Q := fun r r' => ∃ s m y1 y2, r = (s, y1, y2) ∧ r' = (m, y1, y2) ∧ FrX σ s ∧ FrM μ m) (fun d q q' hI => by
    obtain ⟨s, x8, x9, x10, x⟩ := q
    obtain ⟨m, z4, z5, z6, y⟩ := q'
    obtain ⟨n, hnd, hn1, hx, hy, e1, e2, e3, hX, hH, hM⟩ := hI
    dsimp only at hx hy e1 e2 e3 hX hH hM
    subst e1
    subst e2
    subst e3
    show (∃ t1 t1' n', n' < d ∧ X10_safe_b35 s x8 x9 x10 x = _ ∧ X11_safe_b19 m x8 x10 x9 y = _ ∧ _) ∨ (∃ r r', X10_safe_b35 s x8 x9 x10 x = _ ∧ X11_safe_b19 m x8 x10 x9 y = _ ∧ _)
    unfold X10_safe_b35 X11_safe_b19
    by_cases hend : 13 ≤ n
    · right
      rw [if_pos (i_lt.mpr (by rw [hx]; show (12 : Int) < n; omega)), if_pos (ile (by rw [hy]; show (13 : Int) ≤ n; omega))]
      exact ⟨_, _, rfl, rfl, s, m, x8, x10, rfl, rfl, hX, hM⟩
    left
    have hx' : (x + 1).toInt = ((n + 1 : Nat) : Int) := by rw [i_inc (by omega), hx]; rfl
    have hy' : (y + 1).toInt = ((n + 1 : Nat) : Int) := by rw [i_inc (by omega), hy]; rfl
    have bagS : s.1 (144 + 5) 3 = σ.1 (144 + 5) 3 := by rw [hX.1 149 (by omega) (by omega) (by omega) (by omega) (by omega)]
    have bagM : m.1 10 5 = σ.1 (144 + 5) 3 := by rw [hM.2.1 5 (by omega)]; exact hG.bag
    rw [if_neg (fun q => by have := i_lt.mp q; rw [hx] at this; have h9 : (12 : Int) < n := this; omega), if_neg (nle (by rw [hy]; show (n : Int) < 13; omega)), if_pos (by decide : vin 5 1360 = true), show (5 : Int32).toNatClampNeg = 5 by decide, bagM]
    have xe := i_nI hx
    have ye := i_nI hy
    subst xe
    subst ye
    rw [has_eq _ (by omega), holds_eq (by omega), bagS]
    have n10 : ¬ (1 : Int32) = 0 := by decide
    by_cases hb : bt (σ.1 (144 + 5) 3) n = true
    case neg =>
      simp only [if_neg hb, if_true]
      exact ⟨_, _, d - 1, by omega, rfl, rfl, n + 1, by omega, by omega, hx', hy', rfl, rfl, rfl, hX, hH, hM⟩
    case pos =>
      simp only [if_pos hb, if_neg n10]
      obtain ⟨s', f1, f2, f3, f4, -⟩ := step15 (σ := σ) (s := s) (c := c) (e := 0) (n := n) (by decide) hX hC (by rw [hH]; exact hV) (by omega)
      obtain ⟨m1, k1, k2, k3, k4, -⟩ := tcopy (μ := μ) (m := m) (s := 0) (t := 1312) hM (by decide) (by decide) (by decide) (by decide)
      have gm : getH (m1.1 10) 1312 = HX σ 5 := by
        rw [k2, hG.2.2.2.2.2.1]
        exact getH_of (by omega) hM.2.1
      obtain ⟨m2, q1, q2, q3, q4, -⟩ := tcall (b := 1312) (n := n) hG k4 (by decide) (by decide)
      have f1' : X10_stepAhead s 0 (nI n) 15 = some (wns c (HX s 0) (nI n) c.1 &&& ((HX s 0 4) ^^^ (-1)), s') := f1
      have k1' : X11_copies m 0 1312 8 = some ((), m1) := k1
      have q1' : X11_calls m1 1312 (nI n) = some (wns c (getH (m1.1 10) 1312) (nI n) c.1 &&& ((getH (m1.1 10) 1312 4) ^^^ (-1)), m2) := q1
      obtain ⟨w, hw, ew⟩ := and_lt16 (y := (HX σ 5 4) ^^^ (-1)) (wns_lt c (HX σ 5) (nI n) c.1 hP4)
      show ∃ t1 t1' n', n' < d ∧ (bd (X10_stepAhead s 0 (nI n) 15) _) = _ ∧ (bd (X11_copies m 0 1312 8) _) = _ ∧ _
      rw [f1', k1', bd_some, bd_some, q1', bd_some, gm, hH, ew, bits_eq, Option.bind_some, bc16 w hw]
      generalize bitsT (nI w) = B
      have fin : ∀ (X8 X9 X10 : Int32), ∃ t1 t1' n', n' < d ∧ (some (Sum.inl (s', X8, X9, X10, nI n + 1)) : Option ((mS × Int32 × Int32 × Int32 × Int32) ⊕ (mS × Int32 × Int32))) = some (.inl t1) ∧ (some (Sum.inl (m2, X8, X10, X9, nI n + 1)) : Option ((mS × Int32 × Int32 × Int32 × Int32) ⊕ (mS × Int32 × Int32))) = some (.inl t1') ∧ ∃ n0, n0 + n' = 13 ∧ 1 ≤ n0 ∧ t1.2.2.2.2.toInt = (n0 : Int) ∧ t1'.2.2.2.2.toInt = (n0 : Int) ∧ t1.2.1 = t1'.2.1 ∧ t1.2.2.1 = t1'.2.2.2.1 ∧ t1.2.2.2.1 = t1'.2.2.1 ∧ FrX σ t1.1 ∧ HX t1.1 0 = HX σ 5 ∧ FrM μ t1'.1 := fun X8 X9 X10 => ⟨_, _, d - 1, by omega, rfl, rfl, n + 1, by omega, by omega, hx', hy', rfl, rfl, rfl, f3, by show HX s' 0 = _; rw [f4 0 (by decide) (by decide)]; exact hH, q4⟩
      have e8 : (x8 ||| (if B = 0 then ((1 : Int32) <<< (nI n &&& 31)) else 0)) = (if B = 0 then (x8 ||| ((1 : Int32) <<< (nI n &&& 31))) else x8) := by
        by_cases hz : B = 0
        · rw [if_pos hz, if_pos hz]
        · rw [if_neg hz, if_neg hz, or_zero]
      rw [un1_app, un1_app, un1_app, un1_app, e8]
      unfold X11_larger
      by_cases hle : B ≤ x9
      · rw [if_pos hle, if_pos hle, if_pos hle]
        show ∃ t1 t1' n', n' < d ∧ (if B = x9 then _ else _) = _ ∧ _
        by_cases heq : B = x9
        · have hnl : ¬ B < x9 := fun q => by have := i_lt.mp q; rw [heq] at this; omega
          rw [if_pos heq, if_neg hnl]
          exact fin _ _ _
        · have hlt : B < x9 := i_lt.mpr (by
            have h1 := i_le.mp hle
            have h2 : ¬ B.toInt = x9.toInt := fun q => heq (i_eq.mpr q)
            omega)
          rw [if_neg heq, if_pos hlt, or_zero]
          exact fin _ _ _
      · rw [if_neg hle, if_neg hle, if_neg hle]
        show ∃ t1 t1' n', n' < d ∧ (if B = B then _ else _) = _ ∧ _
        have hnl : ¬ B < x9 := fun q => hle (i_le.mpr (by have := i_lt.mp q; omega))
        rw [if_pos rfl, if_neg hnl]
        exact fin _ _ _) big 12 (s0, 0, 0, 0, 1) (μ, 0, 0, 0, 1) ⟨1, rfl, by omega, i_one, i_one, rfl, rfl, rfl, a3, a2, FrM.rf⟩ (by decide)
  rw [l1, l2, Option.bind_some, Option.bind_some]
  exact SIM.ret ((h.tri hX hM).asked y2) rfl
