/-! run -/
theorem sm1_inl {A0 T : Type} {f : A0 → Option T} {a : A0} : sm1 f (.inl a) = f a := rfl
theorem sm1_inr {A0 T : Type} {f : A0 → Option T} {t : T} : sm1 f (.inr t) = some t := rfl
theorem sm2_inl {A0 A1 T : Type} {f : A0 → A1 → Option T} {a : A0 × A1} : sm2 f (.inl a) = f a.1 a.2 := rfl
theorem sim_run {σ μ : mS} (h : RR σ μ) (a1 : Int32) : SIM (X10_run σ a1) (X11_run μ a1) := by
  obtain ⟨c, hG⟩ := h.2.2.1
  have hP4 := hG.P4
  have hC := hG.2.2.2.1
  have hV := hG.hv
  unfold X10_run X11_run
  rw [hG.pX, hG.1]
  refine SIM.ite Iff.rfl (fun _ => SIM.ret h rfl) (fun _ => ?_)
  by_cases hb : a1.toInt < 0 ∨ 6 ≤ a1.toInt
  · rw [refRow_bad hb, bd_some, if_neg (by decide), if_pos (isRowM_zero.mpr hb)]
    exact SIM.ret h rfl
  obtain ⟨r, hr, rfl⟩ := rowEx hb
  have hv : vin (nI r) 6 = true := vinI hr (by decide)
  obtain ⟨w1, w2, w3, w4⟩ := h.1 r hr
  rw [if_neg (rowY hr).2]
  refine SIM.R hv ?_
  rw [nI_nat (by omega), w1]
  by_cases hs : (σ.1 24 r).toInt < 0
  · rw [refRow_no hr hs, bd_some, if_neg (by decide), if_neg (nle hs), f1M, bd_some]
    exact SIM.ret (h.fnd (by decide)) rfl
  rw [refRow_ok hr (by omega), bd_some, if_pos rfl]
  refine SIM.L hv (SIM.R (ge0 (by omega)) (SIM.R hv ?_))
  refine SIM.ite Iff.rfl (fun h12 => ?_) (fun _ => ?_)
  rotate_left
  · rw [f5X, f5M, bd_some, bd_some]
    exact SIM.ret (h.fnd (by decide)) rfl
  have g12 : (σ.1 24 r).toInt ≤ 12 := i_le.mp h12
  obtain ⟨z, hz, ez⟩ := i_ex (a := σ.1 24 r) (m := 13) (by omega) (by omega)
  have ez2 : (σ.1 24 r).toInt = (z : Int) := by rw [ez, nI_ti (by omega)]
  obtain ⟨q1, q2, l1, l2, hQ⟩ := lpR (b := un1 (X10_run_b47 (nI r) σ)) (b' := un1 (X11_run_b54 μ (nI r)))
    (I := fun d x y => ∃ k, k + d = z ∧ x.toInt = (k : Int) ∧ y.toInt = (k : Int) ∧ ∀ j, j < k → ∃ n, 1 ≤ n ∧ n ≤ 12 ∧ σ.1 (16 + r) j = nI n)
    (Q := fun r1 r2 => (r1 = .inl () ∧ r2 = .inl () ∧ ∀ j, j < z → ∃ n, 1 ≤ n ∧ n ≤ 12 ∧ σ.1 (16 + r) j = nI n) ∨ (r1 = .inr (-3, fndX σ 3) ∧ r2 = .inr (-3, fndM μ 3))) (fun d x y hI => by
    obtain ⟨k, hkd, hx, hy, hk⟩ := hI
    show (∃ t1 t1' n', n' < d ∧ X10_run_b47 (nI r) σ x = _ ∧ X11_run_b54 μ (nI r) y = _ ∧ _) ∨ (∃ r1 r2, X10_run_b47 (nI r) σ x = _ ∧ X11_run_b54 μ (nI r) y = _ ∧ _)
    unfold X10_run_b47 X11_run_b54
    have c1 := i_ix (c := 40) (cn := 40) (by decide) (nI_ti (n := r) (by omega)) hy (by omega)
    have c2 := i_ixn (c := 40) (cn := 40) (by decide) (nI_ti (n := r) (by omega)) hy (by omega)
    have hxn : x.toNatClampNeg = k := by rw [i_nat, hx]; rfl
    rw [if_pos hv, if_pos hv, nI_nat (n := r) (by omega), w1]
    by_cases he : z ≤ k
    · right
      rw [if_pos (ile (by rw [ez2, hx]; omega)), if_pos (ile (by rw [ez2, hy]; omega))]
      exact ⟨_, _, rfl, rfl, Or.inl ⟨rfl, rfl, fun j hj => hk j (by omega)⟩⟩
    rw [if_neg (nle (by rw [ez2, hx]; omega)), if_neg (nle (by rw [ez2, hy]; omega)), if_pos (vin_iff.mpr (by omega) : vin x 40 = true), if_pos (vin_iff.mpr (by rw [c1]; omega) : vin (((40 : Int32) * nI r) + y) 240 = true), c2, hxn, w4 k (by omega)]
    by_cases hbad : (σ.1 (16 + r) k).toInt < 1 ∨ 12 < (σ.1 (16 + r) k).toInt
    · right
      have zM : X11_in (σ.1 (16 + r) k).toInt64 1 12 = 0 := in_zero.mpr hbad
      rw [if_pos (isNumber_zero.mpr hbad), if_pos zM, f3X, f3M, bd_some, bd_some]
      exact ⟨_, _, rfl, rfl, Or.inr ⟨rfl, rfl⟩⟩
    · left
      have zM : ¬ X11_in (σ.1 (16 + r) k).toInt64 1 12 = 0 := fun q => hbad (in_zero.mp q)
      rw [if_neg (fun q => hbad (isNumber_zero.mp q)), if_neg zM]
      refine ⟨_, _, d - 1, by omega, rfl, rfl, k + 1, by omega, by rw [i_inc (by omega), hx]; rfl, by rw [i_inc (by omega), hy]; rfl, fun j hj => ?_⟩
      by_cases e : j = k
      · subst e
        obtain ⟨n, hn, en⟩ := i_ex (a := σ.1 (16 + r) j) (m := 13) (by omega) (by omega)
        have : (σ.1 (16 + r) j).toInt = (n : Int) := by rw [en, nI_ti (by omega)]
        exact ⟨n, by omega, by omega, en⟩
      · exact hk j (by omega)) big z 0 0 ⟨0, by omega, i_zero, i_zero, fun j hj => absurd hj (Nat.not_lt_zero _)⟩ (by show z < 1000000; omega)
  rw [l1, l2, Option.bind_some, Option.bind_some]
  rcases hQ with ⟨rfl, rfl, hnum⟩ | ⟨rfl, rfl⟩
  rotate_left
  · exact SIM.ret (h.fnd (by decide)) rfl
  obtain ⟨s0, t1, t2, t3, -⟩ := take0 (σ := σ)
  obtain ⟨m0, k1, k2, k3, k4, -⟩ := tcopy (μ := μ) (m := μ) (s := 0) (t := 1312) FrM.rf (by decide) (by decide) (by decide) (by decide)
  have k1' : X11_copies μ 0 1312 8 = some ((), m0) := k1
  rw [sm1_inl, sm1_inl]
  refine SIM.L (by decide) ?_
  rw [k1', bd_some]
  rw [t1, bd_some]
  obtain ⟨q1, q2, l1, l2, s, m, y, rfl, rfl, hX, hM, hw⟩ := lpR (b := un2 (X10_run_b101 (nI r) σ)) (b' := un2 (X11_run_b110 (nI r)))
    (I := fun d q q' => ∃ k, k + d = z ∧ q.2.toInt = (k : Int) ∧ q'.2.toInt = (k : Int) ∧ FrX σ q.1 ∧ FrM μ q'.1 ∧ HX q.1 0 = getH (q'.1.1 10) 1312 ∧ HV (HX q.1 0))
    (Q := fun r1 r2 => ∃ s m y, r1 = (s, y) ∧ r2 = (m, y) ∧ FrX σ s ∧ FrM μ m ∧ HX s 0 = getH (m.1 10) 1312) (fun d q q' hI => by
    obtain ⟨s, x⟩ := q
    obtain ⟨m, y⟩ := q'
    obtain ⟨k, hkd, hx, hy, hX, hM, hH, hVs⟩ := hI
    dsimp only at hx hy hX hM hH hVs
    have xe := i_nI hx
    have ye := i_nI hy
    subst xe
    subst ye
    show (∃ t1 t1' n', n' < d ∧ X10_run_b101 (nI r) σ s (nI k) = _ ∧ X11_run_b110 (nI r) m (nI k) = _ ∧ _) ∨ (∃ r1 r2, X10_run_b101 (nI r) σ s (nI k) = _ ∧ X11_run_b110 (nI r) m (nI k) = _ ∧ _)
    unfold X10_run_b101 X11_run_b110
    have c1 := i_ix (c := 40) (cn := 40) (by decide) (nI_ti (n := r) (by omega)) hy (by omega)
    have c2 := i_ixn (c := 40) (cn := 40) (by decide) (nI_ti (n := r) (by omega)) hy (by omega)
    have vy : vin (((40 : Int32) * nI r) + nI k) 240 = true := by
      by_cases he : z ≤ k
      · exact vin_iff.mpr (by rw [c1]; omega)
      · exact vin_iff.mpr (by rw [c1]; omega)
    have m1r : m.1 1 r = σ.1 24 r := by rw [hM.1 1 (by decide) (by decide) (by decide) (by decide)]; exact w1
    simp only [if_pos hv, nI_nat (n := r) (show r < 2147483648 by omega), m1r]
    by_cases he : z ≤ k
    · right
      rw [if_pos (ile (by rw [ez2, hx]; omega)), if_pos (ile (by rw [ez2, hx]; omega))]
      exact ⟨_, _, rfl, rfl, s, m, _, rfl, rfl, hX, hM, hH⟩
    have vx : vin (nI k) 40 = true := vinI (by omega) (by decide)
    obtain ⟨n, n1, n2, en⟩ := hnum k (by omega)
    have srow : s.1 (16 + r) k = nI n := by rw [hX.1 (16 + r) (by omega) (by omega) (by omega) (by omega) (by omega)]; exact en
    have mrw : m.1 2 (40 * r + k) = nI n := by rw [hM.1 2 (by decide) (by decide) (by decide) (by decide), w4 k (by omega)]; exact en
    rw [if_neg (nle (by rw [ez2, hx]; omega)), if_neg (nle (by rw [ez2, hx]; omega))]
    simp only [if_pos vx, if_pos vy, nI_nat (n := k) (show k < 2147483648 by omega), c2, srow, mrw, if_pos (by decide : vin 1317 1360 = true), show (1317 : Int32).toNatClampNeg = 1317 by decide, show (0 : Int32).toNatClampNeg = 0 by decide]
    have bg : m.1 10 1317 = s.1 (144 + 0) 3 := by
      have e5 := congrFun hH 5
      rw [getH_lt (by omega)] at e5
      exact e5.symm
    rw [has_eq _ (by omega), holds_eq (by omega), bg]
    have n10 : ¬ (1 : Int32) = 0 := by decide
    by_cases hbit : bt (s.1 (144 + 0) 3) n = true
    · left
      simp only [if_pos hbit, if_neg n10]
      obtain ⟨m2, g1, g2, g3, g4, -⟩ := tcall (b := 1312) (n := n) hG hM (by decide) (by decide)
      have g1' : X11_calls m 1312 (nI n) = some (wns c (getH (m.1 10) 1312) (nI n) c.1 &&& ((getH (m.1 10) 1312 4) ^^^ (-1)), m2) := g1
      rw [ring15 s (by decide) (hX.cf hC) (hVs.m hP4) (by omega), g1', bd_some, bd_some]
      refine ⟨_, _, d - 1, by omega, rfl, rfl, k + 1, by omega, by show (nI k + 1).toInt = _; rw [i_inc (by omega), hx]; rfl, by show (nI k + 1).toInt = _; rw [i_inc (by omega), hx]; rfl, ⟨fun q a1 a2 a3 a4 a5 => ?_, fun q a1 => ?_, ?_⟩, g4, ?_, ?_⟩
      · show (rgX s c 0 15 (nI n)).1 q = _
        rw [rgX_row (by omega) (by omega)]
        exact hX.1 q a1 a2 a3 a4 a5
      · show (rgX s c 0 15 (nI n)).1 0 q = _
        rw [rgX_row (by omega) (by omega)]
        exact hX.2.1 q a1
      · exact hX.2.2
      · show HX (rgX s c 0 15 (nI n)) 0 = getH (m2.1 10) 1312
        rw [rgX_HX hP4, g2, hH]
      · show HV (HX (rgX s c 0 15 (nI n)) 0)
        rw [rgX_HX hP4]
        exact hVs.ring hP4 _
    · right
      simp only [if_neg hbit, if_true]
      exact ⟨_, _, rfl, rfl, s, m, _, rfl, rfl, hX, hM, hH⟩) big z (s0, 0) (m0, 0) ⟨0, by omega, i_zero, i_zero, t3, k4, by rw [t2, k2]; exact hG.2.2.2.2.2.1, by rw [t2]; exact hV⟩ (by show z < 1000000; omega)
  rw [l1, l2, Option.bind_some, Option.bind_some]
  show SIM (some (((mwI s 0 13 y).1 (144 + (0 : Int32).toNatClampNeg) 2), mwI s 0 13 y)) (if vin 1316 1360 = true then some (((mwI m 0 14 y).1 10 (1316 : Int32).toNatClampNeg), mwI m 0 14 y) else none)
  refine SIM.R (by decide) (SIM.ret ((h.tri hX hM).asked y) ?_)
  rw [mwI_rk (by decide), mwI_rk (by decide)]
  have e4 := congrFun hw 4
  rw [getH_lt (by omega)] at e4
  exact e4
