theorem sim_duel {σ μ : mS} (h : RR σ μ) (a1 a2 a3 : Int32) : SIM (X10_duel σ a1 a2 a3) (X11_duel μ a1 a2 a3) := by
  obtain ⟨c, hG⟩ := h.2.2.1
  have hP4 := hG.P4
  unfold X10_duel X11_duel
  by_cases hb : a1.toInt < 0 ∨ (c.1 : Int) ≤ a1.toInt
  · rw [if_pos (hG.plX.mpr hb), if_pos (hG.plM.mpr hb)]
    exact SIM.ret h rfl
  rw [if_neg (fun q => hb (hG.plX.mp q)), if_neg (fun q => hb (hG.plM.mp q))]
  by_cases hb2 : a2.toInt < 0 ∨ (c.1 : Int) ≤ a2.toInt
  · rw [if_pos (hG.plX.mpr hb2), if_pos (hG.plM.mpr hb2)]
    exact SIM.ret h rfl
  rw [if_neg (fun q => hb2 (hG.plX.mp q)), if_neg (fun q => hb2 (hG.plM.mp q))]
  refine SIM.ite Iff.rfl (fun _ => SIM.ret h rfl) (fun _ => ?_)
  by_cases b1 : a3.toInt < 0 ∨ 2 < a3.toInt
  · rw [if_pos (in_zero.mpr b1 : X11_in a3.toInt64 0 2 = 0)]
    by_cases b2 : a3.toInt < 0
    · exact SIM.L (i_lt.mpr b2) (SIM.ret h rfl)
    · exact SIM.nL (fun q => b2 (i_lt.mp q)) (SIM.nL (nle (by show (2 : Int) < _; omega)) (SIM.ret h rfl))
  refine SIM.nL (fun q => b1 (Or.inl (i_lt.mp q))) (SIM.L (ile (by show _ ≤ (2 : Int); omega)) (SIM.nR (fun q => b1 (in_zero.mp q)) ?_))
  obtain ⟨i, hi, hi4, rfl⟩ := plEx hG hb
  obtain ⟨j, hj, hj4, rfl⟩ := plEx hG hb2
  obtain ⟨a, ha, rfl⟩ := i_ex (a := a3) (m := 3) (by omega) (by omega)
  have e2 : (2 : Int32) * nI a = nI (2 * a) := i_nI (i_dbl (nI_ti (by omega)) (by omega))
  obtain ⟨s, c1, c2, c3, c4⟩ := ca_eq hG (FrX.rf (σ := σ)) (a := 2 * a) (by omega)
  have cle := cnB_le (HX σ 5 5)
  have eN : min (min (2 * a) 4) (cnB (HX σ 5 5)) = min (2 * a) (cnB (HX σ 5 5)) := by omega
  have hles : X11_lesser ((2 : Int32) * nI a) (nI (cnB (HX σ 5 5))) = nI (min (2 * a) (cnB (HX σ 5 5))) := by rw [e2]; exact lesser_n (by omega) (by omega)
  have hNc : min (2 * a) (cnB (HX σ 5 5)) ≤ cnB (HX σ 5 5) := by omega
  have hN : min (2 * a) (cnB (HX σ 5 5)) ≤ 4 := by omega
  rw [if_pos (by decide), show (5 : Int32).toNatClampNeg = 5 by decide, bag_bits hG, Option.bind_some, hles]
  rw [e2, c1, bd_some, eN]
  generalize min (2 * a) (cnB (HX σ 5 5)) = N at hles hNc hN eN
  obtain ⟨s', u1, u2⟩ := duel_X hG hi hj hN N 6 s 0 (HX σ 5) (by omega) (by omega) c2 (by rw [c3]; exact hG.hv) hG.hv (by rw [c3]; exact EqW.rf)
  have u1' : X10_duelAhead 6 s (nI i) (nI j) 0 (nI N) = some (mv c i j z1 N 0 (HX σ 5), s') := u1
  rw [u1', bd_some, (mv_eq hP4 hi4 hj4 N 0 (HX σ 5) hG.hv hNc).1]
  obtain ⟨m1, k1, g1, g2, F1, g3⟩ := tcopy (FrM.rf (σ := μ)) (s := 0) (t := 1312) (by omega) (by omega) (by omega) (by omega)
  have k1' : X11_copies μ 0 1312 8 = some ((), m1) := k1
  have z : (0 : Int32).toNatClampNeg = 0 := by decide
  simp only [k1', bd_some, if_pos (show vin 0 5 = true by decide), z]
  have F2 : FrM μ (mwI m1 13 0 0) := F1.row (Or.inl rfl)
  have S0 : hS (mwI m1 13 0 0) 0 = HX σ 5 := by
    rw [hS_row (Or.inl rfl)]
    unfold hS
    rw [show 1312 + 8 * 0 = 1312 by omega, g1, hG.2.2.2.2.2.1]
  by_cases n0 : N = 0
  · subst n0
    have wM : X11_worthOf (mwI m1 13 0 0) 1312 (nI i) (nI j) = some (wd i j (HX σ 5)) := by
      rw [← S0]
      exact worth_M (k := 0) (by omega) hi4 hj4
    rw [if_pos (show nI 0 = 0 from rfl), wM, Option.bind_some, Option.bind_some, un1_app]
    have lM : lp big (un2 (X11_duel_b98 (nI i) (nI j) (nI a) (nI (cnB (HX σ 5 5))))) (mwI (mwI m1 13 0 0) 15 0 (wd i j (HX σ 5)), 0) = some (mwI (mwI m1 13 0 0) 15 0 (wd i j (HX σ 5))) := lp_r (f := 999999) (by
      show X11_duel_b98 (nI i) (nI j) (nI a) (nI (cnB (HX σ 5 5))) _ 0 = _
      unfold X11_duel_b98
      rw [if_neg (by decide), hles, if_pos (by decide)])
    rw [lM, Option.bind_some, un1_app]
    unfold X11_tells
    rw [bd_some, mwI_rd]
    exact SIM.ret ((h.tri u2.1 (F2.row (Or.inr rfl))).asked _) rfl
  · have nn0 : ¬ nI N = 0 := fun q => n0 ((eqL (v := 0) (by omega) (by omega)).mp q)
    rw [if_neg nn0, Option.bind_some, un1_app]
    obtain ⟨n, rfl⟩ : ∃ n, N = n + 1 := ⟨N - 1, by omega⟩
    obtain ⟨T, m', y', t1, t2, ⟨t3, t4, t5⟩, t6, t7, t8, t9⟩ := duel_M hG hi4 hj4 hN hles n 0 12 12 (mwI (mwI m1 13 0 0) 15 0 (-999)) 0 (-999) (Nat.le_refl _) (by omega) (by omega) (F2.row (Or.inr rfl)) (by rw [mwI_rk (by decide), mwI_rd]; rfl) (by rw [mwI_rd])
    have hcs : cs n ≤ 2042 := by
      rcases (show n = 0 ∨ n = 1 ∨ n = 2 ∨ n = 3 by omega) with rfl | rfl | rfl | rfl <;> decide
    have hT : T ≤ 12 * 2042 := Nat.le_trans t1 (Nat.mul_le_mul_left _ hcs)
    obtain ⟨y5, g5, g6⟩ := nf_find (m := m') (k := 0) (by omega) (12 - y') big (y' + 1) (by omega) (by omega) (by show 12 - y' < 1000000; omega)
    have y13 : y5 = 13 := by
      rcases g6 with ⟨q, -⟩ | ⟨-, -, -, q⟩
      · exact q
      · rw [t8] at q
        exact absurd q (by simp)
    subst y13
    have g5' : lp big (un1 (X11_duel_b119 m' 0)) (nI y' + 1) = some (nI 13) := by rw [nI_s y' (by omega)]; exact g5
    have nle0 : ¬ nI (n + 1) ≤ 0 := lt_nI (a := 0) (b := n + 1) (by omega) (by omega) (by omega)
    have st : X11_duel_b98 (nI i) (nI j) (nI a) (nI (cnB (HX σ 5 5))) m' 0 = some (.inl (m', -1)) := by
      unfold X11_duel_b98
      rw [if_neg (by decide), hles, if_neg nle0, if_pos (by decide), z, t7, g5', Option.bind_some, un1_app, un1_app, if_neg (show ¬ nI 13 ≤ 12 by decide), if_neg (by decide), if_pos (by decide)]
      rfl
    have st2 : X11_duel_b98 (nI i) (nI j) (nI a) (nI (cnB (HX σ 5 5))) m' (-1) = some (.inr m') := by
      unfold X11_duel_b98
      rw [if_pos (by decide)]
    obtain ⟨f, hf⟩ : ∃ f, big = f + 1 + 1 + T := ⟨1000000 - 2 - T, by show 1000000 = _; omega⟩
    have lM : lp big (un2 (X11_duel_b98 (nI i) (nI j) (nI a) (nI (cnB (HX σ 5 5))))) (mwI (mwI m1 13 0 0) 15 0 (-999), 0) = some m' := by
      rw [hf]
      have x1 : lp (f + 1 + 1) (un2 (X11_duel_b98 (nI i) (nI j) (nI a) (nI (cnB (HX σ 5 5))))) (m', 0) = lp (f + 1) (un2 (X11_duel_b98 (nI i) (nI j) (nI a) (nI (cnB (HX σ 5 5))))) (m', -1) := lp_l st
      have x2 : lp (f + 1) (un2 (X11_duel_b98 (nI i) (nI j) (nI a) (nI (cnB (HX σ 5 5))))) (m', -1) = some m' := lp_r st2
      exact (t2 (f + 1 + 1)).trans (x1.trans x2)
    rw [lM, Option.bind_some, un1_app]
    unfold X11_tells
    rw [bd_some, t9, hS_row (Or.inr rfl), S0]
    exact SIM.ret ((h.tri u2.1 t3).asked _) rfl
