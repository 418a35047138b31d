theorem m_pos : ∀ (L : List (List Nat × hT)) (a : Nat × List Nat), (0 < a.1 ∨ L ≠ []) → 0 < (L.foldl mstep a).1
  | [], a, h => by
    rcases h with h | h
    · exact h
    · exact absurd rfl h
  | l :: L, a, _ => by
    rw [List.foldl_cons]
    refine m_pos L _ (Or.inl ?_)
    unfold mstep
    split
    · exact Nat.succ_pos _
    · omega
theorem map_nil_id (L : List (List Nat × hT)) : L.map (fun l => (([] : List Nat) ++ l.1, l.2)) = L := by
  have : (fun l : List Nat × hT => (([] : List Nat) ++ l.1, l.2)) = id := funext (fun l => rfl)
  rw [this, List.map_id]
theorem RR_laid {σ μ s' m' ν : mS} {c : cT} (h : RR σ μ) {r N : Nat} (hr : r < 6) (hN : N ≤ 4) {s : mS} (hX : FrX σ s) (hg : GX r s s' 0) (hM : FrM μ m') {p : List Nat} (hl : Laid s' r N p) (hp : ∀ j, j < N → m'.1 14 j = nI (p.getD j 0)) (n1 : ν.1 1 = upd (m'.1 1) r (nI N)) (n2 : ∀ j, (j < 40 * r ∨ 40 * r + 40 ≤ j) → ν.1 2 j = m'.1 2 j) (no : ∀ q, q ≠ 1 → q ≠ 2 → ν.1 q = m'.1 q) (nL : ν.2 = m'.2) (n3 : ∀ j, j < N → ν.1 2 (40 * r + j) = m'.1 14 j) : RR s' ν := by
  have F0 : FrX σ (mrow (mrow s' 24 (σ.1 24)) (16 + r) (σ.1 (16 + r))) := by
    refine ⟨fun q a1 a2 a3 a4 a5 => ?_, fun q hq => ?_, ?_⟩
    · by_cases e1 : q = 16 + r
      · subst e1
        rw [mrow_at]
      · rw [mrow_ne e1]
        by_cases e2 : q = 24
        · subst e2
          rw [mrow_at]
        · rw [mrow_ne e2, hg.1 q a1 a2 a3 a4 a5 e2 e1]
          exact hX.1 q a1 a2 a3 a4 a5
    · rw [mrow_ne (by omega), mrow_ne (by omega), hg.2.1 q hq]
      exact hX.2.1 q hq
    · show s'.2 = σ.2
      rw [hg.2.2.1]
      exact hX.2.2
  refine RR_lay (h.tri F0 hM) hr hN (funext (fun q => ?_)) (fun q q1 q2 => by rw [mrow_ne q2, mrow_ne q1]) rfl n1 n2 no nL (fun j hj => by rw [n3 j hj, hp j hj, hl.2 j hj])
  rw [mrow_ne (by omega), mrow_at]
  by_cases e : q = r
  · subst e
    rw [upd_at]
    exact hl.1
  · rw [upd_ne e, hg.2.2.2.1 q e, hX.1 24 (by omega) (by omega) (by omega) (by omega) (by omega)]
theorem lesser_n {a b : Nat} (ha : a < 1000) (hb : b < 1000) : X11_lesser (nI a) (nI b) = nI (min a b) := by
  unfold X11_lesser
  by_cases q : b ≤ a
  · rw [if_pos (ile (by rw [nI_ti (by omega), nI_ti (by omega)]; omega)), show min a b = b by omega]
  · rw [if_neg (lt_nI (by omega) (by omega) (by omega)), show min a b = a by omega]
theorem bag_bits {σ μ : mS} {c : cT} (hG : RG σ μ c) : X11_bits (μ.1 10 5) = some (nI (cnB (HX σ 5 5))) := by
  obtain ⟨nb, hnb, eb⟩ := hG.hv.2.2
  have e : μ.1 10 5 = HX σ 5 5 := hG.bag
  rw [bits_eq, e, eb, (cn_bits nb hnb).2]
theorem sim_most {σ μ : mS} (h : RR σ μ) (a1 a2 : Int32) : SIM (X10_most σ a1 a2) (X11_most μ a1 a2) := by
  obtain ⟨c, hG⟩ := h.2.2.1
  have hP4 := hG.P4
  unfold X10_most X11_most
  by_cases b1 : a1.toInt < 0 ∨ 4 < a1.toInt
  · rw [if_pos (in_zero.mpr b1 : X11_in a1.toInt64 0 4 = 0)]
    by_cases b2 : a1.toInt < 0
    · exact SIM.L (i_lt.mpr b2) (SIM.ret h rfl)
    · exact SIM.nL (fun q => b2 (i_lt.mp q)) (SIM.L (i_lt.mpr (by show (4 : Int) < _; omega)) (SIM.ret h rfl))
  refine SIM.nL (fun q => b1 (Or.inl (i_lt.mp q))) (SIM.nL (fun q => b1 (Or.inr (i_lt.mp q))) (SIM.nR (fun q => b1 (in_zero.mp q)) ?_))
  obtain ⟨a, ha, rfl⟩ := i_ex (a := a1) (m := 5) (by omega) (by omega)
  by_cases hb2 : a2.toInt < 0 ∨ 6 ≤ a2.toInt
  · rw [if_pos (isRow_zero.mpr hb2), if_pos (isRowM_zero.mpr hb2)]
    exact SIM.ret h rfl
  obtain ⟨r, hr, rfl⟩ := rowEx hb2
  rw [if_neg (rowY hr).1, if_neg (rowY hr).2, hG.pX, hG.1]
  refine SIM.ite Iff.rfl (fun _ => SIM.ret h rfl) (fun _ => ?_)
  have F0 : FrX σ (mwI σ 0 11 (-1)) := ⟨fun q a1 a2 a3 a4 a5 => mwI_rk a5, fun q hq => by rw [mwI_row, mrow_at, upd_ne hq], rfl⟩
  obtain ⟨s, c1, c2, c3, c4⟩ := ca_eq hG F0 (a := a) (by omega)
  have cle := cnB_le (HX σ 5 5)
  rw [c1, bd_some, if_pos (by decide), show (5 : Int32).toNatClampNeg = 5 by decide, bag_bits hG, Option.bind_some, lesser_n (by omega) (by omega)]
  have eN : min (min a 4) (cnB (HX σ 5 5)) = min a (cnB (HX σ 5 5)) := by omega
  rw [eN]
  have hles : X11_lesser (nI a) (nI (cnB (HX σ 5 5))) = nI (min a (cnB (HX σ 5 5))) := lesser_n (by omega) (by omega)
  have hNc : min a (cnB (HX σ 5 5)) ≤ cnB (HX σ 5 5) := by omega
  have hN : min a (cnB (HX σ 5 5)) ≤ 4 := by omega
  generalize min a (cnB (HX σ 5 5)) = N at hles hNc hN eN
  have k0 : s.1 0 11 = nI 0 - 1 := by rw [c4, mwI_row, mrow_at, upd_at]; rfl
  obtain ⟨s', g1, g2, g3, g4, g5⟩ := gather_X hP4 hN hr N 6 s 0 (HX σ 5) [] 0 [] (by omega) (by omega) (c2.cf hG.2.2.2.1) hG.hv hG.wb c3 rfl (fun j hj => absurd hj (Nat.not_lt_zero _)) k0 (by omega) (fun q => absurd q (by omega))
  rw [map_nil_id] at g3 g4 g5
  have g1' : X10_gatherMost 6 s (nI r) 0 (nI N) = some ((), s') := g1
  rw [g1', bd_some, g3]
  by_cases n0 : N = 0
  · subst n0
    have w4 : μ.1 10 4 = HX σ 5 4 := hG.won
    obtain ⟨v1, v2, v3⟩ := wc_ok hP4 hG.hv hG.wb
    have eL : (lv c 0 (HX σ 5)).foldl mstep (0, []) = (wc (HX σ 5) + 1, []) := by
      show mstep (0, []) ([], HX σ 5) = _
      unfold mstep
      rw [if_pos (Nat.zero_le _)]
    rw [eL] at g5
    rw [eL, if_pos (show nI 0 = 0 from rfl), if_pos (by decide), show (4 : Int32).toNatClampNeg = 4 by decide, w4, bits_eq, Option.bind_some, v1, Option.bind_some, un1_app, if_pos (show nI 0 ≤ 0 by decide), Option.bind_some]
    obtain ⟨ν, y1, y2, y3, y4, y5, y6⟩ := comes_eq (m := μ) hr (show 0 ≤ 4 by omega)
    have lM : lp big (un3 (X11_most_b85 (nI a) (nI (cnB (HX σ 5 5))))) (μ, nI (wc (HX σ 5)), 0) = some (μ, nI (wc (HX σ 5))) := lp_r (f := 999999) rfl
    show SIM _ ((lp big (un3 (X11_most_b85 (nI a) (nI (cnB (HX σ 5 5))))) (μ, nI (wc (HX σ 5)), 0)).bind (un2 (fun s23 y24 => bd (X11_comes s23 (nI r) (nI 0)) (fun r25 s27 => some (y24, s27)))))
    rw [lM, Option.bind_some]
    show SIM _ (bd (X11_comes μ (nI r) (nI 0)) (fun r25 s27 => some (nI (wc (HX σ 5)), s27)))
    rw [y1, bd_some]
    exact SIM.ret (RR_laid (c := c) h hr hN c2 g2 FrM.rf (g5 (Nat.succ_pos _)) (fun j hj => absurd hj (Nat.not_lt_zero _)) y4 y3 y5 y6 y2) (kmI_s (by omega))
  · have nn0 : ¬ nI N = 0 := fun q => n0 ((eqL (v := 0) (by omega) (by omega)).mp q)
    have nle0 : ¬ nI N ≤ 0 := lt_nI (a := 0) (b := N) (by omega) (by omega) (by omega)
    rw [if_neg nn0, Option.bind_some, un1_app, if_neg nle0]
    obtain ⟨x, m1, f1, f2, -⟩ := fol_first hG (FrM.rf (σ := μ)) (N := N) (by omega) hN
    have hx : x = 0 ∨ x = 1 := by
      rcases f2 with ⟨-, q, -⟩ | ⟨_, _, _, -, q, -⟩
      · exact Or.inl q
      · exact Or.inr q
    have e2 : (if x = 0 then some (m1, (0 : Int32)) else some (m1, (1 : Int32))) = some (m1, x) := by
      rcases hx with rfl | rfl <;> rfl
    have hlen := lv_len4 c hN (HX σ 5)
    obtain ⟨m2, z1, z2, z3, z4⟩ := most_M hG hles (by omega) hN _ big m1 x 0 [] f2 (by show _ < 1000000; omega) (by omega) (lv_all hP4 N _ hG.hv hG.wb) (fun q => absurd q (by omega))
    have hpos := m_pos (lv c N (HX σ 5)) (0, []) (Or.inr (lv_ne hP4 N _ hNc))
    obtain ⟨ν, y1, y2, y3, y4, y5, y6⟩ := comes_eq (m := m2) hr hN
    rw [f1, bd_some, e2, Option.bind_some]
    show SIM _ ((lp big (un3 (X11_most_b85 (nI a) (nI (cnB (HX σ 5 5))))) (m1, nI 0 - 1, x)).bind (un2 (fun s23 y24 => bd (X11_comes s23 (nI r) (nI N)) (fun r25 s27 => some (y24, s27)))))
    rw [z1, Option.bind_some]
    show SIM _ (bd (X11_comes m2 (nI r) (nI N)) (fun r25 s27 => some (nI ((lv c N (HX σ 5)).foldl mstep (0, [])).1 - 1, s27)))
    rw [y1, bd_some]
    exact SIM.ret (RR_laid (c := c) h hr hN c2 g2 z2 (g5 hpos) (z4 hpos) y4 y3 y5 y6 y2) rfl
