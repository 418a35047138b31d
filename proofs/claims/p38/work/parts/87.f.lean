theorem m_pos : ∀ (L : List (List Nat × hT)) (a : Nat × List Nat), (0 < a.1 ∨ L ≠ []) → 0 < (L.foldl mstep a).1
  | [], a, h => by
    rcases h with h | h
    · exact h
    · exact absurd rfl h
  | l :: L, a, _ => by
    rw [List.foldl_cons]
    refine m_pos L _ (Or.inl ?_)
    unfold mstep
    split
    · exact Nat.succ_pos _
    · omega
theorem map_nil_id (L : List (List Nat × hT)) : L.map (fun l => (([] : List Nat) ++ l.1, l.2)) = L := by
  have : (fun l : List Nat × hT => (([] : List Nat) ++ l.1, l.2)) = id := funext (fun l => rfl)
  rw [this, List.map_id]
theorem RR_laid {σ μ s' m' ν : mS} {c : cT} (h : RR σ μ) {r N : Nat} (hr : r < 6) (hN : N ≤ 4) {s : mS} (hX : FrX σ s) (hg : GX r s s' 0) (hM : FrM μ m') {p : List Nat} (hl : Laid s' r N p) (hp : ∀ j, j < N → m'.1 14 j = nI (p.getD j 0)) (n1 : ν.1 1 = upd (m'.1 1) r (nI N)) (n2 : ∀ j, (j < 40 * r ∨ 40 * r + 40 ≤ j) → ν.1 2 j = m'.1 2 j) (no : ∀ q, q ≠ 1 → q ≠ 2 → ν.1 q = m'.1 q) (nL : ν.2 = m'.2) (n3 : ∀ j, j < N → ν.1 2 (40 * r + j) = m'.1 14 j) : RR s' ν := by
  have F0 : FrX σ (mrow (mrow s' 24 (σ.1 24)) (16 + r) (σ.1 (16 + r))) := by
    refine ⟨fun q a1 a2 a3 a4 a5 => ?_, fun q hq => ?_, ?_⟩
    · by_cases e1 : q = 16 + r
      · subst e1
        rw [mrow_at]
      · rw [mrow_ne e1]
        by_cases e2 : q = 24
        · subst e2
          rw [mrow_at]
        · rw [mrow_ne e2, hg.1 q a1 a2 a3 a4 a5 e2 e1]
          exact hX.1 q a1 a2 a3 a4 a5
    · rw [mrow_ne (by omega), mrow_ne (by omega), hg.2.1 q hq]
      exact hX.2.1 q hq
    · show s'.2 = σ.2
      rw [hg.2.2.1]
      exact hX.2.2
  refine RR_lay (h.tri F0 hM) hr hN (funext (fun q => ?_)) (fun q q1 q2 => by rw [mrow_ne q2, mrow_ne q1]) rfl n1 n2 no nL (fun j hj => by rw [n3 j hj, hp j hj, hl.2 j hj])
  rw [mrow_ne (by omega), mrow_at]
  by_cases e : q = r
  · subst e
    rw [upd_at]
    exact hl.1
  · rw [upd_ne e, hg.2.2.2.1 q e, hX.1 24 (by omega) (by omega) (by omega) (by omega) (by omega)]
theorem lesser_n {a b : Nat} (ha : a < 1000) (hb : b < 1000) : X11_lesser (nI a) (nI b) = nI (min a b) := by
  unfold X11_lesser
  by_cases q : b ≤ a
  · rw [if_pos (ile (by rw [nI_ti (by omega), nI_ti (by omega)]; omega)), show min a b = b by omega]
  · rw [if_neg (lt_nI (by omega) (by omega) (by omega)), show min a b = a by omega]
theorem bag_bits {σ μ : mS} {c : cT} (hG : RG σ μ c) : X11_bits (μ.1 10 5) = some (nI (cnB (HX σ 5 5))) := by
  obtain ⟨nb, hnb, eb⟩ := hG.hv.2.2
  have e : μ.1 10 5 = HX σ 5 5 := hG.bag
  rw [bits_eq, e, eb, (cn_bits nb hnb).2]
theorem sim_most {σ μ : mS} (h : RR σ μ) (a1 a2 : Int32) : SIM (X10_most σ a1 a2) (X11_most μ a1 a2) := by
  obtain ⟨c, hG⟩ := h.2.2.1
  have hP4 := hG.P4
  unfold X10_most X11_most
  by_cases b1 : a1.toInt < 0 ∨ 4 < a1.toInt
  · rw [if_pos (in_zero.mpr b1 : X11_in a1.toInt64 0 4 = 0)]
    by_cases b2 : a1.toInt < 0
    · exact SIM.L (i_lt.mpr b2) (SIM.ret h rfl)
    · exact SIM.nL (fun q => b2 (i_lt.mp q)) (SIM.L (i_lt.mpr (by show (4 : Int) < _; omega)) (SIM.ret h rfl))
  refine SIM.nL (fun q => b1 (Or.inl (i_lt.mp q))) (SIM.nL (fun q => b1 (Or.inr (i_lt.mp q))) (SIM.nR (fun q => b1 (in_zero.mp q)) ?_))
  obtain ⟨a, ha, rfl⟩ := i_ex (a := a1) (m := 5) (by omega) (by omega)
  by_cases hb2 : a2.toInt < 0 ∨ 6 ≤ a2.toInt
  · rw [if_pos (isRow_zero.mpr hb2), if_pos (isRowM_zero.mpr hb2)]
    exact SIM.ret h rfl
  obtain ⟨r, hr, rfl⟩ := rowEx hb2
  rw [if_neg (rowY hr).1, if_neg (rowY hr).2, hG.pX, hG.1]
  refine SIM.ite Iff.rfl (fun _ => SIM.ret h rfl) (fun _ => ?_)
  have F0 : FrX σ (mwI σ 0 11 (-1)) := ⟨fun q a1 a2 a3 a4 a5 => mwI_rk a5, fun q hq => by rw [mwI_row, mrow_at, upd_ne hq], rfl⟩
  obtain ⟨s, c1, c2, c3, c4⟩ := ca_eq hG F0 (a := a) (by omega)
  have cle := cnB_le (HX σ 5 5)
  rw [c1, bd_some, if_pos (by decide), show (5 : Int32).toNatClampNeg = 5 by decide, bag_bits hG, Option.bind_some, lesser_n (by omega) (by omega)]
  have eN : min (min a 4) (cnB (HX σ 5 5)) = min a (cnB (HX σ 5 5)) := by omega
  rw [eN]
  have hles : X11_lesser (nI a) (nI (cnB (HX σ 5 5))) = nI (min a (cnB (HX σ 5 5))) := lesser_n (by omega) (by omega)
  have hNc : min a (cnB (HX σ 5 5)) ≤ cnB (HX σ 5 5) := by omega
  have hN : min a (cnB (HX σ 5 5)) ≤ 4 := by omega
  generalize min a (cnB (HX σ 5 5)) = N at hles hNc hN eN
  have k0 : s.1 0 11 = nI 0 - 1 := by rw [c4, mwI_row, mrow_at, upd_at]; rfl
  obtain ⟨s', g1, g2, g3, g4, g5⟩ := gather_X hP4 hN hr N 6 s 0 (HX σ 5) [] 0 [] (by omega) (by omega) (c2.cf hG.2.2.2.1) hG.hv hG.wb c3 rfl (fun j hj => absurd hj (Nat.not_lt_zero _)) k0 (by omega) (fun q => absurd q (by omega))
  rw [map_nil_id] at g3 g4 g5
  have g1' : X10_gatherMost 6 s (nI r) 0 (nI N) = some ((), s') := g1
  rw [g1', bd_some, g3]
  by_cases n0 : N = 0
  · subst n0
    have w4 : μ.1 10 4 = HX σ 5 4 := hG.won
    obtain ⟨v1, v2, v3⟩ := wc_ok hP4 hG.hv hG.wb
    have eL : (lv c 0 (HX σ 5)).foldl mstep (0, []) = (wc (HX σ 5) + 1, []) := by
      show mstep (0, []) ([], HX σ 5) = _
      unfold mstep
      rw [if_pos (Nat.zero_le _)]
    rw [eL] at g5
    rw [eL, if_pos (show nI 0 = 0 from rfl), if_pos (by decide), show (4 : Int32).toNatClampNeg = 4 by decide, w4, bits_eq, Option.bind_some, v1, Option.bind_some, un1_app, if_pos (show nI 0 ≤ 0 by decide), Option.bind_some]
    obtain ⟨ν, y1, y2, y3, y4, y5, y6⟩ := comes_eq (m := μ) hr (show 0 ≤ 4 by omega)
    have lM : lp big (un3 (X11_most_b85 (nI a) (nI (cnB (HX σ 5 5))))) (μ, nI (wc (HX σ 5)), 0) = some (μ, nI (wc (HX σ 5))) := lp_r (f := 999999) rfl
    show SIM _ ((lp big (un3 (X11_most_b85 (nI a) (nI (cnB (HX σ 5 5))))) (μ, nI (wc (HX σ 5)), 0)).bind (un2 (fun s23 y24 => bd (X11_comes s23 (nI r) (nI 0)) (fun r25 s27 => some (y24, s27)))))
    rw [lM, Option.bind_some]
    show SIM _ (bd (X11_comes μ (nI r) (nI 0)) (fun r25 s27 => some (nI (wc (HX σ 5)), s27)))
    rw [y1, bd_some]
    exact SIM.ret (RR_laid (c := c) h hr hN c2 g2 FrM.rf (g5 (Nat.succ_pos _)) (fun j hj => absurd hj (Nat.not_lt_zero _)) y4 y3 y5 y6 y2) (kmI_s (by omega))
  · have nn0 : ¬ nI N = 0 := fun q => n0 ((eqL (v := 0) (by omega) (by omega)).mp q)
    have nle0 : ¬ nI N ≤ 0 := lt_nI (a := 0) (b := N) (by omega) (by omega) (by omega)
    rw [if_neg nn0, Option.bind_some, un1_app, if_neg nle0]
    obtain ⟨x, m1, f1, f2, -⟩ := fol_first hG (FrM.rf (σ := μ)) (N := N) (by omega) hN
    have hx : x = 0 ∨ x = 1 := by
      rcases f2 with ⟨-, q, -⟩ | ⟨_, _, _, -, q, -⟩
      · exact Or.inl q
      · exact Or.inr q
    have e2 : (if x = 0 then some (m1, (0 : Int32)) else some (m1, (1 : Int32))) = some (m1, x) := by
      rcases hx with rfl | rfl <;> rfl
    have hlen := lv_len4 c hN (HX σ 5)
    obtain ⟨m2, z1, z2, z3, z4⟩ := most_M hG hles (by omega) hN _ big m1 x 0 [] f2 (by show _ < 1000000; omega) (by omega) (lv_all hP4 N _ hG.hv hG.wb) (fun q => absurd q (by omega))
    have hpos := m_pos (lv c N (HX σ 5)) (0, []) (Or.inr (lv_ne hP4 N _ hNc))
    obtain ⟨ν, y1, y2, y3, y4, y5, y6⟩ := comes_eq (m := m2) hr hN
    rw [f1, bd_some, e2, Option.bind_some]
    show SIM _ ((lp big (un3 (X11_most_b85 (nI a) (nI (cnB (HX σ 5 5))))) (m1, nI 0 - 1, x)).bind (un2 (fun s23 y24 => bd (X11_comes s23 (nI r) (nI N)) (fun r25 s27 => some (y24, s27)))))
    rw [z1, Option.bind_some]
    show SIM _ (bd (X11_comes m2 (nI r) (nI N)) (fun r25 s27 => some (nI ((lv c N (HX σ 5)).foldl mstep (0, [])).1 - 1, s27)))
    rw [y1, bd_some]
    exact SIM.ret (RR_laid (c := c) h hr hN c2 g2 z2 (g5 hpos) (z4 hpos) y4 y3 y5 y6 y2) rfl

/-! odds, mid -/
def qL (n : Nat) : Int64 := (nI n).toInt64
theorem qL_ti {n : Nat} (h : n < 2147483648) : (qL n).toInt = (n : Int) := by unfold qL; rw [l_of_i, nI_ti h]
theorem qL_of {x : Int64} {n : Nat} (h : x.toInt = (n : Int)) (hn : n < 2147483648) : x = qL n := l_eq.mpr (by rw [h, qL_ti hn])
theorem qL_add {a b : Nat} (h : a + b < 2147483648) : qL a + qL b = qL (a + b) := qL_of (by unfold qL; rw [l_add, nI_ti (by omega), nI_ti (by omega)]; omega) h
theorem qL_mul {a b : Nat} (ha : a < 100000) (hb : b < 20) : qL a * qL b = qL (a * b) := by
  have hm : a * b ≤ 100000 * 20 := Nat.mul_le_mul (by omega) (by omega)
  refine qL_of ?_ (by omega)
  rw [Int64.toInt_mul, qL_ti (by omega), qL_ti (by omega), ← Int.natCast_mul]
  exact Int.bmod_eq_of_le (by omega) (by omega)
theorem qL_rem {a b : Nat} (ha : a < 2147483648) (hb : b < 2147483648) : qL a - qL a / qL b * qL b = qL (a % b) := by
  have le : a / b * b ≤ a := Nat.div_mul_le_self a b
  have ld : a / b ≤ a := Nat.div_le_self a b
  have e1 : (qL a / qL b).toInt = ((a / b : Nat) : Int) := by
    rw [Int64.toInt_div, qL_ti ha, qL_ti hb, show Int.tdiv (a : Int) (b : Int) = ((a / b : Nat) : Int) from rfl]
    generalize a / b = q at ld
    exact Int.bmod_eq_of_le (by omega) (by omega)
  have e2 : (qL a / qL b * qL b).toInt = ((a / b * b : Nat) : Int) := by
    rw [Int64.toInt_mul, e1, qL_ti hb, ← Int.natCast_mul]
    generalize a / b * b = q at le
    exact Int.bmod_eq_of_le (by omega) (by omega)
  have e3 : a - a / b * b = a % b := by
    have := Nat.div_add_mod a b
    rw [Nat.mul_comm] at this
    omega
  have lm : a % b ≤ a := Nat.mod_le a b
  refine qL_of ?_ (by omega)
  rw [Int64.toInt_sub, qL_ti ha, e2, ← e3]
  generalize a / b * b = q at le
  rw [Int.bmod_eq_of_le (by omega) (by omega)]
  omega
theorem qL_z {b : Nat} (hb : b < 2147483648) : qL b = 0 ↔ b = 0 := by
  rw [l_eq, qL_ti hb]
  show (b : Int) = 0 ↔ _
  omega
theorem gcd_both : ∀ k a b t fX fM, a < 2147483648 → b < 2 ^ k → b < 2147483648 → t + 2 * k + 1 ≤ 100 → 2 * k + 1 < fX → 2 * k + 1 < fM → ∃ g, g < 2147483648 ∧ lp fX (un3 X10_commonDivisor_b9) (qL a, qL b, nI t) = some (qL g) ∧ lp fM (un2 X11_fraction_b6) (qL a, qL b) = some (qL g) ∧ (0 < b → 0 < g) ∧ (b = 0 → g = a) := by
  have sX0 : ∀ a t, t < 100 → X10_commonDivisor_b9 (qL a) (qL 0) (nI t) = some (.inr (qL a)) := fun a t ht => by
    unfold X10_commonDivisor_b9
    rw [if_neg (show ¬ (100 : Int32) ≤ nI t from lt_nI (a := t) (b := 100) (by omega) (by omega) ht), if_pos ((qL_z (by omega)).mpr rfl)]
  have sM0 : ∀ a, X11_fraction_b6 (qL a) (qL 0) = some (.inr (qL a)) := fun a => by
    unfold X11_fraction_b6
    rw [if_pos ((qL_z (by omega)).mpr rfl)]
  have sX : ∀ a b t, a < 2147483648 → b < 2147483648 → 0 < b → t < 100 → X10_commonDivisor_b9 (qL a) (qL b) (nI t) = some (.inl (qL b, qL (a % b), nI (t + 1))) := fun a b t ha hb h0 ht => by
    have nz : ¬ qL b = 0 := fun q => by have := (qL_z hb).mp q; omega
    unfold X10_commonDivisor_b9
    rw [if_neg (show ¬ (100 : Int32) ≤ nI t from lt_nI (a := t) (b := 100) (by omega) (by omega) ht), if_neg nz, if_pos nz, qL_rem ha hb, nI_s t (by omega)]
  have sM : ∀ a b, a < 2147483648 → b < 2147483648 → 0 < b → X11_fraction_b6 (qL a) (qL b) = some (.inl (qL b, qL (a % b))) := fun a b ha hb h0 => by
    have nz : ¬ qL b = 0 := fun q => by have := (qL_z hb).mp q; omega
    unfold X11_fraction_b6
    rw [if_neg nz, if_pos nz, qL_rem ha hb]
  intro k
  induction k with
  | zero =>
    intro a b t fX fM ha hb hb2 ht hX hM
    have b0 : b = 0 := by
      have : (2 : Nat) ^ 0 = 1 := rfl
      omega
    subst b0
    obtain ⟨fX, rfl⟩ : ∃ g, fX = g + 1 := ⟨fX - 1, by omega⟩
    obtain ⟨fM, rfl⟩ : ∃ g, fM = g + 1 := ⟨fM - 1, by omega⟩
    exact ⟨a, ha, lp_r (sX0 a t (by omega)), lp_r (sM0 a), fun q => absurd q (by omega), fun _ => rfl⟩
  | succ k ih =>
    intro a b t fX fM ha hb hb2 ht hX hM
    obtain ⟨fX, rfl⟩ : ∃ g, fX = g + 1 := ⟨fX - 1, by omega⟩
    obtain ⟨fM, rfl⟩ : ∃ g, fM = g + 1 := ⟨fM - 1, by omega⟩
    by_cases b0 : b = 0
    · subst b0
      exact ⟨a, ha, lp_r (sX0 a t (by omega)), lp_r (sM0 a), fun q => absurd q (by omega), fun _ => rfl⟩
    have bp : 0 < b := Nat.pos_of_ne_zero b0
    have rl : a % b < b := Nat.mod_lt _ bp
    have x1 : lp (fX + 1) (un3 X10_commonDivisor_b9) (qL a, qL b, nI t) = lp fX (un3 X10_commonDivisor_b9) (qL b, qL (a % b), nI (t + 1)) := lp_l (sX a b t ha hb2 bp (by omega))
    have m1 : lp (fM + 1) (un2 X11_fraction_b6) (qL a, qL b) = lp fM (un2 X11_fraction_b6) (qL b, qL (a % b)) := lp_l (sM a b ha hb2 bp)
    rw [x1, m1]
    obtain ⟨fX, rfl⟩ : ∃ g, fX = g + 1 := ⟨fX - 1, by omega⟩
    obtain ⟨fM, rfl⟩ : ∃ g, fM = g + 1 := ⟨fM - 1, by omega⟩
    by_cases r0 : a % b = 0
    · rw [r0]
      exact ⟨b, hb2, lp_r (sX0 b (t + 1) (by omega)), lp_r (sM0 b), fun _ => bp, fun q => absurd q b0⟩
    have rp : 0 < a % b := Nat.pos_of_ne_zero r0
    generalize a % b = r at rl r0 rp
    have rb : b % r < r := Nat.mod_lt _ rp
    have x2 : lp (fX + 1) (un3 X10_commonDivisor_b9) (qL b, qL r, nI (t + 1)) = lp fX (un3 X10_commonDivisor_b9) (qL r, qL (b % r), nI (t + 2)) := lp_l (sX b r (t + 1) hb2 (by omega) rp (by omega))
    have m2 : lp (fM + 1) (un2 X11_fraction_b6) (qL b, qL r) = lp fM (un2 X11_fraction_b6) (qL r, qL (b % r)) := lp_l (sM b r hb2 (by omega) rp)
    rw [x2, m2]
    have half : 2 * (b % r) < b := by
      by_cases q : 2 * r ≤ b
      · omega
      · have : b % r = b - r := by
          rw [Nat.mod_eq_sub_mod (by omega), Nat.mod_eq_of_lt (by omega)]
        omega
    have hk : b % r < 2 ^ k := by
      rw [Nat.pow_succ] at hb
      omega
    obtain ⟨g, g0, g1, g2, g3, g4⟩ := ih r (b % r) (t + 2) fX fM (by omega) hk (by omega) (by omega) (by omega) (by omega)
    refine ⟨g, g0, g1, g2, fun _ => ?_, fun q => absurd q b0⟩
    by_cases z : b % r = 0
    · rw [g4 z]
      exact rp
    · exact g3 (Nat.pos_of_ne_zero z)
/-! sums over the leaves -/
def vl (t i : Nat) (h : hT) : Nat := if t = 0 then (bitsT (h i)).toNatClampNeg else if bt (h 4) i = true then 1 else 0
def sm (t i : Nat) : List (List Nat × hT) → Nat
  | [] => 0
  | l :: L => vl t i l.2 + sm t i L
theorem sm_app (t i : Nat) : ∀ A B, sm t i (A ++ B) = sm t i A + sm t i B
  | [], B => by show sm t i B = 0 + sm t i B; omega
  | a :: A, B => by
    show vl t i a.2 + sm t i (A ++ B) = vl t i a.2 + sm t i A + sm t i B
    rw [sm_app t i A B]
    omega
theorem sm_map (t i : Nat) (f : List Nat → List Nat) : ∀ L, sm t i (L.map (fun l => (f l.1, l.2))) = sm t i L
  | [] => rfl
  | l :: L => by
    show vl t i l.2 + sm t i (L.map (fun l => (f l.1, l.2))) = _
    rw [sm_map t i f L]
    rfl
theorem vl_ok {h : hT} (hV : HV h) {t i : Nat} (hi : i < 4) : vl t i h ≤ 6 := by
  unfold vl
  split
  · obtain ⟨m, hm, e⟩ := hV.1 i hi
    rw [e]
    have := (bits7 m hm).2
    omega
  · split <;> omega
theorem sm_le {t i : Nat} (hi : i < 4) : ∀ L : List (List Nat × hT), (∀ l, l ∈ L → HV l.2) → sm t i L ≤ 6 * L.length
  | [], _ => Nat.zero_le _
  | l :: L, h => by
    have h1 := vl_ok (h l List.mem_cons_self) (t := t) hi
    have h2 := sm_le (t := t) hi L (fun x hx => h x (List.mem_cons_of_mem _ hx))
    show vl t i l.2 + sm t i L ≤ 6 * (L.length + 1)
    omega
def ff : Nat → Nat → Nat
  | _, 0 => 1
  | B, n + 1 => B * ff (B - 1) n
theorem fm_cnt {α β : Type} {g : α → List β} {K : Nat} : ∀ l : List α, (∀ a, a ∈ l → (g a).length = K) → (l.flatMap g).length = l.length * K
  | [], _ => by rw [List.length_nil, Nat.zero_mul]; rfl
  | a :: l, h => by
    rw [List.flatMap_cons, List.length_append, h a List.mem_cons_self, fm_cnt l (fun x hx => h x (List.mem_cons_of_mem _ hx)), List.length_cons, Nat.add_mul, Nat.one_mul, Nat.add_comm]
theorem lv_cnt {c : cT} (hP : c.1 ≤ 4) : ∀ N h, (lv c N h).length = ff (cnB (h 5)) N
  | 0, _ => rfl
  | N + 1, h => by
    show ((nf (h 5) 12 1).flatMap _).length = cnB (h 5) * ff (cnB (h 5) - 1) N
    rw [fm_cnt (K := ff (cnB (h 5) - 1) N) _ (fun n hn => by
      rw [List.length_map, lv_cnt hP N, ← cn_ring hP hn, Nat.add_sub_cancel])]
    rfl
theorem lv_allV {c : cT} (hP : c.1 ≤ 4) : ∀ N h, HV h → ∀ l, l ∈ lv c N h → HV l.2
  | 0, h, hV, l, hl => by
    rw [List.mem_singleton.mp hl]
    exact hV
  | N + 1, h, hV, l, hl => by
    obtain ⟨n, hn, hl2⟩ := List.mem_flatMap.mp hl
    obtain ⟨l', hl', rfl⟩ := List.mem_map.mp hl2
    exact lv_allV hP N _ (hV.ring hP _) l' hl'
theorem leaf_S {σ μ s : mS} {c : cT} (hG : RG σ μ c) {t i e : Nat} (ht : t < 2) (hi : i < c.1) {b : hT} (hV : HV b) (hE : EqW c ((1 : Int32) <<< (nI i &&& 31)) (HX s e) b) : (if nI t = 0 then if vin (nI i) 4 = true then some (((J6_bitCount_0f7a4 (s.1 (152 + e) (nI i).toNatClampNeg))).toInt64, s) else none else some (((((s.1 (144 + e) 2) >>> (nI i &&& 31)) &&& 1)).toInt64, s)) = some (qL (vl t i b), s) := by
  have hP4 := hG.P4
  have hwho : bt ((1 : Int32) <<< (nI i &&& 31)) i = true := by rw [shl_bt (by omega) (by omega)]; exact decide_eq_true rfl
  obtain ⟨e1, e2⟩ := hE.1 i hi hwho
  have m1 : s.1 (152 + e) i = b i := by rw [← e1]; unfold HX; rw [if_pos (by omega)]
  have m2 : bt (s.1 (144 + e) 2) i = bt (b 4) i := by rw [← e2]; rfl
  unfold vl
  rcases (show t = 0 ∨ t = 1 by omega) with rfl | rfl
  · rw [if_pos (show nI 0 = 0 from rfl), if_pos (vinI (by omega) (by omega)), nI_nat (by omega), m1, if_pos rfl]
    obtain ⟨m, hm, em⟩ := hV.1 i (by omega)
    rw [em, bc64 m hm, (bits7 m hm).1]
    have : (nI ((bitsT (nI m)).toNatClampNeg)).toNatClampNeg = (bitsT (nI m)).toNatClampNeg := nI_nat (by have := (bits7 m hm).2; omega)
    rw [this]
    rfl
  · rw [if_neg (show ¬ nI 1 = 0 by decide), bit_eq _ (by omega), m2, if_neg (show ¬ (1 : Nat) = 0 by decide)]
    cases bt (b 4) i <;> rfl

theorem sum_X {σ μ : mS} {c : cT} (hG : RG σ μ c) {t i : Nat} (ht : t < 2) (hi : i < c.1) {N : Nat} (hN : N ≤ 3) : ∀ r f s e b, e + r = N → r < f → FrX σ s → HV (HX s e) → HV b → EqW c ((1 : Int32) <<< (nI i &&& 31)) (HX s e) b → ∃ s', X10_sumAhead f s (nI i) (nI t) (nI e) (nI N) = some (qL (sm t i (lv c r b)), s') ∧ AX σ s s' e := by
  have hP4 := hG.P4
  intro r
  induction r with
  | zero =>
    intro f s e b he hf hF hV hVb hE
    obtain ⟨f, rfl⟩ : ∃ g, f = g + 1 := ⟨f - 1, by omega⟩
    have en : e = N := by omega
    subst en
    refine ⟨s, ?_, ⟨hF, fun _ _ => rfl, fun _ _ => rfl, rfl⟩⟩
    show X10_sumAhead_F (X10_sumAhead f) s (nI i) (nI t) (nI e) (nI e) = some (qL (vl t i b + 0), s)
    unfold X10_sumAhead_F
    rw [if_pos (vinI (by omega) (by omega)), if_pos le_nI, nI_nat (n := e) (by omega), Nat.add_zero]
    exact leaf_S hG ht hi hVb hE
  | succ r ih =>
    intro f s e b he hf hF hV hVb hE
    obtain ⟨f, rfl⟩ : ∃ g, f = g + 1 := ⟨f - 1, by omega⟩
    have loop : ∀ d g x s1 A, x + d = 13 → 1 ≤ x → d < g → AX σ s s1 e → A ≤ 13000 * (13 - d) → ∃ s', lp g (un3 (X10_sumAhead_b54 (X10_sumAhead f) (nI i) (nI t) (nI e) (nI N))) (s1, qL A, nI x) = some (s', qL (A + sm t i ((nf (b 5) d x).flatMap (fun n => (lv c r (ringH c b (nI n))).map (fun l => (n :: l.1, l.2)))))) ∧ AX σ s s' e := by
      intro d
      induction d with
      | zero =>
        intro g x s1 A hx x1 hg hA hb
        obtain ⟨g, rfl⟩ : ∃ q, g = q + 1 := ⟨g - 1, by omega⟩
        have e13 : x = 13 := by omega
        subst e13
        exact ⟨s1, lp_r rfl, hA⟩
      | succ d ihd =>
        intro g x s1 A hx x1 hg hA hb
        obtain ⟨g, rfl⟩ : ∃ q, g = q + 1 := ⟨g - 1, by omega⟩
        have bag : HX s1 e 5 = b 5 := by rw [hA.2.1 e (Nat.le_refl _)]; exact hE.2.1
        have l12 : ¬ (12 : Int32) < nI x := fun q => by have := i_lt.mp q; rw [nI_ti (by omega)] at this; have : (12 : Int) < x := this; omega
        by_cases q : bt (b 5) x = true
        · have hVs : HV (HX s1 e) := by rw [hA.2.1 e (Nat.le_refl _)]; exact hV
          obtain ⟨v, s2, t1, t2, t3, t4, t5, t6⟩ := stepW (who := (1 : Int32) <<< (nI i &&& 31)) (n := x) (show e < 4 by omega) hA.1 hG.2.2.2.1 hVs (by omega)
          have A2 : AX σ s1 s2 e := ⟨t3, fun j hj => t4 j (by omega) (by omega), fun j hj => by rw [t5, upd_ne (by omega)], t6⟩
          have E2 : EqW c ((1 : Int32) <<< (nI i &&& 31)) (HX s2 (e + 1)) (ringH c b (nI x)) := by
            rw [t2, hA.2.1 e (Nat.le_refl _)]
            exact hE.ring hP4 _
          obtain ⟨s3, u1, u2⟩ := ih f s2 (e + 1) (ringH c b (nI x)) (by omega) (by omega) t3 (by rw [t2]; exact HV_rW hVs hP4 _ _) (hVb.ring hP4 _) E2
          have A3 : AX σ s s3 e := hA.tr (A2.tr u2 (by omega)) (Nat.le_refl _)
          have sl := sm_le (t := t) (show i < 4 by omega) (lv c r (ringH c b (nI x))) (lv_allV hP4 r _ (hVb.ring hP4 _))
          have ll := lv_len c r (ringH c b (nI x))
          have lp2 : 12 ^ r ≤ 12 ^ 2 := Nat.pow_le_pow_right (by omega) (by omega)
          have lp3 : (12 : Nat) ^ 2 = 144 := rfl
          have st : X10_sumAhead_b54 (X10_sumAhead f) (nI i) (nI t) (nI e) (nI N) s1 (qL A) (nI x) = some (.inl (s3, qL (A + sm t i (lv c r (ringH c b (nI x)))), nI (x + 1))) := by
            unfold X10_sumAhead_b54
            rw [if_neg l12, nI_nat (by omega), holdsX (by omega), bag, if_pos q, if_neg (by decide), t1, bd_some, nI_s e (by omega), u1, bd_some, nI_s x (by omega), qL_add (by omega)]
          obtain ⟨s', z1, z2⟩ := ihd g (x + 1) s3 (A + sm t i (lv c r (ringH c b (nI x)))) (by omega) (by omega) (by omega) A3 (by omega)
          refine ⟨s', (lp_l st).trans ?_, z2⟩
          rw [z1, nf_y q, List.flatMap_cons, sm_app, sm_map t i (fun l => x :: l), Nat.add_assoc]
        · have st : X10_sumAhead_b54 (X10_sumAhead f) (nI i) (nI t) (nI e) (nI N) s1 (qL A) (nI x) = some (.inl (s1, qL A, nI (x + 1))) := by
            unfold X10_sumAhead_b54
            rw [if_neg l12, nI_nat (by omega), holdsX (by omega), bag, if_neg q, if_pos rfl, nI_s x (by omega)]
          rw [nf_n q]
          obtain ⟨s', z1, z2⟩ := ihd g (x + 1) s1 A (by omega) (by omega) (by omega) hA (by omega)
          exact ⟨s', (lp_l st).trans z1, z2⟩
    obtain ⟨s', z1, z2⟩ := loop 12 big 1 s 0 rfl (Nat.le_refl _) (by show 12 < 1000000; omega) ⟨hF, fun _ _ => rfl, fun _ _ => rfl, rfl⟩ (Nat.zero_le _)
    have z1' : lp big (un3 (X10_sumAhead_b54 (X10_sumAhead f) (nI i) (nI t) (nI e) (nI N))) (s, 0, 1) = some (s', qL (0 + sm t i (lv c (r + 1) b))) := z1
    refine ⟨s', ?_, z2⟩
    show X10_sumAhead_F (X10_sumAhead f) s (nI i) (nI t) (nI e) (nI N) = _
    unfold X10_sumAhead_F
    rw [if_pos (vinI (by omega) (by omega)), if_neg (lt_nI (by omega) (by omega) (by omega)), if_pos (i_lt.mpr (by rw [nI_ti (by omega)]; show (e : Int) < 4; omega)), z1', Option.bind_some, Nat.zero_add]
    rfl
theorem sum_M {σ μ : mS} {c : cT} (hG : RG σ μ c) {t i N : Nat} (ht : t < 2) (hi : i < c.1) {a2 r2 : Int32} (hl : X11_lesser a2 r2 = nI N) (h1 : 1 ≤ N) (hN : N ≤ 3) {H0 : hT} : ∀ L f m x A B, Now μ c N H0 m x L → L.length + 1 < f → A + 6 * L.length ≤ 1000000 → B + L.length ≤ 1000000 → L.length ≤ 20736 → (∀ l, l ∈ L → HV l.2) → ∃ m', lp f (un4 (X11_lot_b88 (nI i) a2 (nI (1 - t)) r2)) (m, qL A, qL B, x) = some (m', qL (A + sm t i L), qL (B + L.length)) ∧ FrM μ m' := by
  have hP4 := hG.P4
  intro L
  induction L with
  | nil =>
    intro f m x A B hNow hf hA hB hlen hall
    obtain ⟨f, rfl⟩ : ∃ g, f = g + 1 := ⟨f - 1, by omega⟩
    rcases hNow with ⟨-, rfl, hF⟩ | ⟨p, h, rest, q, -⟩
    · refine ⟨m, lp_r ?_, hF⟩
      show X11_lot_b88 (nI i) a2 (nI (1 - t)) r2 m (qL A) (qL B) 0 = _
      unfold X11_lot_b88
      rw [if_pos rfl]
      rfl
    · exact absurd q (by simp)
  | cons l L ih =>
    intro f m x A B hNow hf hA hB hlen hall
    obtain ⟨f, rfl⟩ : ∃ g, f = g + 1 := ⟨f - 1, by omega⟩
    rw [List.length_cons] at hf hlen hA hB
    rcases hNow with ⟨q, -, -⟩ | ⟨p, h, rest, q, rfl, hAt⟩
    · exact absurd q (by simp)
    obtain ⟨rfl, rfl⟩ := List.cons.inj q
    have hV : HV h := hall (p, h) List.mem_cons_self
    have vle := vl_ok hV (t := t) (show i < 4 by omega)
    have i4 : ((1312 : Int32) + nI N * 8) + 4 = nI (1312 + 8 * N + 4) := by rw [sl_eq (by omega)]; exact nI_p _ 4 (by omega)
    have ii : ((1312 : Int32) + nI N * 8) + nI i = nI (1312 + 8 * N + i) := by rw [sl_eq (by omega)]; exact nI_p _ i (by omega)
    obtain ⟨x', m', g1, g2, -⟩ := fol_next hG h1 (by omega) hAt
    have val : (if nI (1 - t) = 0 then (if vin (((1312 : Int32) + ((X11_lesser a2 r2) * 8)) + 4) 1360 = true then some (((((m.1 10 (((1312 : Int32) + ((X11_lesser a2 r2) * 8)) + 4).toNatClampNeg) >>> (nI i &&& 31)) &&& 1)).toInt64) else none) else (if vin (((1312 : Int32) + ((X11_lesser a2 r2) * 8)) + nI i) 1360 = true then (X11_bits (m.1 10 (((1312 : Int32) + ((X11_lesser a2 r2) * 8)) + nI i).toNatClampNeg)).bind (fun r43 => some ((r43).toInt64)) else none)) = some (qL (vl t i h)) := by
      rw [hl, i4, ii, if_pos (vinI (by omega) (by omega)), if_pos (vinI (by omega) (by omega)), nI_nat (by omega), nI_nat (by omega), at_won (by omega) hAt (by omega), at_won (by omega) hAt (show i < 8 by omega), bits_eq, Option.bind_some, bit_eq _ (by omega)]
      unfold vl
      rcases (show t = 0 ∨ t = 1 by omega) with rfl | rfl
      · rw [if_neg (show ¬ nI (1 - 0) = 0 by decide), if_pos rfl]
        obtain ⟨mm, hm, em⟩ := hV.1 i (by omega)
        rw [em]
        have := (bits7 mm hm).1
        unfold qL
        rw [← this]
      · rw [if_pos (show nI (1 - 1) = 0 from rfl), if_neg (show ¬ (1 : Nat) = 0 by decide)]
        cases bt (h 4) i <;> rfl
    have st : X11_lot_b88 (nI i) a2 (nI (1 - t)) r2 m (qL A) (qL B) 1 = some (.inl (m', qL (A + vl t i h), qL (B + 1), x')) := by
      unfold X11_lot_b88
      rw [if_neg (by decide), val, Option.bind_some, un1_app, hl, g1, bd_some, qL_add (by omega)]
      have : qL B + 1 = qL (B + 1) := qL_add (a := B) (b := 1) (by omega)
      rw [this]
    obtain ⟨m2, z1, z2⟩ := ih f m' x' (A + vl t i h) (B + 1) g2 (by omega) (by omega) (by omega) (by omega) (fun x hx => hall x (List.mem_cons_of_mem _ hx))
    refine ⟨m2, (lp_l st).trans ?_, z2⟩
    rw [z1]
    show some (m2, qL (A + vl t i h + sm t i L), qL (B + 1 + L.length)) = some (m2, qL (A + (vl t i h + sm t i L)), qL (B + (L.length + 1)))
    rw [Nat.add_assoc, Nat.add_assoc, Nat.add_comm 1 L.length]
def fp (B : Nat) : Nat → Nat
  | 0 => 1
  | j + 1 => fp B j * (B - j)
theorem fp_tab : ∀ B, B < 13 → ∀ N, N < 4 → fp B N = ff B N ∧ fp B N ≤ 1728 := by decide +kernel
theorem ff_pos : ∀ B, B < 13 → ∀ N, N < 4 → N ≤ B → 0 < ff B N := by decide +kernel
theorem orders_eq {s : mS} {B N : Nat} (hb : J6_bitCount_0f7a4 (s.1 (144 + 5) 3) = nI B) (hB : B < 13) (hN : N < 4) (hNB : N ≤ B) : X10_orders s (nI N) = some (qL (ff B N)) := by
  unfold X10_orders
  have h := lp_zero (b := un2 (X10_orders_b17 s (nI N))) (n := N) (res := qL (fp B N)) (fun j x => (qL (fp B j), x)) (by omega) (fun j x hj hx => by
    have xe := i_nI hx
    subst xe
    show X10_orders_b17 s (nI N) (qL (fp B j)) (nI j) = some (.inl (qL (fp B j * (B - j)), nI j + 1))
    unfold X10_orders_b17
    have e : nI B - nI j = nI (B - j) := i_nI (by rw [i_sub (by rw [nI_ti (by omega), nI_ti (by omega)]; omega) (by rw [nI_ti (by omega), nI_ti (by omega)]; omega), nI_ti (by omega), nI_ti (by omega)]; omega)
    have l := (fp_tab B hB j (by omega)).2
    rw [if_neg (lt_nI (a := j) (b := N) (by omega) (by omega) hj), hb, e]
    have := qL_mul (a := fp B j) (b := B - j) (by omega) (by omega)
    unfold qL at this
    unfold qL
    rw [this]) (fun x hx => by
    have xe := i_nI hx
    subst xe
    show X10_orders_b17 s (nI N) _ (nI N) = _
    unfold X10_orders_b17
    rw [if_pos le_nI])
  have h' : lp big (un2 (X10_orders_b17 s (nI N))) (1, 0) = some (qL (fp B N)) := h
  rw [h', Option.bind_some, un1_app, (fp_tab B hB N hN).1]
theorem RR.tell {σ μ : mS} (h : RR σ μ) (u l : Int64) : RR (mwL (mwL σ 0 14 u) 0 15 l) (mwL (mwL μ 0 15 u) 0 16 l) := by
  obtain ⟨hW, hT, hG, o1, o2, o3, o4, o5⟩ := h
  exact ⟨hW, hT, hG, o1, rfl, rfl, o4, o5⟩
theorem tell_both {σ μ s m : mS} (h : RR σ μ) (hX : FrX σ s) (hM : FrM μ m) {S O : Nat} (hS : S < 1000000) (hO : O ≤ 1728) (h0 : 0 < O) : SIM (bd (X10_tell s (qL S) (qL O)) (fun r16 s18 => some (1, s18))) (bd (X11_fraction m (qL S) (qL O)) (fun r25 s27 => some (r25, s27))) := by
  unfold X10_tell X10_commonDivisor X11_fraction
  obtain ⟨g, g0, g1, g2, g3, -⟩ := gcd_both 11 S O 0 big big (by omega) (by show O < 2048; omega) (by omega) (by omega) (by show 23 < 1000000; omega) (by show 23 < 1000000; omega)
  have g1' : lp big (un3 X10_commonDivisor_b9) (qL S, qL O, 0) = some (qL g) := g1
  have gp := g3 h0
  have nz : ¬ qL g = 0 := fun q => by have := (qL_z g0).mp q; omega
  have np : ¬ qL g ≤ 0 := fun q => by
    have := l_le.mp q
    rw [qL_ti g0] at this
    have : (g : Int) ≤ 0 := this
    omega
  rw [g1', g2, Option.bind_some, Option.bind_some, un1_app, un1_app, Option.bind_some, if_neg np, if_pos nz, if_pos nz, if_pos nz, if_pos nz, bd_some, bd_some]
  exact SIM.ret ((h.tri hX hM).tell _ _) rfl
theorem lot_main {σ μ : mS} {c : cT} (h : RR σ μ) (hG : RG σ μ c) {t i a : Nat} (ht : t < 2) (hi : i < c.1) (ha : a ≤ 3) : SIM (bd (X10_callsAhead σ (nI a)) (fun r8 s10 => bd (X10_sumAhead 6 s10 (nI i) (nI t) (0) r8) (fun r11 s13 => (X10_orders s13 r8).bind (fun r14 => bd (X10_tell s13 r11 r14) (fun r16 s18 => some (1, s18)))))) (bd (X11_lot μ (nI i) (nI a) (nI (1 - t))) (fun r7 s9 => some (r7, s9))) := by
  have hP4 := hG.P4
  obtain ⟨s, c1, c2, c3, c4⟩ := ca_eq hG (FrX.rf (σ := σ)) (a := a) (by omega)
  have cle := cnB_le (HX σ 5 5)
  have eN : min (min a 4) (cnB (HX σ 5 5)) = min a (cnB (HX σ 5 5)) := by omega
  have hles : X11_lesser (nI a) (nI (cnB (HX σ 5 5))) = nI (min a (cnB (HX σ 5 5))) := lesser_n (by omega) (by omega)
  have hNc : min a (cnB (HX σ 5 5)) ≤ cnB (HX σ 5 5) := by omega
  have hN : min a (cnB (HX σ 5 5)) ≤ 3 := by omega
  rw [c1, bd_some, eN]
  generalize min a (cnB (HX σ 5 5)) = N at hles hNc hN eN
  obtain ⟨s', u1, u2⟩ := sum_X hG ht hi hN N 6 s 0 (HX σ 5) (by omega) (by omega) c2 (by rw [c3]; exact hG.hv) hG.hv (by rw [c3]; exact EqW.rf)
  have u1' : X10_sumAhead 6 s (nI i) (nI t) 0 (nI N) = some (qL (sm t i (lv c N (HX σ 5))), s') := u1
  obtain ⟨nb, hnb, eb⟩ := hG.hv.2.2
  have b5 : J6_bitCount_0f7a4 (s'.1 (144 + 5) 3) = nI (cnB (HX σ 5 5)) := by
    have e : s'.1 (144 + 5) = σ.1 (144 + 5) := u2.1.1 _ (by omega) (by omega) (by omega) (by omega) (by omega)
    have e2 : s'.1 (144 + 5) 3 = HX σ 5 5 := by rw [e]; rfl
    rw [e2, eb]
    exact (cn_bits nb hnb).1
  have hor := orders_eq b5 (by omega) (show N < 4 by omega) hNc
  rw [u1', bd_some, hor, Option.bind_some]
  have hcnt := lv_cnt hP4 N (HX σ 5)
  have hO := (fp_tab (cnB (HX σ 5 5)) (by omega) N (by omega))
  have hOp := ff_pos (cnB (HX σ 5 5)) (by omega) N (by omega) hNc
  have hallV := lv_allV hP4 N (HX σ 5) hG.hv
  have hsl := sm_le (t := t) (show i < 4 by omega) (lv c N (HX σ 5)) hallV
  have hO2 : ff (cnB (HX σ 5 5)) N ≤ 1728 := by rw [← hO.1]; exact hO.2
  unfold X11_lot
  rw [if_pos (by decide), show (5 : Int32).toNatClampNeg = 5 by decide, bag_bits hG, Option.bind_some, hles]
  by_cases n0 : N = 0
  · subst n0
    have z0 : nI 0 ≤ 0 := by decide
    have v1 : (if nI (1 - t) = 0 then (if vin 4 1360 = true then some (((((μ.1 10 (4 : Int32).toNatClampNeg) >>> (nI i &&& 31)) &&& 1)).toInt64) else none) else (if vin (nI i) 1360 = true then (X11_bits (μ.1 10 (nI i).toNatClampNeg)).bind (fun r68 => some ((r68).toInt64)) else none)) = some (qL (vl t i (HX σ 5))) := by
      have e4 : μ.1 10 4 = HX σ 5 4 := hG.won
      have ei : μ.1 10 i = HX σ 5 i := by rw [hG.2.2.2.2.2.1, getH_lt (by omega), Nat.zero_add]
      rw [if_pos (show vin 4 1360 = true by decide), if_pos (vinI (by omega) (by omega)), show (4 : Int32).toNatClampNeg = 4 by decide, nI_nat (by omega), e4, ei, bits_eq, Option.bind_some, bit_eq _ (by omega)]
      unfold vl
      rcases (show t = 0 ∨ t = 1 by omega) with rfl | rfl
      · rw [if_neg (show ¬ nI (1 - 0) = 0 by decide), if_pos rfl]
        obtain ⟨mm, hm, em⟩ := hG.hv.1 i (by omega)
        rw [em]
        have := (bits7 mm hm).1
        unfold qL
        rw [← this]
      · rw [if_pos (show nI (1 - 1) = 0 from rfl), if_neg (show ¬ (1 : Nat) = 0 by decide)]
        cases bt (HX σ 5 4) i <;> rfl
    rw [if_pos z0, v1, Option.bind_some, un1_app, if_pos z0, un1_app, if_pos z0, Option.bind_some]
    have lM : lp big (un4 (X11_lot_b88 (nI i) (nI a) (nI (1 - t)) (nI (cnB (HX σ 5 5))))) (μ, qL (vl t i (HX σ 5)), 1, 0) = some (μ, qL (vl t i (HX σ 5)), 1) := lp_r (f := 999999) rfl
    show SIM _ (bd ((lp big (un4 (X11_lot_b88 (nI i) (nI a) (nI (1 - t)) (nI (cnB (HX σ 5 5))))) (μ, qL (vl t i (HX σ 5)), 1, 0)).bind (un3 (fun s22 y23 y24 => bd (X11_fraction s22 y23 y24) (fun r25 s27 => some (r25, s27))))) (fun r7 s9 => some (r7, s9)))
    rw [lM, Option.bind_some]
    have T := tell_both h u2.1 (FrM.rf (σ := μ)) (S := sm t i (lv c 0 (HX σ 5))) (O := ff (cnB (HX σ 5 5)) 0) (by omega) hO2 hOp
    have e1 : sm t i (lv c 0 (HX σ 5)) = vl t i (HX σ 5) := Nat.add_zero _
    rw [e1] at T ⊢
    obtain ⟨v, τ, ν, y1, y2, y3⟩ := T
    have y2' : bd (X11_fraction μ (qL (vl t i (HX σ 5))) 1) (fun r25 s27 => some (r25, s27)) = some (v, ν) := y2
    refine ⟨v, τ, ν, y1, ?_, y3⟩
    show bd (bd (X11_fraction μ (qL (vl t i (HX σ 5))) 1) (fun r25 s27 => some (r25, s27))) (fun r7 s9 => some (r7, s9)) = _
    rw [y2', bd_some]
  · have nle0 : ¬ nI N ≤ 0 := lt_nI (a := 0) (b := N) (by omega) (by omega) (by omega)
    rw [if_neg nle0, Option.bind_some, un1_app, if_neg nle0, un1_app, if_neg nle0]
    obtain ⟨x, m1, f1, f2, -⟩ := fol_first hG (FrM.rf (σ := μ)) (N := N) (by omega) (by omega)
    have hx : x = 0 ∨ x = 1 := by
      rcases f2 with ⟨-, q, -⟩ | ⟨_, _, _, -, q, -⟩
      · exact Or.inl q
      · exact Or.inr q
    have e2 : (if x = 0 then some (m1, (0 : Int32)) else some (m1, (1 : Int32))) = some (m1, x) := by
      rcases hx with rfl | rfl <;> rfl
    obtain ⟨m2, z1, z2⟩ := sum_M hG ht hi hles (by omega) hN (lv c N (HX σ 5)) big m1 x 0 0 f2 (by show _ < 1000000; omega) (by omega) (by omega) (by omega) hallV
    rw [Nat.zero_add, Nat.zero_add, hcnt] at z1
    rw [f1, bd_some, e2, Option.bind_some]
    show SIM _ (bd ((lp big (un4 (X11_lot_b88 (nI i) (nI a) (nI (1 - t)) (nI (cnB (HX σ 5 5))))) (m1, qL 0, qL 0, x)).bind (un3 (fun s22 y23 y24 => bd (X11_fraction s22 y23 y24) (fun r25 s27 => some (r25, s27))))) (fun r7 s9 => some (r7, s9)))
    rw [z1, Option.bind_some]
    obtain ⟨v, τ, ν, y1, y2, y3⟩ := tell_both h u2.1 z2 (S := sm t i (lv c N (HX σ 5))) (O := ff (cnB (HX σ 5 5)) N) (by omega) hO2 hOp
    refine ⟨v, τ, ν, y1, ?_, y3⟩
    show bd (bd (X11_fraction m2 (qL (sm t i (lv c N (HX σ 5)))) (qL (ff (cnB (HX σ 5 5)) N))) (fun r25 s27 => some (r25, s27))) (fun r7 s9 => some (r7, s9)) = _
    rw [y2, bd_some]
theorem bd_same {o : Option (Int32 × mS)} : bd o (fun r s => some (r, s)) = o := by
  cases o with
  | none => rfl
  | some p => rfl
theorem tell_main {σ μ : mS} (h : RR σ μ) (a1 a2 : Int32) {t : Nat} (ht : t < 2) : SIM (X10_tellAhead σ a1 a2 (nI t)) (if (X11_isPlayer μ a1) = 0 then some ((-1), μ) else if (X11_in ((a2).toInt64) (0) (3)) = 0 then some ((-1), μ) else bd (X11_lot μ a1 a2 (nI (1 - t))) (fun r7 s9 => some (r7, s9))) := by
  obtain ⟨c, hG⟩ := h.2.2.1
  unfold X10_tellAhead
  by_cases hb : a1.toInt < 0 ∨ (c.1 : Int) ≤ a1.toInt
  · rw [if_pos (hG.plX.mpr hb), if_pos (hG.plM.mpr hb)]
    exact SIM.ret h rfl
  rw [if_neg (fun q => hb (hG.plX.mp q)), if_neg (fun q => hb (hG.plM.mp q))]
  obtain ⟨i, hi, hi4, rfl⟩ := plEx hG hb
  by_cases b1 : a2.toInt < 0 ∨ 3 < a2.toInt
  · rw [if_pos (in_zero.mpr b1 : X11_in a2.toInt64 0 3 = 0)]
    by_cases b2 : a2.toInt < 0
    · exact SIM.L (i_lt.mpr b2) (SIM.ret h rfl)
    · exact SIM.nL (fun q => b2 (i_lt.mp q)) (SIM.nL (nle (by show (3 : Int) < _; omega)) (SIM.ret h rfl))
  refine SIM.nL (fun q => b1 (Or.inl (i_lt.mp q))) (SIM.L (ile (by show _ ≤ (3 : Int); omega)) (SIM.nR (fun q => b1 (in_zero.mp q)) ?_))
  obtain ⟨a, ha, rfl⟩ := i_ex (a := a2) (m := 4) (by omega) (by omega)
  exact lot_main h hG ht hi (by omega)
theorem sim_odds {σ μ : mS} (h : RR σ μ) (a1 a2 : Int32) : SIM (X10_odds σ a1 a2) (X11_odds μ a1 a2) := by
  unfold X10_odds X11_odds
  rw [bd_same]
  exact tell_main h a1 a2 (t := 1) (by omega)
theorem sim_mid {σ μ : mS} (h : RR σ μ) (a1 a2 : Int32) : SIM (X10_mid σ a1 a2) (X11_mid μ a1 a2) := by
  unfold X10_mid X11_mid
  rw [bd_same]
  exact tell_main h a1 a2 (t := 0) (by omega)

/-! duel -/
theorem larger_j (a b : Int32) : X11_larger a b = jmax a b := by
  unfold X11_larger jmax
  by_cases q : b ≤ a
  · rw [if_pos q, if_neg (fun x => by have h1 := i_le.mp q; have h2 := i_lt.mp x; omega)]
  · rw [if_neg q, if_pos (i_lt.mpr (by have : ¬ b.toInt ≤ a.toInt := fun x => q (i_le.mpr x); omega))]
theorem lesser_j (a b : Int32) : X11_lesser a b = jmin a b := by
  unfold X11_lesser jmin
  by_cases q : b < a
  · rw [if_pos q, if_pos (i_le.mpr (by have := i_lt.mp q; omega))]
  · rw [if_neg q]
    by_cases q2 : b ≤ a
    · rw [if_pos q2]
      exact i_eq.mpr (by have h1 := i_le.mp q2; have h2 : ¬ b.toInt < a.toInt := fun x => q (i_lt.mpr x); omega)
    · rw [if_neg q2]
def bet (e : Nat) (a b : Int32) : Int32 := if e % 2 = 0 then jmax a b else jmin a b
/-- the worth of a hall to i against j -/
def wd (i j : Nat) (h : hT) : Int32 := ((bitsT (h i) - bitsT (h j)) + (if bt (h 4) i = true then 10 else 0)) - (if bt (h 4) j = true then 10 else 0)
def mv (c : cT) (i j : Nat) (z : Nat → Int32) : Nat → Nat → hT → Int32
  | 0, _, h => wd i j h
  | n + 1, e, h => (nf (h 5) 12 1).foldl (fun a x => bet e a (mv c i j z n (e + 1) (ringH c h (nI x)))) (z e)
theorem better_M {m : mS} {e : Nat} (he : e < 5) (v : Int32) : X11_better m (nI e) v = some ((), mwI m 15 e (bet e (m.1 15 e) v)) := by
  unfold X11_better bet
  have e2 : nI e - nI e / 2 * 2 = nI (e % 2) := i_rem (nI_ti (by omega)) (by decide) (by omega)
  rw [e2, if_pos (vinI he (by omega)), if_pos (vinI he (by omega)), if_pos (vinI he (by omega)), if_pos (vinI he (by omega)), nI_nat (by omega), larger_j, lesser_j]
  by_cases q : e % 2 = 0
  · rw [q, if_pos (show nI 0 = 0 from rfl), if_pos rfl]
  · rw [show e % 2 = 1 by omega, if_neg (by decide), if_neg (by decide)]
theorem worth_M {m : mS} {k i j : Nat} (hk : k ≤ 5) (hi : i < 4) (hj : j < 4) : X11_worthOf m (nI (1312 + 8 * k)) (nI i) (nI j) = some (wd i j (hS m k)) := by
  unfold X11_worthOf
  have g : ∀ q, q < 8 → m.1 10 (1312 + 8 * k + q) = hS m k q := fun q hq => by unfold hS; rw [getH_lt hq]
  have i4 : nI (1312 + 8 * k) + 4 = nI (1312 + 8 * k + 4) := nI_p _ 4 (by omega)
  rw [i4, nI_p _ i (by omega), nI_p _ j (by omega), if_pos (vinI (by omega) (by omega)), if_pos (vinI (by omega) (by omega)), nI_nat (by omega), bits_eq, Option.bind_some, if_pos (vinI (by omega) (by omega)), nI_nat (by omega), bits_eq, Option.bind_some, un1_app, nI_nat (by omega), g i (by omega), g j (by omega), g 4 (by omega), has_eq _ (by omega), has_eq _ (by omega)]
  unfold wd
  by_cases a : bt (hS m k 4) i = true <;> by_cases b : bt (hS m k 4) j = true
  · rw [if_pos a, if_pos b, if_pos a, if_pos b]; rfl
  · rw [if_pos a, if_neg b, if_pos a, if_neg b]; rfl
  · rw [if_neg a, if_pos b, if_neg a, if_pos b]; rfl
  · rw [if_neg a, if_neg b, if_neg a, if_neg b]; rfl
theorem b119 (m : mS) (x : Int32) : X11_duel_b119 m x = X11_follows_b52 m x := rfl
def z9 (e : Nat) : Int32 := if e % 2 = 0 then -999 else 999
/-- what a level's walk leaves as it was -/
def DM (μ m m' : mS) (k : Nat) : Prop := FrM μ m' ∧ (∀ j, j ≤ k → hS m' j = hS m j) ∧ (∀ j, j < k → m'.1 13 j = m.1 13 j ∧ m'.1 15 j = m.1 15 j)
def cs : Nat → Nat
  | 0 => 1
  | n + 1 => 2 + 12 * cs n
theorem FrM.row {μ m : mS} (h : FrM μ m) {k p : Nat} {v : Int32} (hk : k = 13 ∨ k = 15) : FrM μ (mwI m k p v) := ⟨fun q a1 a2 a3 a4 => by rw [mwI_rk (by omega)]; exact h.1 q a1 a2 a3 a4, fun q hq => by rw [mwI_rk (by omega)]; exact h.2.1 q hq, h.2.2⟩
theorem hS_row {m : mS} {k p j : Nat} {v : Int32} (hk : k = 13 ∨ k = 15) : hS (mwI m k p v) j = hS m j := by
  unfold hS
  rw [mwI_rk (by omega)]
theorem duel_M {σ μ : mS} {c : cT} (hG : RG σ μ c) {i j N : Nat} (hi : i < 4) (hj : j < 4) (hN : N ≤ 4) {a3 r13 : Int32} (hl : X11_lesser ((2 : Int32) * a3) r13 = nI N) : ∀ n k D d m y B, d ≤ D → k + (n + 1) = N → y + d = 12 → FrM μ m → m.1 13 k = nI y → m.1 15 k = B → ∃ T m' y', T ≤ d * cs n ∧ (∀ f, lp (f + T) (un2 (X11_duel_b98 (nI i) (nI j) a3 r13)) (m, nI k) = lp f (un2 (X11_duel_b98 (nI i) (nI j) a3 r13)) (m', nI k)) ∧ DM μ m m' k ∧ y' ≤ 12 ∧ m'.1 13 k = nI y' ∧ nf (hS m' k 5) (12 - y') (y' + 1) = [] ∧ m'.1 15 k = (nf (hS m k 5) d (y + 1)).foldl (fun a x => bet k a (mv c i j z9 n (k + 1) (ringH c (hS m k) (nI x)))) B := by
  have nl0 : 0 < N → ¬ nI N ≤ 0 := fun h => lt_nI (a := 0) (b := N) (by omega) (by omega) h
  have ng : ∀ k : Nat, k < 10 → ¬ nI k < 0 := fun k hk q => by have := i_lt.mp q; rw [nI_ti (by omega)] at this; have : (k : Int) < 0 := this; omega
  intro n
  induction n with
  | zero =>
    intro k D
    induction D with
    | zero =>
      intro d m y B hd hk hy hF h13 h15
      have d0 : d = 0 := by omega
      subst d0
      refine ⟨0, m, y, Nat.zero_le _, fun f => rfl, ⟨hF, fun _ _ => rfl, fun _ _ => ⟨rfl, rfl⟩⟩, by omega, h13, ?_, h15⟩
      rw [show 12 - y = 0 by omega]
      rfl
    | succ D ihD =>
      intro d m y B hd hk hy hF h13 h15
      obtain ⟨y1, g1, g2⟩ := nf_find (m := m) (k := k) (by omega) (12 - y) big (y + 1) (by omega) (by omega) (by show 12 - y < 1000000; omega)
      have g1' : lp big (un1 (X11_duel_b119 m (nI k))) (nI y + 1) = some (nI y1) := by rw [nI_s y (by omega)]; exact g1
      have ed : 12 - y = d := by omega
      rcases g2 with ⟨rfl, gn⟩ | ⟨y2, y3, yb, gn⟩
      · refine ⟨0, m, y, Nat.zero_le _, fun f => rfl, ⟨hF, fun _ _ => rfl, fun _ _ => ⟨rfl, rfl⟩⟩, by omega, h13, gn, ?_⟩
        rw [ed] at gn
        rw [gn]
        exact h15
      · obtain ⟨m2, d1, d2, d3, d4, d5, d6⟩ := dn_step hG hF (k := k) (y := y1) (by omega)
        have st : X11_duel_b98 (nI i) (nI j) a3 r13 m (nI k) = some (.inl (mwI m2 15 k (bet k B (wd i j (ringH c (hS m k) (nI y1)))), nI k)) := by
          unfold X11_duel_b98
          rw [if_neg (ng k (by omega)), hl, if_neg (nl0 (by omega)), if_pos (vinI (by omega) (by omega)), nI_nat (by omega), h13, g1', Option.bind_some, un1_app, un1_app, if_pos (show nI y1 ≤ 12 from ile (by rw [nI_ti (by omega)]; show (y1 : Int) ≤ 12; omega)), if_pos rfl, if_pos (vinI (by omega) (by omega))]
          rw [d1, if_pos (by rw [nI_s k (by omega)]; rw [show k + 1 = N by omega]), nI_s k (by omega), sl_eq (by omega), worth_M (by omega) hi hj, Option.bind_some, better_M (by omega), bd_some, d4, d6 15 (by decide) (by decide), h15]
        generalize hm3 : mwI m2 15 k (bet k B (wd i j (ringH c (hS m k) (nI y1)))) = m3 at st
        have F3 : FrM μ m3 := by rw [← hm3]; exact d2.row (Or.inr rfl)
        have S3 : ∀ q, q ≤ k → hS m3 q = hS m q := fun q hq => by rw [← hm3, hS_row (Or.inr rfl)]; exact d3 q (by omega) (by omega)
        have w13 : ∀ q, m3.1 13 q = upd (m.1 13) k (nI y1) q := fun q => by rw [← hm3, mwI_rk (by decide), d5]
        have r15 : m3.1 15 = upd (m.1 15) k (bet k B (wd i j (ringH c (hS m k) (nI y1)))) := by rw [← hm3, mwI_row, mrow_at, d6 15 (by decide) (by decide)]
        obtain ⟨T, m', y', t1, t2, ⟨t3, t4, t5⟩, t6, t7, t8, t9⟩ := ihD (12 - y1) m3 y1 _ (by omega) hk (by omega) F3 (by rw [w13, upd_at]) (by rw [r15, upd_at])
        refine ⟨T + 1, m', y', ?_, fun f => ?_, ⟨t3, fun q hq => by rw [t4 q hq, S3 q hq], fun q hq => ?_⟩, t6, t7, t8, ?_⟩
        · have : (12 - y1 + 1) * cs 0 ≤ d * cs 0 := Nat.mul_le_mul_right _ (by omega)
          rw [Nat.add_mul] at this
          have : cs 0 = 1 := rfl
          omega
        · rw [← Nat.add_assoc]
          exact (lp_l st).trans (t2 f)
        · rw [(t5 q hq).1, (t5 q hq).2, w13, r15, upd_ne (by omega), upd_ne (by omega)]
          exact ⟨rfl, rfl⟩
        · rw [t9, S3 k (Nat.le_refl _), ← ed, gn, List.foldl_cons]
          rfl
  | succ n ih =>
    intro k D
    induction D with
    | zero =>
      intro d m y B hd hk hy hF h13 h15
      have d0 : d = 0 := by omega
      subst d0
      refine ⟨0, m, y, Nat.zero_le _, fun f => rfl, ⟨hF, fun _ _ => rfl, fun _ _ => ⟨rfl, rfl⟩⟩, by omega, h13, ?_, h15⟩
      rw [show 12 - y = 0 by omega]
      rfl
    | succ D ihD =>
      intro d m y B hd hk hy hF h13 h15
      obtain ⟨y1, g1, g2⟩ := nf_find (m := m) (k := k) (by omega) (12 - y) big (y + 1) (by omega) (by omega) (by show 12 - y < 1000000; omega)
      have g1' : lp big (un1 (X11_duel_b119 m (nI k))) (nI y + 1) = some (nI y1) := by rw [nI_s y (by omega)]; exact g1
      have ed : 12 - y = d := by omega
      rcases g2 with ⟨rfl, gn⟩ | ⟨y2, y3, yb, gn⟩
      · refine ⟨0, m, y, Nat.zero_le _, fun f => rfl, ⟨hF, fun _ _ => rfl, fun _ _ => ⟨rfl, rfl⟩⟩, by omega, h13, gn, ?_⟩
        rw [ed] at gn
        rw [gn]
        exact h15
      · obtain ⟨m2, d1, d2, d3, d4, d5, d6⟩ := dn_step hG hF (k := k) (y := y1) (by omega)
        have st : X11_duel_b98 (nI i) (nI j) a3 r13 m (nI k) = some (.inl (mwI (mwI m2 13 (k + 1) 0) 15 (k + 1) (z9 (k + 1)), nI (k + 1))) := by
          unfold X11_duel_b98
          rw [if_neg (ng k (by omega)), hl, if_neg (nl0 (by omega)), if_pos (vinI (by omega) (by omega)), nI_nat (by omega), h13, g1', Option.bind_some, un1_app, un1_app, if_pos (show nI y1 ≤ 12 from ile (by rw [nI_ti (by omega)]; show (y1 : Int) ≤ 12; omega)), if_pos rfl, if_pos (vinI (by omega) (by omega))]
          have e2 : nI (k + 1) - nI (k + 1) / 2 * 2 = nI ((k + 1) % 2) := i_rem (nI_ti (by omega)) (by decide) (by omega)
          have v5 : vin (nI (k + 1)) 5 = true := vinI (by omega) (by omega)
          rw [d1, nI_s k (by omega), if_neg (fun q => by have := (eqL (by omega) (by omega)).mp q; omega), if_pos v5, e2, nI_nat (by omega), if_pos v5, if_pos v5]
          unfold z9
          by_cases q : (k + 1) % 2 = 0
          · rw [q, if_pos (show nI 0 = 0 from rfl), if_pos rfl]
          · rw [show (k + 1) % 2 = 1 by omega, if_neg (show ¬ nI 1 = 0 by decide), if_neg (by decide)]
        generalize hm3 : mwI (mwI m2 13 (k + 1) 0) 15 (k + 1) (z9 (k + 1)) = m3 at st
        have F3 : FrM μ m3 := by rw [← hm3]; exact (d2.row (Or.inl rfl)).row (Or.inr rfl)
        have hS3 : ∀ q, hS m3 q = hS m2 q := fun q => by rw [← hm3, hS_row (Or.inr rfl), hS_row (Or.inl rfl)]
        have w13 : m3.1 13 = upd (upd (m.1 13) k (nI y1)) (k + 1) 0 := by rw [← hm3, mwI_rk (by decide), mwI_row, mrow_at, d5]
        have r15 : m3.1 15 = upd (m.1 15) (k + 1) (z9 (k + 1)) := by rw [← hm3, mwI_row, mrow_at, mwI_rk (by decide), d6 15 (by decide) (by decide)]
        obtain ⟨T1, m4, y4, t1, t2, ⟨t3, t4, t5⟩, t6, t7, t8, t9⟩ := ih (k + 1) 12 12 m3 0 (z9 (k + 1)) (Nat.le_refl _) (by omega) (by omega) F3 (by rw [w13, upd_at]; rfl) (by rw [r15, upd_at])
        have v4 : m4.1 15 (k + 1) = mv c i j z9 (n + 1) (k + 1) (ringH c (hS m k) (nI y1)) := by
          rw [t9, hS3, d4]
          rfl
        have b4 : m4.1 15 k = B := by rw [(t5 k (by omega)).2, r15, upd_ne (by omega), h15]
        obtain ⟨y5, g5, g6⟩ := nf_find (m := m4) (k := k + 1) (by omega) (12 - y4) big (y4 + 1) (by omega) (by omega) (by show 12 - y4 < 1000000; omega)
        have y13 : y5 = 13 := by
          rcases g6 with ⟨q, -⟩ | ⟨-, -, -, q⟩
          · exact q
          · rw [t8] at q
            exact absurd q (by simp)
        subst y13
        have g5' : lp big (un1 (X11_duel_b119 m4 (nI (k + 1)))) (nI y4 + 1) = some (nI 13) := by rw [nI_s y4 (by omega)]; exact g5
        have st2 : X11_duel_b98 (nI i) (nI j) a3 r13 m4 (nI (k + 1)) = some (.inl (mwI m4 15 k (bet k B (mv c i j z9 (n + 1) (k + 1) (ringH c (hS m k) (nI y1)))), nI k)) := by
          have ek : nI (k + 1) - 1 = nI k := kmI_s (by omega)
          have ek2 : nI (k + 1) + (-1) = nI k := by rw [← ek]; exact (Int32.sub_eq_add_neg _ _).symm
          unfold X11_duel_b98
          rw [if_neg (ng (k + 1) (by omega)), hl, if_neg (nl0 (by omega)), if_pos (vinI (by omega) (by omega)), nI_nat (by omega), t7, g5', Option.bind_some, un1_app, un1_app, if_neg (show ¬ nI 13 ≤ 12 by decide), if_neg (by decide), if_neg (show ¬ nI (k + 1) ≤ 0 from lt_nI (a := 0) (b := k + 1) (by omega) (by omega) (by omega)), if_pos (vinI (by omega) (by omega)), ek, better_M (by omega), bd_some, b4, v4, ek2]
        generalize hm5 : mwI m4 15 k (bet k B (mv c i j z9 (n + 1) (k + 1) (ringH c (hS m k) (nI y1)))) = m5 at st2
        have F5 : FrM μ m5 := by rw [← hm5]; exact t3.row (Or.inr rfl)
        have S5 : ∀ q, q ≤ k → hS m5 q = hS m q := fun q hq => by rw [← hm5, hS_row (Or.inr rfl), t4 q (by omega), hS3, d3 q (by omega) (by omega)]
        have q13 : ∀ q, q ≤ k → m5.1 13 q = upd (m.1 13) k (nI y1) q := fun q hq => by rw [← hm5, mwI_rk (by decide), (t5 q (by omega)).1, w13, upd_ne (by omega)]
        have q15 : ∀ q, q ≤ k → m5.1 15 q = if q = k then bet k B (mv c i j z9 (n + 1) (k + 1) (ringH c (hS m k) (nI y1))) else m.1 15 q := fun q hq => by
          rw [← hm5, mwI_row, mrow_at]
          by_cases e : q = k
          · subst e
            rw [upd_at, if_pos rfl]
          · rw [upd_ne e, if_neg e, (t5 q (by omega)).2, r15, upd_ne (by omega)]
        obtain ⟨T, m', y', u1, u2, ⟨u3, u4, u5⟩, u6, u7, u8, u9⟩ := ihD (12 - y1) m5 y1 _ (by omega) hk (by omega) F5 (by rw [q13 k (Nat.le_refl _), upd_at]) (by rw [q15 k (Nat.le_refl _), if_pos rfl])
        refine ⟨T + 1 + T1 + 1, m', y', ?_, fun f => ?_, ⟨u3, fun q hq => by rw [u4 q hq, S5 q hq], fun q hq => ?_⟩, u6, u7, u8, ?_⟩
        · have h1 : (12 - y1 + 1) * cs (n + 1) ≤ d * cs (n + 1) := Nat.mul_le_mul_right _ (by omega)
          rw [Nat.add_mul] at h1
          have h2 : cs (n + 1) = 2 + 12 * cs n := rfl
          omega
        · rw [show f + (T + 1 + T1 + 1) = (f + T + 1 + T1) + 1 by omega]
          refine (lp_l st).trans ((t2 (f + T + 1)).trans ((lp_l st2).trans (u2 f)))
        · rw [(u5 q hq).1, (u5 q hq).2, q13 q (by omega), q15 q (by omega), upd_ne (by omega), if_neg (by omega)]
          exact ⟨rfl, rfl⟩
        · rw [u9, S5 k (Nat.le_refl _), ← ed, gn, List.foldl_cons]

def z1 (e : Nat) : Int32 := if e % 2 = 0 then -100 else 100
theorem alg_tab : ∀ a, a < 7 → ∀ b, b < 7 → ∀ x, x < 2 → ∀ y, y < 2 → ((nI a + nI (10 * x)) - (nI b + nI (10 * y))) = ((nI a - nI b) + nI (10 * x)) - nI (10 * y) ∧ -100 ≤ (((nI a - nI b) + nI (10 * x)) - nI (10 * y)).toInt ∧ (((nI a - nI b) + nI (10 * x)) - nI (10 * y)).toInt ≤ 100 := by decide +kernel
theorem wd_ok {h : hT} (hV : HV h) {i j : Nat} (hi : i < 4) (hj : j < 4) : (bitsT (h i) + (if bt (h 4) i = true then 10 else 0)) - (bitsT (h j) + (if bt (h 4) j = true then 10 else 0)) = wd i j h ∧ -100 ≤ (wd i j h).toInt ∧ (wd i j h).toInt ≤ 100 := by
  unfold wd
  obtain ⟨m, hm, em⟩ := hV.1 i hi
  obtain ⟨n, hn, en⟩ := hV.1 j hj
  have b1 := bits7 m hm
  have b2 := bits7 n hn
  rw [em, en, b1.1, b2.1]
  have e : ∀ q : Bool, (if q = true then (10 : Int32) else 0) = nI (10 * (if q = true then 1 else 0)) := fun q => by cases q <;> rfl
  rw [e, e]
  exact alg_tab _ b1.2 _ b2.2 _ (by split <;> omega) _ (by split <;> omega)
theorem bet_rng {e : Nat} {a v : Int32} (ha : -100 ≤ a.toInt ∧ a.toInt ≤ 100) (hv : -100 ≤ v.toInt ∧ v.toInt ≤ 100) : -100 ≤ (bet e a v).toInt ∧ (bet e a v).toInt ≤ 100 := by
  unfold bet jmax jmin
  split <;> split <;> assumption
theorem fold_rng {e : Nat} {g : Nat → Int32} : ∀ (L : List Nat) (a : Int32), (-100 ≤ a.toInt ∧ a.toInt ≤ 100) → (∀ x, x ∈ L → -100 ≤ (g x).toInt ∧ (g x).toInt ≤ 100) → -100 ≤ (L.foldl (fun a x => bet e a (g x)) a).toInt ∧ (L.foldl (fun a x => bet e a (g x)) a).toInt ≤ 100
  | [], a, ha, _ => ha
  | x :: L, a, ha, h => fold_rng L _ (bet_rng ha (h x List.mem_cons_self)) (fun y hy => h y (List.mem_cons_of_mem _ hy))
theorem fold_cong {e : Nat} {f g : Nat → Int32} (L : List Nat) (a : Int32) (h : ∀ x, x ∈ L → f x = g x) : L.foldl (fun a x => bet e a (f x)) a = L.foldl (fun a x => bet e a (g x)) a := by
  induction L generalizing a with
  | nil => rw [List.foldl_nil, List.foldl_nil]
  | cons x L ih =>
    rw [List.foldl_cons, List.foldl_cons, h x List.mem_cons_self]
    exact ih _ (fun y hy => h y (List.mem_cons_of_mem _ hy))
theorem bet_z {e : Nat} {v : Int32} (hv : -100 ≤ v.toInt ∧ v.toInt ≤ 100) : bet e (z1 e) v = v ∧ bet e (z9 e) v = v := by
  unfold bet z1 z9 jmax jmin
  have k1 : (-100 : Int32).toInt = -100 := by decide
  have k2 : (100 : Int32).toInt = 100 := by decide
  have k3 : (-999 : Int32).toInt = -999 := by decide
  have k4 : (999 : Int32).toInt = 999 := by decide
  by_cases q : e % 2 = 0
  · simp only [if_pos q]
    constructor
    · by_cases w : (-100 : Int32) < v
      · rw [if_pos w]
      · rw [if_neg w]
        exact i_eq.mpr (by have : ¬ (-100 : Int32).toInt < v.toInt := fun x => w (i_lt.mpr x); omega)
    · rw [if_pos (i_lt.mpr (by omega))]
  · simp only [if_neg q]
    constructor
    · by_cases w : v < (100 : Int32)
      · rw [if_pos w]
      · rw [if_neg w]
        exact i_eq.mpr (by have : ¬ v.toInt < (100 : Int32).toInt := fun x => w (i_lt.mpr x); omega)
    · rw [if_pos (i_lt.mpr (by omega))]
theorem mv_eq {c : cT} (hP : c.1 ≤ 4) {i j : Nat} (hi : i < 4) (hj : j < 4) : ∀ n e b, HV b → n ≤ cnB (b 5) → mv c i j z1 n e b = mv c i j z9 n e b ∧ (-100 ≤ (mv c i j z9 n e b).toInt ∧ (mv c i j z9 n e b).toInt ≤ 100)
  | 0, e, b, hV, _ => ⟨rfl, (wd_ok hV hi hj).2⟩
  | n + 1, e, b, hV, hn => by
    have key : ∀ x, x ∈ nf (b 5) 12 1 → mv c i j z1 n (e + 1) (ringH c b (nI x)) = mv c i j z9 n (e + 1) (ringH c b (nI x)) ∧ (-100 ≤ (mv c i j z9 n (e + 1) (ringH c b (nI x))).toInt ∧ (mv c i j z9 n (e + 1) (ringH c b (nI x))).toInt ≤ 100) := fun x hx => by
      have := cn_ring hP hx
      exact mv_eq hP hi hj n (e + 1) _ (hV.ring hP _) (by omega)
    show (nf (b 5) 12 1).foldl (fun a x => bet e a (mv c i j z1 n (e + 1) (ringH c b (nI x)))) (z1 e) = (nf (b 5) 12 1).foldl (fun a x => bet e a (mv c i j z9 n (e + 1) (ringH c b (nI x)))) (z9 e) ∧ (-100 ≤ ((nf (b 5) 12 1).foldl (fun a x => bet e a (mv c i j z9 n (e + 1) (ringH c b (nI x)))) (z9 e)).toInt ∧ ((nf (b 5) 12 1).foldl (fun a x => bet e a (mv c i j z9 n (e + 1) (ringH c b (nI x)))) (z9 e)).toInt ≤ 100)
    rw [fold_cong (nf (b 5) 12 1) (z1 e) (fun x hx => (key x hx).1)]
    cases hnf : nf (b 5) 12 1 with
    | nil =>
      have : cnB (b 5) = 0 := by unfold cnB; rw [hnf]; rfl
      omega
    | cons x L =>
      rw [hnf] at key
      have k := (key x List.mem_cons_self).2
      rw [List.foldl_cons, List.foldl_cons, (bet_z k).1, (bet_z k).2]
      exact ⟨rfl, fold_rng L _ k (fun y hy => (key y (List.mem_cons_of_mem _ hy)).2)⟩
theorem leaf_D {σ μ s : mS} {c : cT} (hG : RG σ μ c) {i j e : Nat} (hi : i < c.1) (hj : j < c.1) {b : hT} (hV : HV b) (hE : EqW c (((1 : Int32) <<< (nI i &&& 31)) ||| ((1 : Int32) <<< (nI j &&& 31))) (HX s e) b) : (X2_worth s e (nI i)).bind (fun r4 => (X2_worth s e (nI j)).bind (fun r6 => some ((r4 - r6), s))) = some (wd i j b, s) := by
  have hP4 := hG.P4
  have w : ∀ q, q < c.1 → bt (((1 : Int32) <<< (nI i &&& 31)) ||| ((1 : Int32) <<< (nI j &&& 31))) q = true → X2_worth s e (nI q) = some (bitsT (b q) + (if bt (b 4) q = true then 10 else 0)) := fun q hq hw => by
    obtain ⟨e1, e2⟩ := hE.1 q hq hw
    have m1 : s.1 (152 + e) q = b q := by rw [← e1]; unfold HX; rw [if_pos (by omega)]
    obtain ⟨m, hm, em⟩ := hV.1 q (by omega)
    unfold X2_worth
    rw [if_pos (vinI (by omega) (by omega)), won_eq (by omega), nI_nat (by omega), m1, em, bc64 m hm, e2]
    by_cases x : bt (b 4) q = true
    · rw [if_pos x, if_pos x, if_neg (by decide)]
    · rw [if_neg x, if_neg x, if_pos rfl]
  have wi : bt (((1 : Int32) <<< (nI i &&& 31)) ||| ((1 : Int32) <<< (nI j &&& 31))) i = true := by rw [b_or, shl_bt (by omega) (by omega), decide_eq_true rfl]; rfl
  have wj : bt (((1 : Int32) <<< (nI i &&& 31)) ||| ((1 : Int32) <<< (nI j &&& 31))) j = true := by rw [b_or, shl_bt (n := j) (by omega) (by omega), decide_eq_true rfl, Bool.or_true]
  rw [w i hi wi, w j hj wj, Option.bind_some, Option.bind_some, (wd_ok hV (show i < 4 by omega) (show j < 4 by omega)).1]
theorem duel_X {σ μ : mS} {c : cT} (hG : RG σ μ c) {i j : Nat} (hi : i < c.1) (hj : j < c.1) {N : Nat} (hN : N ≤ 4) : ∀ r f s e b, e + r = N → r < f → FrX σ s → HV (HX s e) → HV b → EqW c (((1 : Int32) <<< (nI i &&& 31)) ||| ((1 : Int32) <<< (nI j &&& 31))) (HX s e) b → ∃ s', X10_duelAhead f s (nI i) (nI j) (nI e) (nI N) = some (mv c i j z1 r e b, s') ∧ AX σ s s' e := by
  have hP4 := hG.P4
  intro r
  induction r with
  | zero =>
    intro f s e b he hf hF hV hVb hE
    obtain ⟨f, rfl⟩ : ∃ g, f = g + 1 := ⟨f - 1, by omega⟩
    have en : e = N := by omega
    subst en
    refine ⟨s, ?_, ⟨hF, fun _ _ => rfl, fun _ _ => rfl, rfl⟩⟩
    show X10_duelAhead_F (X10_duelAhead f) s (nI i) (nI j) (nI e) (nI e) = some (wd i j b, s)
    unfold X10_duelAhead_F
    rw [if_pos (vinI (by omega) (by omega)), if_pos le_nI, nI_nat (n := e) (by omega)]
    exact leaf_D hG hi hj hVb hE
  | succ r ih =>
    intro f s e b he hf hF hV hVb hE
    obtain ⟨f, rfl⟩ : ∃ g, f = g + 1 := ⟨f - 1, by omega⟩
    have loop : ∀ d g x s1 A, x + d = 13 → 1 ≤ x → d < g → AX σ s s1 e → ∃ s', lp g (un3 (X10_duelAhead_b63 (X10_duelAhead f) (nI i) (nI j) (nI e) (nI N) (if e % 2 = 0 then 1 else 0))) (s1, A, nI x) = some (s', (nf (b 5) d x).foldl (fun a x => bet e a (mv c i j z1 r (e + 1) (ringH c b (nI x)))) A) ∧ AX σ s s' e := by
      intro d
      induction d with
      | zero =>
        intro g x s1 A hx x1 hg hA
        obtain ⟨g, rfl⟩ : ∃ q, g = q + 1 := ⟨g - 1, by omega⟩
        have e13 : x = 13 := by omega
        subst e13
        exact ⟨s1, lp_r rfl, hA⟩
      | succ d ihd =>
        intro g x s1 A hx x1 hg hA
        obtain ⟨g, rfl⟩ : ∃ q, g = q + 1 := ⟨g - 1, by omega⟩
        have bag : HX s1 e 5 = b 5 := by rw [hA.2.1 e (Nat.le_refl _)]; exact hE.2.1
        have l12 : ¬ (12 : Int32) < nI x := fun q => by have := i_lt.mp q; rw [nI_ti (by omega)] at this; have : (12 : Int) < x := this; omega
        by_cases q : bt (b 5) x = true
        · have hVs : HV (HX s1 e) := by rw [hA.2.1 e (Nat.le_refl _)]; exact hV
          obtain ⟨v, s2, t1, t2, t3, t4, t5, t6⟩ := stepW (who := ((1 : Int32) <<< (nI i &&& 31)) ||| ((1 : Int32) <<< (nI j &&& 31))) (n := x) (show e < 4 by omega) hA.1 hG.2.2.2.1 hVs (by omega)
          have A2 : AX σ s1 s2 e := ⟨t3, fun q hq => t4 q (by omega) (by omega), fun q hq => by rw [t5, upd_ne (by omega)], t6⟩
          have E2 : EqW c (((1 : Int32) <<< (nI i &&& 31)) ||| ((1 : Int32) <<< (nI j &&& 31))) (HX s2 (e + 1)) (ringH c b (nI x)) := by
            rw [t2, hA.2.1 e (Nat.le_refl _)]
            exact hE.ring hP4 _
          obtain ⟨s3, u1, u2⟩ := ih f s2 (e + 1) (ringH c b (nI x)) (by omega) (by omega) t3 (by rw [t2]; exact HV_rW hVs hP4 _ _) (hVb.ring hP4 _) E2
          have A3 : AX σ s s3 e := hA.tr (A2.tr u2 (by omega)) (Nat.le_refl _)
          have st : X10_duelAhead_b63 (X10_duelAhead f) (nI i) (nI j) (nI e) (nI N) (if e % 2 = 0 then 1 else 0) s1 A (nI x) = some (.inl (s3, bet e A (mv c i j z1 r (e + 1) (ringH c b (nI x))), nI (x + 1))) := by
            unfold X10_duelAhead_b63
            rw [if_neg l12, nI_nat (by omega), holdsX (by omega), bag, if_pos q, if_neg (by decide), t1, bd_some, nI_s e (by omega), u1, bd_some, nI_s x (by omega)]
            unfold bet
            by_cases w : e % 2 = 0
            · rw [if_pos w, if_pos w, if_neg (by decide)]
            · rw [if_neg w, if_neg w, if_pos rfl]
          obtain ⟨s', z1', z2⟩ := ihd g (x + 1) s3 _ (by omega) (by omega) (by omega) A3
          refine ⟨s', (lp_l st).trans ?_, z2⟩
          rw [z1', nf_y q, List.foldl_cons]
        · have st : X10_duelAhead_b63 (X10_duelAhead f) (nI i) (nI j) (nI e) (nI N) (if e % 2 = 0 then 1 else 0) s1 A (nI x) = some (.inl (s1, A, nI (x + 1))) := by
            unfold X10_duelAhead_b63
            rw [if_neg l12, nI_nat (by omega), holdsX (by omega), bag, if_neg q, if_pos rfl, nI_s x (by omega)]
          rw [nf_n q]
          obtain ⟨s', z1', z2⟩ := ihd g (x + 1) s1 A (by omega) (by omega) (by omega) hA
          exact ⟨s', (lp_l st).trans z1', z2⟩
    obtain ⟨s', y1, y2⟩ := loop 12 big 1 s (z1 e) rfl (Nat.le_refl _) (by show 12 < 1000000; omega) ⟨hF, fun _ _ => rfl, fun _ _ => rfl, rfl⟩
    have y1' : lp big (un3 (X10_duelAhead_b63 (X10_duelAhead f) (nI i) (nI j) (nI e) (nI N) (if e % 2 = 0 then 1 else 0))) (s, z1 e, 1) = some (s', mv c i j z1 (r + 1) e b) := y1
    refine ⟨s', ?_, y2⟩
    show X10_duelAhead_F (X10_duelAhead f) s (nI i) (nI j) (nI e) (nI N) = _
    unfold X10_duelAhead_F
    have e2 : nI e - nI e / 2 * 2 = nI (e % 2) := i_rem (nI_ti (by omega)) (by decide) (by omega)
    have e3 : (if nI (e % 2) = 0 then (1 : Int32) else 0) = if e % 2 = 0 then 1 else 0 := by
      rcases (show e % 2 = 0 ∨ e % 2 = 1 by omega) with q | q <;> rw [q] <;> rfl
    have e4 : (if (if e % 2 = 0 then (1 : Int32) else 0) = 0 then (100 : Int32) else (-100)) = z1 e := by
      unfold z1
      by_cases q : e % 2 = 0
      · rw [if_pos q, if_pos q, if_neg (by decide)]
      · rw [if_neg q, if_neg q, if_pos rfl]
    rw [if_pos (vinI (by omega) (by omega)), if_neg (lt_nI (by omega) (by omega) (by omega)), if_pos (i_lt.mpr (by rw [nI_ti (by omega)]; show (e : Int) < 4; omega)), un1_app, un1_app, e2, e3, e4, y1', Option.bind_some]
    rfl

theorem sim_duel {σ μ : mS} (h : RR σ μ) (a1 a2 a3 : Int32) : SIM (X10_duel σ a1 a2 a3) (X11_duel μ a1 a2 a3) := by
  obtain ⟨c, hG⟩ := h.2.2.1
  have hP4 := hG.P4
  unfold X10_duel X11_duel
  by_cases hb : a1.toInt < 0 ∨ (c.1 : Int) ≤ a1.toInt
  · rw [if_pos (hG.plX.mpr hb), if_pos (hG.plM.mpr hb)]
    exact SIM.ret h rfl
  rw [if_neg (fun q => hb (hG.plX.mp q)), if_neg (fun q => hb (hG.plM.mp q))]
  by_cases hb2 : a2.toInt < 0 ∨ (c.1 : Int) ≤ a2.toInt
  · rw [if_pos (hG.plX.mpr hb2), if_pos (hG.plM.mpr hb2)]
    exact SIM.ret h rfl
  rw [if_neg (fun q => hb2 (hG.plX.mp q)), if_neg (fun q => hb2 (hG.plM.mp q))]
  refine SIM.ite Iff.rfl (fun _ => SIM.ret h rfl) (fun _ => ?_)
  by_cases b1 : a3.toInt < 0 ∨ 2 < a3.toInt
  · rw [if_pos (in_zero.mpr b1 : X11_in a3.toInt64 0 2 = 0)]
    by_cases b2 : a3.toInt < 0
    · exact SIM.L (i_lt.mpr b2) (SIM.ret h rfl)
    · exact SIM.nL (fun q => b2 (i_lt.mp q)) (SIM.nL (nle (by show (2 : Int) < _; omega)) (SIM.ret h rfl))
  refine SIM.nL (fun q => b1 (Or.inl (i_lt.mp q))) (SIM.L (ile (by show _ ≤ (2 : Int); omega)) (SIM.nR (fun q => b1 (in_zero.mp q)) ?_))
  obtain ⟨i, hi, hi4, rfl⟩ := plEx hG hb
  obtain ⟨j, hj, hj4, rfl⟩ := plEx hG hb2
  obtain ⟨a, ha, rfl⟩ := i_ex (a := a3) (m := 3) (by omega) (by omega)
  have e2 : (2 : Int32) * nI a = nI (2 * a) := i_nI (i_dbl (nI_ti (by omega)) (by omega))
  obtain ⟨s, c1, c2, c3, c4⟩ := ca_eq hG (FrX.rf (σ := σ)) (a := 2 * a) (by omega)
  have cle := cnB_le (HX σ 5 5)
  have eN : min (min (2 * a) 4) (cnB (HX σ 5 5)) = min (2 * a) (cnB (HX σ 5 5)) := by omega
  have hles : X11_lesser ((2 : Int32) * nI a) (nI (cnB (HX σ 5 5))) = nI (min (2 * a) (cnB (HX σ 5 5))) := by rw [e2]; exact lesser_n (by omega) (by omega)
  have hNc : min (2 * a) (cnB (HX σ 5 5)) ≤ cnB (HX σ 5 5) := by omega
  have hN : min (2 * a) (cnB (HX σ 5 5)) ≤ 4 := by omega
  rw [if_pos (by decide), show (5 : Int32).toNatClampNeg = 5 by decide, bag_bits hG, Option.bind_some, hles]
  rw [e2, c1, bd_some, eN]
  generalize min (2 * a) (cnB (HX σ 5 5)) = N at hles hNc hN eN
  obtain ⟨s', u1, u2⟩ := duel_X hG hi hj hN N 6 s 0 (HX σ 5) (by omega) (by omega) c2 (by rw [c3]; exact hG.hv) hG.hv (by rw [c3]; exact EqW.rf)
  have u1' : X10_duelAhead 6 s (nI i) (nI j) 0 (nI N) = some (mv c i j z1 N 0 (HX σ 5), s') := u1
  rw [u1', bd_some, (mv_eq hP4 hi4 hj4 N 0 (HX σ 5) hG.hv hNc).1]
  obtain ⟨m1, k1, g1, g2, F1, g3⟩ := tcopy (FrM.rf (σ := μ)) (s := 0) (t := 1312) (by omega) (by omega) (by omega) (by omega)
  have k1' : X11_copies μ 0 1312 8 = some ((), m1) := k1
  have z : (0 : Int32).toNatClampNeg = 0 := by decide
  simp only [k1', bd_some, if_pos (show vin 0 5 = true by decide), z]
  have F2 : FrM μ (mwI m1 13 0 0) := F1.row (Or.inl rfl)
  have S0 : hS (mwI m1 13 0 0) 0 = HX σ 5 := by
    rw [hS_row (Or.inl rfl)]
    unfold hS
    rw [show 1312 + 8 * 0 = 1312 by omega, g1, hG.2.2.2.2.2.1]
  by_cases n0 : N = 0
  · subst n0
    have wM : X11_worthOf (mwI m1 13 0 0) 1312 (nI i) (nI j) = some (wd i j (HX σ 5)) := by
      rw [← S0]
      exact worth_M (k := 0) (by omega) hi4 hj4
    rw [if_pos (show nI 0 = 0 from rfl), wM, Option.bind_some, Option.bind_some, un1_app]
    have lM : lp big (un2 (X11_duel_b98 (nI i) (nI j) (nI a) (nI (cnB (HX σ 5 5))))) (mwI (mwI m1 13 0 0) 15 0 (wd i j (HX σ 5)), 0) = some (mwI (mwI m1 13 0 0) 15 0 (wd i j (HX σ 5))) := lp_r (f := 999999) (by
      show X11_duel_b98 (nI i) (nI j) (nI a) (nI (cnB (HX σ 5 5))) _ 0 = _
      unfold X11_duel_b98
      rw [if_neg (by decide), hles, if_pos (by decide)])
    rw [lM, Option.bind_some, un1_app]
    unfold X11_tells
    rw [bd_some, mwI_rd]
    exact SIM.ret ((h.tri u2.1 (F2.row (Or.inr rfl))).asked _) rfl
  · have nn0 : ¬ nI N = 0 := fun q => n0 ((eqL (v := 0) (by omega) (by omega)).mp q)
    rw [if_neg nn0, Option.bind_some, un1_app]
    obtain ⟨n, rfl⟩ : ∃ n, N = n + 1 := ⟨N - 1, by omega⟩
    obtain ⟨T, m', y', t1, t2, ⟨t3, t4, t5⟩, t6, t7, t8, t9⟩ := duel_M hG hi4 hj4 hN hles n 0 12 12 (mwI (mwI m1 13 0 0) 15 0 (-999)) 0 (-999) (Nat.le_refl _) (by omega) (by omega) (F2.row (Or.inr rfl)) (by rw [mwI_rk (by decide), mwI_rd]; rfl) (by rw [mwI_rd])
    have hcs : cs n ≤ 2042 := by
      rcases (show n = 0 ∨ n = 1 ∨ n = 2 ∨ n = 3 by omega) with rfl | rfl | rfl | rfl <;> decide
    have hT : T ≤ 12 * 2042 := Nat.le_trans t1 (Nat.mul_le_mul_left _ hcs)
    obtain ⟨y5, g5, g6⟩ := nf_find (m := m') (k := 0) (by omega) (12 - y') big (y' + 1) (by omega) (by omega) (by show 12 - y' < 1000000; omega)
    have y13 : y5 = 13 := by
      rcases g6 with ⟨q, -⟩ | ⟨-, -, -, q⟩
      · exact q
      · rw [t8] at q
        exact absurd q (by simp)
    subst y13
    have g5' : lp big (un1 (X11_duel_b119 m' 0)) (nI y' + 1) = some (nI 13) := by rw [nI_s y' (by omega)]; exact g5
    have nle0 : ¬ nI (n + 1) ≤ 0 := lt_nI (a := 0) (b := n + 1) (by omega) (by omega) (by omega)
    have st : X11_duel_b98 (nI i) (nI j) (nI a) (nI (cnB (HX σ 5 5))) m' 0 = some (.inl (m', -1)) := by
      unfold X11_duel_b98
      rw [if_neg (by decide), hles, if_neg nle0, if_pos (by decide), z, t7, g5', Option.bind_some, un1_app, un1_app, if_neg (show ¬ nI 13 ≤ 12 by decide), if_neg (by decide), if_pos (by decide)]
      rfl
    have st2 : X11_duel_b98 (nI i) (nI j) (nI a) (nI (cnB (HX σ 5 5))) m' (-1) = some (.inr m') := by
      unfold X11_duel_b98
      rw [if_pos (by decide)]
    obtain ⟨f, hf⟩ : ∃ f, big = f + 1 + 1 + T := ⟨1000000 - 2 - T, by show 1000000 = _; omega⟩
    have lM : lp big (un2 (X11_duel_b98 (nI i) (nI j) (nI a) (nI (cnB (HX σ 5 5))))) (mwI (mwI m1 13 0 0) 15 0 (-999), 0) = some m' := by
      rw [hf]
      have x1 : lp (f + 1 + 1) (un2 (X11_duel_b98 (nI i) (nI j) (nI a) (nI (cnB (HX σ 5 5))))) (m', 0) = lp (f + 1) (un2 (X11_duel_b98 (nI i) (nI j) (nI a) (nI (cnB (HX σ 5 5))))) (m', -1) := lp_l st
      have x2 : lp (f + 1) (un2 (X11_duel_b98 (nI i) (nI j) (nI a) (nI (cnB (HX σ 5 5))))) (m', -1) = some m' := lp_r st2
      exact (t2 (f + 1 + 1)).trans (x1.trans x2)
    rw [lM, Option.bind_some, un1_app]
    unfold X11_tells
    rw [bd_some, t9, hS_row (Or.inr rfl), S0]
    exact SIM.ret ((h.tri u2.1 t3).asked _) rfl

/-! all of it -/
theorem op_sim {A B : Option (Int32 × mS)} {q : Bool} (h : SIM A B) : ∃ v : Int32, ∃ τ : mS, ∃ w : Int32, ∃ ν : mS, A = some (v, τ) ∧ B = some (w, ν) ∧ (q = true → v = w) ∧ RR τ ν := by
  obtain ⟨v, τ, ν, h1, h2, h3⟩ := h
  exact ⟨v, τ, v, ν, h1, h2, fun _ => rfl, h3⟩
theorem op_val {T : Type} {A B : Option T} {q : Bool} {σ μ : mS} (hR : RR σ μ) (h : ∃ v, A = some v ∧ B = some v) : ∃ v : T, ∃ w : T, A = some v ∧ B = some w ∧ (q = true → v = w) ∧ RR σ μ := by
  obtain ⟨v, h1, h2⟩ := h
  exact ⟨v, v, h1, h2, fun _ => rfl, hR⟩
theorem op_all {ev : Nat → Bool} (h18 : ev 18 = false) {a1 a2 a3 a4 a5 : Int32} {σ μ : mS} (h : RR σ μ) : ∀ j, j ≤ 37 → OpOK ev a1 a2 a3 a4 a5 σ μ RR j := by
  intro j hj
  match j, hj with
  | 0, _ => exact op_sim (sim_row h _ _)
  | 1, _ => exact op_sim (sim_lay h _ _ _)
  | 2, _ => exact op_sim (sim_at h _ _)
  | 3, _ => exact op_sim (sim_tear h _)
  | 4, _ => exact op_sim (sim_copy h _ _ _ _ _)
  | 5, _ => exact op_sim (sim_mean h _)
  | 6, _ => exact op_sim (sim_text h _ _)
  | 7, _ => exact op_sim (sim_put h _ _ _)
  | 8, _ => exact op_sim (sim_fault h _)
  | 9, _ => exact op_sim (sim_hall h _)
  | 10, _ => exact op_sim (sim_player h _ _)
  | 11, _ => exact op_sim (sim_card h _ _)
  | 12, _ => exact op_sim (sim_mark h _ _)
  | 13, _ => exact op_sim (sim_call h _)
  | 14, _ => exact op_sim (sim_rub h _ _)
  | 15, _ => exact op_sim (sim_undo h _)
  | 16, _ => exact op_sim (sim_keep h _)
  | 17, _ => exact op_sim (sim_on h _)
  | 18, _ =>
    obtain ⟨v, w, h1, h2⟩ := hears_ok h a1 a2 a3 a4
    exact ⟨v, w, h1, h2, fun q => absurd q (by rw [h18]; decide), h⟩
  | 19, _ => exact op_sim (sim_run h _)
  | 20, _ => exact op_sim (sim_safe h)
  | 21, _ => exact op_sim (sim_fewest h _ _)
  | 22, _ => exact op_sim (sim_most h _ _)
  | 23, _ => exact op_val h (which_ok h _ _)
  | 24, _ => exact op_sim (sim_kinds h _ _)
  | 25, _ => exact op_sim (sim_next h _ _)
  | 26, _ => exact op_sim (sim_duel h _ _ _)
  | 27, _ => exact op_sim (sim_odds h _ _)
  | 28, _ => exact op_sim (sim_mid h _ _)
  | 29, _ => exact op_sim (sim_lots h _ _)
  | 30, _ => exact ⟨fun _ => h.2.2.2.1.symm, h⟩
  | 31, _ => exact ⟨fun _ => h.2.2.2.2.1.symm, h⟩
  | 32, _ => exact ⟨fun _ => h.2.2.2.2.2.1.symm, h⟩
  | 33, _ => exact op_val h (sim_count h _)
  | 34, _ => exact ⟨fun _ => h.2.2.2.2.2.2.1.symm, h⟩
  | 35, _ => exact op_val h (sim_findings h _)
  | 36, _ => exact op_val h (sim_digest h)
  | 37, _ => exact h
  | j + 38, q => exact absurd q (by omega)
theorem g_0 : getH (mM0.1 10) 0 = fun _ => 0 := by
  have e : mM0.1 10 = fun _ => 0 := rfl
  rw [e]
  funext q
  unfold getH
  split <;> rfl
theorem h_0 : HX mX0 5 = fun _ => 0 := by
  have e1 : mX0.1 (152 + 5) = fun _ => 0 := rfl
  have e2 : mX0.1 (144 + 5) = fun _ => 0 := rfl
  funext q
  unfold HX
  rw [e1, e2]
  repeat' (first | rfl | split)
theorem f_0 : frH 0 = fun _ => 0 := by
  funext q
  unfold frH
  repeat' (first | rfl | split)
theorem RR_0 : RR mX0 mM0 := by
  refine ⟨?_, ?_, ⟨(0, mM0.1 6, mM0.1 7), ?_⟩, rfl, rfl, rfl, rfl, ?_⟩
  · intro r hr
    rcases (show r = 0 ∨ r = 1 ∨ r = 2 ∨ r = 3 ∨ r = 4 ∨ r = 5 by omega) with rfl | rfl | rfl | rfl | rfl | rfl <;> exact ⟨by decide +kernel, by decide +kernel, by decide +kernel, fun i hi => absurd hi (by rw [show (mX0.1 24 _).toInt = -1 by decide +kernel]; omega)⟩
  · intro r hr
    rcases (show r = 0 ∨ r = 1 ∨ r = 2 ∨ r = 3 by omega) with rfl | rfl | rfl | rfl <;> exact ⟨by decide +kernel, by decide +kernel, by decide +kernel, fun i hi => absurd hi (by rw [show (mX0.1 48 _).toInt = -1 by decide +kernel]; omega)⟩
  · refine ⟨by decide +kernel, rfl, rfl, ⟨by decide +kernel, by decide, fun i hi => absurd hi (Nat.not_lt_zero _)⟩, fun i hi => absurd hi (Nat.not_lt_zero _), ?_, by decide +kernel, ⟨0, fun _ => 0, by decide +kernel, by decide, fun k hk => absurd hk (Nat.not_lt_zero _), ?_, fun k hk => absurd hk (Nat.not_lt_zero _)⟩, fun k hk => ?_⟩
    · rw [h_0, g_0]
    · rw [g_0]
      exact f_0.symm
    · rcases (show k = 0 ∨ k = 1 ∨ k = 2 by omega) with rfl | rfl | rfl <;> exact ⟨by decide +kernel, Or.inl (by decide +kernel)⟩
  · intro f hf
    rcases (show f = 0 ∨ f = 1 ∨ f = 2 ∨ f = 3 ∨ f = 4 ∨ f = 5 by omega) with rfl | rfl | rfl | rfl | rfl | rfl <;> decide +kernel
theorem whole_start {p : Program} {e : Env} {s : State} {m : MethodId} {below : List Frame} {meth : Method} {c : Code} (l : Launch) (hflags : l.flags = flags0) {b L : Nat} {xs : Nat → Int32} (hL : L ≤ 3072) (C0 : lw_At p s m meth c b L xs) : W p l e room_1 s m #[Value.ref b] below meth c s.heap [] 0 0 (lw_Z below #[Value.ref b] s) (entryFrame m ([Value.ref b] : List Value).toArray 4) :=
  law_main l hL C0 (ev := fun j => decide (j ≠ 18)) (fun j h => decide_eq_true (fun e => by subst e; exact absurd h (by decide))) (Inv := fun _ => RR) RR_0 (fun k σ μ hk hI => op_all rfl hI)

