/-! fewest -/
theorem pfx_get (pn : Nat → Nat) {N j : Nat} (hj : j < N) : (pfx pn N).getD j 0 = pn j := by
  unfold pfx
  rw [List.getD_eq_getElem?_getD, List.getElem?_map, List.getElem?_range hj]
  rfl
theorem at_won {μ m : mS} {c : cT} {N : Nat} {H0 : hT} {p : List Nat} {h : hT} {rest : List (List Nat × hT)} (hN : N ≤ 4) (hA : AtL μ c N H0 m p h rest) {q : Nat} (hq : q < 8) : m.1 10 (1312 + 8 * N + q) = h q := by
  obtain ⟨pn, -, -, -, hh, -⟩ := hA
  rw [← hh]
  unfold hS
  rw [getH_lt hq]
theorem few_M {σ μ : mS} {c : cT} (hG : RG σ μ c) {i r N : Nat} (hi : i < 4) (hr : r < 6) (h1 : 1 ≤ N) (hN : N ≤ 4) {H0 : hT} : ∀ L f m x, Now μ c N H0 m x L → L.length + 1 < f → ∃ res, lp f (un2 (X11_fewest_b54 (nI i) (nI r) (nI N))) (m, x) = some res ∧ ((L.find? (wf i) = none ∧ ∃ m', res = .inl m' ∧ FrM μ m') ∨ (∃ p h m1 m', L.find? (wf i) = some (p, h) ∧ FrM μ m1 ∧ (∀ j, j < N → m1.1 14 j = nI (p.getD j 0)) ∧ X11_comes m1 (nI r) (nI N) = some ((), m') ∧ res = .inr (.inr (.inr (nI N, m'))))) := by
  intro L
  induction L with
  | nil =>
    intro f m x hNow hf
    obtain ⟨f, rfl⟩ : ∃ g, f = g + 1 := ⟨f - 1, by omega⟩
    rcases hNow with ⟨-, rfl, hF⟩ | ⟨p, h, rest, q, -⟩
    · refine ⟨.inl m, lp_r ?_, Or.inl ⟨rfl, m, rfl, hF⟩⟩
      show X11_fewest_b54 (nI i) (nI r) (nI N) m 0 = _
      unfold X11_fewest_b54
      rw [if_pos rfl]
    · exact absurd q (by simp)
  | cons l L ih =>
    intro f m x hNow hf
    obtain ⟨f, rfl⟩ : ∃ g, f = g + 1 := ⟨f - 1, by omega⟩
    rw [List.length_cons] at hf
    rcases hNow with ⟨q, -, -⟩ | ⟨p, h, rest, q, rfl, hA⟩
    · exact absurd q (by simp)
    obtain ⟨rfl, rfl⟩ := List.cons.inj q
    have ix : ((1312 : Int32) + nI N * 8) + 4 = nI (1312 + 8 * N + 4) := by rw [sl_eq (by omega)]; exact nI_p _ 4 (by omega)
    have st : X11_fewest_b54 (nI i) (nI r) (nI N) m 1 = if bt (h 4) i = true then bd (X11_takes m (nI N)) (fun r31 s33 => bd (X11_comes s33 (nI r) (nI N)) (fun r34 s36 => some (.inr (.inr (.inr (.inr (nI N, s36))))))) else bd (X11_follows m (nI N) (0)) (fun r28 s30 => some (.inl (s30, r28))) := by
      unfold X11_fewest_b54
      rw [if_neg (by decide), ix, if_pos (vinI (by omega) (by omega)), nI_nat (by omega), at_won hN hA (by omega), has_eq _ (by omega)]
      by_cases w : bt (h 4) i = true
      · rw [if_pos w, if_pos w, if_neg (by decide)]
      · rw [if_neg w, if_neg w, if_pos rfl]
    by_cases w : bt (h 4) i = true
    · rw [if_pos w] at st
      obtain ⟨m1, t1, t2, t3, t4⟩ := takes_eq (m := m) hN
      obtain ⟨m2, u1, -⟩ := comes_eq (m := m1) hr hN
      rw [t1, bd_some, u1, bd_some] at st
      have hF : FrM μ m1 := by
        have hF := hA.choose_spec.1.1
        exact ⟨fun q a1 a2 a3 a4 => by rw [t3 q a3]; exact hF.1 q a1 a2 a3 a4, fun q hq => by rw [t3 10 (by decide)]; exact hF.2.1 q hq, by rw [t4]; exact hF.2.2⟩
      refine ⟨_, lp_r st, Or.inr ⟨p, h, m1, m2, ?_, hF, fun j hj => ?_, u1, rfl⟩⟩
      · rw [List.find?_cons_of_pos]
        exact w
      · obtain ⟨pn, hT, -, hp, -⟩ := hA
        rw [t2 j hj, (hT.2 j hj).1, ← hp, pfx_get pn hj]
    · rw [if_neg w] at st
      obtain ⟨x', m', g1, g2, -⟩ := fol_next hG h1 hN hA
      rw [g1, bd_some] at st
      obtain ⟨res, z1, z2⟩ := ih f m' x' g2 (by omega)
      refine ⟨res, (lp_l st).trans z1, ?_⟩
      rw [List.find?_cons_of_neg]
      · exact z2
      · exact w
/-- one length tried by the reference -/
theorem few_M1 {σ μ m : mS} {c : cT} (hG : RG σ μ c) (hF : FrM μ m) {i r N : Nat} (hi : i < 4) (hr : r < 6) (h1 : 1 ≤ N) (hN : N ≤ 4) : ((lv c N (HX σ 5)).find? (wf i) = none ∧ ∃ m', X11_fewest_b41 (nI i) (nI r) m (nI N) = some (.inl (m', nI (N + 1))) ∧ FrM μ m') ∨ (∃ p h m1 m', (lv c N (HX σ 5)).find? (wf i) = some (p, h) ∧ FrM μ m1 ∧ (∀ j, j < N → m1.1 14 j = nI (p.getD j 0)) ∧ X11_comes m1 (nI r) (nI N) = some ((), m') ∧ X11_fewest_b41 (nI i) (nI r) m (nI N) = some (.inr (.inr (nI N, m')))) := by
  obtain ⟨x, m1, e1, hNow, -⟩ := fol_first hG hF h1 hN
  have hl := lv_len4 c hN (HX σ 5)
  obtain ⟨res, z1, z2⟩ := few_M hG hi hr h1 hN _ big m1 x hNow (by show _ < 1000000; omega)
  have l4 : ¬ (4 : Int32) < nI N := fun q => by have := i_lt.mp q; rw [nI_ti (by omega)] at this; have : (4 : Int) < N := this; omega
  unfold X11_fewest_b41
  rw [if_neg l4, e1, bd_some, z1, Option.bind_some]
  rcases z2 with ⟨a, m', rfl, b⟩ | ⟨p, h, m2, m', a, b, d, g, rfl⟩
  · exact Or.inl ⟨a, m', by rw [sm1_inl, nI_s N (by omega)], b⟩
  · exact Or.inr ⟨p, h, m2, m', a, b, d, g, rfl⟩
theorem few_end {σ μ : mS} {c : cT} (hG : RG σ μ c) {i r : Nat} (hi : i < 4) (hr : r < 6) : ∀ d N f m, N + d = 5 → 1 ≤ N → cnB (HX σ 5 5) < N → d < f → FrM μ m → ∃ m', lp f (un2 (X11_fewest_b41 (nI i) (nI r))) (m, nI N) = some (.inl m') ∧ FrM μ m' := by
  intro d
  induction d with
  | zero =>
    intro N f m hd h1 hc hf hF
    obtain ⟨f, rfl⟩ : ∃ g, f = g + 1 := ⟨f - 1, by omega⟩
    have e : N = 5 := by omega
    subst e
    exact ⟨m, lp_r rfl, hF⟩
  | succ d ih =>
    intro N f m hd h1 hc hf hF
    obtain ⟨f, rfl⟩ : ∃ g, f = g + 1 := ⟨f - 1, by omega⟩
    have hnil := lv_nil hG.P4 N (HX σ 5) hc
    rcases few_M1 hG hF hi hr h1 (show N ≤ 4 by omega) with ⟨-, m', st, F'⟩ | ⟨p, h, m1, m', a, -⟩
    · obtain ⟨m2, z1, z2⟩ := ih (N + 1) f m' (by omega) (by omega) (by omega) (by omega) F'
      exact ⟨m2, (lp_l st).trans z1, z2⟩
    · rw [hnil] at a
      exact absurd a (by simp)
theorem few_both {σ μ : mS} {c : cT} (h : RR σ μ) (hG : RG σ μ c) {i r B : Nat} (hi : i < c.1) (hr : r < 6) (hB : B = min 4 (cnB (HX σ 5 5))) : ∀ d N f f' s m, N + d = 5 → 1 ≤ N → N ≤ B + 1 → d < f → d < f' → FrX σ s → HX s 0 = HX σ 5 → FrM μ m → ∃ rX rM, lp f (un2 (X10_fewest_b27 (nI i) (nI r) (nI B))) (s, nI N) = some rX ∧ lp f' (un2 (X11_fewest_b41 (nI i) (nI r))) (m, nI N) = some rM ∧ ((∃ s' m', rX = .inl s' ∧ rM = .inl m' ∧ FrX σ s' ∧ FrM μ m') ∨ (∃ v τ ν, rX = .inr (v, τ) ∧ rM = .inr (v, ν) ∧ RR τ ν)) := by
  have hP4 := hG.P4
  have cle := cnB_le (HX σ 5 5)
  intro d
  induction d with
  | zero =>
    intro N f f' s m hd h1 hNB hf hf' hX h0 hM
    obtain ⟨f, rfl⟩ : ∃ g, f = g + 1 := ⟨f - 1, by omega⟩
    obtain ⟨f', rfl⟩ : ∃ g, f' = g + 1 := ⟨f' - 1, by omega⟩
    have e5 : N = 5 := by omega
    subst e5
    refine ⟨.inl s, .inl m, lp_r ?_, lp_r rfl, Or.inl ⟨s, m, rfl, rfl, hX, hM⟩⟩
    show X10_fewest_b27 (nI i) (nI r) (nI B) s (nI 5) = _
    unfold X10_fewest_b27
    rw [if_pos (i_lt.mpr (by rw [nI_ti (by omega), nI_ti (by omega)]; omega))]
  | succ d ih =>
    intro N f f' s m hd h1 hNB hf hf' hX h0 hM
    obtain ⟨f, rfl⟩ : ∃ g, f = g + 1 := ⟨f - 1, by omega⟩
    by_cases hend : N = B + 1
    · obtain ⟨m', z1, z2⟩ := few_end hG (i := i) (r := r) (by omega) hr (d + 1) N f' m hd h1 (by omega) hf' hM
      refine ⟨.inl s, _, lp_r ?_, z1, Or.inl ⟨s, m', rfl, rfl, hX, z2⟩⟩
      show X10_fewest_b27 (nI i) (nI r) (nI B) s (nI N) = _
      unfold X10_fewest_b27
      rw [if_pos (i_lt.mpr (by rw [nI_ti (by omega), nI_ti (by omega)]; omega))]
    obtain ⟨f', rfl⟩ : ∃ g, f' = g + 1 := ⟨f' - 1, by omega⟩
    obtain ⟨v, s', w1, w2, w3⟩ := wins_X hG hi (N := N) (by omega) N 6 s 0 (HX σ 5) (by omega) (by omega) hX (by rw [h0]; exact hG.hv) (by rw [h0]; exact EqW.rf)
    have w1' : X10_winsAhead 6 s (nI i) 0 (nI N) = some (v, s') := w1
    have st : X10_fewest_b27 (nI i) (nI r) (nI B) s (nI N) = if v = 0 then some (.inl (s', nI (N + 1))) else bd (X10_layTrail s' (nI r) (nI N)) (fun r20 s22 => some (.inr (.inr (nI N, s22)))) := by
      unfold X10_fewest_b27
      rw [if_neg (fun q => by have := i_lt.mp q; rw [nI_ti (by omega), nI_ti (by omega)] at this; omega), w1', bd_some, nI_s N (by omega)]
    rcases w3 with ⟨rfl, w3⟩ | ⟨p, hh, rfl, w3, w4⟩
    · rw [if_pos rfl] at st
      rcases few_M1 hG hM (i := i) (r := r) (by omega) hr h1 (show N ≤ 4 by omega) with ⟨-, m', sm, F'⟩ | ⟨p, h, m1, m', a, -⟩
      · obtain ⟨rX, rM, z1, z2, z3⟩ := ih (N + 1) f f' s' m' (by omega) (by omega) (by omega) (by omega) (by omega) w2.1 (by rw [w2.2.1 0 (by omega)]; exact h0) F'
        exact ⟨rX, rM, (lp_l st).trans z1, (lp_l sm).trans z2, z3⟩
      · rw [w3] at a
        exact absurd a (by simp)
    · rw [if_neg (by decide)] at st
      rcases few_M1 hG hM (i := i) (r := r) (by omega) hr h1 (show N ≤ 4 by omega) with ⟨a, -⟩ | ⟨p', h', m1, m', a, F1, a2, a3, sm⟩
      · rw [w3] at a
        exact absurd a (by simp)
      · rw [w3] at a
        obtain ⟨rfl, rfl⟩ := Prod.mk.inj (Option.some.inj a)
        obtain ⟨τ, x1, x2, x3, x4, x5⟩ := lay_X (s := s') hr (show N ≤ 4 by omega)
        obtain ⟨ν, y1, y2, y3, y4, y5, y6⟩ := comes_eq (m := m1) hr (show N ≤ 4 by omega)
        rw [a3] at y1
        obtain rfl := (Prod.mk.inj (Option.some.inj y1)).2
        rw [x1, bd_some] at st
        refine ⟨_, _, lp_r st, lp_r sm, Or.inr ⟨nI N, τ, m', rfl, rfl, RR_lay (h.tri w2.1 F1) hr (show N ≤ 4 by omega) x2 x3 x4 y4 y3 y5 y6 (fun j hj => ?_)⟩⟩
        have := w4 j hj
        rw [Nat.zero_add] at this
        rw [y2 j hj, x5 j hj, a2 j hj, this]
theorem ca_eq {σ μ s : mS} {c : cT} (hG : RG σ μ c) (hX : FrX σ s) {a : Nat} (ha : a ≤ 100) : ∃ s', X10_callsAhead s (nI a) = some (nI (min (min a 4) (cnB (HX σ 5 5))), s') ∧ FrX σ s' ∧ HX s' 0 = HX σ 5 ∧ s'.1 0 = s.1 0 := by
  unfold X10_callsAhead
  obtain ⟨s', t1, t2, t3, t4, -⟩ := take0 (σ := s)
  have hF : FrX σ s' := hX.tr t3
  have h5 : HX s 5 = HX σ 5 := by
    rw [(hG.tri hX FrM.rf).2.2.2.2.2.1, hG.2.2.2.2.2.1]
  obtain ⟨nb, hnb, eb⟩ := hG.hv.2.2
  have b5 : s'.1 (144 + 5) 3 = HX σ 5 5 := by
    have e : s'.1 (144 + 5) = σ.1 (144 + 5) := hF.1 _ (by omega) (by omega) (by omega) (by omega) (by omega)
    rw [e]
    rfl
  have jm : ∀ x y : Nat, x < 1000 → y < 1000 → jmin (nI x) (nI y) = nI (min x y) := fun x y hx hy => by
    unfold jmin
    by_cases q : y < x
    · rw [if_pos (i_lt.mpr (by rw [nI_ti (by omega), nI_ti (by omega)]; omega)), show min x y = y by omega]
    · rw [if_neg (fun z => by have := i_lt.mp z; rw [nI_ti (by omega), nI_ti (by omega)] at this; omega), show min x y = x by omega]
  have cle := cnB_le (HX σ 5 5)
  have cb : J6_bitCount_0f7a4 (s'.1 (144 + 5) 3) = nI (cnB (HX σ 5 5)) := by rw [b5, eb]; exact (cn_bits nb hnb).1
  have j4 : jmin (nI a) 4 = nI (min a 4) := jm a 4 (by omega) (by omega)
  rw [if_pos (by decide), t1, bd_some, cb, j4, jm _ _ (by omega) (by omega)]
  exact ⟨s', rfl, hF, by rw [t2, h5], t4⟩
theorem sim_fewest {σ μ : mS} (h : RR σ μ) (a1 a2 : Int32) : SIM (X10_fewest σ a1 a2) (X11_fewest μ a1 a2) := by
  obtain ⟨c, hG⟩ := h.2.2.1
  have hP4 := hG.P4
  unfold X10_fewest X11_fewest
  by_cases hb : a1.toInt < 0 ∨ (c.1 : Int) ≤ a1.toInt
  · rw [if_pos (hG.plX.mpr hb), if_pos (hG.plM.mpr hb)]
    exact SIM.ret h rfl
  rw [if_neg (fun q => hb (hG.plX.mp q)), if_neg (fun q => hb (hG.plM.mp q))]
  obtain ⟨i, hi, hi4, rfl⟩ := plEx hG hb
  by_cases hb2 : a2.toInt < 0 ∨ 6 ≤ a2.toInt
  · rw [if_pos (isRow_zero.mpr hb2), if_pos (isRowM_zero.mpr hb2)]
    exact SIM.ret h rfl
  obtain ⟨r, hr, rfl⟩ := rowEx hb2
  rw [if_neg (rowY hr).1, if_neg (rowY hr).2]
  obtain ⟨s, c1, c2, c3, c4⟩ := ca_eq hG (FrX.rf (σ := σ)) (a := 4) (by omega)
  have c1' : X10_callsAhead σ 4 = some (nI (min (min 4 4) (cnB (HX σ 5 5))), s) := c1
  have cle := cnB_le (HX σ 5 5)
  rw [c1', bd_some]
  generalize hB : min (min 4 4) (cnB (HX σ 5 5)) = B
  have hw4 : μ.1 10 4 = HX σ 5 4 := hG.won
  rw [if_pos (by decide), show (4 : Int32).toNatClampNeg = 4 by decide, hw4, has_eq _ (by omega)]
  obtain ⟨v, s', w1, w2, w3⟩ := wins_X hG hi (N := 0) (by omega) 0 6 s 0 (HX σ 5) (by omega) (by omega) c2 (by rw [c3]; exact hG.hv) (by rw [c3]; exact EqW.rf)
  have w1' : X10_winsAhead 6 s (nI i) 0 0 = some (v, s') := w1
  have st : X10_fewest_b27 (nI i) (nI r) (nI B) s 0 = if v = 0 then some (.inl (s', nI 1)) else bd (X10_layTrail s' (nI r) (nI 0)) (fun r20 s22 => some (.inr (.inr (0, s22)))) := by
    unfold X10_fewest_b27
    rw [if_neg (show ¬ nI B < 0 from fun q => by have := i_lt.mp q; rw [nI_ti (by omega)] at this; have : (B : Int) < 0 := this; omega), w1', bd_some]
    rfl
  have f0 : (lv c 0 (HX σ 5)).find? (wf i) = if bt (HX σ 5 4) i = true then some ([], HX σ 5) else none := by
    show (match wf i ([], HX σ 5) with | true => some ([], HX σ 5) | false => none) = _
    have q' : wf i ([], HX σ 5) = bt (HX σ 5 4) i := rfl
    rw [q']
    cases bt (HX σ 5 4) i <;> rfl
  rw [f0] at w3
  by_cases w : bt (HX σ 5 4) i = true
  · rw [if_pos w] at w3
    rw [if_pos w, if_neg (by decide)]
    rcases w3 with ⟨-, a⟩ | ⟨p, hh, rfl, -, -⟩
    · exact absurd a (by simp)
    obtain ⟨τ, x1, x2, x3, x4, x5⟩ := lay_X (s := s') hr (show 0 ≤ 4 by omega)
    rw [if_neg (by decide), x1, bd_some] at st
    have lX : lp big (un2 (X10_fewest_b27 (nI i) (nI r) (nI B))) (s, 0) = some (.inr (0, τ)) := lp_r (f := 999999) st
    rw [lX, Option.bind_some, sm1_inr, anew_eq μ (nI_ti (n := r) (by omega)) hr (a2 := 0) (n := 0) (by decide) (by omega), bd_some]
    refine SIM.ret (RR_lay (h.tri w2.1 FrM.rf) hr (show 0 ≤ 4 by omega) x2 x3 x4 ?_ (fun j hj => ?_) (fun q q1 q2 => ?_) rfl (fun j hj => absurd hj (Nat.not_lt_zero _))) rfl
    · rw [mrow_ne (by decide), mrow_at]
      rfl
    · rw [mrow_at, seg_zero]
    · rw [mrow_ne q2, mrow_ne q1]
  · rw [if_neg w] at w3
    rw [if_neg w, if_pos rfl]
    rcases w3 with ⟨rfl, -⟩ | ⟨p, hh, -, a, -⟩
    rotate_left
    · exact absurd a (by simp)
    rw [if_pos rfl] at st
    obtain ⟨rX, rM, z1, z2, z3⟩ := few_both h hG hi hr (B := B) (by omega) 4 1 999999 big s' μ (by omega) (by omega) (by omega) (by omega) (by show 4 < 1000000; omega) w2.1 (by rw [w2.2.1 0 (by omega)]; exact c3) FrM.rf
    have lX : lp big (un2 (X10_fewest_b27 (nI i) (nI r) (nI B))) (s, 0) = some rX := (lp_l (f := 999999) st).trans z1
    have lM : lp big (un2 (X11_fewest_b41 (nI i) (nI r))) (μ, 1) = some rM := z2
    rw [lX, lM, Option.bind_some, Option.bind_some]
    rcases z3 with ⟨s2, m2, rfl, rfl, y1, y2⟩ | ⟨v, τ, ν, rfl, rfl, y⟩
    · exact SIM.ret (h.tri y1 y2) rfl
    · exact SIM.ret y rfl
