/-! kinds -/
theorem nI_p (n k : Nat) (h : n + k < 2147483648) : nI n + nI k = nI (n + k) := i_nI (i32_add (nI_ti (by omega)) (nI_ti (by omega)) h)
def prOK (σ : mS) (r j : Nat) : Prop := (∃ n, 1 ≤ n ∧ n ≤ 12 ∧ σ.1 (16 + r) (2 * j) = nI n) ∧ 0 ≤ (σ.1 (16 + r) (2 * j + 1)).toInt ∧ (σ.1 (16 + r) (2 * j + 1)).toInt ≤ 6
theorem wrM {μ : mS} {r x : Nat} (hr : r < 6) (hx : x < 40) {sz : Int32} (hs : μ.1 1 r = sz) : X11_wrongOf_b38 μ (nI r) (nI x) = if sz ≤ nI x then some (.inr (.inl ())) else if X11_in ((μ.1 2 (40 * r + x)).toInt64) (if x % 2 = 0 then 1 else 0) (if x % 2 = 0 then 12 else 6) = 0 then some (.inr (.inr 3)) else some (.inl (nI x + 1)) := by
  unfold X11_wrongOf_b38
  have c1 := i_ix (c := 40) (cn := 40) (by decide) (nI_ti (n := r) (by omega)) (nI_ti (n := x) (by omega)) (by omega)
  have c2 := i_ixn (c := 40) (cn := 40) (by decide) (nI_ti (n := r) (by omega)) (nI_ti (n := x) (by omega)) (by omega)
  have e2 : nI x - nI x / 2 * 2 = nI (x % 2) := i_rem (nI_ti (by omega)) (by decide) (by omega)
  rw [if_pos (vinI hr (by omega)), nI_nat (n := r) (by omega), hs, if_pos (vin_iff.mpr (by rw [c1]; omega) : vin (((40 : Int32) * nI r) + nI x) 240 = true), un1_app, un1_app, c2, e2]
  by_cases q : x % 2 = 0
  · rw [q]
    rfl
  · rw [show x % 2 = 1 by omega]
    rfl
theorem pr_both {σ μ : mS} (h : RR σ μ) {r z : Nat} (hr : r < 6) (hz : z ≤ 8) (hs : σ.1 24 r = nI (2 * z)) : ∀ d k f f', k + d = z → d < f → 2 * d < f' → (lp f (un1 (X10_refusedPairs_b53 (nI r) σ)) (nI (2 * k)) = some (.inl ()) ∧ lp f' (un1 (X11_wrongOf_b38 μ (nI r))) (nI (2 * k)) = some (.inl ()) ∧ ∀ j, k ≤ j → j < z → prOK σ r j) ∨ (lp f (un1 (X10_refusedPairs_b53 (nI r) σ)) (nI (2 * k)) = some (.inr (-3, fndX σ 3)) ∧ lp f' (un1 (X11_wrongOf_b38 μ (nI r))) (nI (2 * k)) = some (.inr 3)) := by
  obtain ⟨w1, w2, w3, w4⟩ := h.1 r hr
  have hsM : μ.1 1 r = nI (2 * z) := by rw [w1, hs]
  have hsi : (σ.1 24 r).toInt = ((2 * z : Nat) : Int) := by rw [hs, nI_ti (by omega)]
  have hv : vin (nI r) 6 = true := vinI hr (by omega)
  have p1 : ∀ k : Nat, k ≤ 8 → nI (2 * k) + 1 = nI (2 * k + 1) := fun k hk => nI_s _ (by omega)
  have p2 : ∀ k : Nat, k ≤ 8 → nI (2 * k) + 2 = nI (2 * (k + 1)) := fun k hk => nI_p (2 * k) 2 (by omega)
  intro d
  induction d with
  | zero =>
    intro k f f' hk hf hf'
    obtain ⟨f, rfl⟩ : ∃ g, f = g + 1 := ⟨f - 1, by omega⟩
    obtain ⟨f', rfl⟩ : ∃ g, f' = g + 1 := ⟨f' - 1, by omega⟩
    have ek : k = z := by omega
    subst ek
    left
    refine ⟨lp_r ?_, lp_r ?_, fun j h1 h2 => absurd h1 (by omega)⟩
    · show X10_refusedPairs_b53 (nI r) σ (nI (2 * k)) = _
      unfold X10_refusedPairs_b53
      rw [nI_nat (by omega), hs, p1 k (by omega), if_pos (ile (by rw [nI_ti (by omega), nI_ti (by omega)]; omega))]
    · show X11_wrongOf_b38 μ (nI r) (nI (2 * k)) = _
      rw [wrM hr (by omega) hsM, if_pos le_nI]
  | succ d ih =>
    intro k f f' hk hf hf'
    obtain ⟨f, rfl⟩ : ∃ g, f = g + 1 := ⟨f - 1, by omega⟩
    obtain ⟨f', rfl⟩ : ∃ g, f' = g + 1 := ⟨f' - 1, by omega⟩
    obtain ⟨f', rfl⟩ : ∃ g, f' = g + 1 := ⟨f' - 1, by omega⟩
    have m0 : X11_wrongOf_b38 μ (nI r) (nI (2 * k)) = if X11_in ((σ.1 (16 + r) (2 * k)).toInt64) 1 12 = 0 then some (.inr (.inr 3)) else some (.inl (nI (2 * k + 1))) := by
      rw [wrM hr (by omega) hsM, if_neg (lt_nI (a := 2 * k) (b := 2 * z) (by omega) (by omega) (by omega)), if_pos (show 2 * k % 2 = 0 by omega), if_pos (show 2 * k % 2 = 0 by omega), w4 (2 * k) (by omega), p1 k (by omega)]
    have m1 : X11_wrongOf_b38 μ (nI r) (nI (2 * k + 1)) = if X11_in ((σ.1 (16 + r) (2 * k + 1)).toInt64) 0 6 = 0 then some (.inr (.inr 3)) else some (.inl (nI (2 * (k + 1)))) := by
      rw [wrM hr (by omega) hsM, if_neg (lt_nI (a := 2 * k + 1) (b := 2 * z) (by omega) (by omega) (by omega)), if_neg (show ¬ (2 * k + 1) % 2 = 0 by omega), if_neg (show ¬ (2 * k + 1) % 2 = 0 by omega), w4 (2 * k + 1) (by omega), nI_s _ (by omega), show 2 * k + 1 + 1 = 2 * (k + 1) by omega]
    have x0 : X10_refusedPairs_b53 (nI r) σ (nI (2 * k)) = if X10_isNumber (σ.1 (16 + r) (2 * k)) = 0 then some (.inr (.inr (-3, fndX σ 3))) else if σ.1 (16 + r) (2 * k + 1) < 0 then some (.inr (.inr (-3, fndX σ 3))) else if σ.1 (16 + r) (2 * k + 1) ≤ 6 then some (.inl (nI (2 * (k + 1)))) else some (.inr (.inr (-3, fndX σ 3))) := by
      unfold X10_refusedPairs_b53
      rw [nI_nat (n := r) (by omega), hs, p1 k (by omega), if_neg (lt_nI (by omega) (by omega) (by omega)), if_pos hv, if_pos (vinI (by omega) (by omega)), if_pos hv, if_pos (vinI (by omega) (by omega)), nI_nat (n := 2 * k) (by omega), nI_nat (n := 2 * k + 1) (by omega), p2 k (by omega), f3X, bd_some]
    by_cases b0 : (σ.1 (16 + r) (2 * k)).toInt < 1 ∨ 12 < (σ.1 (16 + r) (2 * k)).toInt
    · right
      rw [if_pos (isNumber_zero.mpr b0)] at x0
      rw [if_pos (in_zero.mpr b0)] at m0
      exact ⟨lp_r x0, lp_r m0⟩
    rw [if_neg (fun q => b0 (isNumber_zero.mp q))] at x0
    rw [if_neg (fun q => b0 (in_zero.mp q))] at m0
    have M1 : lp (f' + 1 + 1) (un1 (X11_wrongOf_b38 μ (nI r))) (nI (2 * k)) = lp (f' + 1) (un1 (X11_wrongOf_b38 μ (nI r))) (nI (2 * k + 1)) := lp_l m0
    rw [M1]
    by_cases b1 : (σ.1 (16 + r) (2 * k + 1)).toInt < 0 ∨ 6 < (σ.1 (16 + r) (2 * k + 1)).toInt
    · right
      rw [if_pos (in_zero.mpr b1)] at m1
      refine ⟨lp_r ?_, lp_r m1⟩
      show X10_refusedPairs_b53 (nI r) σ (nI (2 * k)) = _
      rw [x0]
      by_cases b2 : (σ.1 (16 + r) (2 * k + 1)).toInt < 0
      · rw [if_pos (i_lt.mpr b2)]
      · rw [if_neg (fun q => b2 (i_lt.mp q)), if_neg (nle (by show (6 : Int) < _; omega))]
    rw [if_neg (fun q => b1 (in_zero.mp q))] at m1
    rw [if_neg (fun q => b1 (Or.inl (i_lt.mp q))), if_pos (ile (by show _ ≤ (6 : Int); omega))] at x0
    have X1 : lp (f + 1) (un1 (X10_refusedPairs_b53 (nI r) σ)) (nI (2 * k)) = lp f (un1 (X10_refusedPairs_b53 (nI r) σ)) (nI (2 * (k + 1))) := lp_l x0
    have M2 : lp (f' + 1) (un1 (X11_wrongOf_b38 μ (nI r))) (nI (2 * k + 1)) = lp f' (un1 (X11_wrongOf_b38 μ (nI r))) (nI (2 * (k + 1))) := lp_l m1
    rw [X1, M2]
    rcases ih (k + 1) f f' (by omega) (by omega) (by omega) with ⟨g1, g2, g3⟩ | g
    · left
      refine ⟨g1, g2, fun j hj1 hj2 => ?_⟩
      by_cases e : j = k
      · subst e
        obtain ⟨n, hn, en⟩ := i_ex (a := σ.1 (16 + r) (2 * j)) (m := 13) (by omega) (by omega)
        have : (σ.1 (16 + r) (2 * j)).toInt = (n : Int) := by rw [en, nI_ti (by omega)]
        exact ⟨⟨n, by omega, by omega, en⟩, by omega, by omega⟩
      · exact g3 j (by omega) hj2
    · exact Or.inr g
/-- the pairs of a row: both refuse, or both take them -/
theorem pairs_both {σ μ : mS} {c : cT} (h : RR σ μ) (hG : RG σ μ c) {i r : Nat} (hi : i < c.1) (hr : r < 6) : (∃ z, z ≤ 8 ∧ σ.1 24 r = nI (2 * z) ∧ (∀ j, j < z → prOK σ r j) ∧ X10_refusedPairs σ (nI i) (nI r) = some (0, σ) ∧ X11_wrongOf μ (nI r) = some 0) ∨ (∃ f, 1 ≤ f ∧ f < 6 ∧ X10_refusedPairs σ (nI i) (nI r) = some (-3, fndX σ f) ∧ X11_wrongOf μ (nI r) = some (nI f)) := by
  obtain ⟨w1, w2, w3, w4⟩ := h.1 r hr
  have hP4 := hG.P4
  have hv : vin (nI r) 6 = true := vinI hr (by omega)
  have pl : ¬ X10_isPlayer σ (nI i) = 0 := fun q => by
    have := hG.plX.mp q
    rw [nI_ti (by omega)] at this
    omega
  unfold X10_refusedPairs X11_wrongOf
  rw [if_neg pl, if_pos hv, if_pos hv, if_pos hv, nI_nat (by omega), w1]
  by_cases ng : (σ.1 24 r).toInt < 0
  · right
    rw [refRow_no hr ng, bd_some, if_neg (by decide), if_neg (nle ng)]
    exact ⟨1, by omega, by omega, rfl, rfl⟩
  rw [refRow_ok hr (by omega), bd_some, if_pos rfl, if_pos hv, if_pos (ge0 (by omega))]
  obtain ⟨s, hs, es⟩ := i_ex (a := σ.1 24 r) (m := 41) (by omega) (by omega)
  rw [es]
  have e2 : nI s - nI s / 2 * 2 = nI (s % 2) := i_rem (nI_ti (by omega)) (by decide) (by omega)
  rw [e2, f5X, bd_some]
  by_cases b : 16 < s
  · right
    rw [if_pos (i_lt.mpr (by rw [nI_ti (by omega)]; show (16 : Int) < s; omega) : (16 : Int32) < nI s), if_neg (nle (by rw [nI_ti (by omega)]; show (16 : Int) < s; omega) : ¬ nI s ≤ 16)]
    exact ⟨5, by omega, by omega, by split <;> rfl, rfl⟩
  rw [if_neg (show ¬ (16 : Int32) < nI s from fun q => by have := i_lt.mp q; rw [nI_ti (by omega)] at this; have : (16 : Int) < s := this; omega), if_pos (ile (by rw [nI_ti (by omega)]; show (s : Int) ≤ 16; omega) : nI s ≤ 16)]
  by_cases od : s % 2 = 1
  · right
    rw [od]
    exact ⟨5, by omega, by omega, rfl, rfl⟩
  rw [show s % 2 = 0 by omega, if_pos (show nI 0 = 0 from rfl), if_neg (show ¬ nI 0 = 1 by decide)]
  obtain ⟨z, rfl⟩ : ∃ z, s = 2 * z := ⟨s / 2, by omega⟩
  rcases pr_both h hr (z := z) (by omega) es z 0 big big (by omega) (by show z < 1000000; omega) (by show 2 * z < 1000000; omega) with ⟨g1, g2, g3⟩ | ⟨g1, g2⟩
  · left
    have g1' : lp big (un1 (X10_refusedPairs_b53 (nI r) σ)) 0 = some (.inl ()) := g1
    have g2' : lp big (un1 (X11_wrongOf_b38 μ (nI r))) 0 = some (.inl ()) := g2
    rw [g1', g2']
    exact ⟨z, by omega, rfl, fun j hj => g3 j (by omega) hj, rfl, rfl⟩
  · right
    have g1' : lp big (un1 (X10_refusedPairs_b53 (nI r) σ)) 0 = some (.inr (-3, fndX σ 3)) := g1
    have g2' : lp big (un1 (X11_wrongOf_b38 μ (nI r))) 0 = some (.inr 3) := g2
    rw [g1', g2']
    exact ⟨3, by omega, by omega, rfl, rfl⟩
