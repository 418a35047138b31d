/-! lots -/
theorem i_div {a d : Int32} {m D : Nat} (ha : a.toInt = (m : Int)) (hd : d.toInt = (D : Int)) (hm : m < 2147483648) : (a / d).toInt = ((m / D : Nat) : Int) := by
  rw [Int32.toInt_div, ha, hd]
  have e : Int.tdiv (m : Int) (D : Int) = ((m / D : Nat) : Int) := rfl
  have le : m / D ≤ m := Nat.div_le_self m D
  rw [e]
  generalize m / D = q at le
  exact i32_bm (by omega) (by omega)
theorem i_rem {a d : Int32} {m D : Nat} (ha : a.toInt = (m : Int)) (hd : d.toInt = (D : Int)) (hm : m < 2147483648) : a - a / d * d = nI (m % D) := by
  have e1 := i_div ha hd hm
  have le : m / D * D ≤ m := Nat.div_mul_le_self m D
  have e2 : (a / d * d).toInt = ((m / D * D : Nat) : Int) := by
    rw [i_mul (by rw [e1, hd]; have : (0 : Int) ≤ ((m / D * D : Nat) : Int) := Int.natCast_nonneg _; rw [← Int.natCast_mul]; omega) (by rw [e1, hd, ← Int.natCast_mul]; omega), e1, hd, Int.natCast_mul]
  have e3 : m - m / D * D = m % D := by
    have := Nat.div_add_mod m D
    rw [Nat.mul_comm] at this
    omega
  exact i_nI (by rw [i_sub (by rw [ha, e2]; omega) (by rw [ha, e2]; omega), ha, e2, ← e3]; omega)
/-- the next lot -/
theorem l_next {v : Int32} {k : Nat} (hk : v.toInt = (k : Int)) : ∃ m : Nat, m < 2147483647 ∧ ((v.toInt64 * 48271) - (v.toInt64 * 48271) / 2147483647 * 2147483647).toInt = (m : Int) := by
  have hh := i_hi v
  have e0 : (v.toInt64 * 48271).toInt = ((k * 48271 : Nat) : Int) := by
    rw [Int64.toInt_mul, l_of_i, hk, show (48271 : Int64).toInt = 48271 by decide, Int.bmod_eq_of_le (by omega) (by omega)]
    omega
  have e1 : ((v.toInt64 * 48271) / 2147483647).toInt = ((k * 48271 / 2147483647 : Nat) : Int) := by
    rw [Int64.toInt_div, e0, show (2147483647 : Int64).toInt = ((2147483647 : Nat) : Int) by decide, show Int.tdiv ((k * 48271 : Nat) : Int) ((2147483647 : Nat) : Int) = ((k * 48271 / 2147483647 : Nat) : Int) from rfl]
    exact Int.bmod_eq_of_le (by omega) (by omega)
  have e2 : ((v.toInt64 * 48271) / 2147483647 * 2147483647).toInt = ((k * 48271 / 2147483647 * 2147483647 : Nat) : Int) := by
    rw [Int64.toInt_mul, e1, show (2147483647 : Int64).toInt = 2147483647 by decide, Int.bmod_eq_of_le (by omega) (by omega)]
    omega
  refine ⟨k * 48271 % 2147483647, by omega, ?_⟩
  rw [Int64.toInt_sub, e0, e2, Int.bmod_eq_of_le (by omega) (by omega)]
  omega
theorem l_i {w : Int64} {m : Nat} (h : w.toInt = (m : Int)) (hm : m < 2147483648) : w.toInt32 = nI m ∧ (nI m).toInt64 = w := by
  have e : w.toInt32 = nI m := i_nI (by rw [Int64.toInt_toInt32, h]; exact i32_bm (by omega) (by omega))
  exact ⟨e, l_eq.mpr (by rw [l_of_i, nI_ti hm, h])⟩
theorem l_step {k : Nat} (hk : (nI k).toInt = (k : Int)) : ∃ (W : Int64) (m : Nat), m < 2147483647 ∧ (((nI k).toInt64 * 48271) - ((nI k).toInt64 * 48271) / 2147483647 * 2147483647) = W ∧ W.toInt32 = nI m ∧ (nI m).toInt64 = W := by
  obtain ⟨m, hm, e⟩ := l_next hk
  exact ⟨_, m, hm, rfl, l_i e (Nat.lt_of_lt_of_le hm (by decide))⟩
theorem bag_has : ∀ n, n < 4096 → n ≠ 0 → ∃ m, m < 12 ∧ bt (nI (2 * n)) (m + 1) = true := by
  have key : ∀ a, a < 64 → ∀ b, b < 64 → 64 * a + b ≠ 0 → (List.range 12).any (fun m => bt (nI (2 * (64 * a + b))) (m + 1)) = true := by decide +kernel
  intro n h1 h2
  have k := key (n / 64) (by omega) (n % 64) (by omega)
  rw [show 64 * (n / 64) + n % 64 = n by omega] at k
  obtain ⟨m, hm, e⟩ := List.any_eq_true.mp (k h2)
  exact ⟨m, List.mem_range.mp hm, e⟩
theorem find_both {σ μ : mS} {n m : Nat} (hbX : σ.1 (144 + 5) 3 = nI (2 * n)) (hbM : μ.1 10 5 = nI (2 * n)) (hn : n < 4096) (h0 : n ≠ 0) (s : Nat) (hs : s < 12) : ∃ y, 1 ≤ y ∧ y ≤ 12 ∧ lp big (un2 (X10_doLot_b62 σ)) (nI s + 1, 0) = some (nI y) ∧ lp big (un1 (X11_lots_b139 μ)) (nI s + 1) = some (nI y) := by
  obtain ⟨z, hz, ez⟩ := bag_has n hn h0
  have e1 : nI s + 1 = nI (s + 1) := i_nI (i32_add (nI_ti (by omega)) (b := 1) (by decide) (by omega))
  obtain ⟨r1, r2, l1, l2, y, rfl, rfl, hy1, hy2⟩ := lpR (b := un2 (X10_doLot_b62 σ)) (b' := un1 (X11_lots_b139 μ))
    (I := fun d q q' => ∃ t, t + d = 12 ∧ q = (nI ((s + t) % 12 + 1), nI t) ∧ q' = nI ((s + t) % 12 + 1) ∧ ∀ t', t' < t → bt (nI (2 * n)) ((s + t') % 12 + 1) = false)
    (Q := fun r1 r2 => ∃ y, r1 = nI y ∧ r2 = nI y ∧ 1 ≤ y ∧ y ≤ 12) (fun d q q' hI => by
    obtain ⟨t, ht, rfl, rfl, hno⟩ := hI
    have ml : (s + t) % 12 < 12 := Nat.mod_lt _ (by decide)
    show (∃ t1 t1' n', n' < d ∧ X10_doLot_b62 σ (nI ((s + t) % 12 + 1)) (nI t) = _ ∧ X11_lots_b139 μ (nI ((s + t) % 12 + 1)) = _ ∧ _) ∨ (∃ r1 r2, X10_doLot_b62 σ (nI ((s + t) % 12 + 1)) (nI t) = _ ∧ X11_lots_b139 μ (nI ((s + t) % 12 + 1)) = _ ∧ _)
    unfold X10_doLot_b62 X11_lots_b139
    rw [if_pos (by decide : vin 5 1360 = true), show (5 : Int32).toNatClampNeg = 5 by decide, has_eq _ (by omega), holds_eq (by omega), hbX, hbM]
    by_cases h12 : t = 12
    · exfalso
      subst h12
      have hx : (s + (z + 12 - s) % 12) % 12 = z := by omega
      have := hno ((z + 12 - s) % 12) (Nat.mod_lt _ (by decide))
      rw [hx, ez] at this
      exact absurd this (by decide)
    rw [if_neg (nle (by rw [nI_ti (by omega)]; show (t : Int) < 12; omega))]
    by_cases hb : bt (nI (2 * n)) ((s + t) % 12 + 1) = true
    · right
      rw [if_pos hb, if_neg (by decide), if_neg (by decide)]
      exact ⟨_, _, rfl, rfl, _, rfl, rfl, by omega, by omega⟩
    · left
      rw [if_neg hb, if_pos rfl, if_pos rfl]
      have e2 : nI ((s + t) % 12 + 1) - nI ((s + t) % 12 + 1) / 12 * 12 + 1 = nI ((s + (t + 1)) % 12 + 1) := by
        rw [i_rem (m := (s + t) % 12 + 1) (D := 12) (nI_ti (by omega)) (by decide) (by omega)]
        have : ((s + t) % 12 + 1) % 12 = (s + (t + 1)) % 12 := by omega
        rw [this]
        exact i_nI (i32_add (nI_ti (by omega)) (b := 1) (by decide) (by omega))
      have e3 : nI t + 1 = nI (t + 1) := i_nI (i32_add (nI_ti (by omega)) (b := 1) (by decide) (by omega))
      rw [e2, e3]
      refine ⟨_, _, d - 1, by omega, rfl, rfl, t + 1, by omega, rfl, rfl, fun t' h' => ?_⟩
      by_cases e : t' = t
      · subst e
        exact Bool.eq_false_iff.mpr hb
      · exact hno t' (by omega)) big 12 (nI s + 1, 0) (nI s + 1) ⟨0, rfl, by rw [e1, show (s + 0) % 12 = s by omega]; rfl, by rw [e1, show (s + 0) % 12 = s by omega], fun t' h' => absurd h' (Nat.not_lt_zero _)⟩ (by show 12 < 1000000; omega)
  exact ⟨y, hy1, hy2, l1, l2⟩
theorem bd_calls {μ m ν : mS} {n v : Int32} (h1 : X11_known μ = some ((), m)) (h2 : bd (X11_known μ) (fun r12 s14 => bd (X11_calls s14 (0) n) (fun r15 s17 => some (r15, s17))) = some (v, ν)) : X11_calls m 0 n = some (v, ν) := by
  rw [h1, bd_some] at h2
  cases hc : X11_calls m 0 n with
  | none => rw [hc] at h2; exact absurd h2 (by intro q; cases q)
  | some x =>
    obtain ⟨a, b⟩ := x
    rw [hc, bd_some] at h2
    exact h2
/-- one lot drawn in both -/
theorem lot_both {σ μ : mS} {c : cT} (h : RR σ μ) (hG : RG σ μ c) {d m : Nat} (hd : d < 40) (hsz : σ.1 (160 + 3) 1 = nI d) (h12 : μ.1 0 12 = nI d) (hc : 0 < c.1) {a1 : Int32} {x12 : Int64} {x13 : Int32} (hgo : ¬ a1 ≤ x13) {W : Int64} (hW : ((x12 * 48271) - (x12 * 48271) / 2147483647 * 2147483647) = W) (hA : W.toInt32 = nI m) (hm : m < 2147483647) : ∃ τ ν, X10_doLot σ (nI m) = some ((), τ) ∧ X11_lots_b56 a1 μ x12 x13 = some (.inl (ν, W, x13 + 1)) ∧ RR τ ν ∧ RG τ ν c ∧ τ.1 (160 + 3) 1 = nI (d + 1) := by
  have hP4 := hG.P4
  unfold X10_doLot X11_lots_b56
  rw [hW, hA, if_neg hgo, hG.pX]
  have am : (nI m).toInt = (m : Int) := nI_ti (by omega)
  have ac : (nI c.1).toInt = (c.1 : Int) := nI_ti (by omega)
  have r1 : nI m - nI m / nI c.1 * nI c.1 = nI (m % c.1) := i_rem am ac (by omega)
  have mc : m % c.1 < c.1 := Nat.mod_lt _ hc
  have r2 : (nI m / 64) - (nI m / 64) / 6 * 6 = nI (m / 64 % 6) := i_rem (i_div am (d := 64) (D := 64) (by decide) (by omega)) (by decide) (by omega)
  have r3 : nI m - nI m / 12 * 12 = nI (m % 12) := i_rem am (by decide) (by omega)
  have c0 : ¬ nI c.1 = 0 := fun q => by have := (pz hP4).mp q; omega
  have cp : ¬ nI c.1 ≤ 0 := nle (by rw [ac]; show (0 : Int) < _; omega)
  have hkn := known_eq μ hd h12
  generalize hN : mrow (mwI μ 0 12 (nI (d + 1))) 10 (cpF (μ.1 10) 0 (8 * (d + 1)) 8) = N at hkn
  have N5 : N.1 0 5 = nI c.1 := by rw [← hN, mrow_ne (by decide), mwI_row, mrow_at, upd_ne (by decide)]; exact hG.1
  have N10 : N.1 10 5 = σ.1 (144 + 5) 3 := by
    have e : getH (N.1 10) 0 = getH (μ.1 10) 0 := by rw [← hN, mrow_at, getH_cp_out (Or.inl (by omega))]
    have e5 := congrFun e 5
    rw [getH_lt (by omega), getH_lt (by omega)] at e5
    exact e5.trans hG.bag
  obtain ⟨τ, m', ν, g1, g2, g3, hR, hG2, hs2⟩ := rub_both h hG hd hsz h12 mc (p := m / 64 % 6) (Nat.mod_lt _ (by decide))
  have em : m' = N := by rw [hkn] at g2; cases g2; rfl
  subst em
  have v1 : vin (nI (m % c.1)) 1360 = true := vinI (by omega) (by decide)
  rw [hkn, bd_some, N5, r1, r2, r3, nI_nat (by omega), show (5 : Int32).toNatClampNeg = 5 by decide, N10]
  by_cases h7 : ((nI m / 8) - (nI m / 8) / 8 * 8) = 7
  · rw [if_pos h7, if_pos h7, if_neg cp, if_pos c0, if_pos c0, if_pos v1, if_pos v1, g1, bd_some, ← g3]
    exact ⟨τ, ν, rfl, rfl, hR, hG2, hs2⟩
  rw [if_neg h7, if_neg h7, if_pos (by decide : vin 5 1360 = true)]
  obtain ⟨nb, hnb, eb⟩ := hG.hv.2.2
  have eb' : σ.1 (144 + 5) 3 = nI (2 * nb) := eb
  by_cases hb : σ.1 (144 + 5) 3 = 0
  · rw [if_pos hb, if_pos hb, if_neg cp, if_pos c0, if_pos c0, if_pos v1, if_pos v1, g1, bd_some, ← g3]
    exact ⟨τ, ν, rfl, rfl, hR, hG2, hs2⟩
  rw [if_neg hb, if_neg hb]
  obtain ⟨y, y1, y2, f1, f2⟩ := find_both (σ := σ) (μ := m') (n := nb) (m := 0) eb' (by rw [N10]; exact eb') hnb (fun q => hb (by rw [eb', q]; rfl)) (m % 12) (Nat.mod_lt _ (by decide))
  obtain ⟨v, τ', ν', k1, k2, kR, kG, ks⟩ := call_both h hG hd hsz h12 (n := y) ⟨y1, y2⟩
  rw [f1, f2, Option.bind_some, Option.bind_some, un1_app, un1_app, k1, bd_calls hkn k2, bd_some, bd_some]
  exact ⟨τ', ν', rfl, rfl, kR, kG, ks⟩
theorem sim_lots {σ μ : mS} (h : RR σ μ) (a1 a2 : Int32) : SIM (X10_lots σ a1 a2) (X11_lots μ a1 a2) := by
  obtain ⟨c, hG⟩ := h.2.2.1
  have hP4 := hG.P4
  unfold X10_lots X11_lots
  by_cases b1 : a1.toInt < 1 ∨ 20 < a1.toInt
  · rw [if_pos (in_zero.mpr b1 : X11_in a1.toInt64 1 20 = 0)]
    by_cases b2 : a1.toInt < 1
    · exact SIM.L (i_lt.mpr b2) (SIM.ret h rfl)
    · exact SIM.nL (fun q => b2 (i_lt.mp q)) (SIM.L (i_lt.mpr (by show (20 : Int) < _; omega)) (SIM.ret h rfl))
  refine SIM.nL (fun q => b1 (Or.inl (i_lt.mp q))) (SIM.nL (fun q => b1 (Or.inr (i_lt.mp q))) (SIM.nR (fun q => b1 (in_zero.mp q)) ?_))
  have hi2 := i_hi a2
  by_cases b2 : a2.toInt < 1 ∨ 2147483646 < a2.toInt
  · rw [if_pos (in_zero.mpr b2 : X11_in a2.toInt64 1 2147483646 = 0)]
    by_cases b3 : a2.toInt < 1
    · exact SIM.L (i_lt.mpr b3) (SIM.ret h rfl)
    · exact SIM.nL (fun q => b3 (i_lt.mp q)) (SIM.nL (fun q => by have q2 := l_lt.mp q; rw [l_of_i] at q2; have : a2.toInt < 2147483647 := q2; omega) (SIM.ret h rfl))
  refine SIM.nL (fun q => b2 (Or.inl (i_lt.mp q))) (SIM.L (l_lt.mpr (by rw [l_of_i]; show a2.toInt < 2147483647; omega)) (SIM.nR (fun q => b2 (in_zero.mp q)) ?_))
  rw [hG.pX, hG.1]
  refine SIM.ite Iff.rfl (fun _ => SIM.ret h rfl) (fun hc0 => ?_)
  have hc : 0 < c.1 := Nat.pos_of_ne_zero (fun q => hc0 ((pz hP4).mpr q))
  obtain ⟨d, hd, e1, e2⟩ := dnum hG
  rw [e1, e2]
  refine SIM.ite Iff.rfl (fun h40 => ?_) (fun _ => SIM.ret h rfl)
  obtain ⟨g, hg, eg⟩ := i_ex (a := a1) (m := 21) (by omega) (by omega)
  subst eg
  obtain ⟨k0, hk0, ek⟩ := i_ex (a := a2) (m := 2147483647) (by omega) (by omega)
  subst ek
  have h40' : d + g ≤ 40 := by
    have q := i_le.mp h40
    rw [i32_add (nI_ti (n := d) (by omega)) (nI_ti (n := g) (by omega)) (by omega)] at q
    have q' : ((d + g : Nat) : Int) ≤ 40 := q
    omega
  obtain ⟨r1, r2, l1, l2, hR, hG2⟩ := lpR (b := un3 (X10_lots_b62 (nI g))) (b' := un3 (X11_lots_b56 (nI g)))
    (I := fun w q q' => ∃ t k, t + w = g ∧ k < 2147483647 ∧ q.2 = (nI k, nI t) ∧ q'.2 = ((nI k).toInt64, nI t) ∧ RR q.1 q'.1 ∧ RG q.1 q'.1 c ∧ q.1.1 (160 + 3) 1 = nI (d + t))
    (Q := fun r1 r2 => RR r1 r2 ∧ RG r1 r2 c) (fun w q q' hI => by
    obtain ⟨s, q2⟩ := q
    obtain ⟨m, q2'⟩ := q'
    obtain ⟨t, k, ht, hk, ea, eb, hR, hG', hsz⟩ := hI
    dsimp only at ea eb hR hG' hsz
    subst ea
    subst eb
    show (∃ t1 t1' n', n' < w ∧ X10_lots_b62 (nI g) s (nI k) (nI t) = _ ∧ X11_lots_b56 (nI g) m (nI k).toInt64 (nI t) = _ ∧ _) ∨ (∃ r1 r2, X10_lots_b62 (nI g) s (nI k) (nI t) = _ ∧ X11_lots_b56 (nI g) m (nI k).toInt64 (nI t) = _ ∧ _)
    by_cases he : g ≤ t
    · right
      have : nI g ≤ nI t := ile (by rw [nI_ti (by omega), nI_ti (by omega)]; omega)
      unfold X10_lots_b62 X11_lots_b56
      rw [if_pos this, if_pos this]
      exact ⟨_, _, rfl, rfl, hR, hG'⟩
    · left
      have hgo : ¬ nI g ≤ nI t := nle (by rw [nI_ti (by omega), nI_ti (by omega)]; omega)
      obtain ⟨W, m', hm', ew, f1, f2⟩ := l_step (k := k) (nI_ti (by omega))
      obtain ⟨τ, ν, x1, x2, x3, x4, x5⟩ := lot_both hR hG' (d := d + t) (m := m') (by omega) hsz (by rw [hG'.2.2.2.2.2.2.1]; exact hsz) hc hgo ew f1 hm'
      have e3 : nI t + 1 = nI (t + 1) := i_nI (i32_add (nI_ti (by omega)) (b := 1) (by decide) (by omega))
      have ec : (48271 : Int64) * (nI k).toInt64 = (nI k).toInt64 * 48271 := Int64.mul_comm _ _
      have x1' : X10_lots_b62 (nI g) s (nI k) (nI t) = some (.inl (τ, nI m', nI t + 1)) := by
        unfold X10_lots_b62
        rw [if_neg hgo, ec, ew, f1, x1, bd_some]
      rw [x1', x2, e3]
      exact ⟨_, _, w - 1, by omega, rfl, rfl, t + 1, m', by omega, hm', rfl, by rw [f2], x3, x4, x5⟩) big g (σ, nI k0, 0) (μ, (nI k0).toInt64, 0) ⟨0, k0, by omega, hk0, rfl, rfl, h, hG, by rw [e1]; rfl⟩ (by show g < 1000000; omega)
  rw [l1, l2, Option.bind_some, Option.bind_some, un1_app, un1_app]
  exact SIM.R (by decide) (SIM.ret hR hG2.won.symm)
