/-! a text read -/
def FrR (σ μ s m : mS) : Prop := (∀ q, q ≠ 56 → q ≠ 64 → ¬ (80 ≤ q ∧ q < 84) → s.1 q = σ.1 q) ∧ s.2 = σ.2 ∧ (∀ q, q ≠ 0 → q ≠ 8 → q ≠ 9 → m.1 q = μ.1 q) ∧ (∀ q, q ≠ 8 → m.1 0 q = μ.1 0 q) ∧ m.2 = μ.2
theorem RR.scr {σ μ s m : mS} (h : RR σ μ) (hF : FrR σ μ s m) : RR s m := by
  obtain ⟨hW, hT, ⟨c, hG⟩, hO⟩ := h
  obtain ⟨f1, f2, f3, f4, f5⟩ := hF
  refine ⟨hW.of (f1 _ (by omega) (by omega) (by omega)) (fun r hr => f1 _ (by omega) (by omega) (by omega)) (f3 _ (by omega) (by omega) (by omega)) (f3 _ (by omega) (by omega) (by omega)), hT.of (f1 _ (by omega) (by omega) (by omega)) (fun r hr => f1 _ (by omega) (by omega) (by omega)) (f3 _ (by omega) (by omega) (by omega)) (f3 _ (by omega) (by omega) (by omega)), ⟨c, hG.of (fun k hk => f1 _ (by unfold gX at hk; omega) (by unfold gX at hk; omega) (by unfold gX at hk; omega)) (f4 _ (by omega)) (f4 _ (by omega)) (f3 _ (by omega) (by omega) (by omega)) (f3 _ (by omega) (by omega) (by omega)) (fun q _ => by rw [f3 _ (by omega) (by omega) (by omega)]) (fun q _ => by rw [f3 _ (by omega) (by omega) (by omega)])⟩, hO.of (by rw [f1 _ (by omega) (by omega) (by omega)]) (by rw [f1 _ (by omega) (by omega) (by omega)]) f2 (fun f _ => by rw [f1 _ (by omega) (by omega) (by omega)]) (f4 _ (by omega)) (f4 _ (by omega)) f5 (fun f _ => by rw [f3 _ (by omega) (by omega) (by omega)])⟩
/-- the players read so far -/
def PL (s m : mS) (k : Nat) : Prop := ∀ j, j < k → (∃ r, r < 6 ∧ s.1 64 j = nI r ∧ m.1 8 j = nI r) ∧ CP s m j 6
theorem CP.of {s m s' m' : mS} {j p : Nat} (h : CP s m j p) (h1 : s'.1 (80 + j) = s.1 (80 + j)) (h2 : ∀ q, q < p → m'.1 9 (6 * j + q) = m.1 9 (6 * j + q)) : CP s' m' j p := by
  refine ⟨fun q hq => ?_, fun q q' hq hq' e => ?_⟩
  · rw [h1, h2 q hq]
    exact h.1 q hq
  · rw [h2 q hq, h2 q' hq'] at e
    exact h.2 q q' hq hq' e
theorem m1_ne (u : Nat) (hu : u < 2147483648) : ¬ nI u = -9 := fun e => by
  have h := i_eq.mp e
  rw [nI_ti hu] at h
  have h2 : (-9 : Int32).toInt = -9 := by decide
  omega
theorem read_sim {σ μ : mS} {t n : Nat} (ht : t < 4) (hn : n ≤ 60) (hs : σ.1 48 t = nI n) (hl : μ.1 4 t = nI n) (hT : ∀ i, i < n → μ.1 5 (60 * t + i) = σ.1 (40 + t) i) : ∃ v s m, X6_read σ t (nI n) = some (v, s) ∧ X11_faultOf μ (nI t) = some (v, m) ∧ FrR σ μ s m ∧ (v = -9 → ∃ k, 1 ≤ k ∧ k ≤ 4 ∧ s.1 56 2 = nI k ∧ m.1 0 8 = nI k ∧ PL s m k) := by
  have key := lpR (b := un2 (X6_read_b7 t (nI n))) (b' := un2 (X11_faultOf_b7 (nI t)))
    (I := fun d q q' => ∃ a k, a + d = n ∧ k ≤ 4 ∧ q.2.toInt = (a : Int) ∧ q'.2.toInt = (a : Int) ∧ FrR σ μ q.1 q'.1 ∧ q.1.1 56 2 = nI k ∧ q'.1.1 0 8 = nI k ∧ PL q.1 q'.1 k)
    (Q := fun r r' => (∃ s m k, r = .inl s ∧ r' = .inl m ∧ FrR σ μ s m ∧ k ≤ 4 ∧ s.1 56 2 = nI k ∧ m.1 0 8 = nI k ∧ PL s m k) ∨ (∃ v s m, r = .inr (nI v, s) ∧ r' = .inr (nI v, m) ∧ v ≤ 60 ∧ FrR σ μ s m)) ?_ big n (mwI σ 56 2 0, 0) (mwI μ 0 8 0, 0) ?_ (by show n < 1000000; omega)
  · obtain ⟨r, r', e1, e2, hQ⟩ := key
    unfold X6_read X11_faultOf
    rw [e1, e2, Option.bind_some, Option.bind_some]
    rcases hQ with ⟨s, m, k, rfl, rfl, hF, hk, h1, h2, hP⟩ | ⟨v, s, m, rfl, rfl, hv, hF⟩
    · have l4 : m.1 4 t = nI n := by rw [hF.2.2.1 4 (by decide) (by decide) (by decide)]; exact hl
      show ∃ v s' m', (if s.1 56 2 = 0 then some (nI n, s) else some ((-9), s)) = _ ∧ (if m.1 0 8 = 0 then if vin (nI t) 4 = true then some (m.1 4 (nI t).toNatClampNeg, m) else none else some ((-9), m)) = _ ∧ _
      rw [h1, h2, if_pos (vinI ht (by decide)), nI_nat (by omega), l4]
      by_cases hz : nI k = 0
      · rw [if_pos hz, if_pos hz]
        exact ⟨nI n, s, m, rfl, rfl, hF, fun e => absurd e (m1_ne n (by omega))⟩
      · rw [if_neg hz, if_neg hz]
        refine ⟨-9, s, m, rfl, rfl, hF, fun _ => ⟨k, ?_, hk, h1, h2, hP⟩⟩
        rcases Nat.eq_zero_or_pos k with e | e
        · subst e; exact absurd rfl hz
        · exact e
    · exact ⟨nI v, s, m, rfl, rfl, hF, fun e => absurd e (m1_ne v (by omega))⟩
  · intro d q q' hI
    obtain ⟨s1, x⟩ := q
    obtain ⟨m1, y⟩ := q'
    obtain ⟨a, k, had, hk, hx, hy, hF, hs1, hm1, hP⟩ := hI
    dsimp only at hx hy hF hs1 hm1 hP
    have l4 : m1.1 4 t = nI n := by rw [hF.2.2.1 4 (by decide) (by decide) (by decide)]; exact hl
    have r40 : s1.1 (40 + t) = σ.1 (40 + t) := hF.1 _ (by omega) (by omega) (by omega)
    have m5 : m1.1 5 = μ.1 5 := hF.2.2.1 5 (by decide) (by decide) (by decide)
    have vt : vin (nI t) 4 = true := vinI ht (by decide)
    show (∃ t1 t1' n', n' < d ∧ X6_read_b7 t (nI n) s1 x = _ ∧ X11_faultOf_b7 (nI t) m1 y = _ ∧ _) ∨ (∃ r r', X6_read_b7 t (nI n) s1 x = _ ∧ X11_faultOf_b7 (nI t) m1 y = _ ∧ _)
    unfold X6_read_b7 X11_faultOf_b7
    rw [if_pos vt, nI_nat (n := t) (by omega), l4]
    by_cases hend : n ≤ a
    · right
      rw [if_pos (ile (by rw [nI_ti (by omega), hx]; omega)), if_pos (ile (by rw [nI_ti (by omega), hy]; omega))]
      exact ⟨_, _, rfl, rfl, Or.inl ⟨s1, m1, k, rfl, rfl, hF, hk, hs1, hm1, hP⟩⟩
    have hxn : x.toNatClampNeg = a := by rw [i_nat, hx]; rfl
    have vx : vin x 60 = true := vin_iff.mpr (by omega)
    have c1 := i_ix (c := 60) (cn := 60) (by decide) (nI_ti (n := t) (by omega)) hy (by omega)
    have c2 := i_ixn (c := 60) (cn := 60) (by decide) (nI_ti (n := t) (by omega)) hy (by omega)
    have vy : vin (((60 : Int32) * nI t) + y) 240 = true := vin_iff.mpr (by rw [c1]; omega)
    rw [if_neg (nle (by rw [nI_ti (by omega), hx]; omega)), if_neg (nle (by rw [nI_ti (by omega), hy]; omega)), if_pos vx, if_pos vy, hxn, c2, r40, m5, hT a (by omega)]
    by_cases h32 : σ.1 (40 + t) a = 32
    · left
      rw [if_pos h32, if_pos h32]
      exact ⟨_, _, d - 1, by omega, rfl, rfl, a + 1, k, by omega, hk, by show (x + 1).toInt = _; rw [i_inc (by omega), hx]; rfl, by show (y + 1).toInt = _; rw [i_inc (by omega), hy]; rfl, hF, hs1, hm1, hP⟩
    rw [if_neg h32, if_neg h32, if_pos vx, if_pos vy, kindBy_eq, Option.bind_some, hs1, hm1]
    generalize hL : X11_kindOf (σ.1 (40 + t) a) = L
    have hLr := kindOf_range (σ.1 (40 + t) a)
    rw [hL] at hLr
    have xa : x = nI a := i_nI hx
    have ya : y = nI a := i_nI hy
    by_cases hneg : L < 0
    · right
      rw [if_pos hneg, if_pos hneg, xa, ya]
      exact ⟨_, _, rfl, rfl, Or.inr ⟨a, s1, m1, rfl, rfl, by omega, hF⟩⟩
    rw [if_neg hneg, if_neg hneg]
    by_cases hk4 : k = 4
    · right
      subst hk4
      rw [if_neg (by decide), if_pos (by decide), xa, ya]
      exact ⟨_, _, rfl, rfl, Or.inr ⟨a, s1, m1, rfl, rfl, by omega, hF⟩⟩
    have hk4' : ¬ nI k = 4 := fun e => by
      have h1 : (nI k).toInt = 4 := i_eq.mp e
      rw [nI_ti (by omega)] at h1
      omega
    rw [if_pos (i_lt.mpr (by rw [nI_ti (by omega)]; show (k : Int) < 4; omega) : nI k < 4), if_neg hk4']
    have ea : x + 1 = nI (a + 1) := i_nI (by rw [i_inc (by omega), hx]; rfl)
    have eb : y + 1 = nI (a + 1) := i_nI (by rw [i_inc (by omega), hy]; rfl)
    obtain ⟨v, s2, m2, g1, g2, hC, hres⟩ := card_sim (s0 := s1) (m0 := m1) (t := t) (n := n) (fr := a + 1) (k := k) hn (by omega) ht (by omega) hs1 l4 (fun i hi => by rw [m5, r40]; exact hT i hi)
    rw [ea, eb, g1, g2, bd_some, bd_some]
    have hF2 : FrR σ μ s2 m2 := ⟨fun q q1 q2 q3 => by rw [hC.1 q (by omega)]; exact hF.1 q q1 q2 q3, hC.2.1.trans hF.2.1, fun q q1 q2 q3 => by rw [hC.2.2.1 q q3]; exact hF.2.2.1 q q1 q2 q3, fun q q1 => by rw [hC.2.2.1 0 (by decide)]; exact hF.2.2.2.1 q q1, hC.2.2.2.2.trans hF.2.2.2.2⟩
    have s56 : s2.1 56 2 = nI k := by rw [hC.1 56 (by omega)]; exact hs1
    have m08 : m2.1 0 8 = nI k := by rw [hC.2.2.1 0 (by decide)]; exact hm1
    rcases hres with ⟨u, hu, rfl⟩ | ⟨rfl, hCP, hlen⟩
    · right
      rw [if_neg (m1_ne u (by omega)), if_neg (m1_ne u (by omega))]
      exact ⟨_, _, rfl, rfl, Or.inr ⟨u, s2, m2, rfl, rfl, hu, hF2⟩⟩
    · left
      have vk : vin (nI k) 4 = true := vinI (by omega) (by decide)
      rw [if_pos rfl, if_pos rfl, s56, m08, if_pos vk, if_pos vk, nI_nat (by omega)]
      obtain ⟨r, hr, er⟩ : ∃ r, r < 6 ∧ L = nI r := by
        rcases hLr with e | e
        · exact absurd (by rw [e]; decide) hneg
        · exact e
      rw [show (mwI s2 64 k L).1 56 2 = nI k by rw [mwI_rk (by decide)]; exact s56, show (mwI m2 8 k L).1 0 8 = nI k by rw [mwI_rk (by decide)]; exact m08]
      have ek : nI k + 1 = nI (k + 1) := i_nI (i32_add (nI_ti (by omega)) (b := 1) (by decide) (by omega))
      have e13 : ∀ z : Int32, z.toInt = (a : Int) → (z + 13).toInt = ((a + 13 : Nat) : Int) := fun z hz => i32_add hz (b := 13) (by decide) (by omega)
      rw [ek]
      refine ⟨_, _, d - 13, by omega, rfl, rfl, a + 13, k + 1, by omega, by omega, e13 x hx, e13 y hy, ⟨fun q q1 q2 q3 => ?_, hF2.2.1, fun q q1 q2 q3 => ?_, fun q q1 => ?_, hF2.2.2.2.2⟩, mwI_rd, mwI_rd, fun j hj => ?_⟩
      · show (mwI (mwI s2 64 k L) 56 2 (nI (k + 1))).1 q = _
        rw [mwI_rk q1, mwI_rk q2]
        exact hF2.1 q q1 q2 q3
      · show (mwI (mwI m2 8 k L) 0 8 (nI (k + 1))).1 q = _
        rw [mwI_rk q1, mwI_rk q2]
        exact hF2.2.2.1 q q1 q2 q3
      · show (mwI (mwI m2 8 k L) 0 8 (nI (k + 1))).1 0 q = _
        rw [mwI_row, mrow_at, upd_ne q1, mwI_rk (by decide)]
        exact hF2.2.2.2.1 q q1
      · show (∃ r, r < 6 ∧ (mwI (mwI s2 64 k L) 56 2 (nI (k + 1))).1 64 j = nI r ∧ (mwI (mwI m2 8 k L) 0 8 (nI (k + 1))).1 8 j = nI r) ∧ CP (mwI (mwI s2 64 k L) 56 2 (nI (k + 1))) (mwI (mwI m2 8 k L) 0 8 (nI (k + 1))) j 6
        rw [mwI_rk (by decide : (64 : Nat) ≠ 56), mwI_rk (by decide : (8 : Nat) ≠ 0), mwI_row, mwI_row, mrow_at, mrow_at]
        by_cases e : j = k
        · subst e
          rw [upd_at, upd_at]
          refine ⟨⟨r, hr, er, er⟩, hCP.of ?_ (fun q hq => ?_)⟩
          · rw [mwI_rk (by omega), mrow_ne (by omega)]
          · rw [mwI_rk (by omega), mrow_ne (by omega)]
        · rw [upd_ne e, upd_ne e]
          obtain ⟨p1, p2⟩ := hP j (by omega)
          refine ⟨?_, p2.of ?_ (fun q hq => ?_)⟩
          · rw [hC.1 64 (by omega), hC.2.2.1 8 (by decide)]
            exact p1
          · rw [mwI_rk (by omega), mrow_ne (by omega), hC.1 _ (by omega)]
          · rw [mwI_rk (by omega), mrow_ne (by omega), hC.2.2.2.1 _ (by omega)]
  · refine ⟨0, 0, by omega, by omega, i_zero, i_zero, ⟨fun q q1 q2 q3 => ?_, rfl, fun q q1 q2 q3 => ?_, fun q q1 => ?_, rfl⟩, mwI_rd, mwI_rd, fun j hj => absurd hj (Nat.not_lt_zero _)⟩
    · exact mwI_rk q1
    · exact mwI_rk q1
    · show (mwI μ 0 8 0).1 0 q = _
      rw [mwI_row, mrow_at, upd_ne q1]
theorem sim_fault {σ μ : mS} (h : RR σ μ) (a1 : Int32) : SIM (X10_fault σ a1) (X11_fault μ a1) := by
  unfold X10_fault X11_fault
  by_cases hb : a1.toInt < 0 ∨ 4 ≤ a1.toInt
  · rw [refText_bad hb, bd_some, if_neg (by decide), if_pos (isTextM_zero.mpr hb)]
    exact SIM.ret h rfl
  obtain ⟨r, hr, rfl⟩ := textEx hb
  have hv : vin (nI r) 4 = true := vinI hr (by decide)
  obtain ⟨w1, w2, w3, w4⟩ := h.2.1 r hr
  rw [if_neg (textY hr).2]
  refine SIM.R hv ?_
  rw [nI_nat (by omega), w1]
  by_cases hs : (σ.1 48 r).toInt < 0
  · rw [refText_no hr hs, bd_some, if_neg (by decide), if_neg (nle hs), f1M, bd_some]
    exact SIM.ret (h.fnd (by decide)) rfl
  rw [refText_ok hr (by omega), bd_some, if_pos rfl]
  refine SIM.R (ge0 (by omega)) (SIM.L hv (SIM.L hv ?_))
  obtain ⟨n, hn, en⟩ := i_ex (a := σ.1 48 r) (m := 61) (by omega) (by omega)
  have en2 : (σ.1 48 r).toInt = (n : Int) := by rw [en, nI_ti (by omega)]
  obtain ⟨v, s, m, e1, e2, hF, -⟩ := read_sim (σ := σ) (μ := μ) hr (by omega) en (by rw [w1]; exact en) (fun i hi => w4 i (by omega))
  rw [en, e1, e2, bd_some, bd_some]
  exact SIM.ret (h.scr hF) rfl
