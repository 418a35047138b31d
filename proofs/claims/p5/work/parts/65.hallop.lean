/-! a hall made by a text -/
def cbG (f : Nat → Int32) : Nat → Int32
  | 0 => 0
  | p + 1 => cbG f p ||| ((1 : Int32) <<< ((f p) &&& 31))
theorem cbG_cb {f cd : Nat → Int32} {i : Nat} : ∀ {p : Nat}, (∀ q, q < p → f q = cd (6 * i + q)) → cbG f p = cbN cd i p
  | 0, _ => rfl
  | p + 1, h => by
    show cbG f p ||| _ = cbN cd i p ||| _
    rw [cbG_cb (fun q hq => h q (by omega)), h p (by omega)]
theorem fillC (s : mS) {i : Nat} {x : Int32} (hi : i < 4) (hx : x.toInt = (i : Int)) : lp big (un2 (X7_fillBy_b39 x)) (s, 0) = some (mrow (mrow s (128 + i) (cpT (s.1 (80 + i)) (s.1 (128 + i)) 0 0 6)) 136 (upd (s.1 136) i (s.1 136 i ||| cbG (s.1 (80 + i)) 6))) := by
  have hxn : x.toNatClampNeg = i := by rw [i_nat, hx]; rfl
  have vx : vin x 4 = true := vin_iff.mpr (by omega)
  have H := lp_zero (b := un2 (X7_fillBy_b39 x)) (n := 6) (res := mrow (mrow s (128 + i) (cpT (s.1 (80 + i)) (s.1 (128 + i)) 0 0 6)) 136 (upd (s.1 136) i (s.1 136 i ||| cbG (s.1 (80 + i)) 6))) (fun j y => (mrow (mrow s (128 + i) (cpT (s.1 (80 + i)) (s.1 (128 + i)) 0 0 j)) 136 (upd (s.1 136) i (s.1 136 i ||| cbG (s.1 (80 + i)) j)), y)) (by omega) (fun j y hj hy => by
    have hyn : y.toNatClampNeg = j := by rw [i_nat, hy]; rfl
    have vy : vin y 6 = true := vin_iff.mpr (by omega)
    show X7_fillBy_b39 x (mrow (mrow s (128 + i) (cpT (s.1 (80 + i)) (s.1 (128 + i)) 0 0 j)) 136 (upd (s.1 136) i (s.1 136 i ||| cbG (s.1 (80 + i)) j))) y = some (.inl (mrow (mrow s (128 + i) (cpT (s.1 (80 + i)) (s.1 (128 + i)) 0 0 (j + 1))) 136 (upd (s.1 136) i (s.1 136 i ||| (cbG (s.1 (80 + i)) j ||| ((1 : Int32) <<< ((s.1 (80 + i) j) &&& 31))))), y + 1))
    unfold X7_fillBy_b39
    rw [if_neg (nle (by rw [hy]; show (j : Int) < 6; omega))]
    simp only [if_pos vx, if_pos vy, hxn, hyn]
    have r80 : (mrow (mrow s (128 + i) (cpT (s.1 (80 + i)) (s.1 (128 + i)) 0 0 j)) 136 (upd (s.1 136) i (s.1 136 i ||| cbG (s.1 (80 + i)) j))).1 (80 + i) = s.1 (80 + i) := by rw [mrow_ne (by omega), mrow_ne (by omega)]
    rw [r80, mwI_rd, mwI_rk (by omega : (136 : Nat) ≠ 128 + i), mrow_at, upd_at, mwI_row, mwI_row, mrow_ne (by omega : 128 + i ≠ 136), mrow_at, mrow_ne (by omega : (136 : Nat) ≠ 128 + i), mrow_at, mrow_comm (k := 136) (k' := 128 + i) (by omega), mrow_mrow, mrow_mrow, or_assoc]
    have e4 := cpT_succ (f := s.1 (80 + i)) (g := s.1 (128 + i)) (s := 0) (t := 0) (j := j)
    rw [Nat.zero_add] at e4
    rw [e4]
    have e5 : ∀ v w : Int32, upd (upd (s.1 136) i v) i w = upd (s.1 136) i w := fun v w => by
      funext q
      by_cases hq : q = i
      · subst hq; rw [upd_at, upd_at]
      · rw [upd_ne hq, upd_ne hq, upd_ne hq]
    rw [e5]) (fun y hy => by
    show X7_fillBy_b39 x _ y = _
    unfold X7_fillBy_b39
    rw [if_pos (ile (by rw [hy]; show (6 : Int) ≤ 6; omega))])
  have H2 : lp big (un2 (X7_fillBy_b39 x)) (mrow (mrow s (128 + i) (cpT (s.1 (80 + i)) (s.1 (128 + i)) 0 0 0)) 136 (upd (s.1 136) i (s.1 136 i ||| 0)), 0) = _ := H
  rw [cpT_zero, or_zero, upd_self rfl, mrow_id, mrow_id] at H2
  exact H2
theorem fillBy_eq (s : mS) {k : Nat} (hk : k ≤ 4) (hs : s.1 56 2 = nI k) : Hs (X7_fillBy s) (fun q => (∀ r, r ≠ 88 → r ≠ 112 → r ≠ 136 → ¬ (128 ≤ r ∧ r < 132) → q.2.1 r = s.1 r) ∧ q.2.2 = s.2 ∧ q.2.1 88 4 = nI k ∧ ∀ i, i < k → q.2.1 112 i = s.1 64 i ∧ q.2.1 136 i = cbG (s.1 (80 + i)) 6 ∧ ∀ p, p < 6 → q.2.1 (128 + i) p = s.1 (80 + i) p) := by
  unfold X7_fillBy
  rw [hs]
  refine Hs.bind (P := fun τ => (∀ r, r ≠ 88 → r ≠ 112 → r ≠ 136 → ¬ (128 ≤ r ∧ r < 132) → τ.1 r = s.1 r) ∧ τ.2 = s.2 ∧ τ.1 88 4 = nI k ∧ ∀ i, i < k → τ.1 112 i = s.1 64 i ∧ τ.1 136 i = cbG (s.1 (80 + i)) 6 ∧ ∀ p, p < 6 → τ.1 (128 + i) p = s.1 (80 + i) p) (Hs.loop (I := fun q => ∃ j, j ≤ k ∧ q.2.toInt = (j : Int) ∧ (∀ r, r ≠ 88 → r ≠ 112 → r ≠ 136 → ¬ (128 ≤ r ∧ r < 132) → q.1.1 r = s.1 r) ∧ q.1.2 = s.2 ∧ q.1.1 88 4 = nI k ∧ ∀ i, i < j → q.1.1 112 i = s.1 64 i ∧ q.1.1 136 i = cbG (s.1 (80 + i)) 6 ∧ ∀ p, p < 6 → q.1.1 (128 + i) p = s.1 (80 + i) p) (fun q => 4 - q.2.toNatClampNeg) (fun q hq => ?_) big (mwI s 88 4 (nI k), 0) ?_ ?_) (fun τ h => ?_)
  · obtain ⟨S, x⟩ := q
    obtain ⟨j, hj, hx, hF, h2, h88, hd⟩ := hq
    dsimp only at hx hF h2 h88 hd ⊢
    show Hs (X7_fillBy_b10 S x) _
    unfold X7_fillBy_b10
    rw [h88]
    by_cases he : k ≤ j
    · refine Hs.pos (ile (by rw [nI_ti (by omega), hx]; omega)) (Hs.inr ⟨hF, h2, h88, ?_⟩)
      rw [show k = j by omega]
      exact hd
    have vx : vin x 4 = true := vin_iff.mpr (by omega)
    have hxn : x.toNatClampNeg = j := by rw [i_nat, hx]; rfl
    refine Hs.neg (nle (by rw [nI_ti (by omega), hx]; omega)) (Hs.pos vx (Hs.pos vx (Hs.pos vx ?_)))
    rw [hxn, fillC _ (by omega) hx, Option.bind_some]
    refine Hs.inl ⟨⟨j + 1, by omega, by show (x + 1).toInt = _; rw [i_inc (by omega), hx]; rfl, fun r r1 r2 r3 r4 => ?_, h2, ?_, fun i hi => ?_⟩, ?_⟩
    · show (mrow (mrow (mwI (mwI S 112 j (S.1 64 j)) 136 j 0) (128 + j) _) 136 _).1 r = _
      rw [mrow_ne r3, mrow_ne (by omega), mwI_rk r3, mwI_rk r2]
      exact hF r r1 r2 r3 r4
    · show (mrow (mrow (mwI (mwI S 112 j (S.1 64 j)) 136 j 0) (128 + j) _) 136 _).1 88 4 = _
      rw [mrow_ne (by omega), mrow_ne (by omega), mwI_rk (by omega), mwI_rk (by omega)]
      exact h88
    · have r64 : S.1 64 = s.1 64 := hF 64 (by omega) (by omega) (by omega) (by omega)
      have r80 : ∀ z, z < 4 → S.1 (80 + z) = s.1 (80 + z) := fun z hz => hF _ (by omega) (by omega) (by omega) (by omega)
      show (mrow (mrow (mwI (mwI S 112 j (S.1 64 j)) 136 j 0) (128 + j) _) 136 _).1 112 i = _ ∧ (mrow (mrow (mwI (mwI S 112 j (S.1 64 j)) 136 j 0) (128 + j) _) 136 _).1 136 i = _ ∧ ∀ p, p < 6 → (mrow (mrow (mwI (mwI S 112 j (S.1 64 j)) 136 j 0) (128 + j) _) 136 _).1 (128 + i) p = _
      rw [mrow_ne (by omega : (112 : Nat) ≠ 136), mrow_ne (by omega : (112 : Nat) ≠ 128 + j), mwI_rk (by omega : (112 : Nat) ≠ 136), mrow_at, mwI_rk (by omega : 80 + j ≠ 136), mwI_rk (by omega : 80 + j ≠ 112), r80 j (by omega), mwI_row (k := 112), mrow_at, mwI_rd, mwI_row (k := 136), mrow_at, r64]
      by_cases e : i = j
      · subst e
        rw [upd_at, upd_at, zero_or]
        refine ⟨rfl, rfl, fun p hp => ?_⟩
        rw [mrow_ne (by omega), mrow_at]
        unfold cpT
        rw [if_pos (by omega), Nat.zero_add, Nat.sub_zero]
      · obtain ⟨d1, d2, d3⟩ := hd i (by omega)
        rw [upd_ne e, upd_ne e, upd_ne e, mrow_ne (by omega : (136 : Nat) ≠ 112)]
        refine ⟨d1, d2, fun p hp => ?_⟩
        rw [mrow_ne (by omega), mrow_ne (by omega), mrow_ne (by omega), mrow_ne (by omega)]
        exact d3 p hp
    · show 4 - (x + 1).toNatClampNeg < 4 - j
      rw [i_nat, i_inc (by omega), hx]
      omega
  · refine ⟨0, Nat.zero_le _, i_zero, fun r r1 r2 r3 r4 => mwI_rk r1, rfl, mwI_rd, fun i hi => absurd hi (Nat.not_lt_zero _)⟩
  · show 4 - 0 < 1000000
    omega
  · exact ⟨_, rfl, h⟩
theorem hall60 (s : mS) : lp big (un2 X10_hall_b60) (s, 0) = some (mwI (mwI (mwI s (160 + 0) 1 (-1)) (160 + 1) 1 (-1)) (160 + 2) 1 (-1)) := rfl
theorem hall139 (s : mS) : lp big (un2 X11_hall_b139) (s, 0) = some (mwI (mwI (mwI s 11 0 (-1)) 11 1 (-1)) 11 2 (-1)) := rfl
theorem hall48 (m : mS) {k : Nat} (hk : k ≤ 4) (h5 : m.1 0 5 = nI k) : lp big (un2 X11_hall_b48) (m, 0) = some (mrow m 6 (cpT (m.1 8) (m.1 6) 0 0 k)) := by
  have H := lp_zero (b := un2 X11_hall_b48) (n := k) (res := mrow m 6 (cpT (m.1 8) (m.1 6) 0 0 k)) (fun j y => (mrow m 6 (cpT (m.1 8) (m.1 6) 0 0 j), y)) (by omega) (fun j y hj hy => by
    have hyn : y.toNatClampNeg = j := by rw [i_nat, hy]; rfl
    have vy : vin y 4 = true := vin_iff.mpr (by omega)
    show X11_hall_b48 (mrow m 6 (cpT (m.1 8) (m.1 6) 0 0 j)) y = some (.inl (mrow m 6 (cpT (m.1 8) (m.1 6) 0 0 (j + 1)), y + 1))
    unfold X11_hall_b48
    have e4 := cpT_succ (f := m.1 8) (g := m.1 6) (s := 0) (t := 0) (j := j)
    rw [Nat.zero_add] at e4
    rw [mrow_ne (by decide : (0 : Nat) ≠ 6), h5, if_neg (nle (by rw [nI_ti (by omega), hy]; omega)), if_pos vy, if_pos vy, hyn, mwI_row, mrow_mrow, mrow_at, mrow_ne (by decide : (8 : Nat) ≠ 6), e4]) (fun y hy => by
    show X11_hall_b48 _ y = _
    unfold X11_hall_b48
    rw [mrow_ne (by decide : (0 : Nat) ≠ 6), h5, if_pos (ile (by rw [nI_ti (by omega), hy]; omega))])
  have H2 : lp big (un2 X11_hall_b48) (mrow m 6 (cpT (m.1 8) (m.1 6) 0 0 0), 0) = _ := H
  rw [cpT_zero, mrow_id] at H2
  exact H2
theorem hall76 (m : mS) : lp big (un2 X11_hall_b76) (m, 0) = some (mrow m 7 (cpT (m.1 9) (m.1 7) 0 0 24)) := by
  have H := lp_zero (b := un2 X11_hall_b76) (n := 24) (res := mrow m 7 (cpT (m.1 9) (m.1 7) 0 0 24)) (fun j y => (mrow m 7 (cpT (m.1 9) (m.1 7) 0 0 j), y)) (by omega) (fun j y hj hy => by
    have hyn : y.toNatClampNeg = j := by rw [i_nat, hy]; rfl
    have vy : vin y 24 = true := vin_iff.mpr (by omega)
    show X11_hall_b76 (mrow m 7 (cpT (m.1 9) (m.1 7) 0 0 j)) y = some (.inl (mrow m 7 (cpT (m.1 9) (m.1 7) 0 0 (j + 1)), y + 1))
    unfold X11_hall_b76
    have e4 := cpT_succ (f := m.1 9) (g := m.1 7) (s := 0) (t := 0) (j := j)
    rw [Nat.zero_add] at e4
    rw [if_neg (nle (by rw [hy]; show (j : Int) < 24; omega)), if_pos vy, if_pos vy, hyn, mwI_row, mrow_mrow, mrow_at, mrow_ne (by decide : (9 : Nat) ≠ 7), e4]) (fun y hy => by
    show X11_hall_b76 _ y = _
    unfold X11_hall_b76
    rw [if_pos (ile (by rw [hy]; show (24 : Int) ≤ 24; omega))])
  have H2 : lp big (un2 X11_hall_b76) (mrow m 7 (cpT (m.1 9) (m.1 7) 0 0 0), 0) = _ := H
  rw [cpT_zero, mrow_id] at H2
  exact H2
theorem hall102 (m : mS) : lp big (un2 X11_hall_b102) (m, 0) = some (mrow m 10 (cpT (frH 1) (m.1 10) 0 0 8)) := by
  have H := lp_zero (b := un2 X11_hall_b102) (n := 8) (res := mrow m 10 (cpT (frH 1) (m.1 10) 0 0 8)) (fun j y => (mrow m 10 (cpT (frH 1) (m.1 10) 0 0 j), y)) (by omega) (fun j y hj hy => by
    have hyn : y.toNatClampNeg = j := by rw [i_nat, hy]; rfl
    have vy : vin y 1360 = true := vin_iff.mpr (by omega)
    show X11_hall_b102 (mrow m 10 (cpT (frH 1) (m.1 10) 0 0 j)) y = some (.inl (mrow m 10 (cpT (frH 1) (m.1 10) 0 0 (j + 1)), y + 1))
    unfold X11_hall_b102
    have e4 := cpT_succ (f := frH 1) (g := m.1 10) (s := 0) (t := 0) (j := j)
    rw [Nat.zero_add] at e4
    rw [if_neg (nle (by rw [hy]; show (j : Int) < 8; omega)), if_pos vy, hyn, ← e4, mwI_row, mrow_mrow, mrow_at]
    by_cases h5 : j = 5
    · rw [if_pos (i_eq.mpr (by rw [hy, h5]; rfl)), h5]
      rfl
    · rw [if_neg (fun e => h5 (by have := i_eq.mp e; rw [hy] at this; have h9 : (j : Int) = 5 := this; omega)), if_pos vy, mwI_row, mrow_mrow, mrow_at]
      have e0 : frH 1 j = 0 := by unfold frH; rw [if_neg h5]
      rw [e0]) (fun y hy => by
    show X11_hall_b102 _ y = _
    unfold X11_hall_b102
    rw [if_pos (ile (by rw [hy]; show (8 : Int) ≤ 8; omega))])
  have H2 : lp big (un2 X11_hall_b102) (mrow m 10 (cpT (frH 1) (m.1 10) 0 0 0), 0) = _ := H
  rw [cpT_zero, mrow_id] at H2
  exact H2
