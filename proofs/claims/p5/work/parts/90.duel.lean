/-! duel -/
theorem larger_j (a b : Int32) : X11_larger a b = jmax a b := by
  unfold X11_larger jmax
  by_cases q : b ≤ a
  · rw [if_pos q, if_neg (fun x => by have h1 := i_le.mp q; have h2 := i_lt.mp x; omega)]
  · rw [if_neg q, if_pos (i_lt.mpr (by have : ¬ b.toInt ≤ a.toInt := fun x => q (i_le.mpr x); omega))]
theorem lesser_j (a b : Int32) : X11_lesser a b = jmin a b := by
  unfold X11_lesser jmin
  by_cases q : b < a
  · rw [if_pos q, if_pos (i_le.mpr (by have := i_lt.mp q; omega))]
  · rw [if_neg q]
    by_cases q2 : b ≤ a
    · rw [if_pos q2]
      exact i_eq.mpr (by have h1 := i_le.mp q2; have h2 : ¬ b.toInt < a.toInt := fun x => q (i_lt.mpr x); omega)
    · rw [if_neg q2]
def bet (e : Nat) (a b : Int32) : Int32 := if e % 2 = 0 then jmax a b else jmin a b
/-- the worth of a hall to i against j -/
def wd (i j : Nat) (h : hT) : Int32 := ((bitsT (h i) - bitsT (h j)) + (if bt (h 4) i = true then 10 else 0)) - (if bt (h 4) j = true then 10 else 0)
def mv (c : cT) (i j : Nat) (z : Nat → Int32) : Nat → Nat → hT → Int32
  | 0, _, h => wd i j h
  | n + 1, e, h => (nf (h 5) 12 1).foldl (fun a x => bet e a (mv c i j z n (e + 1) (ringH c h (nI x)))) (z e)
theorem better_M {m : mS} {e : Nat} (he : e < 5) (v : Int32) : X11_better m (nI e) v = some ((), mwI m 15 e (bet e (m.1 15 e) v)) := by
  unfold X11_better bet
  have e2 : nI e - nI e / 2 * 2 = nI (e % 2) := i_rem (nI_ti (by omega)) (by decide) (by omega)
  rw [e2, if_pos (vinI he (by omega)), if_pos (vinI he (by omega)), if_pos (vinI he (by omega)), if_pos (vinI he (by omega)), nI_nat (by omega), larger_j, lesser_j]
  by_cases q : e % 2 = 0
  · rw [q, if_pos (show nI 0 = 0 from rfl), if_pos rfl]
  · rw [show e % 2 = 1 by omega, if_neg (by decide), if_neg (by decide)]
theorem worth_M {m : mS} {k i j : Nat} (hk : k ≤ 5) (hi : i < 4) (hj : j < 4) : X11_worthOf m (nI (1312 + 8 * k)) (nI i) (nI j) = some (wd i j (hS m k)) := by
  unfold X11_worthOf
  have g : ∀ q, q < 8 → m.1 10 (1312 + 8 * k + q) = hS m k q := fun q hq => by unfold hS; rw [getH_lt hq]
  have i4 : nI (1312 + 8 * k) + 4 = nI (1312 + 8 * k + 4) := nI_p _ 4 (by omega)
  rw [i4, nI_p _ i (by omega), nI_p _ j (by omega), if_pos (vinI (by omega) (by omega)), if_pos (vinI (by omega) (by omega)), nI_nat (by omega), bits_eq, Option.bind_some, if_pos (vinI (by omega) (by omega)), nI_nat (by omega), bits_eq, Option.bind_some, un1_app, nI_nat (by omega), g i (by omega), g j (by omega), g 4 (by omega), has_eq _ (by omega), has_eq _ (by omega)]
  unfold wd
  by_cases a : bt (hS m k 4) i = true <;> by_cases b : bt (hS m k 4) j = true
  · rw [if_pos a, if_pos b, if_pos a, if_pos b]; rfl
  · rw [if_pos a, if_neg b, if_pos a, if_neg b]; rfl
  · rw [if_neg a, if_pos b, if_neg a, if_pos b]; rfl
  · rw [if_neg a, if_neg b, if_neg a, if_neg b]; rfl
theorem b119 (m : mS) (x : Int32) : X11_duel_b119 m x = X11_follows_b52 m x := rfl
def z9 (e : Nat) : Int32 := if e % 2 = 0 then -999 else 999
/-- what a level's walk leaves as it was -/
def DM (μ m m' : mS) (k : Nat) : Prop := FrM μ m' ∧ (∀ j, j ≤ k → hS m' j = hS m j) ∧ (∀ j, j < k → m'.1 13 j = m.1 13 j ∧ m'.1 15 j = m.1 15 j)
def cs : Nat → Nat
  | 0 => 1
  | n + 1 => 2 + 12 * cs n
theorem FrM.row {μ m : mS} (h : FrM μ m) {k p : Nat} {v : Int32} (hk : k = 13 ∨ k = 15) : FrM μ (mwI m k p v) := ⟨fun q a1 a2 a3 a4 => by rw [mwI_rk (by omega)]; exact h.1 q a1 a2 a3 a4, fun q hq => by rw [mwI_rk (by omega)]; exact h.2.1 q hq, h.2.2⟩
theorem hS_row {m : mS} {k p j : Nat} {v : Int32} (hk : k = 13 ∨ k = 15) : hS (mwI m k p v) j = hS m j := by
  unfold hS
  rw [mwI_rk (by omega)]
theorem duel_M {σ μ : mS} {c : cT} (hG : RG σ μ c) {i j N : Nat} (hi : i < 4) (hj : j < 4) (hN : N ≤ 4) {a3 r13 : Int32} (hl : X11_lesser ((2 : Int32) * a3) r13 = nI N) : ∀ n k D d m y B, d ≤ D → k + (n + 1) = N → y + d = 12 → FrM μ m → m.1 13 k = nI y → m.1 15 k = B → ∃ T m' y', T ≤ d * cs n ∧ (∀ f, lp (f + T) (un2 (X11_duel_b98 (nI i) (nI j) a3 r13)) (m, nI k) = lp f (un2 (X11_duel_b98 (nI i) (nI j) a3 r13)) (m', nI k)) ∧ DM μ m m' k ∧ y' ≤ 12 ∧ m'.1 13 k = nI y' ∧ nf (hS m' k 5) (12 - y') (y' + 1) = [] ∧ m'.1 15 k = (nf (hS m k 5) d (y + 1)).foldl (fun a x => bet k a (mv c i j z9 n (k + 1) (ringH c (hS m k) (nI x)))) B := by
  have nl0 : 0 < N → ¬ nI N ≤ 0 := fun h => lt_nI (a := 0) (b := N) (by omega) (by omega) h
  have ng : ∀ k : Nat, k < 10 → ¬ nI k < 0 := fun k hk q => by have := i_lt.mp q; rw [nI_ti (by omega)] at this; have : (k : Int) < 0 := this; omega
  intro n
  induction n with
  | zero =>
    intro k D
    induction D with
    | zero =>
      intro d m y B hd hk hy hF h13 h15
      have d0 : d = 0 := by omega
      subst d0
      refine ⟨0, m, y, Nat.zero_le _, fun f => rfl, ⟨hF, fun _ _ => rfl, fun _ _ => ⟨rfl, rfl⟩⟩, by omega, h13, ?_, h15⟩
      rw [show 12 - y = 0 by omega]
      rfl
    | succ D ihD =>
      intro d m y B hd hk hy hF h13 h15
      obtain ⟨y1, g1, g2⟩ := nf_find (m := m) (k := k) (by omega) (12 - y) big (y + 1) (by omega) (by omega) (by show 12 - y < 1000000; omega)
      have g1' : lp big (un1 (X11_duel_b119 m (nI k))) (nI y + 1) = some (nI y1) := by rw [nI_s y (by omega)]; exact g1
      have ed : 12 - y = d := by omega
      rcases g2 with ⟨rfl, gn⟩ | ⟨y2, y3, yb, gn⟩
      · refine ⟨0, m, y, Nat.zero_le _, fun f => rfl, ⟨hF, fun _ _ => rfl, fun _ _ => ⟨rfl, rfl⟩⟩, by omega, h13, gn, ?_⟩
        rw [ed] at gn
        rw [gn]
        exact h15
      · obtain ⟨m2, d1, d2, d3, d4, d5, d6⟩ := dn_step hG hF (k := k) (y := y1) (by omega)
        have st : X11_duel_b98 (nI i) (nI j) a3 r13 m (nI k) = some (.inl (mwI m2 15 k (bet k B (wd i j (ringH c (hS m k) (nI y1)))), nI k)) := by
          unfold X11_duel_b98
          rw [if_neg (ng k (by omega)), hl, if_neg (nl0 (by omega)), if_pos (vinI (by omega) (by omega)), nI_nat (by omega), h13, g1', Option.bind_some, un1_app, un1_app, if_pos (show nI y1 ≤ 12 from ile (by rw [nI_ti (by omega)]; show (y1 : Int) ≤ 12; omega)), if_pos rfl, if_pos (vinI (by omega) (by omega))]
          rw [d1, if_pos (by rw [nI_s k (by omega)]; rw [show k + 1 = N by omega]), nI_s k (by omega), sl_eq (by omega), worth_M (by omega) hi hj, Option.bind_some, better_M (by omega), bd_some, d4, d6 15 (by decide) (by decide), h15]
        generalize hm3 : mwI m2 15 k (bet k B (wd i j (ringH c (hS m k) (nI y1)))) = m3 at st
        have F3 : FrM μ m3 := by rw [← hm3]; exact d2.row (Or.inr rfl)
        have S3 : ∀ q, q ≤ k → hS m3 q = hS m q := fun q hq => by rw [← hm3, hS_row (Or.inr rfl)]; exact d3 q (by omega) (by omega)
        have w13 : ∀ q, m3.1 13 q = upd (m.1 13) k (nI y1) q := fun q => by rw [← hm3, mwI_rk (by decide), d5]
        have r15 : m3.1 15 = upd (m.1 15) k (bet k B (wd i j (ringH c (hS m k) (nI y1)))) := by rw [← hm3, mwI_row, mrow_at, d6 15 (by decide) (by decide)]
        obtain ⟨T, m', y', t1, t2, ⟨t3, t4, t5⟩, t6, t7, t8, t9⟩ := ihD (12 - y1) m3 y1 _ (by omega) hk (by omega) F3 (by rw [w13, upd_at]) (by rw [r15, upd_at])
        refine ⟨T + 1, m', y', ?_, fun f => ?_, ⟨t3, fun q hq => by rw [t4 q hq, S3 q hq], fun q hq => ?_⟩, t6, t7, t8, ?_⟩
        · have : (12 - y1 + 1) * cs 0 ≤ d * cs 0 := Nat.mul_le_mul_right _ (by omega)
          rw [Nat.add_mul] at this
          have : cs 0 = 1 := rfl
          omega
        · rw [← Nat.add_assoc]
          exact (lp_l st).trans (t2 f)
        · rw [(t5 q hq).1, (t5 q hq).2, w13, r15, upd_ne (by omega), upd_ne (by omega)]
          exact ⟨rfl, rfl⟩
        · rw [t9, S3 k (Nat.le_refl _), ← ed, gn, List.foldl_cons]
          rfl
  | succ n ih =>
    intro k D
    induction D with
    | zero =>
      intro d m y B hd hk hy hF h13 h15
      have d0 : d = 0 := by omega
      subst d0
      refine ⟨0, m, y, Nat.zero_le _, fun f => rfl, ⟨hF, fun _ _ => rfl, fun _ _ => ⟨rfl, rfl⟩⟩, by omega, h13, ?_, h15⟩
      rw [show 12 - y = 0 by omega]
      rfl
    | succ D ihD =>
      intro d m y B hd hk hy hF h13 h15
      obtain ⟨y1, g1, g2⟩ := nf_find (m := m) (k := k) (by omega) (12 - y) big (y + 1) (by omega) (by omega) (by show 12 - y < 1000000; omega)
      have g1' : lp big (un1 (X11_duel_b119 m (nI k))) (nI y + 1) = some (nI y1) := by rw [nI_s y (by omega)]; exact g1
      have ed : 12 - y = d := by omega
      rcases g2 with ⟨rfl, gn⟩ | ⟨y2, y3, yb, gn⟩
      · refine ⟨0, m, y, Nat.zero_le _, fun f => rfl, ⟨hF, fun _ _ => rfl, fun _ _ => ⟨rfl, rfl⟩⟩, by omega, h13, gn, ?_⟩
        rw [ed] at gn
        rw [gn]
        exact h15
      · obtain ⟨m2, d1, d2, d3, d4, d5, d6⟩ := dn_step hG hF (k := k) (y := y1) (by omega)
        have st : X11_duel_b98 (nI i) (nI j) a3 r13 m (nI k) = some (.inl (mwI (mwI m2 13 (k + 1) 0) 15 (k + 1) (z9 (k + 1)), nI (k + 1))) := by
          unfold X11_duel_b98
          rw [if_neg (ng k (by omega)), hl, if_neg (nl0 (by omega)), if_pos (vinI (by omega) (by omega)), nI_nat (by omega), h13, g1', Option.bind_some, un1_app, un1_app, if_pos (show nI y1 ≤ 12 from ile (by rw [nI_ti (by omega)]; show (y1 : Int) ≤ 12; omega)), if_pos rfl, if_pos (vinI (by omega) (by omega))]
          have e2 : nI (k + 1) - nI (k + 1) / 2 * 2 = nI ((k + 1) % 2) := i_rem (nI_ti (by omega)) (by decide) (by omega)
          have v5 : vin (nI (k + 1)) 5 = true := vinI (by omega) (by omega)
          rw [d1, nI_s k (by omega), if_neg (fun q => by have := (eqL (by omega) (by omega)).mp q; omega), if_pos v5, e2, nI_nat (by omega), if_pos v5, if_pos v5]
          unfold z9
          by_cases q : (k + 1) % 2 = 0
          · rw [q, if_pos (show nI 0 = 0 from rfl), if_pos rfl]
          · rw [show (k + 1) % 2 = 1 by omega, if_neg (show ¬ nI 1 = 0 by decide), if_neg (by decide)]
        generalize hm3 : mwI (mwI m2 13 (k + 1) 0) 15 (k + 1) (z9 (k + 1)) = m3 at st
        have F3 : FrM μ m3 := by rw [← hm3]; exact (d2.row (Or.inl rfl)).row (Or.inr rfl)
        have hS3 : ∀ q, hS m3 q = hS m2 q := fun q => by rw [← hm3, hS_row (Or.inr rfl), hS_row (Or.inl rfl)]
        have w13 : m3.1 13 = upd (upd (m.1 13) k (nI y1)) (k + 1) 0 := by rw [← hm3, mwI_rk (by decide), mwI_row, mrow_at, d5]
        have r15 : m3.1 15 = upd (m.1 15) (k + 1) (z9 (k + 1)) := by rw [← hm3, mwI_row, mrow_at, mwI_rk (by decide), d6 15 (by decide) (by decide)]
        obtain ⟨T1, m4, y4, t1, t2, ⟨t3, t4, t5⟩, t6, t7, t8, t9⟩ := ih (k + 1) 12 12 m3 0 (z9 (k + 1)) (Nat.le_refl _) (by omega) (by omega) F3 (by rw [w13, upd_at]; rfl) (by rw [r15, upd_at])
        have v4 : m4.1 15 (k + 1) = mv c i j z9 (n + 1) (k + 1) (ringH c (hS m k) (nI y1)) := by
          rw [t9, hS3, d4]
          rfl
        have b4 : m4.1 15 k = B := by rw [(t5 k (by omega)).2, r15, upd_ne (by omega), h15]
        obtain ⟨y5, g5, g6⟩ := nf_find (m := m4) (k := k + 1) (by omega) (12 - y4) big (y4 + 1) (by omega) (by omega) (by show 12 - y4 < 1000000; omega)
        have y13 : y5 = 13 := by
          rcases g6 with ⟨q, -⟩ | ⟨-, -, -, q⟩
          · exact q
          · rw [t8] at q
            exact absurd q (by simp)
        subst y13
        have g5' : lp big (un1 (X11_duel_b119 m4 (nI (k + 1)))) (nI y4 + 1) = some (nI 13) := by rw [nI_s y4 (by omega)]; exact g5
        have st2 : X11_duel_b98 (nI i) (nI j) a3 r13 m4 (nI (k + 1)) = some (.inl (mwI m4 15 k (bet k B (mv c i j z9 (n + 1) (k + 1) (ringH c (hS m k) (nI y1)))), nI k)) := by
          have ek : nI (k + 1) - 1 = nI k := kmI_s (by omega)
          have ek2 : nI (k + 1) + (-1) = nI k := by rw [← ek]; exact (Int32.sub_eq_add_neg _ _).symm
          unfold X11_duel_b98
          rw [if_neg (ng (k + 1) (by omega)), hl, if_neg (nl0 (by omega)), if_pos (vinI (by omega) (by omega)), nI_nat (by omega), t7, g5', Option.bind_some, un1_app, un1_app, if_neg (show ¬ nI 13 ≤ 12 by decide), if_neg (by decide), if_neg (show ¬ nI (k + 1) ≤ 0 from lt_nI (a := 0) (b := k + 1) (by omega) (by omega) (by omega)), if_pos (vinI (by omega) (by omega)), ek, better_M (by omega), bd_some, b4, v4, ek2]
        generalize hm5 : mwI m4 15 k (bet k B (mv c i j z9 (n + 1) (k + 1) (ringH c (hS m k) (nI y1)))) = m5 at st2
        have F5 : FrM μ m5 := by rw [← hm5]; exact t3.row (Or.inr rfl)
        have S5 : ∀ q, q ≤ k → hS m5 q = hS m q := fun q hq => by rw [← hm5, hS_row (Or.inr rfl), t4 q (by omega), hS3, d3 q (by omega) (by omega)]
        have q13 : ∀ q, q ≤ k → m5.1 13 q = upd (m.1 13) k (nI y1) q := fun q hq => by rw [← hm5, mwI_rk (by decide), (t5 q (by omega)).1, w13, upd_ne (by omega)]
        have q15 : ∀ q, q ≤ k → m5.1 15 q = if q = k then bet k B (mv c i j z9 (n + 1) (k + 1) (ringH c (hS m k) (nI y1))) else m.1 15 q := fun q hq => by
          rw [← hm5, mwI_row, mrow_at]
          by_cases e : q = k
          · subst e
            rw [upd_at, if_pos rfl]
          · rw [upd_ne e, if_neg e, (t5 q (by omega)).2, r15, upd_ne (by omega)]
        obtain ⟨T, m', y', u1, u2, ⟨u3, u4, u5⟩, u6, u7, u8, u9⟩ := ihD (12 - y1) m5 y1 _ (by omega) hk (by omega) F5 (by rw [q13 k (Nat.le_refl _), upd_at]) (by rw [q15 k (Nat.le_refl _), if_pos rfl])
        refine ⟨T + 1 + T1 + 1, m', y', ?_, fun f => ?_, ⟨u3, fun q hq => by rw [u4 q hq, S5 q hq], fun q hq => ?_⟩, u6, u7, u8, ?_⟩
        · have h1 : (12 - y1 + 1) * cs (n + 1) ≤ d * cs (n + 1) := Nat.mul_le_mul_right _ (by omega)
          rw [Nat.add_mul] at h1
          have h2 : cs (n + 1) = 2 + 12 * cs n := rfl
          omega
        · rw [show f + (T + 1 + T1 + 1) = (f + T + 1 + T1) + 1 by omega]
          refine (lp_l st).trans ((t2 (f + T + 1)).trans ((lp_l st2).trans (u2 f)))
        · rw [(u5 q hq).1, (u5 q hq).2, q13 q (by omega), q15 q (by omega), upd_ne (by omega), if_neg (by omega)]
          exact ⟨rfl, rfl⟩
        · rw [u9, S5 k (Nat.le_refl _), ← ed, gn, List.foldl_cons]
