/-! a card read -/
def onB (f : Nat → Int32) (b : Nat) (num : Int32) : Nat → Bool
  | 0 => false
  | p + 1 => onB f b num p || decide (f (b + p) = num)
theorem onB_iff {f : Nat → Int32} {b : Nat} {num : Int32} : ∀ {p : Nat}, onB f b num p = true ↔ ∃ q, q < p ∧ f (b + q) = num
  | 0 => by
    constructor
    · intro h; cases h
    · rintro ⟨q, h, -⟩; exact absurd h (Nat.not_lt_zero _)
  | p + 1 => by
    show (onB f b num p || decide (f (b + p) = num)) = true ↔ _
    rw [Bool.or_eq_true, onB_iff, decide_eq_true_iff]
    constructor
    · rintro (⟨q, h1, h2⟩ | h)
      · exact ⟨q, by omega, h2⟩
      · exact ⟨p, by omega, h⟩
    · rintro ⟨q, h1, h2⟩
      by_cases e : q = p
      · subst e; exact Or.inr h2
      · exact Or.inl ⟨q, by omega, h2⟩
theorem isOn_eq (m : mS) {k p : Nat} {a2 : Int32} (hk : k < 4) (hp : p ≤ 6) (ha : a2.toInt = (p : Int)) (num : Int32) : X11_isOn m (nI k) a2 num = some (if onB (m.1 9) (6 * k) num p = true then 1 else 0) := by
  unfold X11_isOn
  have H := lp_zero (b := un2 (X11_isOn_b6 m (nI k) a2 num)) (n := p) (res := if onB (m.1 9) (6 * k) num p = true then (1 : Int32) else 0) (fun j x => (if onB (m.1 9) (6 * k) num j = true then (1 : Int32) else 0, x)) (by omega) (fun j x hj hx => by
    show X11_isOn_b6 m (nI k) a2 num (if onB (m.1 9) (6 * k) num j = true then (1 : Int32) else 0) x = some (.inl (if (onB (m.1 9) (6 * k) num j || decide (m.1 9 (6 * k + j) = num)) = true then (1 : Int32) else 0, x + 1))
    unfold X11_isOn_b6
    have e1 := i_ix (c := 6) (cn := 6) (by decide) (nI_ti (n := k) (by omega)) hx (by omega)
    have e2 := i_ixn (c := 6) (cn := 6) (by decide) (nI_ti (n := k) (by omega)) hx (by omega)
    rw [if_neg (nle (by rw [ha, hx]; omega)), if_pos (vin_iff.mpr (by rw [e1]; omega) : vin (((6 : Int32) * nI k) + x) 24 = true), e2]
    cases onB (m.1 9) (6 * k) num j with
    | true => rfl
    | false =>
      by_cases h : m.1 9 (6 * k + j) = num
      · rw [if_pos h]; simp [h]
      · rw [if_neg h]; simp [h]) (fun x hx => by
    show X11_isOn_b6 m (nI k) a2 num _ x = _
    unfold X11_isOn_b6
    rw [if_pos (ile (by rw [ha, hx]; omega))])
  have H2 : lp big (un2 (X11_isOn_b6 m (nI k) a2 num)) (0, 0) = _ := H
  rw [H2, Option.bind_some]
  show (if (if onB (m.1 9) (6 * k) num p = true then (1 : Int32) else 0) = 0 ∨ (if onB (m.1 9) (6 * k) num p = true then (1 : Int32) else 0) = 1 then _ else none) = _
  rw [if_pos]
  cases onB (m.1 9) (6 * k) num p
  · exact Or.inl rfl
  · exact Or.inr rfl
/-- p places of card k, alike on both sides, in order -/
def CP (s m : mS) (k p : Nat) : Prop := (∀ q, q < p → s.1 (80 + k) q = m.1 9 (6 * k + q) ∧ ∃ n, 1 ≤ n ∧ n ≤ 12 ∧ m.1 9 (6 * k + q) = nI n) ∧ ∀ q q', q < p → q' < p → m.1 9 (6 * k + q) = m.1 9 (6 * k + q') → q = q'
/-- what a card's reading leaves -/
def FrC (s0 m0 s m : mS) (k : Nat) : Prop := (∀ q, q ≠ 80 + k → s.1 q = s0.1 q) ∧ s.2 = s0.2 ∧ (∀ q, q ≠ 9 → m.1 q = m0.1 q) ∧ (∀ i, i < 6 * k → m.1 9 i = m0.1 9 i) ∧ m.2 = m0.2
theorem dg2_none {T : Nat → Int32} {n p : Nat} (h : dg2 T n p = none) : p + 1 < n := by
  unfold dg2 dg at h
  by_cases h1 : n ≤ p
  · rw [if_pos h1] at h; cases h
  · rw [if_neg h1] at h
    by_cases h2 : T p < 48
    · rw [if_pos h2] at h; cases h
    · rw [if_neg h2] at h
      by_cases h3 : T p ≤ 57
      · rw [if_pos h3] at h
        dsimp only at h
        by_cases h4 : n ≤ p + 1
        · rw [if_pos h4] at h; cases h
        · omega
      · rw [if_neg h3] at h; cases h
theorem dg_le {T : Nat → Int32} {n p v : Nat} (h : dg T n p = some v) : v ≤ n := by
  unfold dg at h
  by_cases h1 : n ≤ p
  · rw [if_pos h1] at h; cases h; omega
  · rw [if_neg h1] at h
    by_cases h2 : T p < 48
    · rw [if_pos h2] at h; cases h; omega
    · rw [if_neg h2] at h
      by_cases h3 : T p ≤ 57
      · rw [if_pos h3] at h; cases h
      · rw [if_neg h3] at h; cases h; omega
theorem dg2_le {T : Nat → Int32} {n p v : Nat} (h : dg2 T n p = some v) : v ≤ n := by
  unfold dg2 at h
  cases h1 : dg T n p with
  | some w => rw [h1] at h; cases h; exact dg_le h1
  | none => rw [h1] at h; exact dg_le h
/-- the number that two figures tell -/
def nm2 (T : Nat → Int32) (q : Nat) : Int32 := ((((T q) - 48) * 10) + (T (q + 1))) - 48
theorem card_sim {s0 m0 : mS} {t n fr k : Nat} (hn : n ≤ 60) (hfr : fr ≤ 60) (ht : t < 4) (hk : k < 4) (hs : s0.1 56 2 = nI k) (hl : m0.1 4 t = nI n) (hT : ∀ i, i < n → m0.1 5 (60 * t + i) = s0.1 (40 + t) i) : ∃ v s m, X6_readCard s0 t (nI n) (nI fr) = some (v, s) ∧ X11_numbers m0 (nI t) (nI k) (nI fr) = some (v, m) ∧ FrC s0 m0 s m k ∧ ((∃ u, u ≤ 60 ∧ v = nI u) ∨ (v = -9 ∧ CP s m k 6 ∧ fr + 12 ≤ n)) := by
  have key := lpR (b := un3 (X6_readCard_b6 t (nI n) (nI fr))) (b' := un2 (X11_numbers_b3 (nI t) (nI k) (nI fr)))
    (I := fun d q q' => ∃ p, p + d = 6 ∧ q.2.2.toInt = (p : Int) ∧ q'.2.toInt = (p : Int) ∧ FrC s0 m0 q.1 q'.1 k ∧ CP q.1 q'.1 k p ∧ (∀ v, 1 ≤ v → v ≤ 12 → bt q.2.1 v = onB (q'.1.1 9) (6 * k) (nI v) p) ∧ (p = 0 ∨ fr + 2 * p ≤ n))
    (Q := fun r r' => (∃ s m, r = .inl s ∧ r' = .inl m ∧ FrC s0 m0 s m k ∧ CP s m k 6 ∧ fr + 12 ≤ n) ∨ (∃ v s m, r = .inr (nI v, s) ∧ r' = .inr (nI v, m) ∧ v ≤ 60 ∧ FrC s0 m0 s m k)) ?_ big 6 (s0, 0, 0) (m0, 0) ?_ (by decide)
  · obtain ⟨r, r', e1, e2, hQ⟩ := key
    unfold X6_readCard X11_numbers
    rw [e1, e2, Option.bind_some, Option.bind_some]
    rcases hQ with ⟨s, m, rfl, rfl, hF, hC, hf⟩ | ⟨v, s, m, rfl, rfl, hv, hF⟩
    · exact ⟨-9, s, m, rfl, rfl, hF, Or.inr ⟨rfl, hC, hf⟩⟩
    · exact ⟨nI v, s, m, rfl, rfl, hF, Or.inl ⟨v, hv, rfl⟩⟩
  · intro d q q' hI
    obtain ⟨s1, x2, x3⟩ := q
    obtain ⟨m1, y⟩ := q'
    obtain ⟨p, hpd, hx, hy, hF, hC, hseen, hpos⟩ := hI
    dsimp only at hx hy hF hC hseen
    show (∃ t1 t1' n', n' < d ∧ X6_readCard_b6 t (nI n) (nI fr) s1 x2 x3 = _ ∧ X11_numbers_b3 (nI t) (nI k) (nI fr) m1 y = _ ∧ _) ∨ (∃ r r', X6_readCard_b6 t (nI n) (nI fr) s1 x2 x3 = _ ∧ X11_numbers_b3 (nI t) (nI k) (nI fr) m1 y = _ ∧ _)
    unfold X6_readCard_b6 X11_numbers_b3
    by_cases h6 : 6 ≤ p
    · right
      rw [if_pos (ile (by rw [hx]; show (6 : Int) ≤ p; omega)), if_pos (ile (by rw [hy]; show (6 : Int) ≤ p; omega))]
      exact ⟨_, _, rfl, rfl, Or.inl ⟨s1, m1, rfl, rfl, hF, by rw [show 6 = p by omega]; exact hC, by omega⟩⟩
    have r40 : s1.1 (40 + t) = s0.1 (40 + t) := hF.1 _ (by omega)
    have r56 : s1.1 56 2 = nI k := by rw [hF.1 56 (by omega)]; exact hs
    have l4 : m1.1 4 t = nI n := by rw [hF.2.2.1 4 (by decide)]; exact hl
    have m5 : m1.1 5 = m0.1 5 := hF.2.2.1 5 (by decide)
    rw [if_neg (nle (by rw [hx]; show (p : Int) < 6; omega)), if_neg (nle (by rw [hy]; show (p : Int) < 6; omega)), dgX2 hn (by omega) (by omega) hx, dgM2 hn (by omega) (by omega) ht hy l4, r40, m5, dg2_cong (T := fun i => m0.1 5 (60 * t + i)) (T' := s0.1 (40 + t)) hT]
    cases hd : dg2 (s0.1 (40 + t)) n (fr + 2 * p) with
    | some v =>
      right
      have hv := dg2_le hd
      exact ⟨_, _, rfl, rfl, Or.inr ⟨v, s1, m1, rfl, rfl, by omega, hF⟩⟩
    | none =>
      have hlt := dg2_none hd
      dsimp only
      rw [Option.bind_some, Option.bind_some]
      have a1 : (nI fr + (2 * x3)).toInt = ((fr + 2 * p : Nat) : Int) := i32_add (nI_ti (by omega)) (i_dbl hx (by omega)) (by omega)
      have a2 : (nI fr + (2 * y)).toInt = ((fr + 2 * p : Nat) : Int) := i32_add (nI_ti (by omega)) (i_dbl hy (by omega)) (by omega)
      have b1 : ((nI fr + (2 * x3)) + 1).toInt = ((fr + 2 * p + 1 : Nat) : Int) := i32_add a1 (b := 1) (by decide) (by omega)
      have c1 := i_ix (c := 60) (cn := 60) (by decide) (nI_ti (n := t) (by omega)) a2 (by omega)
      have c2 : ((((60 : Int32) * nI t) + (nI fr + (2 * y))) + 1).toInt = ((60 * t + (fr + 2 * p) + 1 : Nat) : Int) := i32_add c1 (b := 1) (by decide) (by omega)
      have n1 : (nI fr + (2 * x3)).toNatClampNeg = fr + 2 * p := by rw [i_nat, a1]; rfl
      have n2 : ((nI fr + (2 * x3)) + 1).toNatClampNeg = fr + 2 * p + 1 := by rw [i_nat, b1]; rfl
      have n3 : (((60 : Int32) * nI t) + (nI fr + (2 * y))).toNatClampNeg = 60 * t + (fr + 2 * p) := by rw [i_nat, c1]; rfl
      have n4 : ((((60 : Int32) * nI t) + (nI fr + (2 * y))) + 1).toNatClampNeg = 60 * t + (fr + 2 * p + 1) := by rw [i_nat, c2]; rfl
      show (∃ t1 t1' n', n' < d ∧ (if vin (nI fr + (2 * x3)) 60 = true then _ else none) = _ ∧ (if vin (((60 : Int32) * nI t) + (nI fr + (2 * y))) 240 = true then _ else none) = _ ∧ _) ∨ (∃ r r', (if vin (nI fr + (2 * x3)) 60 = true then _ else none) = _ ∧ (if vin (((60 : Int32) * nI t) + (nI fr + (2 * y))) 240 = true then _ else none) = _ ∧ _)
      rw [if_pos (vin_iff.mpr (by rw [a1]; omega) : vin (nI fr + (2 * x3)) 60 = true), if_pos (vin_iff.mpr (by rw [b1]; omega) : vin ((nI fr + (2 * x3)) + 1) 60 = true), if_pos (vin_iff.mpr (by rw [c1]; omega) : vin (((60 : Int32) * nI t) + (nI fr + (2 * y))) 240 = true), if_pos (vin_iff.mpr (by rw [c2]; omega) : vin ((((60 : Int32) * nI t) + (nI fr + (2 * y))) + 1) 240 = true), n1, n2, n3, n4, hT (fr + 2 * p) (by omega), hT (fr + 2 * p + 1) (by omega)]
      rw [show ((10 : Int32) * (s0.1 (40 + t) (fr + 2 * p) - 48)) = ((s0.1 (40 + t) (fr + 2 * p) - 48) * 10) from Int32.mul_comm _ _]
      rw [show ((((s0.1 (40 + t) (fr + 2 * p)) - 48) * 10) + (s0.1 (40 + t) (fr + 2 * p + 1))) - 48 = nm2 (s0.1 (40 + t)) (fr + 2 * p) from rfl]
      generalize nm2 (s0.1 (40 + t)) (fr + 2 * p) = N
      have eX : nI fr + (2 * x3) = nI (fr + 2 * p) := i_nI a1
      have eM : nI fr + (2 * y) = nI (fr + 2 * p) := i_nI a2
      rw [eX, eM]
      by_cases o1 : N < 1
      · right
        have z1 : X11_in N.toInt64 1 12 = 0 := in_zero.mpr (Or.inl (show N.toInt < 1 from i_lt.mp o1))
        rw [if_pos o1, if_pos z1]
        exact ⟨_, _, rfl, rfl, Or.inr ⟨fr + 2 * p, s1, m1, rfl, rfl, by omega, hF⟩⟩
      by_cases o2 : 12 < N
      · right
        have z1 : X11_in N.toInt64 1 12 = 0 := in_zero.mpr (Or.inr (show 12 < N.toInt from i_lt.mp o2))
        rw [if_neg o1, if_pos o2, if_pos z1]
        exact ⟨_, _, rfl, rfl, Or.inr ⟨fr + 2 * p, s1, m1, rfl, rfl, by omega, hF⟩⟩
      have e12 : (12 : Int32).toInt = 12 := by decide
      have o1' : ¬ N.toInt < 1 := fun z => o1 (i_lt.mpr (by rw [i_one]; exact z))
      have o2' : ¬ 12 < N.toInt := fun z => o2 (i_lt.mpr (by rw [e12]; exact z))
      obtain ⟨w, hw, rfl⟩ := i_ex (a := N) (m := 13) (by omega) (by omega)
      rw [nI_ti (by omega)] at o1' o2'
      have inY : ¬ X11_in (nI w).toInt64 1 12 = 0 := fun z => by
        rcases in_zero.mp z with z | z
        · have z' : (nI w).toInt < 1 := z
          rw [nI_ti (by omega)] at z'
          omega
        · have z' : 12 < (nI w).toInt := z
          rw [nI_ti (by omega)] at z'
          omega
      rw [if_neg o1, if_neg o2, if_neg inY, isOn_eq m1 hk (by omega) hy, bit_eq x2 (by omega), hseen w (by omega) (by omega), Option.bind_some]
      cases ho : onB (m1.1 9) (6 * k) (nI w) p with
      | true =>
        right
        exact ⟨_, _, rfl, rfl, Or.inr ⟨fr + 2 * p, s1, m1, rfl, rfl, by omega, hF⟩⟩
      | false =>
        left
        have f1 := i_ix (c := 6) (cn := 6) (by decide) (nI_ti (n := k) (by omega)) hy (by omega)
        have f2 := i_ixn (c := 6) (cn := 6) (by decide) (nI_ti (n := k) (by omega)) hy (by omega)
        have hxn : x3.toNatClampNeg = p := by rw [i_nat, hx]; rfl
        show ∃ t1 t1' n', n' < d ∧ (if vin (s1.1 56 2) 4 = true then if vin x3 6 = true then _ else none else none) = _ ∧ (if vin (((6 : Int32) * nI k) + y) 24 = true then _ else none) = _ ∧ _
        rw [r56, if_pos (vinI hk (by decide)), if_pos (vin_iff.mpr (by omega) : vin x3 6 = true), if_pos (vin_iff.mpr (by rw [f1]; omega) : vin (((6 : Int32) * nI k) + y) 24 = true), f2, hxn, nI_nat (by omega)]
        have hnew : ∀ q, q < p → ¬ m1.1 9 (6 * k + q) = nI w := fun q hq e => by
          have := onB_iff.mpr ⟨q, hq, e⟩
          rw [ho] at this
          cases this
        refine ⟨_, _, d - 1, by omega, rfl, rfl, p + 1, by omega, ?_, ?_, ⟨fun q hq => ?_, hF.2.1, fun q hq => ?_, fun i hi => ?_, hF.2.2.2.2⟩, ⟨fun q hq => ?_, fun q q' hq hq' e => ?_⟩, fun v v1 v2 => ?_, Or.inr (by omega)⟩
        · show (x3 + 1).toInt = _
          rw [i_inc (by omega), hx]; rfl
        · show (y + 1).toInt = _
          rw [i_inc (by omega), hy]; rfl
        · show (mwI s1 (80 + k) p (nI w)).1 q = _
          rw [mwI_rk hq]
          exact hF.1 q hq
        · show (mwI m1 9 (6 * k + p) (nI w)).1 q = _
          rw [mwI_rk hq]
          exact hF.2.2.1 q hq
        · show (mwI m1 9 (6 * k + p) (nI w)).1 9 i = _
          rw [mwI_row, mrow_at, upd_ne (by omega)]
          exact hF.2.2.2.1 i hi
        · show (mwI s1 (80 + k) p (nI w)).1 (80 + k) q = (mwI m1 9 (6 * k + p) (nI w)).1 9 (6 * k + q) ∧ ∃ n, 1 ≤ n ∧ n ≤ 12 ∧ (mwI m1 9 (6 * k + p) (nI w)).1 9 (6 * k + q) = nI n
          rw [mwI_row, mwI_row, mrow_at, mrow_at]
          by_cases e : q = p
          · subst e
            rw [upd_at, upd_at]
            exact ⟨rfl, w, by omega, by omega, rfl⟩
          · rw [upd_ne e, upd_ne (by omega)]
            exact hC.1 q (by omega)
        · have e' : upd (m1.1 9) (6 * k + p) (nI w) (6 * k + q) = upd (m1.1 9) (6 * k + p) (nI w) (6 * k + q') := by
            have e2 : (mwI m1 9 (6 * k + p) (nI w)).1 9 (6 * k + q) = (mwI m1 9 (6 * k + p) (nI w)).1 9 (6 * k + q') := e
            rw [mwI_row, mrow_at] at e2
            exact e2
          by_cases h1 : q = p
          · by_cases h2 : q' = p
            · omega
            · subst h1
              rw [upd_at, upd_ne (by omega)] at e'
              exact absurd e'.symm (hnew q' (by omega))
          · by_cases h2 : q' = p
            · subst h2
              rw [upd_at, upd_ne (by omega)] at e'
              exact absurd e' (hnew q (by omega))
            · rw [upd_ne (by omega), upd_ne (by omega)] at e'
              exact hC.2 q q' (by omega) (by omega) e'
        · show bt (x2 ||| ((1 : Int32) <<< (nI w &&& 31))) v = (onB ((mwI m1 9 (6 * k + p) (nI w)).1 9) (6 * k) (nI v) p || decide ((mwI m1 9 (6 * k + p) (nI w)).1 9 (6 * k + p) = nI v))
          rw [mwI_row, mrow_at, upd_at, b_or, shl_bt (by omega) (by omega), hseen v v1 v2]
          have c1 : onB (upd (m1.1 9) (6 * k + p) (nI w)) (6 * k) (nI v) p = onB (m1.1 9) (6 * k) (nI v) p := by
            have aux : ∀ z, z ≤ p → onB (upd (m1.1 9) (6 * k + p) (nI w)) (6 * k) (nI v) z = onB (m1.1 9) (6 * k) (nI v) z := by
              intro z
              induction z with
              | zero => intro _; rfl
              | succ z ih =>
                intro hz
                show (onB _ _ _ z || decide (upd (m1.1 9) (6 * k + p) (nI w) (6 * k + z) = nI v)) = (onB _ _ _ z || decide (m1.1 9 (6 * k + z) = nI v))
                rw [ih (by omega), upd_ne (by omega)]
            exact aux p (Nat.le_refl p)
          rw [c1]
          congr 1
          by_cases hvw : v = w
          · subst hvw; rw [decide_eq_true rfl, decide_eq_true rfl]
          · rw [decide_eq_false hvw, decide_eq_false (fun z => hvw ?_)]
            have z2 := i_eq.mp z
            rw [nI_ti (by omega), nI_ti (by omega)] at z2
            omega
  · exact ⟨0, rfl, i_zero, i_zero, ⟨fun _ _ => rfl, rfl, fun _ _ => rfl, fun _ _ => rfl, rfl⟩, ⟨fun q hq => absurd hq (Nat.not_lt_zero _), fun q q' hq _ _ => absurd hq (Nat.not_lt_zero _)⟩, fun v _ _ => b_0 v, Or.inl rfl⟩
