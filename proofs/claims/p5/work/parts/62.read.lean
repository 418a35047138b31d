/-! reading a text: both sides alike -/
theorem lpR {S R S' R' : Type} {b : S → Option (S ⊕ R)} {b' : S' → Option (S' ⊕ R')} (I : Nat → S → S' → Prop) {Q : R → R' → Prop} (h : ∀ n s s', I n s s' → (∃ t t' n', n' < n ∧ b s = some (.inl t) ∧ b' s' = some (.inl t') ∧ I n' t t') ∨ (∃ r r', b s = some (.inr r) ∧ b' s' = some (.inr r') ∧ Q r r')) : ∀ f n s s', I n s s' → n < f → ∃ r r', lp f b s = some r ∧ lp f b' s' = some r' ∧ Q r r'
  | 0, n, s, s', _, hf => absurd hf (Nat.not_lt_zero _)
  | f + 1, n, s, s', hI, hf => by
    rcases h n s s' hI with ⟨t, t', n', hn, e1, e2, hI'⟩ | ⟨r, r', e1, e2, hQ⟩
    · obtain ⟨r, r', g1, g2, g3⟩ := lpR I h f n' t t' hI' (by omega)
      refine ⟨r, r', ?_, ?_, g3⟩
      · unfold lp; rw [e1]; exact g1
      · unfold lp; rw [e2]; exact g2
    · refine ⟨r, r', ?_, ?_, hQ⟩
      · unfold lp; rw [e1]
      · unfold lp; rw [e2]
theorem lp_l {S R : Type} {b : S → Option (S ⊕ R)} {s t : S} {f : Nat} (e : b s = some (.inl t)) : lp (f + 1) b s = lp f b t := by
  show (match b s with | none => none | some (.inl s') => lp f b s' | some (.inr r) => some r) = _
  rw [e]
theorem lp_r {S R : Type} {b : S → Option (S ⊕ R)} {s : S} {r : R} {f : Nat} (e : b s = some (.inr r)) : lp (f + 1) b s = some r := by
  show (match b s with | none => none | some (.inl s') => lp f b s' | some (.inr r) => some r) = _
  rw [e]
theorem i_dbl {x : Int32} {p : Nat} (hx : x.toInt = (p : Int)) (hp : p < 1000) : (2 * x).toInt = ((2 * p : Nat) : Int) := by
  have e2 : (2 : Int32).toInt = 2 := by decide
  rw [i_mul (by rw [e2, hx]; omega) (by rw [e2, hx]; omega), e2, hx]
  omega
theorem kindBy_eq (σ : mS) (a : Int32) : X6_kindBy σ a = some (X11_kindOf a) := by
  by_cases h0 : a = 112
  · subst h0; rfl
  by_cases h1 : a = 119
  · subst h1; rfl
  by_cases h2 : a = 100
  · subst h2; rfl
  by_cases h3 : a = 104
  · subst h3; rfl
  by_cases h4 : a = 108
  · subst h4; rfl
  by_cases h5 : a = 115
  · subst h5; rfl
  have st : ∀ x : Int32, x = 0 ∨ x = 1 ∨ x = 2 ∨ x = 3 ∨ x = 4 ∨ x = 5 → un1 (X6_kindBy_b2 a) x = some (.inl (x + 1)) := by
    intro x hx
    show X6_kindBy_b2 a x = _
    unfold X6_kindBy_b2
    rcases hx with rfl | rfl | rfl | rfl | rfl | rfl
    · rw [if_neg (by decide), if_pos (by decide), if_neg (fun q => h0 q.symm)]
    · rw [if_neg (by decide), if_pos (by decide), if_neg (fun q => h1 q.symm)]
    · rw [if_neg (by decide), if_pos (by decide), if_neg (fun q => h2 q.symm)]
    · rw [if_neg (by decide), if_pos (by decide), if_neg (fun q => h3 q.symm)]
    · rw [if_neg (by decide), if_pos (by decide), if_neg (fun q => h4 q.symm)]
    · rw [if_neg (by decide), if_pos (by decide), if_neg (fun q => h5 q.symm)]
  have e6 : un1 (X6_kindBy_b2 a) 6 = some (.inr (.inl ())) := by
    show X6_kindBy_b2 a 6 = _
    unfold X6_kindBy_b2
    rw [if_pos (by decide)]
  unfold X6_kindBy X11_kindOf
  rw [if_neg h0, if_neg h1, if_neg h2, if_neg h3, if_neg h4, if_neg h5]
  have e : lp big (un1 (X6_kindBy_b2 a)) 0 = some (.inl ()) := by
    show lp (999999 + 1) _ _ = _
    rw [lp_l (st 0 (by decide)), show (0 : Int32) + 1 = 1 by decide]
    show lp (999998 + 1) _ _ = _
    rw [lp_l (st 1 (by decide)), show (1 : Int32) + 1 = 2 by decide]
    show lp (999997 + 1) _ _ = _
    rw [lp_l (st 2 (by decide)), show (2 : Int32) + 1 = 3 by decide]
    show lp (999996 + 1) _ _ = _
    rw [lp_l (st 3 (by decide)), show (3 : Int32) + 1 = 4 by decide]
    show lp (999995 + 1) _ _ = _
    rw [lp_l (st 4 (by decide)), show (4 : Int32) + 1 = 5 by decide]
    show lp (999994 + 1) _ _ = _
    rw [lp_l (st 5 (by decide)), show (5 : Int32) + 1 = 6 by decide]
    show lp (999993 + 1) _ _ = _
    exact lp_r e6
  rw [e]
  rfl
theorem kindOf_range (a : Int32) : X11_kindOf a = -1 ∨ ∃ r, r < 6 ∧ X11_kindOf a = nI r := by
  unfold X11_kindOf
  split
  · exact Or.inr ⟨0, by decide, rfl⟩
  split
  · exact Or.inr ⟨1, by decide, rfl⟩
  split
  · exact Or.inr ⟨2, by decide, rfl⟩
  split
  · exact Or.inr ⟨3, by decide, rfl⟩
  split
  · exact Or.inr ⟨4, by decide, rfl⟩
  split
  · exact Or.inr ⟨5, by decide, rfl⟩
  · exact Or.inl rfl
/-- the fault of a figure's place: none; the text's end, or the place -/
def dg (T : Nat → Int32) (n p : Nat) : Option Nat := if n ≤ p then some n else if T p < 48 then some p else if T p ≤ 57 then none else some p
def dg2 (T : Nat → Int32) (n p : Nat) : Option Nat := match dg T n p with | some v => some v | none => dg T n (p + 1)
theorem dg_cong {T T' : Nat → Int32} {n p : Nat} (h : ∀ i, i < n → T i = T' i) : dg T n p = dg T' n p := by
  unfold dg
  by_cases hp : n ≤ p
  · rw [if_pos hp, if_pos hp]
  · rw [if_neg hp, if_neg hp, h p (by omega)]
theorem dg2_cong {T T' : Nat → Int32} {n p : Nat} (h : ∀ i, i < n → T i = T' i) : dg2 T n p = dg2 T' n p := by
  unfold dg2
  rw [dg_cong h, dg_cong h]
theorem dgX {s : mS} {i1 n fr p q : Nat} {x3 : Int32} (hn : n ≤ 60) (hfr : fr ≤ 61) (hp : p < 6) (hx : x3.toInt = (p : Int)) (hq : q = fr + 2 * p ∨ q = fr + 2 * p + 1) : un1 (X6_readCard_b25 i1 (nI n) (nI fr) s x3) (nI q) = match dg (s.1 (40 + i1)) n q with | some v => some (.inr (.inr (.inr (.inr (nI v, s))))) | none => some (.inl (nI q + 1)) := by
  show X6_readCard_b25 i1 (nI n) (nI fr) s x3 (nI q) = _
  unfold X6_readCard_b25
  have e1 : ((nI fr + (2 * x3)) + 1).toInt = ((fr + 2 * p + 1 : Nat) : Int) := by
    have a1 : (2 * x3).toInt = ((2 * p : Nat) : Int) := i_dbl hx (by omega)
    exact i32_add (i32_add (nI_ti (by omega)) a1 (by omega)) (b := 1) (by decide) (by omega)
  rw [if_neg (fun z => by have := i_lt.mp z; rw [e1, nI_ti (by omega)] at this; omega)]
  unfold dg
  by_cases h1 : n ≤ q
  · rw [if_pos h1, if_neg (fun z => by have := i_lt.mp z; rw [nI_ti (by omega), nI_ti (by omega)] at this; omega)]
  · rw [if_neg h1, if_pos (i_lt.mpr (by rw [nI_ti (by omega), nI_ti (by omega)]; omega)), if_pos (vinI (by omega) (by decide)), nI_nat (by omega)]
    by_cases h2 : s.1 (40 + i1) q < 48
    · rw [if_pos h2, if_pos h2]
    · rw [if_neg h2, if_neg h2, if_pos (vinI (by omega) (by decide))]
      by_cases h3 : s.1 (40 + i1) q ≤ 57
      · rw [if_pos h3, if_pos h3]
      · rw [if_neg h3, if_neg h3]
theorem dgX2 {s : mS} {i1 n fr p : Nat} {x3 : Int32} (hn : n ≤ 60) (hfr : fr ≤ 61) (hp : p < 6) (hx : x3.toInt = (p : Int)) : lp big (un1 (X6_readCard_b25 i1 (nI n) (nI fr) s x3)) (nI fr + (2 * x3)) = match dg2 (s.1 (40 + i1)) n (fr + 2 * p) with | some v => some (.inr (.inr (.inr (nI v, s)))) | none => some (.inl ()) := by
  have a1 : (2 * x3).toInt = ((2 * p : Nat) : Int) := i_dbl hx (by omega)
  have e0 : nI fr + (2 * x3) = nI (fr + 2 * p) := i_nI (i32_add (nI_ti (by omega)) a1 (by omega))
  rw [e0]
  have st1 := dgX (s := s) (i1 := i1) hn hfr hp hx (q := fr + 2 * p) (Or.inl rfl)
  have st2 := dgX (s := s) (i1 := i1) hn hfr hp hx (q := fr + 2 * p + 1) (Or.inr rfl)
  unfold dg2
  show lp (999999 + 1) _ _ = _
  cases h1 : dg (s.1 (40 + i1)) n (fr + 2 * p) with
  | some v =>
    rw [h1] at st1
    rw [lp_r st1]
  | none =>
    rw [h1] at st1
    have e1 : nI (fr + 2 * p) + 1 = nI (fr + 2 * p + 1) := i_nI (i32_add (nI_ti (by omega)) (b := 1) (by decide) (by omega))
    rw [lp_l st1, e1]
    show lp (999998 + 1) _ _ = _
    cases h2 : dg (s.1 (40 + i1)) n (fr + 2 * p + 1) with
    | some v =>
      rw [h2] at st2
      rw [lp_r st2]
    | none =>
      rw [h2] at st2
      rw [lp_l st2]
      show lp (999997 + 1) _ _ = _
      refine lp_r ?_
      show X6_readCard_b25 i1 (nI n) (nI fr) s x3 _ = _
      unfold X6_readCard_b25
      have e2 : nI (fr + 2 * p + 1) + 1 = nI (fr + 2 * p + 2) := i_nI (i32_add (nI_ti (by omega)) (b := 1) (by decide) (by omega))
      rw [e0, e1, e2, if_pos (i_lt.mpr (by rw [nI_ti (by omega), nI_ti (by omega)]; omega))]
theorem dgM {m : mS} {t n fr p q : Nat} {x2 : Int32} (hn : n ≤ 60) (hfr : fr ≤ 61) (hp : p < 6) (ht : t < 4) (hx : x2.toInt = (p : Int)) (hl : m.1 4 t = nI n) (hq : q < 2) : un1 (X11_numbers_b21 (nI t) (nI fr) m x2) (nI q) = match dg (fun i => m.1 5 (60 * t + i)) n (fr + 2 * p + q) with | some v => some (.inr (.inr (.inr (.inr (nI v, m))))) | none => some (.inl (nI q + 1)) := by
  show X11_numbers_b21 (nI t) (nI fr) m x2 (nI q) = _
  unfold X11_numbers_b21
  have a1 : (2 * x2).toInt = ((2 * p : Nat) : Int) := i_dbl hx (by omega)
  have e0 : (nI fr + (2 * x2)) + nI q = nI (fr + 2 * p + q) := i_nI (i32_add (i32_add (nI_ti (by omega)) a1 (by omega)) (nI_ti (by omega)) (by omega))
  rw [if_neg (nle (by rw [nI_ti (by omega)]; show (q : Int) < 2; omega)), if_pos (vinI ht (by decide)), nI_nat (by omega), hl, e0]
  unfold dg X11_isFigure X11_lesser
  by_cases h1 : n ≤ fr + 2 * p + q
  · rw [if_pos h1, if_pos (ile (by rw [nI_ti (by omega), nI_ti (by omega)]; omega)), if_pos (vinI ht (by decide)), if_pos (ile (by rw [nI_ti (by omega), nI_ti (by omega)]; omega))]
  · have ix := i_ixn (c := 60) (cn := 60) (by decide) (nI_ti (n := t) (by omega)) (nI_ti (n := fr + 2 * p + q) (by omega)) (by omega)
    have vx : vin (((60 : Int32) * nI t) + nI (fr + 2 * p + q)) 240 = true := vin_iff.mpr (by rw [i_ix (c := 60) (cn := 60) (by decide) (nI_ti (n := t) (by omega)) (nI_ti (n := fr + 2 * p + q) (by omega)) (by omega)]; omega)
    have nl : ¬ nI n ≤ nI (fr + 2 * p + q) := nle (by rw [nI_ti (by omega), nI_ti (by omega)]; omega)
    rw [if_neg h1, if_neg nl, if_pos vx, ix, Option.bind_some, if_pos (vinI ht (by decide)), if_neg nl]
    by_cases h2 : m.1 5 (60 * t + (fr + 2 * p + q)) < 48
    · rw [if_pos h2, if_pos (in_zero.mpr (Or.inl (i_lt.mp h2)))]
    · rw [if_neg h2]
      by_cases h3 : m.1 5 (60 * t + (fr + 2 * p + q)) ≤ 57
      · rw [if_pos h3, if_neg (fun z => ?_)]
        rcases in_zero.mp z with z | z
        · exact h2 (i_lt.mpr z)
        · have := i_le.mp h3
          have e57 : (57 : Int32).toInt = 57 := by decide
          have e57' : (57 : Int64).toInt = 57 := by decide
          omega
      · rw [if_neg h3, if_pos (in_zero.mpr (Or.inr ?_))]
        have e57 : (57 : Int32).toInt = 57 := by decide
        have e57' : (57 : Int64).toInt = 57 := by decide
        have : ¬ (m.1 5 (60 * t + (fr + 2 * p + q))).toInt ≤ 57 := fun z => h3 (i_le.mpr (by rw [e57]; exact z))
        omega
theorem dgM2 {m : mS} {t n fr p : Nat} {x2 : Int32} (hn : n ≤ 60) (hfr : fr ≤ 61) (hp : p < 6) (ht : t < 4) (hx : x2.toInt = (p : Int)) (hl : m.1 4 t = nI n) : lp big (un1 (X11_numbers_b21 (nI t) (nI fr) m x2)) 0 = match dg2 (fun i => m.1 5 (60 * t + i)) n (fr + 2 * p) with | some v => some (.inr (.inr (.inr (nI v, m)))) | none => some (.inl ()) := by
  have st1 := dgM hn hfr hp ht hx hl (q := 0) (by decide)
  have st2 := dgM hn hfr hp ht hx hl (q := 1) (by decide)
  rw [Nat.add_zero] at st1
  unfold dg2
  show lp (999999 + 1) _ (nI 0) = _
  cases h1 : dg (fun i => m.1 5 (60 * t + i)) n (fr + 2 * p) with
  | some v =>
    rw [h1] at st1
    rw [lp_r st1]
  | none =>
    rw [h1] at st1
    rw [lp_l st1, show nI 0 + 1 = nI 1 by decide]
    show lp (999998 + 1) _ _ = _
    cases h2 : dg (fun i => m.1 5 (60 * t + i)) n (fr + 2 * p + 1) with
    | some v =>
      rw [h2] at st2
      rw [lp_r st2]
    | none =>
      rw [h2] at st2
      rw [lp_l st2]
      show lp (999997 + 1) _ _ = _
      refine lp_r ?_
      show X11_numbers_b21 (nI t) (nI fr) m x2 _ = _
      unfold X11_numbers_b21
      rw [if_pos (by decide)]
