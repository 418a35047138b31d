/-! walking the numbers ahead: the reference's path -/
def hS (m : mS) (j : Nat) : hT := getH (m.1 10) (1312 + 8 * j)
def nf (b : Int32) : Nat → Nat → List Nat
  | 0, _ => []
  | d + 1, x => if bt b x = true then x :: nf b d (x + 1) else nf b d (x + 1)
theorem sl_eq {k : Nat} (h : k ≤ 5) : (1312 : Int32) + nI k * 8 = nI (1312 + 8 * k) := by
  have e8 : nI k * 8 = nI (8 * k) := i_nI (by
    rw [i_mul (by rw [nI_ti (by omega)]; show _ ≤ (k : Int) * 8; omega) (by rw [nI_ti (by omega)]; show (k : Int) * 8 < _; omega), nI_ti (by omega)]
    show (k : Int) * 8 = _
    omega)
  rw [e8]
  exact nI_p 1312 (8 * k) (by omega)
theorem nf_find {m : mS} {k : Nat} (hk : k ≤ 4) : ∀ d f x, x + d = 13 → 1 ≤ x → d < f → ∃ y, lp f (un1 (X11_follows_b52 m (nI k))) (nI x) = some (nI y) ∧ ((y = 13 ∧ nf (hS m k 5) d x = []) ∨ (x ≤ y ∧ y ≤ 12 ∧ bt (hS m k 5) y = true ∧ nf (hS m k 5) d x = y :: nf (hS m k 5) (12 - y) (y + 1))) := by
  have bag : m.1 10 (1312 + 8 * k + 5) = hS m k 5 := by
    unfold hS
    rw [getH_lt (by omega)]
  have st : ∀ x, x < 13 → 1 ≤ x → X11_follows_b52 m (nI k) (nI x) = if bt (hS m k 5) x = true then some (.inr (nI x)) else some (.inl (nI (x + 1))) := by
    intro x hx x1
    unfold X11_follows_b52
    have ix : ((1312 : Int32) + nI k * 8) + 5 = nI (1312 + 8 * k + 5) := by rw [sl_eq (by omega)]; exact nI_p _ 5 (by omega)
    rw [if_neg (show ¬ (13 : Int32) ≤ nI x from lt_nI (a := x) (b := 13) (by omega) (by omega) hx), ix, if_pos (vinI (by omega) (by omega)), nI_nat (by omega), bag, has_eq _ (by omega), nI_s x (by omega)]
    by_cases q : bt (hS m k 5) x = true
    · rw [if_pos q, if_pos q, if_neg (by decide)]
    · rw [if_neg q, if_neg q, if_pos rfl]
  intro d
  induction d with
  | zero =>
    intro f x hx x1 hf
    obtain ⟨f, rfl⟩ : ∃ g, f = g + 1 := ⟨f - 1, by omega⟩
    have e : x = 13 := by omega
    subst e
    exact ⟨13, lp_r rfl, Or.inl ⟨rfl, rfl⟩⟩
  | succ d ih =>
    intro f x hx x1 hf
    obtain ⟨f, rfl⟩ : ∃ g, f = g + 1 := ⟨f - 1, by omega⟩
    have s := st x (by omega) x1
    show ∃ y, _ ∧ ((y = 13 ∧ (if bt (hS m k 5) x = true then x :: nf (hS m k 5) d (x + 1) else nf (hS m k 5) d (x + 1)) = []) ∨ (x ≤ y ∧ y ≤ 12 ∧ bt (hS m k 5) y = true ∧ (if bt (hS m k 5) x = true then x :: nf (hS m k 5) d (x + 1) else nf (hS m k 5) d (x + 1)) = _))
    by_cases q : bt (hS m k 5) x = true
    · rw [if_pos q] at s
      refine ⟨x, lp_r s, Or.inr ⟨Nat.le_refl _, by omega, q, ?_⟩⟩
      rw [if_pos q, show d = 12 - x by omega]
    · rw [if_neg q] at s
      obtain ⟨y, g1, g2⟩ := ih f (x + 1) (by omega) (by omega) (by omega)
      refine ⟨y, (lp_l s).trans g1, ?_⟩
      rw [if_neg q]
      rcases g2 with g2 | ⟨g2, g3, g4, g5⟩
      · exact Or.inl g2
      · exact Or.inr ⟨by omega, g3, g4, g5⟩
/-- one number called a level further down -/
theorem dn_step {μ m : mS} {c : cT} {σ : mS} (hG : RG σ μ c) (hF : FrM μ m) {k y : Nat} (hk : k ≤ 4) : ∃ m2, (∀ {T : Type} (F : mS → Option T), bd (X11_copies (mwI m 13 k (nI y)) ((1312 : Int32) + (nI k * 8)) ((1312 : Int32) + ((nI k + 1) * 8)) (8)) (fun _ s => bd (X11_calls s ((1312 : Int32) + ((nI k + 1) * 8)) (nI y)) (fun _ s' => F s')) = F m2) ∧ FrM μ m2 ∧ (∀ j, j ≤ 5 → j ≠ k + 1 → hS m2 j = hS m j) ∧ hS m2 (k + 1) = ringH c (hS m k) (nI y) ∧ m2.1 13 = upd (m.1 13) k (nI y) ∧ (∀ q, q ≠ 10 → q ≠ 13 → m2.1 q = m.1 q) := by
  have F1 : FrM μ (mwI m 13 k (nI y)) := ⟨fun q a1 a2 a3 a4 => by rw [mwI_rk a2]; exact hF.1 q a1 a2 a3 a4, fun q hq => by rw [mwI_rk (by decide)]; exact hF.2.1 q hq, hF.2.2⟩
  have s10 : (mwI m 13 k (nI y)).1 10 = m.1 10 := mwI_rk (by decide)
  obtain ⟨m1, e1, g1, g2, F2, g3⟩ := tcopy F1 (s := 1312 + 8 * k) (t := 1312 + 8 * (k + 1)) (by omega) (by omega) (by omega) (by omega)
  obtain ⟨m2, e2, k1, k2, F3, k3⟩ := tcall hG F2 (b := 1312 + 8 * (k + 1)) (n := y) (by omega) (by omega)
  refine ⟨m2, fun F => ?_, F3, fun j hj hne => ?_, ?_, ?_, fun q q10 q13 => ?_⟩
  · rw [nI_s k (by omega), sl_eq (by omega), sl_eq (by omega), e1, bd_some, e2, bd_some]
  · unfold hS
    rw [k2 _ (by omega), g2 _ (by omega), s10]
  · unfold hS
    rw [k1, g1, s10]
  · rw [k3 13 (by decide), g3 13 (by decide), mwI_row, mrow_at]
  · rw [k3 q q10, g3 q q10, mwI_rk q13]
/-! leaves -/
def lv (c : cT) : Nat → hT → List (List Nat × hT)
  | 0, h => [([], h)]
  | r + 1, h => (nf (h 5) 12 1).flatMap (fun n => (lv c r (ringH c h (nI n))).map (fun l => (n :: l.1, l.2)))
def pfx (pn : Nat → Nat) (k : Nat) : List Nat := (List.range k).map pn
def remS (c : cT) (N : Nat) (Hs : Nat → hT) (pn : Nat → Nat) : Nat → List (List Nat × hT)
  | 0 => []
  | k + 1 => (nf (Hs k 5) (12 - pn k) (pn k + 1)).flatMap (fun n => (lv c (N - k - 1) (ringH c (Hs k) (nI n))).map (fun l => (pfx pn k ++ n :: l.1, l.2))) ++ remS c N Hs pn k
theorem remS_s {c : cT} {N : Nat} {Hs : Nat → hT} {pn : Nat → Nat} {k : Nat} : remS c N Hs pn (k + 1) = (nf (Hs k 5) (12 - pn k) (pn k + 1)).flatMap (fun n => (lv c (N - k - 1) (ringH c (Hs k) (nI n))).map (fun l => (pfx pn k ++ n :: l.1, l.2))) ++ remS c N Hs pn k := rfl
theorem remS_cong {c : cT} {N : Nat} {Hs Hs' : Nat → hT} {pn pn' : Nat → Nat} : ∀ k, (∀ j, j < k → Hs j = Hs' j) → (∀ j, j < k → pn j = pn' j) → remS c N Hs pn k = remS c N Hs' pn' k
  | 0, _, _ => rfl
  | k + 1, h1, h2 => by
    have e : pfx pn k = pfx pn' k := List.map_congr_left (fun j hj => h2 j (by have := List.mem_range.mp hj; omega))
    unfold remS
    rw [remS_cong k (fun j hj => h1 j (by omega)) (fun j hj => h2 j (by omega)), h1 k (by omega), h2 k (by omega), e]
theorem pfx_s (pn : Nat → Nat) (k : Nat) : pfx pn (k + 1) = pfx pn k ++ [pn k] := by
  unfold pfx
  rw [List.range_succ, List.map_append]
  rfl
/-- the cost of what is left, a level -/
def cst (N : Nat) : Nat → Nat
  | 0 => 0
  | r + 1 => 12 * (1 + cst N r) + 1
def msr (N : Nat) (pn : Nat → Nat) : Nat → Nat
  | 0 => 0
  | k + 1 => (12 - pn k) * (1 + cst N (N - k - 1)) + 1 + msr N pn k
theorem msr_cong {N : Nat} {pn pn' : Nat → Nat} : ∀ k, (∀ j, j < k → pn j = pn' j) → msr N pn k = msr N pn' k
  | 0, _ => rfl
  | k + 1, h => by
    unfold msr
    rw [msr_cong k (fun j hj => h j (by omega)), h k (by omega)]
/-- the reference in its walk: k levels open -/
def TI (μ m : mS) (N k : Nat) (pn : Nat → Nat) : Prop := FrM μ m ∧ (∀ j, j < k → m.1 13 j = nI (pn j) ∧ pn j ≤ 12)
/-- at a leaf: the path and what is left -/
def AtL (μ : mS) (c : cT) (N : Nat) (H0 : hT) (m : mS) (p : List Nat) (h : hT) (rest : List (List Nat × hT)) : Prop := ∃ pn, TI μ m N N pn ∧ hS m 0 = H0 ∧ pfx pn N = p ∧ hS m N = h ∧ remS c N (hS m) pn N = rest ∧ msr N pn N < 100000
theorem walk {σ μ : mS} {c : cT} (hG : RG σ μ c) {N : Nat} (hN : N ≤ 4) {H0 : hT} : ∀ f m k pn, k ≤ N → 1 ≤ N → (k = 0 ∨ hS m 0 = H0) → TI μ m N k pn → msr N pn k < f → msr N pn k < 100000 → ∃ m' y, lp f (un2 (X11_follows_b33 (nI N))) (m, nI k - 1) = some (m', y) ∧ (∀ q, q ≠ 10 → q ≠ 13 → m'.1 q = m.1 q) ∧ ((remS c N (hS m) pn k = [] ∧ y = -1 ∧ FrM μ m') ∨ (∃ p h rest, remS c N (hS m) pn k = (p, h) :: rest ∧ y = nI N ∧ AtL μ c N H0 m' p h rest)) := by
  intro f
  induction f with
  | zero => intro m k pn _ _ _ _ h _; exact absurd h (Nat.not_lt_zero _)
  | succ f ih =>
    intro m k pn hk h1 h0 hT hf hl
    obtain ⟨hF, hp⟩ := hT
    cases k with
    | zero =>
      refine ⟨m, -1, lp_r ?_, fun _ _ _ => rfl, Or.inl ⟨rfl, rfl, hF⟩⟩
      show X11_follows_b33 (nI N) m (nI 0 - 1) = _
      unfold X11_follows_b33
      rw [if_pos (by decide)]
      rfl
    | succ k =>
      have ek : nI (k + 1) - 1 = nI k := i_nI (by rw [i_sub (by rw [nI_ti (by omega)]; show _ ≤ ((k + 1 : Nat) : Int) - 1; omega) (by rw [nI_ti (by omega)]; show ((k + 1 : Nat) : Int) - 1 < _; omega), nI_ti (by omega)]; show ((k + 1 : Nat) : Int) - 1 = _; omega)
      have em : nI k + (-1) = nI k - 1 := (Int32.sub_eq_add_neg _ _).symm
      obtain ⟨pk, pk12⟩ := hp k (by omega)
      obtain ⟨y, g1, g2⟩ := nf_find (m := m) (k := k) (by omega) (12 - pn k) big (pn k + 1) (by omega) (by omega) (by show 12 - pn k < 1000000; omega)
      have H0' : hS m 0 = H0 := by
        rcases h0 with h0 | h0
        · exact absurd h0 (by omega)
        · exact h0
      rw [ek]
      have hmsr : msr N pn (k + 1) = (12 - pn k) * (1 + cst N (N - k - 1)) + 1 + msr N pn k := rfl
      have hrem : remS c N (hS m) pn (k + 1) = (nf (hS m k 5) (12 - pn k) (pn k + 1)).flatMap (fun n => (lv c (N - k - 1) (ringH c (hS m k) (nI n))).map (fun l => (pfx pn k ++ n :: l.1, l.2))) ++ remS c N (hS m) pn k := rfl
      have st : X11_follows_b33 (nI N) m (nI k) = if nI y ≤ 12 then bd (X11_copies (mwI m 13 k (nI y)) ((1312 : Int32) + (nI k * 8)) ((1312 : Int32) + ((nI k + 1) * 8)) (8)) (fun r23 s25 => bd (X11_calls s25 ((1312 : Int32) + ((nI k + 1) * 8)) (nI y)) (fun r26 s28 => some (.inl (mwI s28 13 (k + 1) 0, nI k + 1)))) else some (.inl (m, nI k - 1)) := by
        unfold X11_follows_b33
        rw [if_neg (show ¬ nI k < 0 from fun q => by have := i_lt.mp q; rw [nI_ti (by omega)] at this; have : (k : Int) < 0 := this; omega), if_neg (lt_nI (a := k) (b := N) (by omega) (by omega) (by omega)), if_pos (vinI (by omega) (by omega)), nI_nat (by omega), pk, nI_s _ (by omega), g1, Option.bind_some, un1_app, if_pos (vinI (by omega) (by omega)), em]
        simp only [if_pos (show vin (nI k + 1) 5 = true by rw [nI_s k (by omega)]; exact vinI (by omega) (by omega)), show (nI k + 1).toNatClampNeg = k + 1 by rw [nI_s k (by omega), nI_nat (by omega)]]
      rcases g2 with ⟨rfl, gn⟩ | ⟨y1, y2, yb, gn⟩
      · rw [if_neg (by decide)] at st
        obtain ⟨m', z, r1, r0, r2⟩ := ih m k pn (by omega) h1 (Or.inr H0') ⟨hF, fun j hj => hp j (by omega)⟩ (by omega) (by omega)
        refine ⟨m', z, (lp_l st).trans r1, r0, ?_⟩
        rw [hrem, gn]
        exact r2
      · rw [if_pos (ile (by rw [nI_ti (by omega)]; show (y : Int) ≤ 12; omega))] at st
        obtain ⟨m2, d1, d2, d3, d4, d5, d6⟩ := dn_step hG hF (k := k) (y := y) (by omega)
        rw [d1, nI_s k (by omega)] at st
        let pn' : Nat → Nat := fun j => if j = k then y else if j = k + 1 then 0 else pn j
        have pk' : pn' k = y := if_pos rfl
        have pk1 : pn' (k + 1) = 0 := by show (if k + 1 = k then y else if k + 1 = k + 1 then 0 else pn (k + 1)) = 0; rw [if_neg (by omega), if_pos rfl]
        have pl : ∀ j, j < k → pn' j = pn j := fun j hj => by show (if j = k then y else if j = k + 1 then 0 else pn j) = pn j; rw [if_neg (by omega), if_neg (by omega)]
        have F3 : FrM μ (mwI m2 13 (k + 1) 0) := ⟨fun q a1 a2 a3 a4 => by rw [mwI_rk a2]; exact d2.1 q a1 a2 a3 a4, fun q hq => by rw [mwI_rk (by decide)]; exact d2.2.1 q hq, d2.2.2⟩
        have hS3 : ∀ j, hS (mwI m2 13 (k + 1) 0) j = hS m2 j := fun j => by unfold hS; rw [mwI_rk (by decide)]
        have row : ∀ j, j < k + 2 → (mwI m2 13 (k + 1) 0).1 13 j = nI (pn' j) ∧ pn' j ≤ 12 := fun j hj => by
          rw [mwI_row, mrow_at, d5]
          by_cases e1 : j = k + 1
          · subst e1
            rw [upd_at, pk1]
            exact ⟨rfl, by omega⟩
          · rw [upd_ne e1]
            by_cases e2 : j = k
            · subst e2
              rw [upd_at, pk']
              exact ⟨rfl, y2⟩
            · rw [upd_ne e2, pl j (by omega)]
              exact hp j (by omega)
        have base : remS c N (hS (mwI m2 13 (k + 1) 0)) pn' (k + 1) = (nf (hS m k 5) (12 - y) (y + 1)).flatMap (fun n => (lv c (N - k - 1) (ringH c (hS m k) (nI n))).map (fun l => (pfx pn k ++ n :: l.1, l.2))) ++ remS c N (hS m) pn k := by
          have ep : pfx pn' k = pfx pn k := List.map_congr_left (fun j hj => pl j (List.mem_range.mp hj))
          rw [remS_s, remS_cong (Hs' := hS m) (pn' := pn) k (fun j hj => by rw [hS3, d3 j (by omega) (by omega)]) pl, pk', hS3, d3 k (by omega) (by omega), ep]
        have old : remS c N (hS m) pn (k + 1) = (lv c (N - k - 1) (ringH c (hS m k) (nI y))).map (fun l => (pfx pn k ++ y :: l.1, l.2)) ++ remS c N (hS (mwI m2 13 (k + 1) 0)) pn' (k + 1) := by
          rw [hrem, gn, List.flatMap_cons, base, List.append_assoc]
        have ms1 : msr N pn' (k + 1) + (1 + cst N (N - k - 1)) ≤ msr N pn (k + 1) := by
          rw [hmsr]
          show (12 - pn' k) * (1 + cst N (N - k - 1)) + 1 + msr N pn' k + _ ≤ _
          rw [msr_cong k pl, pk']
          have : (12 - pn k) * (1 + cst N (N - k - 1)) = (12 - y) * (1 + cst N (N - k - 1)) + (y - pn k) * (1 + cst N (N - k - 1)) := by
            rw [← Nat.add_mul]
            congr 1
            omega
          have h2 : 1 * (1 + cst N (N - k - 1)) ≤ (y - pn k) * (1 + cst N (N - k - 1)) := Nat.mul_le_mul_right _ (by omega)
          omega
        by_cases hlast : k + 1 = N
        · have e0 : N - k - 1 = 0 := by omega
          obtain ⟨g, rfl⟩ : ∃ g, f = g + 1 := ⟨f - 1, by omega⟩
          refine ⟨mwI m2 13 (k + 1) 0, nI (k + 1), (lp_l st).trans (lp_r ?_), fun q q1 q2 => by rw [mwI_rk q2]; exact d6 q q1 q2, Or.inr ⟨_, _, _, old.trans ?_, by rw [hlast], pn', ⟨F3, fun j hj => row j (by omega)⟩, ?_, rfl, rfl, by rw [← hlast], ?_⟩⟩
          · show X11_follows_b33 (nI N) _ (nI (k + 1)) = _
            unfold X11_follows_b33
            rw [if_neg (show ¬ nI (k + 1) < 0 from fun q => by have := i_lt.mp q; rw [nI_ti (by omega)] at this; have : ((k + 1 : Nat) : Int) < 0 := this; omega), if_pos (by rw [hlast]; exact le_nI)]
          · rw [e0]
            show (pfx pn k ++ [y], ringH c (hS m k) (nI y)) :: _ = _
            have ep : pfx pn' N = pfx pn k ++ [y] := by
              rw [← hlast, pfx_s, pk']
              congr 1
              exact List.map_congr_left (fun j hj => pl j (List.mem_range.mp hj))
            rw [ep, ← hlast, hS3, d4]
            rfl
          · rw [hS3, d3 0 (by omega) (by omega)]
            exact H0'
          · have e := congrArg (msr N pn') hlast
            omega
        · obtain ⟨r, er⟩ : ∃ r, N - k - 1 = r + 1 := ⟨N - k - 2, by omega⟩
          have er2 : N - (k + 1) - 1 = r := by omega
          have ms2 : msr N pn' (k + 2) < msr N pn (k + 1) := by
            show (12 - pn' (k + 1)) * (1 + cst N (N - (k + 1) - 1)) + 1 + msr N pn' (k + 1) < _
            rw [pk1, er2]
            rw [er] at ms1
            have : cst N (r + 1) = 12 * (1 + cst N r) + 1 := rfl
            omega
          have new : remS c N (hS (mwI m2 13 (k + 1) 0)) pn' (k + 2) = remS c N (hS m) pn (k + 1) := by
            rw [old, er]
            show (nf (hS (mwI m2 13 (k + 1) 0) (k + 1) 5) (12 - pn' (k + 1)) (pn' (k + 1) + 1)).flatMap (fun n => (lv c (N - (k + 1) - 1) (ringH c (hS (mwI m2 13 (k + 1) 0) (k + 1)) (nI n))).map (fun l => (pfx pn' (k + 1) ++ n :: l.1, l.2))) ++ remS c N (hS (mwI m2 13 (k + 1) 0)) pn' (k + 1) = _
            have ep : pfx pn' (k + 1) = pfx pn k ++ [y] := by
              rw [pfx_s, pk']
              congr 1
              exact List.map_congr_left (fun j hj => pl j (List.mem_range.mp hj))
            rw [pk1, er2, hS3, d4, ep]
            congr 1
            show _ = ((nf (ringH c (hS m k) (nI y) 5) 12 1).flatMap (fun n => (lv c r (ringH c (ringH c (hS m k) (nI y)) (nI n))).map (fun l => (n :: l.1, l.2)))).map (fun l => (pfx pn k ++ y :: l.1, l.2))
            rw [List.map_flatMap]
            congr 1
            funext n
            rw [List.map_map]
            congr 1
            funext l
            show (pfx pn k ++ [y] ++ n :: l.1, l.2) = (pfx pn k ++ y :: n :: l.1, l.2)
            rw [List.append_assoc]
            rfl
          obtain ⟨m', z, r1, r0, r2⟩ := ih (mwI m2 13 (k + 1) 0) (k + 2) pn' (by omega) h1 (Or.inr (by rw [hS3, d3 0 (by omega) (by omega)]; exact H0')) ⟨F3, row⟩ (by omega) (by omega)
          refine ⟨m', z, (lp_l st).trans ?_, fun q q1 q2 => by rw [r0 q q1 q2, mwI_rk q2]; exact d6 q q1 q2, ?_⟩
          · have e2 : nI (k + 2) - 1 = nI (k + 1) := i_nI (by rw [i_sub (by rw [nI_ti (by omega)]; show _ ≤ ((k + 2 : Nat) : Int) - 1; omega) (by rw [nI_ti (by omega)]; show ((k + 2 : Nat) : Int) - 1 < _; omega), nI_ti (by omega)]; show ((k + 2 : Nat) : Int) - 1 = _; omega)
            rw [← e2]
            exact r1
          · rw [new] at r2
            exact r2

theorem nf_len (b : Int32) : ∀ d x, (nf b d x).length ≤ d
  | 0, _ => Nat.le_refl _
  | d + 1, x => by
    unfold nf
    have := nf_len b d (x + 1)
    split
    · show (nf b d (x + 1)).length + 1 ≤ d + 1
      omega
    · omega
theorem fm_len {α β : Type} (g : α → List β) {K : Nat} : ∀ l : List α, (∀ a, (g a).length ≤ K) → (l.flatMap g).length ≤ l.length * K
  | [], _ => Nat.zero_le _
  | a :: l, h => by
    rw [List.flatMap_cons, List.length_append, List.length_cons, Nat.add_mul, Nat.one_mul]
    have := h a
    have := fm_len g l h
    omega
theorem lv_len (c : cT) : ∀ r h, (lv c r h).length ≤ 12 ^ r
  | 0, _ => Nat.le_refl _
  | r + 1, h => by
    unfold lv
    have h1 := fm_len (fun n => (lv c r (ringH c h (nI n))).map (fun l => (n :: l.1, l.2))) (K := 12 ^ r) (nf (h 5) 12 1) (fun n => by rw [List.length_map]; exact lv_len c r _)
    have h2 := nf_len (h 5) 12 1
    have h3 : (nf (h 5) 12 1).length * 12 ^ r ≤ 12 * 12 ^ r := Nat.mul_le_mul_right _ h2
    rw [Nat.pow_succ, Nat.mul_comm (12 ^ r) 12]
    omega
theorem lv_len4 (c : cT) {N : Nat} (hN : N ≤ 4) (h : hT) : (lv c N h).length ≤ 20736 := Nat.le_trans (lv_len c N h) (Nat.pow_le_pow_right (by omega) hN : 12 ^ N ≤ 12 ^ 4)
/-- where the reference stands: no leaf more, or at the first of those left -/
def Now (μ : mS) (c : cT) (N : Nat) (H0 : hT) (m : mS) (x : Int32) (L : List (List Nat × hT)) : Prop := (L = [] ∧ x = 0 ∧ FrM μ m) ∨ (∃ p h rest, L = (p, h) :: rest ∧ x = 1 ∧ AtL μ c N H0 m p h rest)
theorem Now.fr {μ m : mS} {c : cT} {N : Nat} {H0 : hT} {x : Int32} {L : List (List Nat × hT)} (h : Now μ c N H0 m x L) : FrM μ m := by
  rcases h with ⟨-, -, h⟩ | ⟨p, h, rest, -, -, pn, hT, -⟩
  · exact h
  · exact hT.1
theorem mone_ne {N : Nat} (hN : N ≤ 4) : ¬ (-1 : Int32) = nI N := fun q => by
  have := i_eq.mp q
  rw [nI_ti (by omega)] at this
  have : (-1 : Int) = N := this
  omega
theorem fol_first {σ μ m : mS} {c : cT} (hG : RG σ μ c) (hF : FrM μ m) {N : Nat} (h1 : 1 ≤ N) (hN : N ≤ 4) : ∃ x m', X11_follows m (nI N) 1 = some (x, m') ∧ Now μ c N (HX σ 5) m' x (lv c N (HX σ 5)) ∧ (∀ q, q ≠ 10 → q ≠ 13 → m'.1 q = m.1 q) := by
  unfold X11_follows
  obtain ⟨m1, e1, g1, g2, F1, g3⟩ := tcopy hF (s := 0) (t := 1312) (by omega) (by omega) (by omega) (by omega)
  have e1' : X11_copies m 0 1312 8 = some ((), m1) := e1
  rw [un1_app, if_neg (by decide), if_neg (by decide), e1', bd_some, if_pos (by decide), Option.bind_some, un1_app]
  have F2 : FrM μ (mwI m1 13 0 0) := ⟨fun q a1 a2 a3 a4 => by rw [mwI_rk a2]; exact F1.1 q a1 a2 a3 a4, fun q hq => by rw [mwI_rk (by decide)]; exact F1.2.1 q hq, F1.2.2⟩
  have h0 : hS (mwI m1 13 0 0) 0 = HX σ 5 := by
    unfold hS
    rw [mwI_rk (by decide), show 1312 + 8 * 0 = 1312 by omega, g1, hG.2.2.2.2.2.1]
    funext q
    unfold getH
    by_cases hq : q < 8
    · rw [if_pos hq, if_pos hq]
      exact hF.2.1 _ (by omega)
    · rw [if_neg hq, if_neg hq]
  have ms : msr N (fun _ => 0) 1 < 100000 := by
    rcases (show N = 1 ∨ N = 2 ∨ N = 3 ∨ N = 4 by omega) with rfl | rfl | rfl | rfl <;> decide
  obtain ⟨m', y, w1, w0, w2⟩ := walk hG hN (H0 := HX σ 5) big (mwI m1 13 0 0) 1 (fun _ => 0) h1 h1 (Or.inr h0) ⟨F2, fun j hj => ⟨by rw [show j = 0 by omega, mwI_rd]; rfl, Nat.zero_le _⟩⟩ (Nat.lt_trans ms (by decide)) ms
  have w1' : lp big (un2 (X11_follows_b33 (nI N))) (mwI m1 13 (0 : Int32).toNatClampNeg 0, 0) = some (m', y) := w1
  have er : remS c N (hS (mwI m1 13 0 0)) (fun _ => 0) 1 = lv c N (HX σ 5) := by
    obtain ⟨r, rfl⟩ : ∃ r, N = r + 1 := ⟨N - 1, by omega⟩
    rw [remS_s, h0]
    show _ ++ [] = _
    rw [List.append_nil]
    rfl
  rw [er] at w2
  rw [w1', Option.bind_some]
  rcases w2 with ⟨q1, rfl, q3⟩ | ⟨p, h, rest, q1, rfl, q3⟩
  · exact ⟨0, m', by show (if (-1 : Int32) = nI N then some (1, m') else some (0, m')) = _; rw [if_neg (mone_ne hN)], Or.inl ⟨q1, rfl, q3⟩, fun q q1 q2 => by rw [w0 q q1 q2, mwI_rk q2, g3 q q1]⟩
  · exact ⟨1, m', by show (if nI N = nI N then some (1, m') else some (0, m')) = _; rw [if_pos rfl], Or.inr ⟨p, h, rest, q1, rfl, q3⟩, fun q q1 q2 => by rw [w0 q q1 q2, mwI_rk q2, g3 q q1]⟩
theorem fol_next {σ μ m : mS} {c : cT} (hG : RG σ μ c) {N : Nat} (h1 : 1 ≤ N) (hN : N ≤ 4) {p : List Nat} {h : hT} {rest : List (List Nat × hT)} {H0 : hT} (hA : AtL μ c N H0 m p h rest) : ∃ x m', X11_follows m (nI N) 0 = some (x, m') ∧ Now μ c N H0 m' x rest ∧ (∀ q, q ≠ 10 → q ≠ 13 → m'.1 q = m.1 q) := by
  obtain ⟨pn, hT, h0, -, -, hr, ms⟩ := hA
  obtain ⟨m', y, w1, w0, w2⟩ := walk hG hN (H0 := H0) big m N pn (Nat.le_refl _) h1 (Or.inr h0) hT (Nat.lt_trans ms (by decide)) ms
  unfold X11_follows
  rw [un1_app, if_pos rfl, if_pos rfl, Option.bind_some, un1_app, w1, Option.bind_some]
  rw [hr] at w2
  rcases w2 with ⟨q1, rfl, q3⟩ | ⟨p, h, rest, q1, rfl, q3⟩
  · exact ⟨0, m', by show (if (-1 : Int32) = nI N then some (1, m') else some (0, m')) = _; rw [if_neg (mone_ne hN)], Or.inl ⟨q1, rfl, q3⟩, w0⟩
  · exact ⟨1, m', by show (if nI N = nI N then some (1, m') else some (0, m')) = _; rw [if_pos rfl], Or.inr ⟨p, h, rest, q1, rfl, q3⟩, w0⟩
/-! the path taken and laid down -/
theorem takes_eq {m : mS} {N : Nat} (hN : N ≤ 4) : ∃ m', X11_takes m (nI N) = some ((), m') ∧ (∀ j, j < N → m'.1 14 j = m.1 13 j) ∧ (∀ q, q ≠ 14 → m'.1 q = m.1 q) ∧ m'.2 = m.2 := by
  unfold X11_takes
  have h := lp_zero (b := un2 (X11_takes_b2 (nI N))) (n := N) (res := mrow m 14 (fun q => if q < N then m.1 13 q else m.1 14 q)) (fun j x => (mrow m 14 (fun q => if q < j then m.1 13 q else m.1 14 q), x)) (by omega) (fun j x hj hx => by
    have xe := i_nI hx
    subst xe
    show X11_takes_b2 (nI N) _ (nI j) = _
    unfold X11_takes_b2
    rw [if_neg (lt_nI (a := j) (b := N) (by omega) (by omega) hj), if_pos (vinI (by omega) (by omega)), if_pos (vinI (by omega) (by omega)), nI_nat (by omega), mwI_row, mrow_mrow, mrow_at, mrow_ne (by decide)]
    congr 3
    congr 1
    funext q
    by_cases e : q = j
    · subst e
      rw [upd_at, if_pos (by omega)]
    · rw [upd_ne e]
      by_cases l : q < j
      · rw [if_pos l, if_pos (by omega)]
      · rw [if_neg l, if_neg (by omega)]) (fun x hx => by
    have xe := i_nI hx
    subst xe
    show X11_takes_b2 (nI N) _ (nI N) = _
    unfold X11_takes_b2
    rw [if_pos le_nI])
  have h' : lp big (un2 (X11_takes_b2 (nI N))) (m, 0) = some (mrow m 14 (fun q => if q < N then m.1 13 q else m.1 14 q)) := by
    have e : mrow m 14 (fun q => if q < 0 then m.1 13 q else m.1 14 q) = m := by
      have : (fun q => if q < 0 then m.1 13 q else m.1 14 q) = m.1 14 := funext (fun q => if_neg (Nat.not_lt_zero _))
      rw [this, mrow_id]
    rw [e] at h
    exact h
  rw [h', Option.bind_some, un1_app]
  exact ⟨_, rfl, fun j hj => by rw [mrow_at, if_pos hj], fun q hq => mrow_ne hq, rfl⟩
theorem comes_eq {m : mS} {r N : Nat} (hr : r < 6) (hN : N ≤ 4) : ∃ m', X11_comes m (nI r) (nI N) = some ((), m') ∧ (∀ j, j < N → m'.1 2 (40 * r + j) = m.1 14 j) ∧ (∀ j, (j < 40 * r ∨ 40 * r + 40 ≤ j) → m'.1 2 j = m.1 2 j) ∧ m'.1 1 = upd (m.1 1) r (nI N) ∧ (∀ q, q ≠ 1 → q ≠ 2 → m'.1 q = m.1 q) ∧ m'.2 = m.2 := by
  unfold X11_comes
  rw [anew_eq m (nI_ti (by omega)) hr (nI_ti (n := N) (by omega)) (by omega), bd_some]
  generalize hm1 : mrow (mrow m 1 (upd (m.1 1) r (nI N))) 2 (seg (40 * r) N 0 (m.1 2)) = m1
  have a1 : m1.1 1 = upd (m.1 1) r (nI N) := by rw [← hm1, mrow_ne (by decide), mrow_at]
  have a2 : m1.1 2 = seg (40 * r) N 0 (m.1 2) := by rw [← hm1, mrow_at]
  have a3 : ∀ q, q ≠ 1 → q ≠ 2 → m1.1 q = m.1 q := fun q q1 q2 => by rw [← hm1, mrow_ne q2, mrow_ne q1]
  have a4 : m1.2 = m.2 := by rw [← hm1]; rfl
  have h := lp_zero (b := un2 (X11_comes_b8 (nI r) (nI N))) (n := N) (res := mrow m1 2 (fun q => if 40 * r ≤ q ∧ q < 40 * r + N then m1.1 14 (q - 40 * r) else m1.1 2 q)) (fun j x => (mrow m1 2 (fun q => if 40 * r ≤ q ∧ q < 40 * r + j then m1.1 14 (q - 40 * r) else m1.1 2 q), x)) (by omega) (fun j x hj hx => by
    have xe := i_nI hx
    subst xe
    show X11_comes_b8 (nI r) (nI N) _ (nI j) = _
    unfold X11_comes_b8
    have c1 := i_ix (c := 40) (cn := 40) (by decide) (nI_ti (n := r) (by omega)) hx (by omega)
    have c2 := i_ixn (c := 40) (cn := 40) (by decide) (nI_ti (n := r) (by omega)) hx (by omega)
    rw [if_neg (lt_nI (a := j) (b := N) (by omega) (by omega) hj), if_pos (vinI (by omega) (by omega)), if_pos (vin_iff.mpr (by rw [c1]; omega) : vin (((40 : Int32) * nI r) + nI j) 240 = true), c2, nI_nat (by omega), mwI_row, mrow_mrow, mrow_at, mrow_ne (by decide)]
    congr 3
    congr 1
    funext q
    by_cases e : q = 40 * r + j
    · subst e
      rw [upd_at, if_pos (by omega), show 40 * r + j - 40 * r = j by omega]
    · rw [upd_ne e]
      by_cases l : 40 * r ≤ q ∧ q < 40 * r + j
      · rw [if_pos l, if_pos (by omega)]
      · rw [if_neg l, if_neg (by omega)]) (fun x hx => by
    have xe := i_nI hx
    subst xe
    show X11_comes_b8 (nI r) (nI N) _ (nI N) = _
    unfold X11_comes_b8
    rw [if_pos le_nI])
  have h' : lp big (un2 (X11_comes_b8 (nI r) (nI N))) (m1, 0) = some (mrow m1 2 (fun q => if 40 * r ≤ q ∧ q < 40 * r + N then m1.1 14 (q - 40 * r) else m1.1 2 q)) := by
    have e : mrow m1 2 (fun q => if 40 * r ≤ q ∧ q < 40 * r + 0 then m1.1 14 (q - 40 * r) else m1.1 2 q) = m1 := by
      have : (fun q => if 40 * r ≤ q ∧ q < 40 * r + 0 then m1.1 14 (q - 40 * r) else m1.1 2 q) = m1.1 2 := funext (fun q => if_neg (by omega))
      rw [this, mrow_id]
    rw [e] at h
    exact h
  rw [h', Option.bind_some, un1_app]
  refine ⟨_, rfl, fun j hj => ?_, fun j hj => ?_, ?_, fun q q1 q2 => ?_, a4⟩
  · rw [mrow_at, if_pos (by omega), show 40 * r + j - 40 * r = j by omega, a3 14 (by decide) (by decide)]
  · rw [mrow_at, if_neg (by omega), a2]
    unfold seg
    rw [if_neg (by omega)]
  · rw [mrow_ne (by decide), a1]
  · rw [mrow_ne q2, a3 q q1 q2]

/-! the class, numbers ahead -/
theorem nf_y {b : Int32} {d x : Nat} (q : bt b x = true) : nf b (d + 1) x = x :: nf b d (x + 1) := if_pos q
theorem nf_n {b : Int32} {d x : Nat} (q : ¬ bt b x = true) : nf b (d + 1) x = nf b d (x + 1) := if_neg q
def EqW (c : cT) (who : Int32) (a b : hT) : Prop := (∀ j, j < c.1 → bt who j = true → a j = b j ∧ bt (a 4) j = bt (b 4) j) ∧ a 5 = b 5 ∧ a 6 = b 6 ∧ a 7 = b 7
theorem EqW.rf {c : cT} {who : Int32} {a : hT} : EqW c who a a := ⟨fun _ _ _ => ⟨rfl, rfl⟩, rfl, rfl, rfl⟩
theorem wnb_ne {c : cT} {h : hT} {n : Int32} {q j : Nat} (hq : q < 4) (hj : j < 4) (hne : q ≠ j) : bt (wnb c h n q) j = false := by
  unfold wnb
  split
  · rw [shl_bt (by omega) (by omega)]
    exact decide_eq_false (fun e => hne e.symm)
  · exact b_0 j
theorem wns_bt {c : cT} {who : Int32} {a b : hT} {n : Int32} {j : Nat} (hj : j < 4) (hw : bt who j = true) (hn : nmk c a n j = nmk c b n j) : ∀ k, k ≤ 4 → bt (wnsW c who a n k) j = bt (wns c b n k) j
  | 0, _ => rfl
  | k + 1, hk => by
    show bt (wnsW c who a n k ||| (if bt who k = true then wnb c a n k else 0)) j = bt (wns c b n k ||| wnb c b n k) j
    rw [b_or, b_or, wns_bt hj hw hn k (by omega)]
    congr 1
    by_cases e : k = j
    · subst e
      rw [if_pos hw]
      unfold wnb
      rw [hn]
    · rw [wnb_ne (by omega) hj e]
      split
      · exact wnb_ne (by omega) hj e
      · exact b_0 j
theorem EqW.ring {c : cT} {who : Int32} {a b : hT} (h : EqW c who a b) (hP : c.1 ≤ 4) (n : Int32) : EqW c who (ringW c who a n) (ringH c b n) := by
  obtain ⟨h1, h5, h6, h7⟩ := h
  have nm : ∀ j, j < c.1 → bt who j = true → nmk c a n j = nmk c b n j := fun j hj hw => by
    unfold nmk
    rw [(h1 j hj hw).1, h7, h6]
  refine ⟨fun j hj hw => ⟨?_, ?_⟩, ?_, ?_, ?_⟩
  · unfold ringW ringH
    rw [if_pos (by omega), if_pos ⟨hj, hw⟩, if_pos hj, nm j hj hw]
  · have e1 : ringW c who a n 4 = a 4 ||| wnsW c who a n c.1 := rfl
    have e2 : ringH c b n 4 = b 4 ||| wns c b n c.1 := by unfold ringH; rw [if_neg (by omega), if_pos rfl]
    rw [e1, e2, b_or, b_or, (h1 j hj hw).2, wns_bt (by omega) hw (nm j hj hw) c.1 hP]
  · unfold ringW ringH
    rw [if_neg (by decide), if_neg (by decide), if_pos rfl, if_neg (by omega), if_neg (by decide), if_pos rfl, h5]
  · unfold ringW ringH
    rw [if_neg (by decide), if_neg (by decide), if_neg (by decide), if_pos rfl, if_neg (by omega), if_neg (by decide), if_neg (by decide), if_pos rfl, h6]
  · unfold ringW ringH
    rw [if_neg (by decide), if_neg (by decide), if_neg (by decide), if_neg (by decide), if_pos rfl, if_neg (by omega), if_neg (by decide), if_neg (by decide), if_neg (by decide), if_pos rfl]
theorem wnsW_lt (c : cT) (who : Int32) (h : hT) (num : Int32) : ∀ q, q ≤ 4 → ∃ m, m < 16 ∧ wnsW c who h num q = nI m
  | 0, _ => ⟨0, by decide, rfl⟩
  | q + 1, hq => by
    refine or_lt16 (wnsW_lt c who h num q (by omega)) ?_
    unfold wnb
    split
    · split
      · rcases (show q = 0 ∨ q = 1 ∨ q = 2 ∨ q = 3 by omega) with rfl | rfl | rfl | rfl
        · exact ⟨1, by decide, by decide⟩
        · exact ⟨2, by decide, by decide⟩
        · exact ⟨4, by decide, by decide⟩
        · exact ⟨8, by decide, by decide⟩
      · exact ⟨0, by decide, rfl⟩
    · exact ⟨0, by decide, rfl⟩
theorem HV_rW {h : hT} (hV : HV h) {c : cT} (hP : c.1 ≤ 4) (who num : Int32) : HV (ringW c who h num) := by
  refine ⟨fun j hj => ?_, or_lt16 hV.2.1 (wnsW_lt c who h num c.1 hP), ?_⟩
  · unfold ringW
    rw [if_pos hj]
    by_cases q : j < c.1 ∧ bt who j = true
    · rw [if_pos q]
      exact nmk_lt (hV.m hP) num q.1
    · rw [if_neg q]
      exact hV.1 j hj
  · have e := (hV.ring hP num).2.2
    unfold ringH at e
    rw [if_neg (by omega), if_neg (by decide), if_pos rfl] at e
    exact e
theorem stepW {σ s : mS} {c : cT} {e n : Nat} {who : Int32} (he : e < 4) (hX : FrX σ s) (hC : CF σ c) (hV : HV (HX s e)) (hn : n < 31) : ∃ v s', X10_stepAhead s (nI e) (nI n) who = some (v, s') ∧ HX s' (e + 1) = ringW c who (HX s e) (nI n) ∧ FrX σ s' ∧ (∀ j, j < 6 → j ≠ e + 1 → HX s' j = HX s j) ∧ s'.1 192 = upd (s.1 192) e (nI n) ∧ s'.1 0 = s.1 0 := by
  have hCs := hX.cf hC
  obtain ⟨s', g1, g2, g3, g4, g5⟩ := step_eq s (c := c) (who := who) he hCs (hV.m hC.2.1) hn
  refine ⟨_, s', g1, g2, ⟨fun q q1 q2 q3 q4 q5 => ?_, fun q q1 => ?_, g5.trans hX.2.2⟩, fun j hj6 hj => HX_of (g3 _ (by omega) (by omega) (by omega)) (g3 _ (by omega) (by omega) (by omega)), g4, g3 0 (by omega) (by omega) (by omega)⟩
  · rw [g3 q q3 (by omega) (by omega)]
    exact hX.1 q q1 q2 q3 q4 q5
  · rw [g3 0 (by omega) (by omega) (by omega)]
    exact hX.2.1 q q1
def wf (i : Nat) (l : List Nat × hT) : Bool := bt (l.2 4) i
theorem won_eq {s : mS} {e i : Nat} (hi : i < 4) : X2_hasWon s e (nI i) = if bt (HX s e 4) i = true then 1 else 0 := by
  unfold X2_hasWon
  rw [bit_eq _ (by omega)]
  show (if (if bt (s.1 (144 + e) 2) i = true then (1 : Int32) else 0) = 1 then (1 : Int32) else 0) = if bt (s.1 (144 + e) 2) i = true then 1 else 0
  by_cases q : bt (s.1 (144 + e) 2) i = true
  · rw [if_pos q, if_pos rfl]
  · rw [if_neg q, if_neg (by decide)]
theorem holdsX {s : mS} {e n : Nat} (hn : n < 32) : X2_holds s e (nI n) = if bt (HX s e 5) n = true then 1 else 0 := holds_eq hn
/-- what the class has done to its own rows ahead -/
def AX (σ : mS) (s s' : mS) (e : Nat) : Prop := FrX σ s' ∧ (∀ j, j ≤ e → HX s' j = HX s j) ∧ (∀ j, j < e → s'.1 192 j = s.1 192 j) ∧ s'.1 0 = s.1 0
theorem AX.tr {σ s s' s'' : mS} {e e' : Nat} (h : AX σ s s' e) (h' : AX σ s' s'' e') (he : e ≤ e') : AX σ s s'' e := ⟨h'.1, fun j hj => by rw [h'.2.1 j (by omega), h.2.1 j hj], fun j hj => by rw [h'.2.2.1 j (by omega), h.2.2.1 j hj], by rw [h'.2.2.2, h.2.2.2]⟩
theorem wins_X {σ μ : mS} {c : cT} (hG : RG σ μ c) {i : Nat} (hi : i < c.1) {N : Nat} (hN : N ≤ 4) : ∀ r f s e b, e + r = N → r < f → FrX σ s → HV (HX s e) → EqW c ((1 : Int32) <<< (nI i &&& 31)) (HX s e) b → ∃ v s', X10_winsAhead f s (nI i) (nI e) (nI N) = some (v, s') ∧ AX σ s s' e ∧ ((v = 0 ∧ (lv c r b).find? (wf i) = none) ∨ (∃ p h, v = 1 ∧ (lv c r b).find? (wf i) = some (p, h) ∧ ∀ j, j < r → s'.1 192 (e + j) = nI (p.getD j 0))) := by
  have hP4 := hG.P4
  have hwho : bt ((1 : Int32) <<< (nI i &&& 31)) i = true := by rw [shl_bt (by omega) (by omega)]; exact decide_eq_true rfl
  intro r
  induction r with
  | zero =>
    intro f s e b he hf hF hV hE
    obtain ⟨f, rfl⟩ : ∃ g, f = g + 1 := ⟨f - 1, by omega⟩
    have en : e = N := by omega
    subst en
    have hw : bt (HX s e 4) i = bt (b 4) i := (hE.1 i hi hwho).2
    have e1 : X10_winsAhead (f + 1) s (nI i) (nI e) (nI e) = some (if bt (b 4) i = true then 1 else 0, s) := by
      show X10_winsAhead_F (X10_winsAhead f) s (nI i) (nI e) (nI e) = _
      unfold X10_winsAhead_F
      rw [if_pos (vinI (by omega) (by omega)), if_pos le_nI, nI_nat (by omega), won_eq (by omega), hw]
    have e2 : (lv c 0 b).find? (wf i) = if bt (b 4) i = true then some ([], b) else none := by
      show (match wf i ([], b) with | true => some ([], b) | false => none) = _
      have q' : wf i ([], b) = bt (b 4) i := rfl
      rw [q']
      cases bt (b 4) i <;> rfl
    rw [e1, e2]
    by_cases q : bt (b 4) i = true
    · rw [if_pos q, if_pos q]
      exact ⟨1, s, rfl, ⟨hF, fun _ _ => rfl, fun _ _ => rfl, rfl⟩, Or.inr ⟨[], b, rfl, rfl, fun j hj => absurd hj (Nat.not_lt_zero _)⟩⟩
    · rw [if_neg q, if_neg q]
      exact ⟨0, s, rfl, ⟨hF, fun _ _ => rfl, fun _ _ => rfl, rfl⟩, Or.inl ⟨rfl, rfl⟩⟩
  | succ r ih =>
    intro f s e b he hf hF hV hE
    obtain ⟨f, rfl⟩ : ∃ g, f = g + 1 := ⟨f - 1, by omega⟩
    have loop : ∀ d g x s1, x + d = 13 → 1 ≤ x → d < g → AX σ s s1 e → ∃ res, lp g (un2 (X10_winsAhead_b28 (X10_winsAhead f) (nI i) (nI e) (nI N))) (s1, nI x) = some res ∧ ((∃ s', res = .inl s' ∧ AX σ s s' e ∧ ((nf (b 5) d x).flatMap (fun n => (lv c r (ringH c b (nI n))).map (fun l => (n :: l.1, l.2)))).find? (wf i) = none) ∨ (∃ s' p h, res = .inr (1, s') ∧ AX σ s s' e ∧ ((nf (b 5) d x).flatMap (fun n => (lv c r (ringH c b (nI n))).map (fun l => (n :: l.1, l.2)))).find? (wf i) = some (p, h) ∧ ∀ j, j < r + 1 → s'.1 192 (e + j) = nI (p.getD j 0))) := by
      intro d
      induction d with
      | zero =>
        intro g x s1 hx x1 hg hA
        obtain ⟨g, rfl⟩ : ∃ q, g = q + 1 := ⟨g - 1, by omega⟩
        have e13 : x = 13 := by omega
        subst e13
        exact ⟨_, lp_r rfl, Or.inl ⟨s1, rfl, hA, rfl⟩⟩
      | succ d ihd =>
        intro g x s1 hx x1 hg hA
        obtain ⟨g, rfl⟩ : ∃ q, g = q + 1 := ⟨g - 1, by omega⟩
        have bag : HX s1 e 5 = b 5 := by rw [hA.2.1 e (Nat.le_refl _)]; exact hE.2.1
        have l12 : ¬ (12 : Int32) < nI x := fun q => by have := i_lt.mp q; rw [nI_ti (by omega)] at this; have : (12 : Int) < x := this; omega
        by_cases q : bt (b 5) x = true
        · have en : nf (b 5) (d + 1) x = x :: nf (b 5) d (x + 1) := nf_y q
          have hVs : HV (HX s1 e) := by rw [hA.2.1 e (Nat.le_refl _)]; exact hV
          obtain ⟨v, s2, t1, t2, t3, t4, t5, t6⟩ := stepW (who := (1 : Int32) <<< (nI i &&& 31)) (n := x) (show e < 4 by omega) hA.1 hG.2.2.2.1 hVs (by omega)
          have A2 : AX σ s1 s2 e := ⟨t3, fun j hj => t4 j (by omega) (by omega), fun j hj => by rw [t5, upd_ne (by omega)], t6⟩
          have E2 : EqW c ((1 : Int32) <<< (nI i &&& 31)) (HX s2 (e + 1)) (ringH c b (nI x)) := by
            rw [t2, hA.2.1 e (Nat.le_refl _)]
            exact hE.ring hP4 _
          obtain ⟨w, s3, u1, u2, u3⟩ := ih f s2 (e + 1) (ringH c b (nI x)) (by omega) (by omega) t3 (by rw [t2]; exact HV_rW hVs hP4 _ _) E2
          have A3 : AX σ s s3 e := hA.tr (A2.tr u2 (by omega)) (Nat.le_refl _)
          have tr3 : s3.1 192 e = nI x := by rw [u2.2.2.1 e (by omega), t5, upd_at]
          have st : X10_winsAhead_b28 (X10_winsAhead f) (nI i) (nI e) (nI N) s1 (nI x) = if w = 0 then some (.inl (s3, nI (x + 1))) else some (.inr (.inr (1, s3))) := by
            unfold X10_winsAhead_b28
            rw [if_neg l12, nI_nat (by omega), holdsX (by omega), bag, if_pos q, if_neg (by decide), t1, bd_some, nI_s e (by omega), u1, bd_some, nI_s x (by omega)]
          rw [en, List.flatMap_cons, List.find?_append, List.find?_map]
          have hfn : (wf i ∘ fun l : List Nat × hT => (x :: l.1, l.2)) = wf i := rfl
          rw [hfn]
          rcases u3 with ⟨rfl, u3⟩ | ⟨p, h, rfl, u3, u4⟩
          · rw [if_pos rfl] at st
            rw [u3]
            obtain ⟨res, z1, z2⟩ := ihd g (x + 1) s3 (by omega) (by omega) (by omega) A3
            exact ⟨res, (lp_l st).trans z1, z2⟩
          · rw [if_neg (by decide)] at st
            rw [u3]
            refine ⟨_, lp_r st, Or.inr ⟨s3, x :: p, h, rfl, A3, rfl, fun j hj => ?_⟩⟩
            cases j with
            | zero => exact tr3
            | succ j =>
              have := u4 j (by omega)
              rw [show e + 1 + j = e + (j + 1) by omega] at this
              exact this
        · have en : nf (b 5) (d + 1) x = nf (b 5) d (x + 1) := nf_n q
          have st : X10_winsAhead_b28 (X10_winsAhead f) (nI i) (nI e) (nI N) s1 (nI x) = some (.inl (s1, nI (x + 1))) := by
            unfold X10_winsAhead_b28
            rw [if_neg l12, nI_nat (by omega), holdsX (by omega), bag, if_neg q, if_pos rfl, nI_s x (by omega)]
          rw [en]
          obtain ⟨res, z1, z2⟩ := ihd g (x + 1) s1 (by omega) (by omega) (by omega) hA
          exact ⟨res, (lp_l st).trans z1, z2⟩
    obtain ⟨res, z1, z2⟩ := loop 12 big 1 s rfl (Nat.le_refl _) (by show 12 < 1000000; omega) ⟨hF, fun _ _ => rfl, fun _ _ => rfl, rfl⟩
    have z1' : lp big (un2 (X10_winsAhead_b28 (X10_winsAhead f) (nI i) (nI e) (nI N))) (s, 1) = some res := z1
    have hX : X10_winsAhead (f + 1) s (nI i) (nI e) (nI N) = sm1 (fun s9 => some (0, s9)) res := by
      show X10_winsAhead_F (X10_winsAhead f) s (nI i) (nI e) (nI N) = _
      unfold X10_winsAhead_F
      rw [if_pos (vinI (by omega) (by omega)), if_neg (lt_nI (by omega) (by omega) (by omega)), if_pos (i_lt.mpr (by rw [nI_ti (by omega)]; show (e : Int) < 4; omega)), z1', Option.bind_some]
    rw [hX]
    rcases z2 with ⟨s', rfl, z3, z4⟩ | ⟨s', p, h, rfl, z3, z4, z5⟩
    · exact ⟨0, s', rfl, z3, Or.inl ⟨rfl, z4⟩⟩
    · exact ⟨1, s', rfl, z3, Or.inr ⟨p, h, rfl, z4, z5⟩⟩

/-! a found path laid down as a row -/
theorem RR_lay {s m τ ν : mS} (h : RR s m) {r N : Nat} (hr : r < 6) (hN : N ≤ 4) (t24 : τ.1 24 = upd (s.1 24) r (nI N)) (to : ∀ q, q ≠ 24 → q ≠ 16 + r → τ.1 q = s.1 q) (t2 : τ.2 = s.2) (n1 : ν.1 1 = upd (m.1 1) r (nI N)) (n2 : ∀ j, (j < 40 * r ∨ 40 * r + 40 ≤ j) → ν.1 2 j = m.1 2 j) (no : ∀ q, q ≠ 1 → q ≠ 2 → ν.1 q = m.1 q) (nL : ν.2 = m.2) (hp : ∀ j, j < N → ν.1 2 (40 * r + j) = τ.1 (16 + r) j) : RR τ ν := by
  obtain ⟨hW, hT, ⟨c, hG⟩, hO⟩ := h
  have Ni : (nI N).toInt = (N : Int) := nI_ti (by omega)
  refine ⟨?_, ?_, ⟨c, ?_⟩, ?_⟩
  · refine hW.set (r := r) (v := nI N) (by omega) (fun q hq => ?_) (fun q hq hqr => to _ (by omega) (by omega)) (fun q hq => ?_) (fun q hq hqr i hi => n2 _ (by omega)) (fun i hi => hp i (by omega))
    · rw [t24]
      by_cases e : q = r
      · subst e; rw [upd_at, if_pos rfl]
      · rw [upd_ne e, if_neg e]
    · rw [n1]
      by_cases e : q = r
      · subst e; rw [upd_at, if_pos rfl]
      · rw [upd_ne e, if_neg e]
  · exact hT.of (to _ (by omega) (by omega)) (fun q hq => to _ (by omega) (by omega)) (no _ (by omega) (by omega)) (no _ (by omega) (by omega))
  · exact hG.of (fun k hk => by unfold gX at hk; exact to k (by omega) (by omega)) (by rw [no 0 (by omega) (by omega)]) (by rw [no 0 (by omega) (by omega)]) (no _ (by omega) (by omega)) (no _ (by omega) (by omega)) (fun q _ => by rw [no 10 (by omega) (by omega)]) (fun q _ => by rw [no 11 (by omega) (by omega)])
  · exact hO.of (by rw [to 0 (by omega) (by omega)]) (by rw [to 0 (by omega) (by omega)]) t2 (fun f _ => by rw [to 208 (by omega) (by omega)]) (by rw [no 0 (by omega) (by omega)]) (by rw [no 0 (by omega) (by omega)]) nL (fun f _ => by rw [no 12 (by omega) (by omega)])
theorem lay_X {s : mS} {r N : Nat} (hr : r < 6) (hN : N ≤ 4) : ∃ τ, X10_layTrail s (nI r) (nI N) = some ((), τ) ∧ τ.1 24 = upd (s.1 24) r (nI N) ∧ (∀ q, q ≠ 24 → q ≠ 16 + r → τ.1 q = s.1 q) ∧ τ.2 = s.2 ∧ (∀ j, j < N → τ.1 (16 + r) j = s.1 192 j) := by
  unfold X10_layTrail
  have hv : vin (nI r) 6 = true := vinI hr (by omega)
  have z : (0 : Int32).toNatClampNeg = 0 := by decide
  have n0 : ¬ nI N < 0 := fun q => by have := i_lt.mp q; rw [nI_ti (by omega)] at this; have : (N : Int) < 0 := this; omega
  rw [if_pos hv, if_pos hv, nI_nat (n := N) (by omega), nI_nat (n := r) (by omega), z, if_pos ⟨⟨⟨by decide, by decide⟩, n0⟩, by omega, by omega⟩, va_cpy_row]
  refine ⟨_, rfl, ?_, fun q q1 q2 => ?_, rfl, fun j hj => ?_⟩
  · rw [mwI_row, mrow_at, mrow_ne (by omega)]
  · rw [mwI_rk q1, mrow_ne q2]
  · rw [mwI_rk (by omega), mrow_at]
    unfold va_cpy
    rw [if_pos (by omega), Nat.zero_add, Nat.sub_zero]
/-! how many numbers are left -/
theorem nf_rm {b b' : Int32} {n : Nat} (hb : ∀ j, j < 32 → bt b' j = (bt b j && decide (j ≠ n))) : ∀ d x, x + d ≤ 32 → (nf b' d x).length + (if x ≤ n ∧ n < x + d ∧ bt b n = true then 1 else 0) = (nf b d x).length
  | 0, x, _ => by
    rw [if_neg (by omega)]
    rfl
  | d + 1, x, hx => by
    have ih := nf_rm hb d (x + 1) (by omega)
    have hbx := hb x (by omega)
    by_cases q : bt b x = true
    · rw [nf_y q, List.length_cons]
      by_cases e : x = n
      · subst e
        rw [q, decide_eq_false (by simp), Bool.and_false] at hbx
        rw [nf_n (by rw [hbx]; decide), if_pos ⟨Nat.le_refl _, by omega, q⟩]
        rw [if_neg (by omega)] at ih
        omega
      · rw [q, decide_eq_true e, Bool.and_true] at hbx
        rw [nf_y hbx, List.length_cons]
        by_cases w : x + 1 ≤ n ∧ n < x + 1 + d ∧ bt b n = true
        · rw [if_pos w] at ih
          rw [if_pos ⟨by omega, by omega, w.2.2⟩]
          omega
        · rw [if_neg w] at ih
          rw [if_neg (fun u => w ⟨by omega, by omega, u.2.2⟩)]
          omega
    · have q0 : bt b x = false := Bool.eq_false_iff.mpr q
      rw [q0, Bool.false_and] at hbx
      rw [nf_n q, nf_n (by rw [hbx]; decide)]
      by_cases w : x + 1 ≤ n ∧ n < x + 1 + d ∧ bt b n = true
      · rw [if_pos w] at ih
        rw [if_pos ⟨by omega, by omega, w.2.2⟩]
        exact ih
      · rw [if_neg w] at ih
        rw [if_neg (fun u => w ⟨by by_cases e : x = n <;> first | (subst e; exact absurd u.2.2 q) | omega, by omega, u.2.2⟩)]
        exact ih
def cnB (b : Int32) : Nat := (nf b 12 1).length
theorem nf_mem {b : Int32} : ∀ d x n, n ∈ nf b d x → x ≤ n ∧ n < x + d ∧ bt b n = true
  | 0, _, n, h => absurd h (List.not_mem_nil)
  | d + 1, x, n, h => by
    by_cases q : bt b x = true
    · rw [nf_y q] at h
      rcases List.mem_cons.mp h with rfl | h
      · exact ⟨Nat.le_refl _, by omega, q⟩
      · have := nf_mem d (x + 1) n h
        exact ⟨by omega, by omega, this.2.2⟩
    · rw [nf_n q] at h
      have := nf_mem d (x + 1) n h
      exact ⟨by omega, by omega, this.2.2⟩
theorem bt_not (x : Int32) {n j : Nat} (hn : n < 32) (hj : j < 32) : bt (x &&& (((1 : Int32) <<< (nI n &&& 31)) ^^^ (-1))) j = (bt x j && decide (j ≠ n)) := by
  have hx : ∀ y : Int32, bt (y ^^^ (-1)) j = !(bt y j) := by
    intro y
    unfold bt
    rw [Int32.toBitVec_xor, BitVec.getLsbD_xor]
    have : (-1 : Int32).toBitVec.getLsbD j = true := by
      have e : (-1 : Int32).toBitVec = BitVec.allOnes 32 := by decide
      rw [e, BitVec.getLsbD_allOnes]
      exact decide_eq_true hj
    rw [this, Bool.xor_true]
  rw [b_and, hx, shl_bt hn hj]
  congr 1
  by_cases e : j = n <;> simp [e]
theorem cn_ring {c : cT} {h : hT} (hP : c.1 ≤ 4) {n : Nat} (hn : n ∈ nf (h 5) 12 1) : cnB (ringH c h (nI n) 5) + 1 = cnB (h 5) := by
  obtain ⟨n1, n2, n3⟩ := nf_mem 12 1 n hn
  have e : ringH c h (nI n) 5 = h 5 &&& (((1 : Int32) <<< (nI n &&& 31)) ^^^ (-1)) := by unfold ringH; rw [if_neg (by omega), if_neg (by decide), if_pos rfl]
  have := nf_rm (b := h 5) (b' := ringH c h (nI n) 5) (n := n) (fun j hj => by rw [e]; exact bt_not _ (by omega) hj) 12 1 (by omega)
  rw [if_pos ⟨n1, n2, n3⟩] at this
  exact this
theorem fm_nil {α β : Type} {g : α → List β} : ∀ l : List α, (∀ a, a ∈ l → g a = []) → l.flatMap g = []
  | [], _ => rfl
  | a :: l, h => by
    rw [List.flatMap_cons, h a List.mem_cons_self, fm_nil l (fun x hx => h x (List.mem_cons_of_mem _ hx))]
    rfl
theorem lv_nil {c : cT} (hP : c.1 ≤ 4) : ∀ N h, cnB (h 5) < N → lv c N h = []
  | 0, h, q => absurd q (Nat.not_lt_zero _)
  | N + 1, h, q => fm_nil _ (fun n hn => by
    have := cn_ring hP hn
    rw [lv_nil hP N _ (by omega)]
    rfl)
/-- the lowest k binary digits of m, added up -/
def sB (m : Nat) : Nat → Nat
  | 0 => 0
  | k + 1 => sB m k + m / 2 ^ k % 2
theorem bt_nI {m x : Nat} (hx : x < 32) : bt (nI m) x = decide (m / 2 ^ x % 2 = 1) := by
  unfold bt nI
  rw [show (Int32.ofNat m).toBitVec = BitVec.ofNat 32 m from rfl, BitVec.getLsbD_ofNat, decide_eq_true hx, Bool.true_and, Nat.testBit_eq_decide_div_mod_eq]
theorem nf_sB {m : Nat} : ∀ d x, x + d ≤ 32 → (nf (nI m) d x).length + sB m x = sB m (x + d)
  | 0, _, _ => Nat.zero_add _
  | d + 1, x, h => by
    have ih := nf_sB (m := m) d (x + 1) (by omega)
    rw [show x + 1 + d = x + (d + 1) by omega, show sB m (x + 1) = sB m x + m / 2 ^ x % 2 from rfl] at ih
    show (if bt (nI m) x = true then x :: nf (nI m) d (x + 1) else nf (nI m) d (x + 1)).length + sB m x = _
    rw [bt_nI (by omega), ← ih]
    by_cases q : m / 2 ^ x % 2 = 1
    · rw [if_pos (decide_eq_true q), List.length_cons]; omega
    · rw [if_neg (by rw [decide_eq_true_iff]; exact q)]; omega
theorem sB_le (m : Nat) : ∀ k, sB m k ≤ k
  | 0 => Nat.le_refl 0
  | k + 1 => by
    have := sB_le m k
    show sB m k + m / 2 ^ k % 2 ≤ k + 1
    omega
theorem bitsN_sB {m : Nat} : ∀ k, k ≤ 14 → bitsN (nI m) k = nI (sB m k)
  | 0, _ => rfl
  | k + 1, h => by
    have e : (nI m >>> (nI k &&& 31)) &&& 1 = nI (m / 2 ^ k % 2) := by
      refine b_ext (fun i hi => ?_)
      rw [b_and, b_sshr k (by omega) _ hi, b_1]
      by_cases h0 : i = 0
      · subst h0
        rw [if_pos (by omega), Nat.add_zero, bt_nI (by omega), bt_nI (by omega), Nat.pow_zero, Nat.div_one, Nat.mod_mod, decide_eq_true rfl, Bool.and_true]
      · rw [decide_eq_false h0, Bool.and_false, bt_nI hi]
        symm
        have h2 : m / 2 ^ k % 2 / 2 ^ i = 0 := by
          exact Nat.div_eq_of_lt (Nat.lt_of_lt_of_le (Nat.mod_lt _ (by decide : 0 < 2)) (show 2 ^ 1 ≤ 2 ^ i from Nat.pow_le_pow_right (by decide) (by omega)))
        rw [h2]
        rfl
    show bitsN (nI m) k + ((nI m >>> (nI k &&& 31)) &&& 1) = nI (sB m k + m / 2 ^ k % 2)
    rw [bitsN_sB k (by omega), e]
    have := sB_le m k
    refine i_nI ?_
    rw [i32_add (nI_ti (by omega)) (nI_ti (by omega)) (by omega)]
theorem cnB_sB {n : Nat} (hn : n < 4096) : cnB (nI (2 * n)) = sB (2 * n) 13 ∧ sB (2 * n) 14 = sB (2 * n) 13 := by
  have h := nf_sB (m := 2 * n) 12 1 (by decide)
  have h1 : sB (2 * n) 1 = 0 := by
    show 0 + 2 * n / 2 ^ 0 % 2 = 0
    omega
  have h2 : sB (2 * n) 14 = sB (2 * n) 13 + 2 * n / 2 ^ 13 % 2 := rfl
  refine ⟨?_, by rw [h2]; omega⟩
  show (nf (nI (2 * n)) 12 1).length = _
  rw [h1] at h
  exact h
theorem cn_bits : ∀ n, n < 4096 → J6_bitCount_0f7a4 (nI (2 * n)) = nI (cnB (nI (2 * n))) ∧ bitsT (nI (2 * n)) = nI (cnB (nI (2 * n))) := by
  have key : ∀ a, a < 64 → ∀ b, b < 64 → J6_bitCount_0f7a4 (nI (2 * (64 * a + b))) = nI (sB (2 * (64 * a + b)) 13) := by decide +kernel
  intro n hn
  have k := key (n / 64) (by omega) (n % 64) (by omega)
  rw [show 64 * (n / 64) + n % 64 = n by omega] at k
  obtain ⟨h1, h2⟩ := cnB_sB hn
  rw [h1]
  refine ⟨k, ?_⟩
  show bitsN (nI (2 * n)) 14 = _
  rw [bitsN_sB 14 (by decide), h2]
theorem cnB_le (b : Int32) : cnB b ≤ 12 := nf_len b 12 1

/-! fewest -/
theorem pfx_get (pn : Nat → Nat) {N j : Nat} (hj : j < N) : (pfx pn N).getD j 0 = pn j := by
  unfold pfx
  rw [List.getD_eq_getElem?_getD, List.getElem?_map, List.getElem?_range hj]
  rfl
theorem at_won {μ m : mS} {c : cT} {N : Nat} {H0 : hT} {p : List Nat} {h : hT} {rest : List (List Nat × hT)} (hN : N ≤ 4) (hA : AtL μ c N H0 m p h rest) {q : Nat} (hq : q < 8) : m.1 10 (1312 + 8 * N + q) = h q := by
  obtain ⟨pn, -, -, -, hh, -⟩ := hA
  rw [← hh]
  unfold hS
  rw [getH_lt hq]
theorem few_M {σ μ : mS} {c : cT} (hG : RG σ μ c) {i r N : Nat} (hi : i < 4) (hr : r < 6) (h1 : 1 ≤ N) (hN : N ≤ 4) {H0 : hT} : ∀ L f m x, Now μ c N H0 m x L → L.length + 1 < f → ∃ res, lp f (un2 (X11_fewest_b54 (nI i) (nI r) (nI N))) (m, x) = some res ∧ ((L.find? (wf i) = none ∧ ∃ m', res = .inl m' ∧ FrM μ m') ∨ (∃ p h m1 m', L.find? (wf i) = some (p, h) ∧ FrM μ m1 ∧ (∀ j, j < N → m1.1 14 j = nI (p.getD j 0)) ∧ X11_comes m1 (nI r) (nI N) = some ((), m') ∧ res = .inr (.inr (.inr (nI N, m'))))) := by
  intro L
  induction L with
  | nil =>
    intro f m x hNow hf
    obtain ⟨f, rfl⟩ : ∃ g, f = g + 1 := ⟨f - 1, by omega⟩
    rcases hNow with ⟨-, rfl, hF⟩ | ⟨p, h, rest, q, -⟩
    · refine ⟨.inl m, lp_r ?_, Or.inl ⟨rfl, m, rfl, hF⟩⟩
      show X11_fewest_b54 (nI i) (nI r) (nI N) m 0 = _
      unfold X11_fewest_b54
      rw [if_pos rfl]
    · exact absurd q (by simp)
  | cons l L ih =>
    intro f m x hNow hf
    obtain ⟨f, rfl⟩ : ∃ g, f = g + 1 := ⟨f - 1, by omega⟩
    rw [List.length_cons] at hf
    rcases hNow with ⟨q, -, -⟩ | ⟨p, h, rest, q, rfl, hA⟩
    · exact absurd q (by simp)
    obtain ⟨rfl, rfl⟩ := List.cons.inj q
    have ix : ((1312 : Int32) + nI N * 8) + 4 = nI (1312 + 8 * N + 4) := by rw [sl_eq (by omega)]; exact nI_p _ 4 (by omega)
    have st : X11_fewest_b54 (nI i) (nI r) (nI N) m 1 = if bt (h 4) i = true then bd (X11_takes m (nI N)) (fun r31 s33 => bd (X11_comes s33 (nI r) (nI N)) (fun r34 s36 => some (.inr (.inr (.inr (.inr (nI N, s36))))))) else bd (X11_follows m (nI N) (0)) (fun r28 s30 => some (.inl (s30, r28))) := by
      unfold X11_fewest_b54
      rw [if_neg (by decide), ix, if_pos (vinI (by omega) (by omega)), nI_nat (by omega), at_won hN hA (by omega), has_eq _ (by omega)]
      by_cases w : bt (h 4) i = true
      · rw [if_pos w, if_pos w, if_neg (by decide)]
      · rw [if_neg w, if_neg w, if_pos rfl]
    by_cases w : bt (h 4) i = true
    · rw [if_pos w] at st
      obtain ⟨m1, t1, t2, t3, t4⟩ := takes_eq (m := m) hN
      obtain ⟨m2, u1, -⟩ := comes_eq (m := m1) hr hN
      rw [t1, bd_some, u1, bd_some] at st
      have hF : FrM μ m1 := by
        have hF := hA.choose_spec.1.1
        exact ⟨fun q a1 a2 a3 a4 => by rw [t3 q a3]; exact hF.1 q a1 a2 a3 a4, fun q hq => by rw [t3 10 (by decide)]; exact hF.2.1 q hq, by rw [t4]; exact hF.2.2⟩
      refine ⟨_, lp_r st, Or.inr ⟨p, h, m1, m2, ?_, hF, fun j hj => ?_, u1, rfl⟩⟩
      · rw [List.find?_cons_of_pos]
        exact w
      · obtain ⟨pn, hT, -, hp, -⟩ := hA
        rw [t2 j hj, (hT.2 j hj).1, ← hp, pfx_get pn hj]
    · rw [if_neg w] at st
      obtain ⟨x', m', g1, g2, -⟩ := fol_next hG h1 hN hA
      rw [g1, bd_some] at st
      obtain ⟨res, z1, z2⟩ := ih f m' x' g2 (by omega)
      refine ⟨res, (lp_l st).trans z1, ?_⟩
      rw [List.find?_cons_of_neg]
      · exact z2
      · exact w
/-- one length tried by the reference -/
theorem few_M1 {σ μ m : mS} {c : cT} (hG : RG σ μ c) (hF : FrM μ m) {i r N : Nat} (hi : i < 4) (hr : r < 6) (h1 : 1 ≤ N) (hN : N ≤ 4) : ((lv c N (HX σ 5)).find? (wf i) = none ∧ ∃ m', X11_fewest_b41 (nI i) (nI r) m (nI N) = some (.inl (m', nI (N + 1))) ∧ FrM μ m') ∨ (∃ p h m1 m', (lv c N (HX σ 5)).find? (wf i) = some (p, h) ∧ FrM μ m1 ∧ (∀ j, j < N → m1.1 14 j = nI (p.getD j 0)) ∧ X11_comes m1 (nI r) (nI N) = some ((), m') ∧ X11_fewest_b41 (nI i) (nI r) m (nI N) = some (.inr (.inr (nI N, m')))) := by
  obtain ⟨x, m1, e1, hNow, -⟩ := fol_first hG hF h1 hN
  have hl := lv_len4 c hN (HX σ 5)
  obtain ⟨res, z1, z2⟩ := few_M hG hi hr h1 hN _ big m1 x hNow (by show _ < 1000000; omega)
  have l4 : ¬ (4 : Int32) < nI N := fun q => by have := i_lt.mp q; rw [nI_ti (by omega)] at this; have : (4 : Int) < N := this; omega
  unfold X11_fewest_b41
  rw [if_neg l4, e1, bd_some, z1, Option.bind_some]
  rcases z2 with ⟨a, m', rfl, b⟩ | ⟨p, h, m2, m', a, b, d, g, rfl⟩
  · exact Or.inl ⟨a, m', by rw [sm1_inl, nI_s N (by omega)], b⟩
  · exact Or.inr ⟨p, h, m2, m', a, b, d, g, rfl⟩
theorem few_end {σ μ : mS} {c : cT} (hG : RG σ μ c) {i r : Nat} (hi : i < 4) (hr : r < 6) : ∀ d N f m, N + d = 5 → 1 ≤ N → cnB (HX σ 5 5) < N → d < f → FrM μ m → ∃ m', lp f (un2 (X11_fewest_b41 (nI i) (nI r))) (m, nI N) = some (.inl m') ∧ FrM μ m' := by
  intro d
  induction d with
  | zero =>
    intro N f m hd h1 hc hf hF
    obtain ⟨f, rfl⟩ : ∃ g, f = g + 1 := ⟨f - 1, by omega⟩
    have e : N = 5 := by omega
    subst e
    exact ⟨m, lp_r rfl, hF⟩
  | succ d ih =>
    intro N f m hd h1 hc hf hF
    obtain ⟨f, rfl⟩ : ∃ g, f = g + 1 := ⟨f - 1, by omega⟩
    have hnil := lv_nil hG.P4 N (HX σ 5) hc
    rcases few_M1 hG hF hi hr h1 (show N ≤ 4 by omega) with ⟨-, m', st, F'⟩ | ⟨p, h, m1, m', a, -⟩
    · obtain ⟨m2, z1, z2⟩ := ih (N + 1) f m' (by omega) (by omega) (by omega) (by omega) F'
      exact ⟨m2, (lp_l st).trans z1, z2⟩
    · rw [hnil] at a
      exact absurd a (by simp)
theorem few_both {σ μ : mS} {c : cT} (h : RR σ μ) (hG : RG σ μ c) {i r B : Nat} (hi : i < c.1) (hr : r < 6) (hB : B = min 4 (cnB (HX σ 5 5))) : ∀ d N f f' s m, N + d = 5 → 1 ≤ N → N ≤ B + 1 → d < f → d < f' → FrX σ s → HX s 0 = HX σ 5 → FrM μ m → ∃ rX rM, lp f (un2 (X10_fewest_b27 (nI i) (nI r) (nI B))) (s, nI N) = some rX ∧ lp f' (un2 (X11_fewest_b41 (nI i) (nI r))) (m, nI N) = some rM ∧ ((∃ s' m', rX = .inl s' ∧ rM = .inl m' ∧ FrX σ s' ∧ FrM μ m') ∨ (∃ v τ ν, rX = .inr (v, τ) ∧ rM = .inr (v, ν) ∧ RR τ ν)) := by
  have hP4 := hG.P4
  have cle := cnB_le (HX σ 5 5)
  intro d
  induction d with
  | zero =>
    intro N f f' s m hd h1 hNB hf hf' hX h0 hM
    obtain ⟨f, rfl⟩ : ∃ g, f = g + 1 := ⟨f - 1, by omega⟩
    obtain ⟨f', rfl⟩ : ∃ g, f' = g + 1 := ⟨f' - 1, by omega⟩
    have e5 : N = 5 := by omega
    subst e5
    refine ⟨.inl s, .inl m, lp_r ?_, lp_r rfl, Or.inl ⟨s, m, rfl, rfl, hX, hM⟩⟩
    show X10_fewest_b27 (nI i) (nI r) (nI B) s (nI 5) = _
    unfold X10_fewest_b27
    rw [if_pos (i_lt.mpr (by rw [nI_ti (by omega), nI_ti (by omega)]; omega))]
  | succ d ih =>
    intro N f f' s m hd h1 hNB hf hf' hX h0 hM
    obtain ⟨f, rfl⟩ : ∃ g, f = g + 1 := ⟨f - 1, by omega⟩
    by_cases hend : N = B + 1
    · obtain ⟨m', z1, z2⟩ := few_end hG (i := i) (r := r) (by omega) hr (d + 1) N f' m hd h1 (by omega) hf' hM
      refine ⟨.inl s, _, lp_r ?_, z1, Or.inl ⟨s, m', rfl, rfl, hX, z2⟩⟩
      show X10_fewest_b27 (nI i) (nI r) (nI B) s (nI N) = _
      unfold X10_fewest_b27
      rw [if_pos (i_lt.mpr (by rw [nI_ti (by omega), nI_ti (by omega)]; omega))]
    obtain ⟨f', rfl⟩ : ∃ g, f' = g + 1 := ⟨f' - 1, by omega⟩
    obtain ⟨v, s', w1, w2, w3⟩ := wins_X hG hi (N := N) (by omega) N 6 s 0 (HX σ 5) (by omega) (by omega) hX (by rw [h0]; exact hG.hv) (by rw [h0]; exact EqW.rf)
    have w1' : X10_winsAhead 6 s (nI i) 0 (nI N) = some (v, s') := w1
    have st : X10_fewest_b27 (nI i) (nI r) (nI B) s (nI N) = if v = 0 then some (.inl (s', nI (N + 1))) else bd (X10_layTrail s' (nI r) (nI N)) (fun r20 s22 => some (.inr (.inr (nI N, s22)))) := by
      unfold X10_fewest_b27
      rw [if_neg (fun q => by have := i_lt.mp q; rw [nI_ti (by omega), nI_ti (by omega)] at this; omega), w1', bd_some, nI_s N (by omega)]
    rcases w3 with ⟨rfl, w3⟩ | ⟨p, hh, rfl, w3, w4⟩
    · rw [if_pos rfl] at st
      rcases few_M1 hG hM (i := i) (r := r) (by omega) hr h1 (show N ≤ 4 by omega) with ⟨-, m', sm, F'⟩ | ⟨p, h, m1, m', a, -⟩
      · obtain ⟨rX, rM, z1, z2, z3⟩ := ih (N + 1) f f' s' m' (by omega) (by omega) (by omega) (by omega) (by omega) w2.1 (by rw [w2.2.1 0 (by omega)]; exact h0) F'
        exact ⟨rX, rM, (lp_l st).trans z1, (lp_l sm).trans z2, z3⟩
      · rw [w3] at a
        exact absurd a (by simp)
    · rw [if_neg (by decide)] at st
      rcases few_M1 hG hM (i := i) (r := r) (by omega) hr h1 (show N ≤ 4 by omega) with ⟨a, -⟩ | ⟨p', h', m1, m', a, F1, a2, a3, sm⟩
      · rw [w3] at a
        exact absurd a (by simp)
      · rw [w3] at a
        obtain ⟨rfl, rfl⟩ := Prod.mk.inj (Option.some.inj a)
        obtain ⟨τ, x1, x2, x3, x4, x5⟩ := lay_X (s := s') hr (show N ≤ 4 by omega)
        obtain ⟨ν, y1, y2, y3, y4, y5, y6⟩ := comes_eq (m := m1) hr (show N ≤ 4 by omega)
        rw [a3] at y1
        obtain rfl := (Prod.mk.inj (Option.some.inj y1)).2
        rw [x1, bd_some] at st
        refine ⟨_, _, lp_r st, lp_r sm, Or.inr ⟨nI N, τ, m', rfl, rfl, RR_lay (h.tri w2.1 F1) hr (show N ≤ 4 by omega) x2 x3 x4 y4 y3 y5 y6 (fun j hj => ?_)⟩⟩
        have := w4 j hj
        rw [Nat.zero_add] at this
        rw [y2 j hj, x5 j hj, a2 j hj, this]
theorem ca_eq {σ μ s : mS} {c : cT} (hG : RG σ μ c) (hX : FrX σ s) {a : Nat} (ha : a ≤ 100) : ∃ s', X10_callsAhead s (nI a) = some (nI (min (min a 4) (cnB (HX σ 5 5))), s') ∧ FrX σ s' ∧ HX s' 0 = HX σ 5 ∧ s'.1 0 = s.1 0 := by
  unfold X10_callsAhead
  obtain ⟨s', t1, t2, t3, t4, -⟩ := take0 (σ := s)
  have hF : FrX σ s' := hX.tr t3
  have h5 : HX s 5 = HX σ 5 := by
    rw [(hG.tri hX FrM.rf).2.2.2.2.2.1, hG.2.2.2.2.2.1]
  obtain ⟨nb, hnb, eb⟩ := hG.hv.2.2
  have b5 : s'.1 (144 + 5) 3 = HX σ 5 5 := by
    have e : s'.1 (144 + 5) = σ.1 (144 + 5) := hF.1 _ (by omega) (by omega) (by omega) (by omega) (by omega)
    rw [e]
    rfl
  have jm : ∀ x y : Nat, x < 1000 → y < 1000 → jmin (nI x) (nI y) = nI (min x y) := fun x y hx hy => by
    unfold jmin
    by_cases q : y < x
    · rw [if_pos (i_lt.mpr (by rw [nI_ti (by omega), nI_ti (by omega)]; omega)), show min x y = y by omega]
    · rw [if_neg (fun z => by have := i_lt.mp z; rw [nI_ti (by omega), nI_ti (by omega)] at this; omega), show min x y = x by omega]
  have cle := cnB_le (HX σ 5 5)
  have cb : J6_bitCount_0f7a4 (s'.1 (144 + 5) 3) = nI (cnB (HX σ 5 5)) := by rw [b5, eb]; exact (cn_bits nb hnb).1
  have j4 : jmin (nI a) 4 = nI (min a 4) := jm a 4 (by omega) (by omega)
  rw [if_pos (by decide), t1, bd_some, cb, j4, jm _ _ (by omega) (by omega)]
  exact ⟨s', rfl, hF, by rw [t2, h5], t4⟩
theorem sim_fewest {σ μ : mS} (h : RR σ μ) (a1 a2 : Int32) : SIM (X10_fewest σ a1 a2) (X11_fewest μ a1 a2) := by
  obtain ⟨c, hG⟩ := h.2.2.1
  have hP4 := hG.P4
  unfold X10_fewest X11_fewest
  by_cases hb : a1.toInt < 0 ∨ (c.1 : Int) ≤ a1.toInt
  · rw [if_pos (hG.plX.mpr hb), if_pos (hG.plM.mpr hb)]
    exact SIM.ret h rfl
  rw [if_neg (fun q => hb (hG.plX.mp q)), if_neg (fun q => hb (hG.plM.mp q))]
  obtain ⟨i, hi, hi4, rfl⟩ := plEx hG hb
  by_cases hb2 : a2.toInt < 0 ∨ 6 ≤ a2.toInt
  · rw [if_pos (isRow_zero.mpr hb2), if_pos (isRowM_zero.mpr hb2)]
    exact SIM.ret h rfl
  obtain ⟨r, hr, rfl⟩ := rowEx hb2
  rw [if_neg (rowY hr).1, if_neg (rowY hr).2]
  obtain ⟨s, c1, c2, c3, c4⟩ := ca_eq hG (FrX.rf (σ := σ)) (a := 4) (by omega)
  have c1' : X10_callsAhead σ 4 = some (nI (min (min 4 4) (cnB (HX σ 5 5))), s) := c1
  have cle := cnB_le (HX σ 5 5)
  rw [c1', bd_some]
  generalize hB : min (min 4 4) (cnB (HX σ 5 5)) = B
  have hw4 : μ.1 10 4 = HX σ 5 4 := hG.won
  rw [if_pos (by decide), show (4 : Int32).toNatClampNeg = 4 by decide, hw4, has_eq _ (by omega)]
  obtain ⟨v, s', w1, w2, w3⟩ := wins_X hG hi (N := 0) (by omega) 0 6 s 0 (HX σ 5) (by omega) (by omega) c2 (by rw [c3]; exact hG.hv) (by rw [c3]; exact EqW.rf)
  have w1' : X10_winsAhead 6 s (nI i) 0 0 = some (v, s') := w1
  have st : X10_fewest_b27 (nI i) (nI r) (nI B) s 0 = if v = 0 then some (.inl (s', nI 1)) else bd (X10_layTrail s' (nI r) (nI 0)) (fun r20 s22 => some (.inr (.inr (0, s22)))) := by
    unfold X10_fewest_b27
    rw [if_neg (show ¬ nI B < 0 from fun q => by have := i_lt.mp q; rw [nI_ti (by omega)] at this; have : (B : Int) < 0 := this; omega), w1', bd_some]
    rfl
  have f0 : (lv c 0 (HX σ 5)).find? (wf i) = if bt (HX σ 5 4) i = true then some ([], HX σ 5) else none := by
    show (match wf i ([], HX σ 5) with | true => some ([], HX σ 5) | false => none) = _
    have q' : wf i ([], HX σ 5) = bt (HX σ 5 4) i := rfl
    rw [q']
    cases bt (HX σ 5 4) i <;> rfl
  rw [f0] at w3
  by_cases w : bt (HX σ 5 4) i = true
  · rw [if_pos w] at w3
    rw [if_pos w, if_neg (by decide)]
    rcases w3 with ⟨-, a⟩ | ⟨p, hh, rfl, -, -⟩
    · exact absurd a (by simp)
    obtain ⟨τ, x1, x2, x3, x4, x5⟩ := lay_X (s := s') hr (show 0 ≤ 4 by omega)
    rw [if_neg (by decide), x1, bd_some] at st
    have lX : lp big (un2 (X10_fewest_b27 (nI i) (nI r) (nI B))) (s, 0) = some (.inr (0, τ)) := lp_r (f := 999999) st
    rw [lX, Option.bind_some, sm1_inr, anew_eq μ (nI_ti (n := r) (by omega)) hr (a2 := 0) (n := 0) (by decide) (by omega), bd_some]
    refine SIM.ret (RR_lay (h.tri w2.1 FrM.rf) hr (show 0 ≤ 4 by omega) x2 x3 x4 ?_ (fun j hj => ?_) (fun q q1 q2 => ?_) rfl (fun j hj => absurd hj (Nat.not_lt_zero _))) rfl
    · rw [mrow_ne (by decide), mrow_at]
      rfl
    · rw [mrow_at, seg_zero]
    · rw [mrow_ne q2, mrow_ne q1]
  · rw [if_neg w] at w3
    rw [if_neg w, if_pos rfl]
    rcases w3 with ⟨rfl, -⟩ | ⟨p, hh, -, a, -⟩
    rotate_left
    · exact absurd a (by simp)
    rw [if_pos rfl] at st
    obtain ⟨rX, rM, z1, z2, z3⟩ := few_both h hG hi hr (B := B) (by omega) 4 1 999999 big s' μ (by omega) (by omega) (by omega) (by omega) (by show 4 < 1000000; omega) w2.1 (by rw [w2.2.1 0 (by omega)]; exact c3) FrM.rf
    have lX : lp big (un2 (X10_fewest_b27 (nI i) (nI r) (nI B))) (s, 0) = some rX := (lp_l (f := 999999) st).trans z1
    have lM : lp big (un2 (X11_fewest_b41 (nI i) (nI r))) (μ, 1) = some rM := z2
    rw [lX, lM, Option.bind_some, Option.bind_some]
    rcases z3 with ⟨s2, m2, rfl, rfl, y1, y2⟩ | ⟨v, τ, ν, rfl, rfl, y⟩
    · exact SIM.ret (h.tri y1 y2) rfl
    · exact SIM.ret y rfl

/-! most -/
def WB (c : cT) (h : hT) : Prop := ∀ j, c.1 ≤ j → j < 32 → bt (h 4) j = false
theorem wns_hi {c : cT} {h : hT} {n : Int32} : ∀ k, k ≤ 4 → ∀ j, k ≤ j → j < 32 → bt (wns c h n k) j = false
  | 0, _, j, _, _ => b_0 j
  | k + 1, hk, j, hj, hj2 => by
    show bt (wns c h n k ||| wnb c h n k) j = false
    rw [b_or, wns_hi k (by omega) j (by omega) hj2, Bool.false_or]
    unfold wnb
    split
    · rw [shl_bt (by omega) hj2]
      exact decide_eq_false (by omega)
    · exact b_0 j
theorem WB.ring {c : cT} {h : hT} (hP : c.1 ≤ 4) (hW : WB c h) (n : Int32) : WB c (ringH c h n) := fun j hj hj2 => by
  have e : ringH c h n 4 = h 4 ||| wns c h n c.1 := by unfold ringH; rw [if_neg (by omega), if_pos rfl]
  rw [e, b_or, hW j hj hj2, wns_hi c.1 hP j hj hj2]
  rfl
theorem WB_rpl {c : cT} {dn : Nat → Nat} (hP : c.1 ≤ 4) : ∀ k, (∀ q, q < k → dOK c.1 (dn q)) → WB c (rpl c dn k)
  | 0, _ => fun j _ _ => by
    have e : rpl c dn 0 4 = 0 := rfl
    rw [e]
    exact b_0 j
  | k + 1, h => by
    have ih := WB_rpl hP k (fun q hq => h q (by omega))
    have hk := h k (by omega)
    show WB c (dStep c (rpl c dn k) (dn k))
    unfold dStep
    split
    · exact ih.ring hP _
    · next hn =>
      intro j hj hj2
      unfold turnH
      rw [upd_ne (by unfold dOK at hk; omega)]
      exact ih j hj hj2
theorem RG.wb {σ μ : mS} {c : cT} (hG : RG σ μ c) : WB c (HX σ 5) := by
  obtain ⟨d, dn, h1, h2, h3, h4, h5⟩ := hG.2.2.2.2.2.2.2.1
  rw [hG.2.2.2.2.2.1, h4]
  exact WB_rpl hG.P4 d (fun q hq => (h3 q hq).2)
def wc (h : hT) : Nat := (bitsT (h 4)).toNatClampNeg
theorem wc_tab : ∀ P, P < 5 → ∀ m, m < 16 → (List.range 5).all (fun j => decide (j < P) || !(bt (nI m) j)) = true → bitsT (nI m) = nI ((bitsT (nI m)).toNatClampNeg) ∧ (bitsT (nI m)).toNatClampNeg ≤ P := by decide +kernel
theorem wc_ok {c : cT} {h : hT} (hP : c.1 ≤ 4) (hV : HV h) (hW : WB c h) : bitsT (h 4) = nI (wc h) ∧ J6_bitCount_0f7a4 (h 4) = nI (wc h) ∧ wc h ≤ c.1 := by
  obtain ⟨m, hm, e⟩ := hV.2.1
  have t := wc_tab c.1 (by omega) m hm (List.all_eq_true.mpr (fun j hj => by
    have hj5 := List.mem_range.mp hj
    by_cases q : j < c.1
    · rw [decide_eq_true q]
      rfl
    · have := hW j (by omega) (by omega)
      rw [e] at this
      rw [this]
      simp))
  unfold wc
  rw [e]
  exact ⟨t.1, (bc16 m hm).trans t.1, t.2⟩
/-- the greatest so far (0: none) and its path -/
def mstep (a : Nat × List Nat) (l : List Nat × hT) : Nat × List Nat := if a.1 ≤ wc l.2 then (wc l.2 + 1, l.1) else a
theorem kmI {k : Nat} (hk : k < 1000) : (nI k - 1).toInt = (k : Int) - 1 := by
  rw [i_sub (by rw [nI_ti (by omega)]; show _ ≤ (k : Int) - 1; omega) (by rw [nI_ti (by omega)]; show (k : Int) - 1 < _; omega), nI_ti (by omega)]
  rfl
theorem kmI_s {k : Nat} (hk : k < 999) : nI (k + 1) - 1 = nI k := by
  have e := kmI (k := k + 1) (by omega)
  exact i_nI (by omega)
theorem m_stop {P : Nat} : ∀ (L : List (List Nat × hT)) (a : Nat × List Nat), (∀ l, l ∈ L → wc l.2 ≤ P) → P < a.1 → L.foldl mstep a = a
  | [], a, _, _ => rfl
  | l :: L, a, h, ha => by
    have e : mstep a l = a := by
      unfold mstep
      rw [if_neg (by have := h l List.mem_cons_self; omega)]
    rw [List.foldl_cons, e]
    exact m_stop L a (fun x hx => h x (List.mem_cons_of_mem _ hx)) ha
theorem lv_all {c : cT} (hP : c.1 ≤ 4) : ∀ N h, HV h → WB c h → ∀ l, l ∈ lv c N h → HV l.2 ∧ WB c l.2
  | 0, h, hV, hW, l, hl => by
    rw [List.mem_singleton.mp hl]
    exact ⟨hV, hW⟩
  | N + 1, h, hV, hW, l, hl => by
    obtain ⟨n, hn, hl2⟩ := List.mem_flatMap.mp hl
    obtain ⟨l', hl', rfl⟩ := List.mem_map.mp hl2
    exact lv_all hP N _ (hV.ring hP _) (hW.ring hP _) l' hl'
theorem lv_ne {c : cT} (hP : c.1 ≤ 4) : ∀ N h, N ≤ cnB (h 5) → lv c N h ≠ []
  | 0, h, _ => by intro q; cases q
  | N + 1, h, hN => by
    intro q
    cases hnf : nf (h 5) 12 1 with
    | nil =>
      have : cnB (h 5) = 0 := by unfold cnB; rw [hnf]; rfl
      omega
    | cons n t =>
      have hm : n ∈ nf (h 5) 12 1 := by rw [hnf]; exact List.mem_cons_self
      have hc := cn_ring hP hm
      have hq : (nf (h 5) 12 1).flatMap (fun n => (lv c N (ringH c h (nI n))).map (fun l => (n :: l.1, l.2))) = [] := q
      rw [hnf, List.flatMap_cons] at hq
      have := (List.append_eq_nil_iff.mp hq).1
      exact lv_ne hP N _ (by omega) (List.map_eq_nil_iff.mp this)
/-! the reference -/
theorem most_M {σ μ : mS} {c : cT} (hG : RG σ μ c) {N : Nat} {a1 r10 : Int32} (hl : X11_lesser a1 r10 = nI N) (h1 : 1 ≤ N) (hN : N ≤ 4) {H0 : hT} : ∀ L f m x k p0, Now μ c N H0 m x L → L.length + 1 < f → k ≤ 5 → (∀ l, l ∈ L → HV l.2 ∧ WB c l.2) → (0 < k → ∀ j, j < N → m.1 14 j = nI (p0.getD j 0)) → ∃ m', lp f (un3 (X11_most_b85 a1 r10)) (m, nI k - 1, x) = some (m', nI (L.foldl mstep (k, p0)).1 - 1) ∧ FrM μ m' ∧ (L.foldl mstep (k, p0)).1 ≤ 5 ∧ (0 < (L.foldl mstep (k, p0)).1 → ∀ j, j < N → m'.1 14 j = nI ((L.foldl mstep (k, p0)).2.getD j 0)) := by
  have hP4 := hG.P4
  intro L
  induction L with
  | nil =>
    intro f m x k p0 hNow hf hk hall hp
    obtain ⟨f, rfl⟩ : ∃ g, f = g + 1 := ⟨f - 1, by omega⟩
    rcases hNow with ⟨-, rfl, hF⟩ | ⟨p, h, rest, q, -⟩
    · refine ⟨m, lp_r ?_, hF, hk, hp⟩
      show X11_most_b85 a1 r10 m (nI k - 1) 0 = _
      unfold X11_most_b85
      rw [if_pos rfl]
      rfl
    · exact absurd q (by simp)
  | cons l L ih =>
    intro f m x k p0 hNow hf hk hall hp
    obtain ⟨f, rfl⟩ : ∃ g, f = g + 1 := ⟨f - 1, by omega⟩
    rw [List.length_cons] at hf
    rcases hNow with ⟨q, -, -⟩ | ⟨p, h, rest, q, rfl, hA⟩
    · exact absurd q (by simp)
    obtain ⟨rfl, rfl⟩ := List.cons.inj q
    obtain ⟨hV, hW⟩ := hall (p, h) List.mem_cons_self
    obtain ⟨w1, -, w3⟩ := wc_ok hP4 hV hW
    have w1 : bitsT (h 4) = nI (wc h) := w1
    have w3 : wc h ≤ c.1 := w3
    have ix : ((1312 : Int32) + nI N * 8) + 4 = nI (1312 + 8 * N + 4) := by rw [sl_eq (by omega)]; exact nI_p _ 4 (by omega)
    rw [List.foldl_cons]
    have go : ∀ m1 k1 p1, FrM μ m1 → AtL μ c N H0 m1 p h L → k1 ≤ 5 → mstep (k, p0) (p, h) = (k1, p1) → (0 < k1 → ∀ j, j < N → m1.1 14 j = nI (p1.getD j 0)) → X11_most_b85 a1 r10 m (nI k - 1) 1 = bd (X11_follows m1 (nI N) (0)) (fun r37 s39 => some (.inl (s39, nI k1 - 1, r37))) → ∃ m', lp (f + 1) (un3 (X11_most_b85 a1 r10)) (m, nI k - 1, 1) = some (m', nI (L.foldl mstep (mstep (k, p0) (p, h))).1 - 1) ∧ FrM μ m' ∧ (L.foldl mstep (mstep (k, p0) (p, h))).1 ≤ 5 ∧ (0 < (L.foldl mstep (mstep (k, p0) (p, h))).1 → ∀ j, j < N → m'.1 14 j = nI ((L.foldl mstep (mstep (k, p0) (p, h))).2.getD j 0)) := by
      intro m1 k1 p1 F1 A1 hk1 em hp1 st
      obtain ⟨x', m', g1, g2, g3⟩ := fol_next hG h1 hN A1
      rw [g1, bd_some] at st
      have hp' : 0 < k1 → ∀ j, j < N → m'.1 14 j = nI (p1.getD j 0) := fun h0 j hj => by rw [g3 14 (by decide) (by decide)]; exact hp1 h0 j hj
      obtain ⟨m2, z1, z2⟩ := ih f m' x' k1 p1 g2 (by omega) hk1 (fun x hx => hall x (List.mem_cons_of_mem _ hx)) hp'
      rw [em]
      exact ⟨m2, (lp_l st).trans z1, z2⟩
    have hF : FrM μ m := hA.choose_spec.1.1
    by_cases hle : k ≤ wc h
    · obtain ⟨m1, t1, t2, t3, t4⟩ := takes_eq (m := m) hN
      have F1 : FrM μ m1 := ⟨fun q a1 a2 a3 a4 => by rw [t3 q a3]; exact hF.1 q a1 a2 a3 a4, fun q hq => by rw [t3 10 (by decide)]; exact hF.2.1 q hq, by rw [t4]; exact hF.2.2⟩
      have hS1 : hS m1 = hS m := funext (fun j => by unfold hS; rw [t3 10 (by decide)])
      obtain ⟨pn, hT, a1', a2', a3', a4', a5'⟩ := hA
      refine go m1 (wc h + 1) p F1 ⟨pn, ⟨F1, fun j hj => by rw [t3 13 (by decide)]; exact hT.2 j hj⟩, by rw [hS1]; exact a1', a2', by rw [hS1]; exact a3', by rw [hS1]; exact a4', a5'⟩ (by omega) (if_pos hle) (fun _ j hj => by rw [t2 j hj, (hT.2 j hj).1, ← a2', pfx_get pn hj]) ?_
      unfold X11_most_b85
      rw [if_neg (by decide), hl, ix, if_pos (vinI (by omega) (by omega)), nI_nat (by omega), show m.1 10 (1312 + 8 * N + 4) = h 4 from at_won hN (⟨pn, hT, a1', a2', a3', a4', a5'⟩ : AtL μ c N H0 m p h L) (by omega), bits_eq, Option.bind_some, w1, if_neg (show ¬ nI (wc h) ≤ nI k - 1 from nle (by rw [kmI (by omega), nI_ti (by omega)]; omega)), t1, bd_some, Option.bind_some, kmI_s (by omega)]
      rfl
    · refine go m k p0 hF hA hk (if_neg hle) hp ?_
      unfold X11_most_b85
      rw [if_neg (by decide), hl, ix, if_pos (vinI (by omega) (by omega)), nI_nat (by omega), at_won hN hA (by omega), bits_eq, Option.bind_some, w1, if_pos (show nI (wc h) ≤ nI k - 1 from ile (by rw [kmI (by omega), nI_ti (by omega)]; omega)), Option.bind_some]
      rfl

/-! most: the class -/
def Laid (s : mS) (r N : Nat) (p : List Nat) : Prop := s.1 24 r = nI N ∧ ∀ j, j < N → s.1 (16 + r) j = nI (p.getD j 0)
def GX (r : Nat) (s s' : mS) (e : Nat) : Prop := (∀ q, ¬ (144 ≤ q ∧ q < 149) → ¬ (152 ≤ q ∧ q < 157) → q ≠ 192 → q ≠ 200 → q ≠ 0 → q ≠ 24 → q ≠ 16 + r → s'.1 q = s.1 q) ∧ (∀ q, q ≠ 11 → s'.1 0 q = s.1 0 q) ∧ s'.2 = s.2 ∧ (∀ q, q ≠ r → s'.1 24 q = s.1 24 q) ∧ (∀ j, j ≤ e → HX s' j = HX s j) ∧ (∀ j, j < e → s'.1 192 j = s.1 192 j)
theorem GX.rf {r : Nat} {s : mS} {e : Nat} : GX r s s e := ⟨fun _ _ _ _ _ _ _ _ => rfl, fun _ _ => rfl, rfl, fun _ _ => rfl, fun _ _ => rfl, fun _ _ => rfl⟩
theorem GX.tr {r : Nat} {s s' s'' : mS} {e e' : Nat} (h : GX r s s' e) (h' : GX r s' s'' e') (he : e ≤ e') : GX r s s'' e := ⟨fun q a1 a2 a3 a4 a5 a6 a7 => by rw [h'.1 q a1 a2 a3 a4 a5 a6 a7, h.1 q a1 a2 a3 a4 a5 a6 a7], fun q hq => by rw [h'.2.1 q hq, h.2.1 q hq], by rw [h'.2.2.1, h.2.2.1], fun q hq => by rw [h'.2.2.2.1 q hq, h.2.2.2.1 q hq], fun j hj => by rw [h'.2.2.2.2.1 j (by omega), h.2.2.2.2.1 j hj], fun j hj => by rw [h'.2.2.2.2.2 j (by omega), h.2.2.2.2.2 j hj]⟩
theorem GX.cf {r : Nat} {s s' : mS} {e : Nat} {c : cT} (hr : r < 6) (h : GX r s s' e) (hC : CF s c) : CF s' c := hC.of (h.1 _ (by omega) (by omega) (by omega) (by omega) (by omega) (by omega) (by omega)) (h.1 _ (by omega) (by omega) (by omega) (by omega) (by omega) (by omega) (by omega)) (h.1 _ (by omega) (by omega) (by omega) (by omega) (by omega) (by omega) (by omega)) (fun i hi => h.1 _ (by omega) (by omega) (by omega) (by omega) (by omega) (by omega) (by omega))
theorem leaf_X {c : cT} {N r : Nat} (hN : N ≤ 4) (hr : r < 6) {s : mS} {b : hT} {tp : List Nat} {k : Nat} {p0 : List Nat} (hP : c.1 ≤ 4) (hV : HV b) (hW : WB c b) (hH : HX s N = b) (htr : ∀ j, j < N → s.1 192 j = nI (tp.getD j 0)) (hk : s.1 0 11 = nI k - 1) (hk5 : k ≤ 5) (hl : 0 < k → Laid s r N p0) : ∃ s', (if (J6_bitCount_0f7a4 (s.1 (144 + N) 2)) ≤ (s.1 0 11) then some ((), s) else bd (X10_layTrail (mwI s 0 11 (J6_bitCount_0f7a4 (s.1 (144 + N) 2))) (nI r) (nI N)) (fun r7 s9 => some ((), s9))) = some ((), s') ∧ GX r s s' N ∧ s'.1 0 11 = nI (mstep (k, p0) (tp, b)).1 - 1 ∧ (mstep (k, p0) (tp, b)).1 ≤ 5 ∧ (0 < (mstep (k, p0) (tp, b)).1 → Laid s' r N (mstep (k, p0) (tp, b)).2) := by
  obtain ⟨w1, w2, w3⟩ := wc_ok hP hV hW
  have e4 : s.1 (144 + N) 2 = b 4 := by rw [← hH]; rfl
  rw [e4, w2, hk]
  unfold mstep
  by_cases hle : k ≤ wc b
  · rw [if_pos (show (k, p0).1 ≤ wc (tp, b).2 from hle), if_neg (show ¬ nI (wc b) ≤ nI k - 1 from nle (by rw [kmI (by omega), nI_ti (by omega)]; omega))]
    obtain ⟨τ, x1, x2, x3, x4, x5⟩ := lay_X (s := mwI s 0 11 (nI (wc b))) hr hN
    rw [x1, bd_some]
    refine ⟨τ, rfl, ⟨fun q a1 a2 a3 a4 a5 a6 a7 => by rw [x3 q a6 a7, mwI_rk a5], fun q hq => by rw [x3 0 (by omega) (by omega), mwI_row, mrow_at, upd_ne hq], x4, fun q hq => by rw [x2, upd_ne hq, mwI_rk (by decide)], fun j hj => HX_of (by rw [x3 _ (by omega) (by omega), mwI_rk (by omega)]) (by rw [x3 _ (by omega) (by omega), mwI_rk (by omega)]), fun j hj => by rw [x3 192 (by omega) (by omega), mwI_rk (by decide)]⟩, ?_, ?_, fun _ => ⟨?_, fun j hj => ?_⟩⟩
    · rw [x3 0 (by omega) (by omega), mwI_row, mrow_at, upd_at]
      exact (kmI_s (by omega)).symm
    · show wc b + 1 ≤ 5
      omega
    · rw [x2, upd_at]
    · rw [x5 j hj, mwI_rk (by decide)]
      exact htr j hj
  · rw [if_neg (show ¬ (k, p0).1 ≤ wc (tp, b).2 from hle), if_pos (show nI (wc b) ≤ nI k - 1 from ile (by rw [kmI (by omega), nI_ti (by omega)]; omega))]
    exact ⟨s, rfl, GX.rf, hk, hk5, hl⟩
theorem getD_app {tp l : List Nat} {j : Nat} (h : j < tp.length) : (tp ++ l).getD j 0 = tp.getD j 0 := by
  rw [List.getD_eq_getElem?_getD, List.getD_eq_getElem?_getD, List.getElem?_append_left h]
theorem getD_at {tp : List Nat} {x : Nat} : (tp ++ [x]).getD tp.length 0 = x := by
  rw [List.getD_eq_getElem?_getD, List.getElem?_append_right (Nat.le_refl _), Nat.sub_self]
  rfl
theorem gather_X {c : cT} (hP : c.1 ≤ 4) {N r : Nat} (hN : N ≤ 4) (hr : r < 6) : ∀ n f s e b tp k p0, e + n = N → n < f → CF s c → HV b → WB c b → HX s e = b → tp.length = e → (∀ j, j < e → s.1 192 j = nI (tp.getD j 0)) → s.1 0 11 = nI k - 1 → k ≤ 5 → (0 < k → Laid s r N p0) → ∃ s', X10_gatherMost f s (nI r) (nI e) (nI N) = some ((), s') ∧ GX r s s' e ∧ s'.1 0 11 = nI (((lv c n b).map (fun l => (tp ++ l.1, l.2))).foldl mstep (k, p0)).1 - 1 ∧ (((lv c n b).map (fun l => (tp ++ l.1, l.2))).foldl mstep (k, p0)).1 ≤ 5 ∧ (0 < (((lv c n b).map (fun l => (tp ++ l.1, l.2))).foldl mstep (k, p0)).1 → Laid s' r N (((lv c n b).map (fun l => (tp ++ l.1, l.2))).foldl mstep (k, p0)).2) := by
  intro n
  induction n with
  | zero =>
    intro f s e b tp k p0 he hf hC hV hW hH ht htr hk hk5 hl
    obtain ⟨f, rfl⟩ : ∃ g, f = g + 1 := ⟨f - 1, by omega⟩
    have en : e = N := by omega
    subst en
    obtain ⟨s', g1, g2, g3⟩ := leaf_X hN hr (tp := tp) hP hV hW hH htr hk hk5 hl
    have eL : ((lv c 0 b).map (fun l => (tp ++ l.1, l.2))).foldl mstep (k, p0) = mstep (k, p0) (tp, b) := by
      show mstep (k, p0) (tp ++ [], b) = _
      rw [List.append_nil]
    rw [eL]
    refine ⟨s', ?_, g2, g3⟩
    show X10_gatherMost_F (X10_gatherMost f) s (nI r) (nI e) (nI e) = _
    unfold X10_gatherMost_F
    rw [if_pos (vinI (by omega) (by omega)), if_pos le_nI, nI_nat (by omega)]
    exact g1
  | succ n ih =>
    intro f s e b tp k p0 he hf hC hV hW hH ht htr hk hk5 hl
    obtain ⟨f, rfl⟩ : ∃ g, f = g + 1 := ⟨f - 1, by omega⟩
    have loop : ∀ d g x s1 k1 p1, x + d = 13 → 1 ≤ x → d < g → GX r s s1 e → s1.1 0 11 = nI k1 - 1 → k1 ≤ 5 → (0 < k1 → Laid s1 r N p1) → ∃ s', lp g (un2 (X10_gatherMost_b53 (X10_gatherMost f) (nI r) (nI e) (nI N))) (s1, nI x) = some s' ∧ GX r s s' e ∧ s'.1 0 11 = nI ((((nf (b 5) d x).flatMap (fun n' => (lv c n (ringH c b (nI n'))).map (fun l => (n' :: l.1, l.2)))).map (fun l => (tp ++ l.1, l.2))).foldl mstep (k1, p1)).1 - 1 ∧ ((((nf (b 5) d x).flatMap (fun n' => (lv c n (ringH c b (nI n'))).map (fun l => (n' :: l.1, l.2)))).map (fun l => (tp ++ l.1, l.2))).foldl mstep (k1, p1)).1 ≤ 5 ∧ (0 < ((((nf (b 5) d x).flatMap (fun n' => (lv c n (ringH c b (nI n'))).map (fun l => (n' :: l.1, l.2)))).map (fun l => (tp ++ l.1, l.2))).foldl mstep (k1, p1)).1 → Laid s' r N ((((nf (b 5) d x).flatMap (fun n' => (lv c n (ringH c b (nI n'))).map (fun l => (n' :: l.1, l.2)))).map (fun l => (tp ++ l.1, l.2))).foldl mstep (k1, p1)).2) := by
      intro d
      induction d with
      | zero =>
        intro g x s1 k1 p1 hx x1 hg hA hk1 hk15 hl1
        obtain ⟨g, rfl⟩ : ∃ q, g = q + 1 := ⟨g - 1, by omega⟩
        have e13 : x = 13 := by omega
        subst e13
        exact ⟨s1, lp_r rfl, hA, hk1, hk15, hl1⟩
      | succ d ihd =>
        intro g x s1 k1 p1 hx x1 hg hA hk1 hk15 hl1
        obtain ⟨g, rfl⟩ : ∃ q, g = q + 1 := ⟨g - 1, by omega⟩
        have hH1 : HX s1 e = b := by rw [hA.2.2.2.2.1 e (Nat.le_refl _), hH]
        have bag : HX s1 e 5 = b 5 := by rw [hH1]
        have hC1 : CF s1 c := hA.cf hr hC
        have l12 : ¬ (12 : Int32) < nI x := fun q => by have := i_lt.mp q; rw [nI_ti (by omega)] at this; have : (12 : Int) < x := this; omega
        have hP88 : s1.1 88 4 = nI c.1 := i_nI hC1.1
        by_cases stop : c.1 < k1
        · have all : ∀ l, l ∈ ((nf (b 5) (d + 1) x).flatMap (fun n' => (lv c n (ringH c b (nI n'))).map (fun l => (n' :: l.1, l.2)))).map (fun l => (tp ++ l.1, l.2)) → wc l.2 ≤ c.1 := by
            intro l hl
            obtain ⟨l1, h1, rfl⟩ := List.mem_map.mp hl
            obtain ⟨n', -, h2⟩ := List.mem_flatMap.mp h1
            obtain ⟨l2, h3, rfl⟩ := List.mem_map.mp h2
            obtain ⟨v1, v2⟩ := lv_all hP n _ (hV.ring hP _) (hW.ring hP _) l2 h3
            exact (wc_ok hP v1 v2).2.2
          rw [m_stop (P := c.1) _ (k1, p1) all stop]
          refine ⟨s1, lp_r ?_, hA, hk1, hk15, hl1⟩
          show X10_gatherMost_b53 (X10_gatherMost f) (nI r) (nI e) (nI N) s1 (nI x) = _
          unfold X10_gatherMost_b53
          rw [if_neg l12, hP88, hk1, if_pos (show nI c.1 ≤ nI k1 - 1 from ile (by rw [kmI (by omega), nI_ti (by omega)]; omega))]
        have nstop : ¬ nI c.1 ≤ nI k1 - 1 := nle (by rw [kmI (by omega), nI_ti (by omega)]; omega)
        by_cases q : bt (b 5) x = true
        · rw [nf_y q, List.flatMap_cons, List.map_append, List.foldl_append]
          obtain ⟨s2, t1, t2, t3, t4, t5, t6⟩ := step15 (σ := s1) (s := s1) (n := x) (show e < 4 by omega) FrX.rf hC1 (by rw [hH1]; exact hV) (by omega)
          rw [hH1] at t2
          have A2 : GX r s1 s2 e := ⟨fun q' a1 a2 a3 a4 a5 _ _ => t3.1 q' a1 a2 a3 a4 a5, t3.2.1, t3.2.2, fun q' _ => by rw [t3.1 24 (by omega) (by omega) (by omega) (by omega) (by omega)], fun j hj => t4 j (by omega) (by omega), fun j hj => by rw [t5, upd_ne (by omega)]⟩
          have hC2 : CF s2 c := t3.cf hC1
          obtain ⟨s3, u1, u2, u3, u4, u5⟩ := ih f s2 (e + 1) (ringH c b (nI x)) (tp ++ [x]) k1 p1 (by omega) (by omega) hC2 (hV.ring hP _) (hW.ring hP _) t2 (by rw [List.length_append, ht]; rfl) (fun j hj => by
            rw [t5]
            by_cases ej : j = e
            · subst ej
              rw [upd_at]
              have := getD_at (tp := tp) (x := x)
              rw [ht] at this
              rw [this]
            · rw [upd_ne ej, getD_app (by omega), hA.2.2.2.2.2 j (by omega)]
              exact htr j (by omega)) (by rw [t6]; exact hk1) hk15 (fun h0 => by
              obtain ⟨y1, y2⟩ := hl1 h0
              exact ⟨by rw [t3.1 24 (by omega) (by omega) (by omega) (by omega) (by omega)]; exact y1, fun j hj => by rw [t3.1 (16 + r) (by omega) (by omega) (by omega) (by omega) (by omega)]; exact y2 j hj⟩)
          have eL : ((lv c n (ringH c b (nI x))).map (fun l => (x :: l.1, l.2))).map (fun l => (tp ++ l.1, l.2)) = (lv c n (ringH c b (nI x))).map (fun l => (tp ++ [x] ++ l.1, l.2)) := by
            rw [List.map_map]
            congr 1
            funext l
            show (tp ++ x :: l.1, l.2) = (tp ++ [x] ++ l.1, l.2)
            rw [List.append_assoc]
            rfl
          rw [eL]
          have st : X10_gatherMost_b53 (X10_gatherMost f) (nI r) (nI e) (nI N) s1 (nI x) = some (.inl (s3, nI (x + 1))) := by
            unfold X10_gatherMost_b53
            rw [if_neg l12, hP88, hk1, if_neg nstop, nI_nat (by omega), holdsX (by omega), bag, if_pos q, if_neg (by decide), t1, bd_some, nI_s e (by omega), u1, bd_some, nI_s x (by omega)]
          obtain ⟨s', z1, z2⟩ := ihd g (x + 1) s3 _ _ (by omega) (by omega) (by omega) (hA.tr (A2.tr u2 (by omega)) (Nat.le_refl _)) u3 u4 u5
          exact ⟨s', (lp_l st).trans z1, z2⟩
        · rw [nf_n q]
          have st : X10_gatherMost_b53 (X10_gatherMost f) (nI r) (nI e) (nI N) s1 (nI x) = some (.inl (s1, nI (x + 1))) := by
            unfold X10_gatherMost_b53
            rw [if_neg l12, hP88, hk1, if_neg nstop, nI_nat (by omega), holdsX (by omega), bag, if_neg q, if_pos rfl, nI_s x (by omega)]
          obtain ⟨s', z1, z2⟩ := ihd g (x + 1) s1 k1 p1 (by omega) (by omega) (by omega) hA hk1 hk15 hl1
          exact ⟨s', (lp_l st).trans z1, z2⟩
    obtain ⟨s', z1, z2⟩ := loop 12 big 1 s k p0 rfl (Nat.le_refl _) (by show 12 < 1000000; omega) GX.rf hk hk5 hl
    have z1' : lp big (un2 (X10_gatherMost_b53 (X10_gatherMost f) (nI r) (nI e) (nI N))) (s, 1) = some s' := z1
    refine ⟨s', ?_, z2⟩
    show X10_gatherMost_F (X10_gatherMost f) s (nI r) (nI e) (nI N) = _
    unfold X10_gatherMost_F
    rw [if_pos (vinI (by omega) (by omega)), if_neg (lt_nI (by omega) (by omega) (by omega)), if_pos (i_lt.mpr (by rw [nI_ti (by omega)]; show (e : Int) < 4; omega)), z1', Option.bind_some, un1_app]

