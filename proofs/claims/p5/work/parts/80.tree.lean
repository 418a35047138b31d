/-! walking the numbers ahead: the reference's path -/
def hS (m : mS) (j : Nat) : hT := getH (m.1 10) (1312 + 8 * j)
def nf (b : Int32) : Nat → Nat → List Nat
  | 0, _ => []
  | d + 1, x => if bt b x = true then x :: nf b d (x + 1) else nf b d (x + 1)
theorem sl_eq {k : Nat} (h : k ≤ 5) : (1312 : Int32) + nI k * 8 = nI (1312 + 8 * k) := by
  have e8 : nI k * 8 = nI (8 * k) := i_nI (by
    rw [i_mul (by rw [nI_ti (by omega)]; show _ ≤ (k : Int) * 8; omega) (by rw [nI_ti (by omega)]; show (k : Int) * 8 < _; omega), nI_ti (by omega)]
    show (k : Int) * 8 = _
    omega)
  rw [e8]
  exact nI_p 1312 (8 * k) (by omega)
theorem nf_find {m : mS} {k : Nat} (hk : k ≤ 4) : ∀ d f x, x + d = 13 → 1 ≤ x → d < f → ∃ y, lp f (un1 (X11_follows_b52 m (nI k))) (nI x) = some (nI y) ∧ ((y = 13 ∧ nf (hS m k 5) d x = []) ∨ (x ≤ y ∧ y ≤ 12 ∧ bt (hS m k 5) y = true ∧ nf (hS m k 5) d x = y :: nf (hS m k 5) (12 - y) (y + 1))) := by
  have bag : m.1 10 (1312 + 8 * k + 5) = hS m k 5 := by
    unfold hS
    rw [getH_lt (by omega)]
  have st : ∀ x, x < 13 → 1 ≤ x → X11_follows_b52 m (nI k) (nI x) = if bt (hS m k 5) x = true then some (.inr (nI x)) else some (.inl (nI (x + 1))) := by
    intro x hx x1
    unfold X11_follows_b52
    have ix : ((1312 : Int32) + nI k * 8) + 5 = nI (1312 + 8 * k + 5) := by rw [sl_eq (by omega)]; exact nI_p _ 5 (by omega)
    rw [if_neg (show ¬ (13 : Int32) ≤ nI x from lt_nI (a := x) (b := 13) (by omega) (by omega) hx), ix, if_pos (vinI (by omega) (by omega)), nI_nat (by omega), bag, has_eq _ (by omega), nI_s x (by omega)]
    by_cases q : bt (hS m k 5) x = true
    · rw [if_pos q, if_pos q, if_neg (by decide)]
    · rw [if_neg q, if_neg q, if_pos rfl]
  intro d
  induction d with
  | zero =>
    intro f x hx x1 hf
    obtain ⟨f, rfl⟩ : ∃ g, f = g + 1 := ⟨f - 1, by omega⟩
    have e : x = 13 := by omega
    subst e
    exact ⟨13, lp_r rfl, Or.inl ⟨rfl, rfl⟩⟩
  | succ d ih =>
    intro f x hx x1 hf
    obtain ⟨f, rfl⟩ : ∃ g, f = g + 1 := ⟨f - 1, by omega⟩
    have s := st x (by omega) x1
    show ∃ y, _ ∧ ((y = 13 ∧ (if bt (hS m k 5) x = true then x :: nf (hS m k 5) d (x + 1) else nf (hS m k 5) d (x + 1)) = []) ∨ (x ≤ y ∧ y ≤ 12 ∧ bt (hS m k 5) y = true ∧ (if bt (hS m k 5) x = true then x :: nf (hS m k 5) d (x + 1) else nf (hS m k 5) d (x + 1)) = _))
    by_cases q : bt (hS m k 5) x = true
    · rw [if_pos q] at s
      refine ⟨x, lp_r s, Or.inr ⟨Nat.le_refl _, by omega, q, ?_⟩⟩
      rw [if_pos q, show d = 12 - x by omega]
    · rw [if_neg q] at s
      obtain ⟨y, g1, g2⟩ := ih f (x + 1) (by omega) (by omega) (by omega)
      refine ⟨y, (lp_l s).trans g1, ?_⟩
      rw [if_neg q]
      rcases g2 with g2 | ⟨g2, g3, g4, g5⟩
      · exact Or.inl g2
      · exact Or.inr ⟨by omega, g3, g4, g5⟩
/-- one number called a level further down -/
theorem dn_step {μ m : mS} {c : cT} {σ : mS} (hG : RG σ μ c) (hF : FrM μ m) {k y : Nat} (hk : k ≤ 4) : ∃ m2, (∀ {T : Type} (F : mS → Option T), bd (X11_copies (mwI m 13 k (nI y)) ((1312 : Int32) + (nI k * 8)) ((1312 : Int32) + ((nI k + 1) * 8)) (8)) (fun _ s => bd (X11_calls s ((1312 : Int32) + ((nI k + 1) * 8)) (nI y)) (fun _ s' => F s')) = F m2) ∧ FrM μ m2 ∧ (∀ j, j ≤ 5 → j ≠ k + 1 → hS m2 j = hS m j) ∧ hS m2 (k + 1) = ringH c (hS m k) (nI y) ∧ m2.1 13 = upd (m.1 13) k (nI y) ∧ (∀ q, q ≠ 10 → q ≠ 13 → m2.1 q = m.1 q) := by
  have F1 : FrM μ (mwI m 13 k (nI y)) := ⟨fun q a1 a2 a3 a4 => by rw [mwI_rk a2]; exact hF.1 q a1 a2 a3 a4, fun q hq => by rw [mwI_rk (by decide)]; exact hF.2.1 q hq, hF.2.2⟩
  have s10 : (mwI m 13 k (nI y)).1 10 = m.1 10 := mwI_rk (by decide)
  obtain ⟨m1, e1, g1, g2, F2, g3⟩ := tcopy F1 (s := 1312 + 8 * k) (t := 1312 + 8 * (k + 1)) (by omega) (by omega) (by omega) (by omega)
  obtain ⟨m2, e2, k1, k2, F3, k3⟩ := tcall hG F2 (b := 1312 + 8 * (k + 1)) (n := y) (by omega) (by omega)
  refine ⟨m2, fun F => ?_, F3, fun j hj hne => ?_, ?_, ?_, fun q q10 q13 => ?_⟩
  · rw [nI_s k (by omega), sl_eq (by omega), sl_eq (by omega), e1, bd_some, e2, bd_some]
  · unfold hS
    rw [k2 _ (by omega), g2 _ (by omega), s10]
  · unfold hS
    rw [k1, g1, s10]
  · rw [k3 13 (by decide), g3 13 (by decide), mwI_row, mrow_at]
  · rw [k3 q q10, g3 q q10, mwI_rk q13]
/-! leaves -/
def lv (c : cT) : Nat → hT → List (List Nat × hT)
  | 0, h => [([], h)]
  | r + 1, h => (nf (h 5) 12 1).flatMap (fun n => (lv c r (ringH c h (nI n))).map (fun l => (n :: l.1, l.2)))
def pfx (pn : Nat → Nat) (k : Nat) : List Nat := (List.range k).map pn
def remS (c : cT) (N : Nat) (Hs : Nat → hT) (pn : Nat → Nat) : Nat → List (List Nat × hT)
  | 0 => []
  | k + 1 => (nf (Hs k 5) (12 - pn k) (pn k + 1)).flatMap (fun n => (lv c (N - k - 1) (ringH c (Hs k) (nI n))).map (fun l => (pfx pn k ++ n :: l.1, l.2))) ++ remS c N Hs pn k
theorem remS_s {c : cT} {N : Nat} {Hs : Nat → hT} {pn : Nat → Nat} {k : Nat} : remS c N Hs pn (k + 1) = (nf (Hs k 5) (12 - pn k) (pn k + 1)).flatMap (fun n => (lv c (N - k - 1) (ringH c (Hs k) (nI n))).map (fun l => (pfx pn k ++ n :: l.1, l.2))) ++ remS c N Hs pn k := rfl
theorem remS_cong {c : cT} {N : Nat} {Hs Hs' : Nat → hT} {pn pn' : Nat → Nat} : ∀ k, (∀ j, j < k → Hs j = Hs' j) → (∀ j, j < k → pn j = pn' j) → remS c N Hs pn k = remS c N Hs' pn' k
  | 0, _, _ => rfl
  | k + 1, h1, h2 => by
    have e : pfx pn k = pfx pn' k := List.map_congr_left (fun j hj => h2 j (by have := List.mem_range.mp hj; omega))
    unfold remS
    rw [remS_cong k (fun j hj => h1 j (by omega)) (fun j hj => h2 j (by omega)), h1 k (by omega), h2 k (by omega), e]
theorem pfx_s (pn : Nat → Nat) (k : Nat) : pfx pn (k + 1) = pfx pn k ++ [pn k] := by
  unfold pfx
  rw [List.range_succ, List.map_append]
  rfl
/-- the cost of what is left, a level -/
def cst (N : Nat) : Nat → Nat
  | 0 => 0
  | r + 1 => 12 * (1 + cst N r) + 1
def msr (N : Nat) (pn : Nat → Nat) : Nat → Nat
  | 0 => 0
  | k + 1 => (12 - pn k) * (1 + cst N (N - k - 1)) + 1 + msr N pn k
theorem msr_cong {N : Nat} {pn pn' : Nat → Nat} : ∀ k, (∀ j, j < k → pn j = pn' j) → msr N pn k = msr N pn' k
  | 0, _ => rfl
  | k + 1, h => by
    unfold msr
    rw [msr_cong k (fun j hj => h j (by omega)), h k (by omega)]
/-- the reference in its walk: k levels open -/
def TI (μ m : mS) (N k : Nat) (pn : Nat → Nat) : Prop := FrM μ m ∧ (∀ j, j < k → m.1 13 j = nI (pn j) ∧ pn j ≤ 12)
/-- at a leaf: the path and what is left -/
def AtL (μ : mS) (c : cT) (N : Nat) (H0 : hT) (m : mS) (p : List Nat) (h : hT) (rest : List (List Nat × hT)) : Prop := ∃ pn, TI μ m N N pn ∧ hS m 0 = H0 ∧ pfx pn N = p ∧ hS m N = h ∧ remS c N (hS m) pn N = rest ∧ msr N pn N < 100000
theorem walk {σ μ : mS} {c : cT} (hG : RG σ μ c) {N : Nat} (hN : N ≤ 4) {H0 : hT} : ∀ f m k pn, k ≤ N → 1 ≤ N → (k = 0 ∨ hS m 0 = H0) → TI μ m N k pn → msr N pn k < f → msr N pn k < 100000 → ∃ m' y, lp f (un2 (X11_follows_b33 (nI N))) (m, nI k - 1) = some (m', y) ∧ (∀ q, q ≠ 10 → q ≠ 13 → m'.1 q = m.1 q) ∧ ((remS c N (hS m) pn k = [] ∧ y = -1 ∧ FrM μ m') ∨ (∃ p h rest, remS c N (hS m) pn k = (p, h) :: rest ∧ y = nI N ∧ AtL μ c N H0 m' p h rest)) := by
  intro f
  induction f with
  | zero => intro m k pn _ _ _ _ h _; exact absurd h (Nat.not_lt_zero _)
  | succ f ih =>
    intro m k pn hk h1 h0 hT hf hl
    obtain ⟨hF, hp⟩ := hT
    cases k with
    | zero =>
      refine ⟨m, -1, lp_r ?_, fun _ _ _ => rfl, Or.inl ⟨rfl, rfl, hF⟩⟩
      show X11_follows_b33 (nI N) m (nI 0 - 1) = _
      unfold X11_follows_b33
      rw [if_pos (by decide)]
      rfl
    | succ k =>
      have ek : nI (k + 1) - 1 = nI k := i_nI (by rw [i_sub (by rw [nI_ti (by omega)]; show _ ≤ ((k + 1 : Nat) : Int) - 1; omega) (by rw [nI_ti (by omega)]; show ((k + 1 : Nat) : Int) - 1 < _; omega), nI_ti (by omega)]; show ((k + 1 : Nat) : Int) - 1 = _; omega)
      have em : nI k + (-1) = nI k - 1 := (Int32.sub_eq_add_neg _ _).symm
      obtain ⟨pk, pk12⟩ := hp k (by omega)
      obtain ⟨y, g1, g2⟩ := nf_find (m := m) (k := k) (by omega) (12 - pn k) big (pn k + 1) (by omega) (by omega) (by show 12 - pn k < 1000000; omega)
      have H0' : hS m 0 = H0 := by
        rcases h0 with h0 | h0
        · exact absurd h0 (by omega)
        · exact h0
      rw [ek]
      have hmsr : msr N pn (k + 1) = (12 - pn k) * (1 + cst N (N - k - 1)) + 1 + msr N pn k := rfl
      have hrem : remS c N (hS m) pn (k + 1) = (nf (hS m k 5) (12 - pn k) (pn k + 1)).flatMap (fun n => (lv c (N - k - 1) (ringH c (hS m k) (nI n))).map (fun l => (pfx pn k ++ n :: l.1, l.2))) ++ remS c N (hS m) pn k := rfl
      have st : X11_follows_b33 (nI N) m (nI k) = if nI y ≤ 12 then bd (X11_copies (mwI m 13 k (nI y)) ((1312 : Int32) + (nI k * 8)) ((1312 : Int32) + ((nI k + 1) * 8)) (8)) (fun r23 s25 => bd (X11_calls s25 ((1312 : Int32) + ((nI k + 1) * 8)) (nI y)) (fun r26 s28 => some (.inl (mwI s28 13 (k + 1) 0, nI k + 1)))) else some (.inl (m, nI k - 1)) := by
        unfold X11_follows_b33
        rw [if_neg (show ¬ nI k < 0 from fun q => by have := i_lt.mp q; rw [nI_ti (by omega)] at this; have : (k : Int) < 0 := this; omega), if_neg (lt_nI (a := k) (b := N) (by omega) (by omega) (by omega)), if_pos (vinI (by omega) (by omega)), nI_nat (by omega), pk, nI_s _ (by omega), g1, Option.bind_some, un1_app, if_pos (vinI (by omega) (by omega)), em]
        simp only [if_pos (show vin (nI k + 1) 5 = true by rw [nI_s k (by omega)]; exact vinI (by omega) (by omega)), show (nI k + 1).toNatClampNeg = k + 1 by rw [nI_s k (by omega), nI_nat (by omega)]]
      rcases g2 with ⟨rfl, gn⟩ | ⟨y1, y2, yb, gn⟩
      · rw [if_neg (by decide)] at st
        obtain ⟨m', z, r1, r0, r2⟩ := ih m k pn (by omega) h1 (Or.inr H0') ⟨hF, fun j hj => hp j (by omega)⟩ (by omega) (by omega)
        refine ⟨m', z, (lp_l st).trans r1, r0, ?_⟩
        rw [hrem, gn]
        exact r2
      · rw [if_pos (ile (by rw [nI_ti (by omega)]; show (y : Int) ≤ 12; omega))] at st
        obtain ⟨m2, d1, d2, d3, d4, d5, d6⟩ := dn_step hG hF (k := k) (y := y) (by omega)
        rw [d1, nI_s k (by omega)] at st
        let pn' : Nat → Nat := fun j => if j = k then y else if j = k + 1 then 0 else pn j
        have pk' : pn' k = y := if_pos rfl
        have pk1 : pn' (k + 1) = 0 := by show (if k + 1 = k then y else if k + 1 = k + 1 then 0 else pn (k + 1)) = 0; rw [if_neg (by omega), if_pos rfl]
        have pl : ∀ j, j < k → pn' j = pn j := fun j hj => by show (if j = k then y else if j = k + 1 then 0 else pn j) = pn j; rw [if_neg (by omega), if_neg (by omega)]
        have F3 : FrM μ (mwI m2 13 (k + 1) 0) := ⟨fun q a1 a2 a3 a4 => by rw [mwI_rk a2]; exact d2.1 q a1 a2 a3 a4, fun q hq => by rw [mwI_rk (by decide)]; exact d2.2.1 q hq, d2.2.2⟩
        have hS3 : ∀ j, hS (mwI m2 13 (k + 1) 0) j = hS m2 j := fun j => by unfold hS; rw [mwI_rk (by decide)]
        have row : ∀ j, j < k + 2 → (mwI m2 13 (k + 1) 0).1 13 j = nI (pn' j) ∧ pn' j ≤ 12 := fun j hj => by
          rw [mwI_row, mrow_at, d5]
          by_cases e1 : j = k + 1
          · subst e1
            rw [upd_at, pk1]
            exact ⟨rfl, by omega⟩
          · rw [upd_ne e1]
            by_cases e2 : j = k
            · subst e2
              rw [upd_at, pk']
              exact ⟨rfl, y2⟩
            · rw [upd_ne e2, pl j (by omega)]
              exact hp j (by omega)
        have base : remS c N (hS (mwI m2 13 (k + 1) 0)) pn' (k + 1) = (nf (hS m k 5) (12 - y) (y + 1)).flatMap (fun n => (lv c (N - k - 1) (ringH c (hS m k) (nI n))).map (fun l => (pfx pn k ++ n :: l.1, l.2))) ++ remS c N (hS m) pn k := by
          have ep : pfx pn' k = pfx pn k := List.map_congr_left (fun j hj => pl j (List.mem_range.mp hj))
          rw [remS_s, remS_cong (Hs' := hS m) (pn' := pn) k (fun j hj => by rw [hS3, d3 j (by omega) (by omega)]) pl, pk', hS3, d3 k (by omega) (by omega), ep]
        have old : remS c N (hS m) pn (k + 1) = (lv c (N - k - 1) (ringH c (hS m k) (nI y))).map (fun l => (pfx pn k ++ y :: l.1, l.2)) ++ remS c N (hS (mwI m2 13 (k + 1) 0)) pn' (k + 1) := by
          rw [hrem, gn, List.flatMap_cons, base, List.append_assoc]
        have ms1 : msr N pn' (k + 1) + (1 + cst N (N - k - 1)) ≤ msr N pn (k + 1) := by
          rw [hmsr]
          show (12 - pn' k) * (1 + cst N (N - k - 1)) + 1 + msr N pn' k + _ ≤ _
          rw [msr_cong k pl, pk']
          have : (12 - pn k) * (1 + cst N (N - k - 1)) = (12 - y) * (1 + cst N (N - k - 1)) + (y - pn k) * (1 + cst N (N - k - 1)) := by
            rw [← Nat.add_mul]
            congr 1
            omega
          have h2 : 1 * (1 + cst N (N - k - 1)) ≤ (y - pn k) * (1 + cst N (N - k - 1)) := Nat.mul_le_mul_right _ (by omega)
          omega
        by_cases hlast : k + 1 = N
        · have e0 : N - k - 1 = 0 := by omega
          obtain ⟨g, rfl⟩ : ∃ g, f = g + 1 := ⟨f - 1, by omega⟩
          refine ⟨mwI m2 13 (k + 1) 0, nI (k + 1), (lp_l st).trans (lp_r ?_), fun q q1 q2 => by rw [mwI_rk q2]; exact d6 q q1 q2, Or.inr ⟨_, _, _, old.trans ?_, by rw [hlast], pn', ⟨F3, fun j hj => row j (by omega)⟩, ?_, rfl, rfl, by rw [← hlast], ?_⟩⟩
          · show X11_follows_b33 (nI N) _ (nI (k + 1)) = _
            unfold X11_follows_b33
            rw [if_neg (show ¬ nI (k + 1) < 0 from fun q => by have := i_lt.mp q; rw [nI_ti (by omega)] at this; have : ((k + 1 : Nat) : Int) < 0 := this; omega), if_pos (by rw [hlast]; exact le_nI)]
          · rw [e0]
            show (pfx pn k ++ [y], ringH c (hS m k) (nI y)) :: _ = _
            have ep : pfx pn' N = pfx pn k ++ [y] := by
              rw [← hlast, pfx_s, pk']
              congr 1
              exact List.map_congr_left (fun j hj => pl j (List.mem_range.mp hj))
            rw [ep, ← hlast, hS3, d4]
            rfl
          · rw [hS3, d3 0 (by omega) (by omega)]
            exact H0'
          · have e := congrArg (msr N pn') hlast
            omega
        · obtain ⟨r, er⟩ : ∃ r, N - k - 1 = r + 1 := ⟨N - k - 2, by omega⟩
          have er2 : N - (k + 1) - 1 = r := by omega
          have ms2 : msr N pn' (k + 2) < msr N pn (k + 1) := by
            show (12 - pn' (k + 1)) * (1 + cst N (N - (k + 1) - 1)) + 1 + msr N pn' (k + 1) < _
            rw [pk1, er2]
            rw [er] at ms1
            have : cst N (r + 1) = 12 * (1 + cst N r) + 1 := rfl
            omega
          have new : remS c N (hS (mwI m2 13 (k + 1) 0)) pn' (k + 2) = remS c N (hS m) pn (k + 1) := by
            rw [old, er]
            show (nf (hS (mwI m2 13 (k + 1) 0) (k + 1) 5) (12 - pn' (k + 1)) (pn' (k + 1) + 1)).flatMap (fun n => (lv c (N - (k + 1) - 1) (ringH c (hS (mwI m2 13 (k + 1) 0) (k + 1)) (nI n))).map (fun l => (pfx pn' (k + 1) ++ n :: l.1, l.2))) ++ remS c N (hS (mwI m2 13 (k + 1) 0)) pn' (k + 1) = _
            have ep : pfx pn' (k + 1) = pfx pn k ++ [y] := by
              rw [pfx_s, pk']
              congr 1
              exact List.map_congr_left (fun j hj => pl j (List.mem_range.mp hj))
            rw [pk1, er2, hS3, d4, ep]
            congr 1
            show _ = ((nf (ringH c (hS m k) (nI y) 5) 12 1).flatMap (fun n => (lv c r (ringH c (ringH c (hS m k) (nI y)) (nI n))).map (fun l => (n :: l.1, l.2)))).map (fun l => (pfx pn k ++ y :: l.1, l.2))
            rw [List.map_flatMap]
            congr 1
            funext n
            rw [List.map_map]
            congr 1
            funext l
            show (pfx pn k ++ [y] ++ n :: l.1, l.2) = (pfx pn k ++ y :: n :: l.1, l.2)
            rw [List.append_assoc]
            rfl
          obtain ⟨m', z, r1, r0, r2⟩ := ih (mwI m2 13 (k + 1) 0) (k + 2) pn' (by omega) h1 (Or.inr (by rw [hS3, d3 0 (by omega) (by omega)]; exact H0')) ⟨F3, row⟩ (by omega) (by omega)
          refine ⟨m', z, (lp_l st).trans ?_, fun q q1 q2 => by rw [r0 q q1 q2, mwI_rk q2]; exact d6 q q1 q2, ?_⟩
          · have e2 : nI (k + 2) - 1 = nI (k + 1) := i_nI (by rw [i_sub (by rw [nI_ti (by omega)]; show _ ≤ ((k + 2 : Nat) : Int) - 1; omega) (by rw [nI_ti (by omega)]; show ((k + 2 : Nat) : Int) - 1 < _; omega), nI_ti (by omega)]; show ((k + 2 : Nat) : Int) - 1 = _; omega)
            rw [← e2]
            exact r1
          · rw [new] at r2
            exact r2
