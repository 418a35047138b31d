def z1 (e : Nat) : Int32 := if e % 2 = 0 then -100 else 100
theorem alg_tab : ∀ a, a < 7 → ∀ b, b < 7 → ∀ x, x < 2 → ∀ y, y < 2 → ((nI a + nI (10 * x)) - (nI b + nI (10 * y))) = ((nI a - nI b) + nI (10 * x)) - nI (10 * y) ∧ -100 ≤ (((nI a - nI b) + nI (10 * x)) - nI (10 * y)).toInt ∧ (((nI a - nI b) + nI (10 * x)) - nI (10 * y)).toInt ≤ 100 := by decide +kernel
theorem wd_ok {h : hT} (hV : HV h) {i j : Nat} (hi : i < 4) (hj : j < 4) : (bitsT (h i) + (if bt (h 4) i = true then 10 else 0)) - (bitsT (h j) + (if bt (h 4) j = true then 10 else 0)) = wd i j h ∧ -100 ≤ (wd i j h).toInt ∧ (wd i j h).toInt ≤ 100 := by
  unfold wd
  obtain ⟨m, hm, em⟩ := hV.1 i hi
  obtain ⟨n, hn, en⟩ := hV.1 j hj
  have b1 := bits7 m hm
  have b2 := bits7 n hn
  rw [em, en, b1.1, b2.1]
  have e : ∀ q : Bool, (if q = true then (10 : Int32) else 0) = nI (10 * (if q = true then 1 else 0)) := fun q => by cases q <;> rfl
  rw [e, e]
  exact alg_tab _ b1.2 _ b2.2 _ (by split <;> omega) _ (by split <;> omega)
theorem bet_rng {e : Nat} {a v : Int32} (ha : -100 ≤ a.toInt ∧ a.toInt ≤ 100) (hv : -100 ≤ v.toInt ∧ v.toInt ≤ 100) : -100 ≤ (bet e a v).toInt ∧ (bet e a v).toInt ≤ 100 := by
  unfold bet jmax jmin
  split <;> split <;> assumption
theorem fold_rng {e : Nat} {g : Nat → Int32} : ∀ (L : List Nat) (a : Int32), (-100 ≤ a.toInt ∧ a.toInt ≤ 100) → (∀ x, x ∈ L → -100 ≤ (g x).toInt ∧ (g x).toInt ≤ 100) → -100 ≤ (L.foldl (fun a x => bet e a (g x)) a).toInt ∧ (L.foldl (fun a x => bet e a (g x)) a).toInt ≤ 100
  | [], a, ha, _ => ha
  | x :: L, a, ha, h => fold_rng L _ (bet_rng ha (h x List.mem_cons_self)) (fun y hy => h y (List.mem_cons_of_mem _ hy))
theorem fold_cong {e : Nat} {f g : Nat → Int32} (L : List Nat) (a : Int32) (h : ∀ x, x ∈ L → f x = g x) : L.foldl (fun a x => bet e a (f x)) a = L.foldl (fun a x => bet e a (g x)) a := by
  induction L generalizing a with
  | nil => rw [List.foldl_nil, List.foldl_nil]
  | cons x L ih =>
    rw [List.foldl_cons, List.foldl_cons, h x List.mem_cons_self]
    exact ih _ (fun y hy => h y (List.mem_cons_of_mem _ hy))
theorem bet_z {e : Nat} {v : Int32} (hv : -100 ≤ v.toInt ∧ v.toInt ≤ 100) : bet e (z1 e) v = v ∧ bet e (z9 e) v = v := by
  unfold bet z1 z9 jmax jmin
  have k1 : (-100 : Int32).toInt = -100 := by decide
  have k2 : (100 : Int32).toInt = 100 := by decide
  have k3 : (-999 : Int32).toInt = -999 := by decide
  have k4 : (999 : Int32).toInt = 999 := by decide
  by_cases q : e % 2 = 0
  · simp only [if_pos q]
    constructor
    · by_cases w : (-100 : Int32) < v
      · rw [if_pos w]
      · rw [if_neg w]
        exact i_eq.mpr (by have : ¬ (-100 : Int32).toInt < v.toInt := fun x => w (i_lt.mpr x); omega)
    · rw [if_pos (i_lt.mpr (by omega))]
  · simp only [if_neg q]
    constructor
    · by_cases w : v < (100 : Int32)
      · rw [if_pos w]
      · rw [if_neg w]
        exact i_eq.mpr (by have : ¬ v.toInt < (100 : Int32).toInt := fun x => w (i_lt.mpr x); omega)
    · rw [if_pos (i_lt.mpr (by omega))]
theorem mv_eq {c : cT} (hP : c.1 ≤ 4) {i j : Nat} (hi : i < 4) (hj : j < 4) : ∀ n e b, HV b → n ≤ cnB (b 5) → mv c i j z1 n e b = mv c i j z9 n e b ∧ (-100 ≤ (mv c i j z9 n e b).toInt ∧ (mv c i j z9 n e b).toInt ≤ 100)
  | 0, e, b, hV, _ => ⟨rfl, (wd_ok hV hi hj).2⟩
  | n + 1, e, b, hV, hn => by
    have key : ∀ x, x ∈ nf (b 5) 12 1 → mv c i j z1 n (e + 1) (ringH c b (nI x)) = mv c i j z9 n (e + 1) (ringH c b (nI x)) ∧ (-100 ≤ (mv c i j z9 n (e + 1) (ringH c b (nI x))).toInt ∧ (mv c i j z9 n (e + 1) (ringH c b (nI x))).toInt ≤ 100) := fun x hx => by
      have := cn_ring hP hx
      exact mv_eq hP hi hj n (e + 1) _ (hV.ring hP _) (by omega)
    show (nf (b 5) 12 1).foldl (fun a x => bet e a (mv c i j z1 n (e + 1) (ringH c b (nI x)))) (z1 e) = (nf (b 5) 12 1).foldl (fun a x => bet e a (mv c i j z9 n (e + 1) (ringH c b (nI x)))) (z9 e) ∧ (-100 ≤ ((nf (b 5) 12 1).foldl (fun a x => bet e a (mv c i j z9 n (e + 1) (ringH c b (nI x)))) (z9 e)).toInt ∧ ((nf (b 5) 12 1).foldl (fun a x => bet e a (mv c i j z9 n (e + 1) (ringH c b (nI x)))) (z9 e)).toInt ≤ 100)
    rw [fold_cong (nf (b 5) 12 1) (z1 e) (fun x hx => (key x hx).1)]
    cases hnf : nf (b 5) 12 1 with
    | nil =>
      have : cnB (b 5) = 0 := by unfold cnB; rw [hnf]; rfl
      omega
    | cons x L =>
      rw [hnf] at key
      have k := (key x List.mem_cons_self).2
      rw [List.foldl_cons, List.foldl_cons, (bet_z k).1, (bet_z k).2]
      exact ⟨rfl, fold_rng L _ k (fun y hy => (key y (List.mem_cons_of_mem _ hy)).2)⟩
theorem leaf_D {σ μ s : mS} {c : cT} (hG : RG σ μ c) {i j e : Nat} (hi : i < c.1) (hj : j < c.1) {b : hT} (hV : HV b) (hE : EqW c (((1 : Int32) <<< (nI i &&& 31)) ||| ((1 : Int32) <<< (nI j &&& 31))) (HX s e) b) : (X2_worth s e (nI i)).bind (fun r4 => (X2_worth s e (nI j)).bind (fun r6 => some ((r4 - r6), s))) = some (wd i j b, s) := by
  have hP4 := hG.P4
  have w : ∀ q, q < c.1 → bt (((1 : Int32) <<< (nI i &&& 31)) ||| ((1 : Int32) <<< (nI j &&& 31))) q = true → X2_worth s e (nI q) = some (bitsT (b q) + (if bt (b 4) q = true then 10 else 0)) := fun q hq hw => by
    obtain ⟨e1, e2⟩ := hE.1 q hq hw
    have m1 : s.1 (152 + e) q = b q := by rw [← e1]; unfold HX; rw [if_pos (by omega)]
    obtain ⟨m, hm, em⟩ := hV.1 q (by omega)
    unfold X2_worth
    rw [if_pos (vinI (by omega) (by omega)), won_eq (by omega), nI_nat (by omega), m1, em, bc64 m hm, e2]
    by_cases x : bt (b 4) q = true
    · rw [if_pos x, if_pos x, if_neg (by decide)]
    · rw [if_neg x, if_neg x, if_pos rfl]
  have wi : bt (((1 : Int32) <<< (nI i &&& 31)) ||| ((1 : Int32) <<< (nI j &&& 31))) i = true := by rw [b_or, shl_bt (by omega) (by omega), decide_eq_true rfl]; rfl
  have wj : bt (((1 : Int32) <<< (nI i &&& 31)) ||| ((1 : Int32) <<< (nI j &&& 31))) j = true := by rw [b_or, shl_bt (n := j) (by omega) (by omega), decide_eq_true rfl, Bool.or_true]
  rw [w i hi wi, w j hj wj, Option.bind_some, Option.bind_some, (wd_ok hV (show i < 4 by omega) (show j < 4 by omega)).1]
theorem duel_X {σ μ : mS} {c : cT} (hG : RG σ μ c) {i j : Nat} (hi : i < c.1) (hj : j < c.1) {N : Nat} (hN : N ≤ 4) : ∀ r f s e b, e + r = N → r < f → FrX σ s → HV (HX s e) → HV b → EqW c (((1 : Int32) <<< (nI i &&& 31)) ||| ((1 : Int32) <<< (nI j &&& 31))) (HX s e) b → ∃ s', X10_duelAhead f s (nI i) (nI j) (nI e) (nI N) = some (mv c i j z1 r e b, s') ∧ AX σ s s' e := by
  have hP4 := hG.P4
  intro r
  induction r with
  | zero =>
    intro f s e b he hf hF hV hVb hE
    obtain ⟨f, rfl⟩ : ∃ g, f = g + 1 := ⟨f - 1, by omega⟩
    have en : e = N := by omega
    subst en
    refine ⟨s, ?_, ⟨hF, fun _ _ => rfl, fun _ _ => rfl, rfl⟩⟩
    show X10_duelAhead_F (X10_duelAhead f) s (nI i) (nI j) (nI e) (nI e) = some (wd i j b, s)
    unfold X10_duelAhead_F
    rw [if_pos (vinI (by omega) (by omega)), if_pos le_nI, nI_nat (n := e) (by omega)]
    exact leaf_D hG hi hj hVb hE
  | succ r ih =>
    intro f s e b he hf hF hV hVb hE
    obtain ⟨f, rfl⟩ : ∃ g, f = g + 1 := ⟨f - 1, by omega⟩
    have loop : ∀ d g x s1 A, x + d = 13 → 1 ≤ x → d < g → AX σ s s1 e → ∃ s', lp g (un3 (X10_duelAhead_b63 (X10_duelAhead f) (nI i) (nI j) (nI e) (nI N) (if e % 2 = 0 then 1 else 0))) (s1, A, nI x) = some (s', (nf (b 5) d x).foldl (fun a x => bet e a (mv c i j z1 r (e + 1) (ringH c b (nI x)))) A) ∧ AX σ s s' e := by
      intro d
      induction d with
      | zero =>
        intro g x s1 A hx x1 hg hA
        obtain ⟨g, rfl⟩ : ∃ q, g = q + 1 := ⟨g - 1, by omega⟩
        have e13 : x = 13 := by omega
        subst e13
        exact ⟨s1, lp_r rfl, hA⟩
      | succ d ihd =>
        intro g x s1 A hx x1 hg hA
        obtain ⟨g, rfl⟩ : ∃ q, g = q + 1 := ⟨g - 1, by omega⟩
        have bag : HX s1 e 5 = b 5 := by rw [hA.2.1 e (Nat.le_refl _)]; exact hE.2.1
        have l12 : ¬ (12 : Int32) < nI x := fun q => by have := i_lt.mp q; rw [nI_ti (by omega)] at this; have : (12 : Int) < x := this; omega
        by_cases q : bt (b 5) x = true
        · have hVs : HV (HX s1 e) := by rw [hA.2.1 e (Nat.le_refl _)]; exact hV
          obtain ⟨v, s2, t1, t2, t3, t4, t5, t6⟩ := stepW (who := ((1 : Int32) <<< (nI i &&& 31)) ||| ((1 : Int32) <<< (nI j &&& 31))) (n := x) (show e < 4 by omega) hA.1 hG.2.2.2.1 hVs (by omega)
          have A2 : AX σ s1 s2 e := ⟨t3, fun q hq => t4 q (by omega) (by omega), fun q hq => by rw [t5, upd_ne (by omega)], t6⟩
          have E2 : EqW c (((1 : Int32) <<< (nI i &&& 31)) ||| ((1 : Int32) <<< (nI j &&& 31))) (HX s2 (e + 1)) (ringH c b (nI x)) := by
            rw [t2, hA.2.1 e (Nat.le_refl _)]
            exact hE.ring hP4 _
          obtain ⟨s3, u1, u2⟩ := ih f s2 (e + 1) (ringH c b (nI x)) (by omega) (by omega) t3 (by rw [t2]; exact HV_rW hVs hP4 _ _) (hVb.ring hP4 _) E2
          have A3 : AX σ s s3 e := hA.tr (A2.tr u2 (by omega)) (Nat.le_refl _)
          have st : X10_duelAhead_b63 (X10_duelAhead f) (nI i) (nI j) (nI e) (nI N) (if e % 2 = 0 then 1 else 0) s1 A (nI x) = some (.inl (s3, bet e A (mv c i j z1 r (e + 1) (ringH c b (nI x))), nI (x + 1))) := by
            unfold X10_duelAhead_b63
            rw [if_neg l12, nI_nat (by omega), holdsX (by omega), bag, if_pos q, if_neg (by decide), t1, bd_some, nI_s e (by omega), u1, bd_some, nI_s x (by omega)]
            unfold bet
            by_cases w : e % 2 = 0
            · rw [if_pos w, if_pos w, if_neg (by decide)]
            · rw [if_neg w, if_neg w, if_pos rfl]
          obtain ⟨s', z1', z2⟩ := ihd g (x + 1) s3 _ (by omega) (by omega) (by omega) A3
          refine ⟨s', (lp_l st).trans ?_, z2⟩
          rw [z1', nf_y q, List.foldl_cons]
        · have st : X10_duelAhead_b63 (X10_duelAhead f) (nI i) (nI j) (nI e) (nI N) (if e % 2 = 0 then 1 else 0) s1 A (nI x) = some (.inl (s1, A, nI (x + 1))) := by
            unfold X10_duelAhead_b63
            rw [if_neg l12, nI_nat (by omega), holdsX (by omega), bag, if_neg q, if_pos rfl, nI_s x (by omega)]
          rw [nf_n q]
          obtain ⟨s', z1', z2⟩ := ihd g (x + 1) s1 A (by omega) (by omega) (by omega) hA
          exact ⟨s', (lp_l st).trans z1', z2⟩
    obtain ⟨s', y1, y2⟩ := loop 12 big 1 s (z1 e) rfl (Nat.le_refl _) (by show 12 < 1000000; omega) ⟨hF, fun _ _ => rfl, fun _ _ => rfl, rfl⟩
    have y1' : lp big (un3 (X10_duelAhead_b63 (X10_duelAhead f) (nI i) (nI j) (nI e) (nI N) (if e % 2 = 0 then 1 else 0))) (s, z1 e, 1) = some (s', mv c i j z1 (r + 1) e b) := y1
    refine ⟨s', ?_, y2⟩
    show X10_duelAhead_F (X10_duelAhead f) s (nI i) (nI j) (nI e) (nI N) = _
    unfold X10_duelAhead_F
    have e2 : nI e - nI e / 2 * 2 = nI (e % 2) := i_rem (nI_ti (by omega)) (by decide) (by omega)
    have e3 : (if nI (e % 2) = 0 then (1 : Int32) else 0) = if e % 2 = 0 then 1 else 0 := by
      rcases (show e % 2 = 0 ∨ e % 2 = 1 by omega) with q | q <;> rw [q] <;> rfl
    have e4 : (if (if e % 2 = 0 then (1 : Int32) else 0) = 0 then (100 : Int32) else (-100)) = z1 e := by
      unfold z1
      by_cases q : e % 2 = 0
      · rw [if_pos q, if_pos q, if_neg (by decide)]
      · rw [if_neg q, if_neg q, if_pos rfl]
    rw [if_pos (vinI (by omega) (by omega)), if_neg (lt_nI (by omega) (by omega) (by omega)), if_pos (i_lt.mpr (by rw [nI_ti (by omega)]; show (e : Int) < 4; omega)), un1_app, un1_app, e2, e3, e4, y1', Option.bind_some]
    rfl
