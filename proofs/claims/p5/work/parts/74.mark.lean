/-! mark -/
def sN (f : Nat → Nat) : Nat → Nat
  | 0 => 0
  | m + 1 => sN f m + f m
theorem sN_cong {f g : Nat → Nat} : ∀ m, (∀ n, n < m → f n = g n) → sN f m = sN g m
  | 0, _ => rfl
  | m + 1, h => by
    show sN f m + f m = sN g m + g m
    rw [sN_cong m (fun n hn => h n (by omega)), h m (by omega)]
theorem sN_le {f : Nat → Nat} (h : ∀ n, f n ≤ 1) : ∀ m, sN f m ≤ m
  | 0 => Nat.le_refl _
  | m + 1 => by
    have := sN_le h m
    have := h m
    show sN f m + f m ≤ m + 1
    omega
theorem sN_pt {f g : Nat → Nat} {a v : Nat} (h1 : ∀ n, n ≠ a → f n = g n) (h2 : f a = g a + v) : ∀ m, a < m → sN f m = sN g m + v
  | 0, h => absurd h (Nat.not_lt_zero _)
  | m + 1, h => by
    show sN f m + f m = sN g m + g m + v
    by_cases e : a = m
    · subst e
      rw [sN_cong a (fun n hn => h1 n (by omega)), h2]
      omega
    · rw [sN_pt h1 h2 m (by omega), h1 m (fun q => e q.symm)]
      omega
theorem or_z {x y : Int32} : x ||| y = 0 ↔ x = 0 ∧ y = 0 := by
  constructor
  · intro h
    have k : ∀ i, i < 32 → (bt x i || bt y i) = false := fun i hi => by rw [← b_or, h, b_0]
    exact ⟨b_ext (fun i hi => by have := k i hi; rw [b_0]; revert this; cases bt x i <;> simp), b_ext (fun i hi => by have := k i hi; rw [b_0]; revert this; cases bt y i <;> simp)⟩
  · rintro ⟨rfl, rfl⟩
    rfl
section
variable {cd : Nat → Int32} {cn : Nat → Nat} {i : Nat}
theorem cb_bt (hc : ∀ p, p < 6 → cd (6 * i + p) = nI (cn p) ∧ 1 ≤ cn p ∧ cn p ≤ 12) {k n : Nat} (hk : k < 6) (hn : n < 32) : bt (cbN cd i (k + 1)) n = (bt (cbN cd i k) n || decide (n = cn k)) := by
  obtain ⟨e, e1, e2⟩ := hc k hk
  show bt (cbN cd i k ||| ((1 : Int32) <<< ((cd (6 * i + k)) &&& 31))) n = _
  rw [b_or, e, shl_bt (by omega) hn]
theorem cb_no (hc : ∀ p, p < 6 → cd (6 * i + p) = nI (cn p) ∧ 1 ≤ cn p ∧ cn p ≤ 12) : ∀ k, k ≤ 6 → ∀ n, n < 32 → (∀ p, p < k → cn p ≠ n) → bt (cbN cd i k) n = false
  | 0, _, n, hn, _ => b_0 n
  | k + 1, hk, n, hn, h => by
    rw [cb_bt hc (by omega) hn, cb_no hc k (by omega) n hn (fun p hp => h p (by omega)), decide_eq_false (fun q => h k (by omega) q.symm)]
    rfl
theorem mb_zero (hc : ∀ p, p < 6 → cd (6 * i + p) = nI (cn p) ∧ 1 ≤ cn p ∧ cn p ≤ 12) {b : Nat} (hb : b < 31) : ∀ k, k ≤ 6 → (mbN cd i ((1 : Int32) <<< (nI b &&& 31)) k = 0 ↔ bt (cbN cd i k) b = false)
  | 0, _ => ⟨fun _ => b_0 b, fun _ => rfl⟩
  | k + 1, hk => by
    obtain ⟨e, e1, e2⟩ := hc k (by omega)
    show mbN cd i _ k ||| bitP _ (cd (6 * i + k)) k = 0 ↔ _
    rw [or_z, mb_zero hc hb k (by omega), cb_bt hc (by omega) (by omega)]
    unfold bitP
    have hz := has_zero ((1 : Int32) <<< (nI b &&& 31)) (n := cn k) (by omega)
    rw [shl_bt (by omega) (by omega)] at hz
    rw [e]
    have := pw_ne k (by omega)
    by_cases q : cn k = b
    · rw [if_neg (fun x => by have y := hz.mp x; rw [decide_eq_true q] at y; exact absurd y (by decide)), decide_eq_true q.symm, Bool.or_true]
      exact ⟨fun x => absurd x.2 this, fun x => absurd x (by decide)⟩
    · rw [if_pos (hz.mpr (decide_eq_false q)), decide_eq_false (fun x => q x.symm), Bool.or_false]
      exact ⟨fun x => x.1, fun x => ⟨x, rfl⟩⟩
def prF (x : Int32) (n : Nat) : Nat := if bt x (n % 12 + 1) = true then 1 else 0
def onF (x y : Int32) (n : Nat) : Nat := if bt x n = true then prF y n else 0
theorem on_sum (hc : ∀ p, p < 6 → cd (6 * i + p) = nI (cn p) ∧ 1 ≤ cn p ∧ cn p ≤ 12) (hD : ∀ p q, p < 6 → q < 6 → cn p = cn q → p = q) (y : Int32) : ∀ k, k ≤ 6 → sN (onF (cbN cd i k) y) 13 = sN (fun p => prF y (cn p)) k
  | 0, _ => by
    have : ∀ m, sN (onF (cbN cd i 0) y) m = 0 := by
      intro m
      induction m with
      | zero => rfl
      | succ m ih =>
        show sN (onF (cbN cd i 0) y) m + onF (cbN cd i 0) y m = 0
        rw [ih]
        unfold onF
        rw [show cbN cd i 0 = 0 from rfl, b_0]
        rfl
    exact this 13
  | k + 1, hk => by
    obtain ⟨e, e1, e2⟩ := hc k (by omega)
    show _ = sN (fun p => prF y (cn p)) k + prF y (cn k)
    rw [← on_sum hc hD y k (by omega)]
    have key : ∀ n, n < 32 → onF (cbN cd i (k + 1)) y n = if n = cn k then prF y n else onF (cbN cd i k) y n := by
      intro n hn
      unfold onF
      rw [cb_bt hc (by omega) hn]
      by_cases q : n = cn k
      · simp [q]
      · simp [q]
    have hz : onF (cbN cd i k) y (cn k) = 0 := by
      unfold onF
      rw [cb_no hc k (by omega) (cn k) (by omega) (fun p hp q => by have := hD p k (by omega) (by omega) q; omega)]
      rfl
    rw [sN_cong (f := onF (cbN cd i (k + 1)) y) (g := fun n => if n = cn k then prF y n else onF (cbN cd i k) y n) 13 (fun n hn => key n (by omega))]
    exact sN_pt (a := cn k) (fun n hn => if_neg hn) (by rw [hz, if_pos rfl, Nat.zero_add]) 13 (by omega)
theorem prF_le (y : Int32) (n : Nat) : prF y n ≤ 1 := by unfold prF; split <;> omega
theorem onF_le (x y : Int32) (n : Nat) : onF x y n ≤ 1 := by
  unfold onF
  split
  · exact prF_le y n
  · omega
theorem nI_s (n : Nat) (h : n < 2147483647) : nI n + 1 = nI (n + 1) := i_nI (i32_add (nI_ti (by omega)) (b := 1) (by decide) (by omega))
theorem pairs_eq (x : Int32) (h0 : bt x 0 = false) : X8_pairsOn x = some (nI (sN (onF x x) 13)) := by
  unfold X8_pairsOn
  have h := lp_from (b := un2 (X8_pairsOn_b4 x)) (n := 13) (res := nI (sN (onF x x) 13)) (fun j z => (nI (sN (onF x x) j), z)) 1 1 (by decide) (by decide) (by decide) (fun j z hj hz => by
    have ze := i_nI hz
    subst ze
    have le := sN_le (onF_le x x) j
    have s1 := nI_s (sN (onF x x) j) (by omega)
    show X8_pairsOn_b4 x (nI (sN (onF x x) j)) (nI j) = some (.inl (nI (sN (onF x x) j + onF x x j), nI j + 1))
    generalize sN (onF x x) j = S at s1
    unfold X8_pairsOn_b4 X8_behind onF prF
    have r3 : nI j - nI j / 12 * 12 = nI (j % 12) := i_rem hz (by decide) (by omega)
    rw [if_neg (fun q => by have := i_lt.mp q; rw [hz] at this; have t : (12 : Int) < j := this; omega), r3, nI_s _ (by omega), bit_eq _ (by omega), bit_eq _ (by omega)]
    by_cases a : bt x j = true
    · rw [if_pos a, if_pos a, if_pos rfl]
      by_cases b : bt x (j % 12 + 1) = true
      · rw [if_pos b, if_pos b, if_pos rfl, s1]
      · rw [if_neg b, if_neg b, if_neg (by decide)]
        rfl
    · rw [if_neg a, if_neg a, if_neg (by decide)]
      rfl) (fun z hz => by
    show X8_pairsOn_b4 x _ z = _
    unfold X8_pairsOn_b4
    rw [if_pos (i_lt.mpr (by rw [hz]; decide))])
  have e1 : sN (onF x x) 1 = 0 := by
    show 0 + onF x x 0 = 0
    unfold onF
    rw [h0]
    rfl
  rw [e1] at h
  have h' : lp big (un2 (X8_pairsOn_b4 x)) (0, 1) = some (nI (sN (onF x x) 13)) := h
  rw [h', Option.bind_some, un1_app]
theorem prs_eq {μ : mS} (hcd : μ.1 7 = cd) (hi : i < 4) (hc : ∀ p, p < 6 → cd (6 * i + p) = nI (cn p) ∧ 1 ≤ cn p ∧ cn p ≤ 12) : lp big (un2 (X11_mark_b135 μ (nI i))) (0, 0) = some (nI (sN (fun p => prF (cbN cd i 6) (cn p)) 6)) := by
  exact lp_zero (b := un2 (X11_mark_b135 μ (nI i))) (n := 6) (res := nI (sN (fun p => prF (cbN cd i 6) (cn p)) 6)) (fun j z => (nI (sN (fun p => prF (cbN cd i 6) (cn p)) j), z)) (by decide) (fun j z hj hz => by
    have ze := i_nI hz
    subst ze
    obtain ⟨e, e1, e2⟩ := hc j hj
    have le := sN_le (f := fun p => prF (cbN cd i 6) (cn p)) (fun n => prF_le _ _) j
    show X11_mark_b135 μ (nI i) (nI (sN (fun p => prF (cbN cd i 6) (cn p)) j)) (nI j) = some (.inl (nI (sN (fun p => prF (cbN cd i 6) (cn p)) j + prF (cbN cd i 6) (cn j)), nI j + 1))
    generalize sN (fun p => prF (cbN cd i 6) (cn p)) j = S at le
    unfold X11_mark_b135
    have c1 := i_ix (c := 6) (cn := 6) (by decide) (nI_ti (n := i) (by omega)) hz (by omega)
    have c2 := i_ixn (c := 6) (cn := 6) (by decide) (nI_ti (n := i) (by omega)) hz (by omega)
    rw [if_neg (nle (by rw [hz]; show (j : Int) < 6; omega)), if_pos (vin_iff.mpr (by rw [c1]; omega) : vin (((6 : Int32) * nI i) + nI j) 24 = true), c2, hcd, e, i_rem (m := cn j) (D := 12) (nI_ti (by omega)) (by decide) (by omega), nI_s _ (by omega), marksBy_eq μ (nI_ti (by omega)) hi, Option.bind_some, hcd]
    have hz0 : mbT cd i ((1 : Int32) <<< (nI (cn j % 12 + 1) &&& 31)) = 0 ↔ _ := mb_zero hc (b := cn j % 12 + 1) (by omega) 6 (Nat.le_refl _)
    unfold prF
    by_cases b : bt (cbN cd i 6) (cn j % 12 + 1) = true
    · rw [if_pos b, if_neg (fun q => by rw [hz0.mp q] at b; exact absurd b (by decide)), nI_s S (by omega)]
    · rw [if_neg b, if_pos (hz0.mpr (Bool.eq_false_iff.mpr b))]
      rw [show nI S + 0 = nI S from Int32.add_zero _]
      rfl) (fun z hz => by
    show X11_mark_b135 μ (nI i) _ z = _
    unfold X11_mark_b135
    rw [if_pos (ile (by rw [hz]; decide))])
end
theorem whole_m : ∀ m, m < 64 → X9_lacks (nI m) = (6 : Int32) - bitsT (nI m) := by decide +kernel
def twoM (m : Int32) : Int32 := (if bitsT (m >>> ((3 : Int32) &&& 31)) ≤ 1 then ((if bitsT (m &&& 7) ≤ 1 then (0 : Int32) else 1) + 0) else ((if bitsT (m &&& 7) ≤ 1 then (0 : Int32) else 1) + 1))
theorem two_m : ∀ m, m < 64 → X3_linesOfTwo (nI m) = twoM (nI m) := by decide +kernel
theorem sim_mark {σ μ : mS} (h : RR σ μ) (a1 a2 : Int32) : SIM (X10_mark σ a1 a2) (X11_mark μ a1 a2) := by
  obtain ⟨c, hG⟩ := h.2.2.1
  have hP4 := hG.P4
  unfold X10_mark X11_mark
  by_cases hb : a1.toInt < 0 ∨ (c.1 : Int) ≤ a1.toInt
  · rw [if_pos (hG.plX.mpr hb), if_pos (hG.plM.mpr hb)]
    exact SIM.ret h rfl
  rw [if_neg (fun q => hb (hG.plX.mp q)), if_neg (fun q => hb (hG.plM.mp q))]
  obtain ⟨i, hi, hi4, rfl⟩ := plEx hG hb
  by_cases h0 : a2.toInt < 1
  · exact SIM.L (i_lt.mpr h0) (SIM.R (in_zero.mpr (Or.inl h0)) (SIM.ret h rfl))
  by_cases h5 : 5 < a2.toInt
  · exact SIM.nL (fun q => h0 (i_lt.mp q)) (SIM.nL (nle h5) (SIM.R (in_zero.mpr (Or.inr h5)) (SIM.ret h rfl)))
  obtain ⟨w, hw, rfl⟩ := i_ex (a := a2) (m := 6) (by omega) (by omega)
  rw [nI_ti (by omega)] at h0
  refine SIM.nL (fun q => by have := i_lt.mp q; rw [nI_ti (by omega)] at this; exact h0 this) (SIM.L (ile (show (nI w).toInt ≤ 5 by omega)) (SIM.nR (fun q => ?_) ?_))
  · have q2 : (nI w).toInt < 1 ∨ 5 < (nI w).toInt := in_zero.mp q
    rw [nI_ti (by omega)] at q2
    omega
  obtain ⟨r, hr, e1, e2, e3⟩ := hG.kd hi
  have vi : vin (nI i) 4 = true := vinI (by omega) (by decide)
  have vi2 : vin (nI i) 1360 = true := vinI (by omega) (by decide)
  obtain ⟨m, hm, em⟩ := hG.hv.1 i (by omega)
  have em2 : σ.1 (152 + 5) i = nI m := by rw [← em]; unfold HX; rw [if_pos (by omega)]
  obtain ⟨-, cb, cds⟩ := hG.2.2.2.1.2.2 i hi
  have hcn : ∀ p, p < 6 → c.2.2 (6 * i + p) = nI ((c.2.2 (6 * i + p)).toNatClampNeg) ∧ 1 ≤ (c.2.2 (6 * i + p)).toNatClampNeg ∧ (c.2.2 (6 * i + p)).toNatClampNeg ≤ 12 := by
    intro p hp
    obtain ⟨n, n1, n2, en⟩ := (cds p hp).2
    rw [en, nI_nat (by omega)]
    exact ⟨rfl, n1, n2⟩
  have hD : ∀ p q, p < 6 → q < 6 → (c.2.2 (6 * i + p)).toNatClampNeg = (c.2.2 (6 * i + q)).toNatClampNeg → p = q := fun p q hp hq e => hG.2.2.2.2.1 i hi p q hp hq (by rw [(hcn p hp).1, (hcn q hq).1, e])
  have hX := pairs_eq (cbN c.2.2 i 6) (cb_no hcn 6 (by omega) 0 (by omega) (fun p hp q => by have := (hcn p hp).2.1; omega))
  have hM := prs_eq (μ := μ) (cd := c.2.2) hG.2.2.1.symm hi4 hcn
  rw [← on_sum hcn hD _ 6 (Nat.le_refl _)] at hM
  rw [e3, Option.bind_some]
  simp only [if_pos vi, if_pos vi2, nI_nat (n := i) (show i < 2147483648 by omega), e2, hG.mk hi4, em2, bits_eq, Option.bind_some, f3X, f3M, bd_some, cb, hX, hM, un1_app, hG.las, hG.cal, show (6 : Int32).toNatClampNeg = 6 by decide, show (7 : Int32).toNatClampNeg = 7 by decide, if_pos (by decide : vin 6 1360 = true), if_pos (by decide : vin 7 1360 = true)]
  have hF := h.fnd (f := 3) (by decide)
  have R3 : ∀ A B, A = some ((-3 : Int32), fndX σ 3) → B = some ((-3 : Int32), fndM μ 3) → SIM A B := fun A B a b => by rw [a, b]; exact SIM.ret hF rfl
  have RV : ∀ A B (v w : Int32), A = some (v, σ) → B = some (w, μ) → v = w → SIM A B := fun A B v w a b e => by rw [a, b]; exact SIM.ret h e
  have t1 := whole_m m hm
  have t2 := two_m m hm
  unfold twoM at t2
  rcases (show r = 0 ∨ r = 1 ∨ r = 2 ∨ r = 3 ∨ r = 4 ∨ r = 5 by omega) with rfl | rfl | rfl | rfl | rfl | rfl <;> rcases (show w = 1 ∨ w = 2 ∨ w = 3 ∨ w = 4 ∨ w = 5 by omega) with rfl | rfl | rfl | rfl | rfl
  all_goals first
    | exact R3 _ _ rfl rfl
    | exact RV _ _ _ _ rfl rfl rfl
    | exact RV _ _ _ _ rfl rfl t1
    | skip
  by_cases q : bitsT (nI m >>> ((3 : Int32) &&& 31)) ≤ 1
  · rw [if_pos q] at t2
    simp only [if_pos q]
    exact RV _ _ _ _ rfl rfl t2
  · rw [if_neg q] at t2
    simp only [if_neg q]
    exact RV _ _ _ _ rfl rfl t2
