/-! mark -/
def sN (f : Nat → Nat) : Nat → Nat
  | 0 => 0
  | m + 1 => sN f m + f m
theorem sN_cong {f g : Nat → Nat} : ∀ m, (∀ n, n < m → f n = g n) → sN f m = sN g m
  | 0, _ => rfl
  | m + 1, h => by
    show sN f m + f m = sN g m + g m
    rw [sN_cong m (fun n hn => h n (by omega)), h m (by omega)]
theorem sN_le {f : Nat → Nat} (h : ∀ n, f n ≤ 1) : ∀ m, sN f m ≤ m
  | 0 => Nat.le_refl _
  | m + 1 => by
    have := sN_le h m
    have := h m
    show sN f m + f m ≤ m + 1
    omega
theorem sN_pt {f g : Nat → Nat} {a v : Nat} (h1 : ∀ n, n ≠ a → f n = g n) (h2 : f a = g a + v) : ∀ m, a < m → sN f m = sN g m + v
  | 0, h => absurd h (Nat.not_lt_zero _)
  | m + 1, h => by
    show sN f m + f m = sN g m + g m + v
    by_cases e : a = m
    · subst e
      rw [sN_cong a (fun n hn => h1 n (by omega)), h2]
      omega
    · rw [sN_pt h1 h2 m (by omega), h1 m (fun q => e q.symm)]
      omega
theorem or_z {x y : Int32} : x ||| y = 0 ↔ x = 0 ∧ y = 0 := by
  constructor
  · intro h
    have k : ∀ i, i < 32 → (bt x i || bt y i) = false := fun i hi => by rw [← b_or, h, b_0]
    exact ⟨b_ext (fun i hi => by have := k i hi; rw [b_0]; revert this; cases bt x i <;> simp), b_ext (fun i hi => by have := k i hi; rw [b_0]; revert this; cases bt y i <;> simp)⟩
  · rintro ⟨rfl, rfl⟩
    rfl
section
variable {cd : Nat → Int32} {cn : Nat → Nat} {i : Nat}
theorem cb_bt (hc : ∀ p, p < 6 → cd (6 * i + p) = nI (cn p) ∧ 1 ≤ cn p ∧ cn p ≤ 12) {k n : Nat} (hk : k < 6) (hn : n < 32) : bt (cbN cd i (k + 1)) n = (bt (cbN cd i k) n || decide (n = cn k)) := by
  obtain ⟨e, e1, e2⟩ := hc k hk
  show bt (cbN cd i k ||| ((1 : Int32) <<< ((cd (6 * i + k)) &&& 31))) n = _
  rw [b_or, e, shl_bt (by omega) hn]
theorem cb_no (hc : ∀ p, p < 6 → cd (6 * i + p) = nI (cn p) ∧ 1 ≤ cn p ∧ cn p ≤ 12) : ∀ k, k ≤ 6 → ∀ n, n < 32 → (∀ p, p < k → cn p ≠ n) → bt (cbN cd i k) n = false
  | 0, _, n, hn, _ => b_0 n
  | k + 1, hk, n, hn, h => by
    rw [cb_bt hc (by omega) hn, cb_no hc k (by omega) n hn (fun p hp => h p (by omega)), decide_eq_false (fun q => h k (by omega) q.symm)]
    rfl
theorem mb_zero (hc : ∀ p, p < 6 → cd (6 * i + p) = nI (cn p) ∧ 1 ≤ cn p ∧ cn p ≤ 12) {b : Nat} (hb : b < 31) : ∀ k, k ≤ 6 → (mbN cd i ((1 : Int32) <<< (nI b &&& 31)) k = 0 ↔ bt (cbN cd i k) b = false)
  | 0, _ => ⟨fun _ => b_0 b, fun _ => rfl⟩
  | k + 1, hk => by
    obtain ⟨e, e1, e2⟩ := hc k (by omega)
    show mbN cd i _ k ||| bitP _ (cd (6 * i + k)) k = 0 ↔ _
    rw [or_z, mb_zero hc hb k (by omega), cb_bt hc (by omega) (by omega)]
    unfold bitP
    have hz := has_zero ((1 : Int32) <<< (nI b &&& 31)) (n := cn k) (by omega)
    rw [shl_bt (by omega) (by omega)] at hz
    rw [e]
    have := pw_ne k (by omega)
    by_cases q : cn k = b
    · rw [if_neg (fun x => by have y := hz.mp x; rw [decide_eq_true q] at y; exact absurd y (by decide)), decide_eq_true q.symm, Bool.or_true]
      exact ⟨fun x => absurd x.2 this, fun x => absurd x (by decide)⟩
    · rw [if_pos (hz.mpr (decide_eq_false q)), decide_eq_false (fun x => q x.symm), Bool.or_false]
      exact ⟨fun x => x.1, fun x => ⟨x, rfl⟩⟩
def prF (x : Int32) (n : Nat) : Nat := if bt x (n % 12 + 1) = true then 1 else 0
def onF (x y : Int32) (n : Nat) : Nat := if bt x n = true then prF y n else 0
theorem on_sum (hc : ∀ p, p < 6 → cd (6 * i + p) = nI (cn p) ∧ 1 ≤ cn p ∧ cn p ≤ 12) (hD : ∀ p q, p < 6 → q < 6 → cn p = cn q → p = q) (y : Int32) : ∀ k, k ≤ 6 → sN (onF (cbN cd i k) y) 13 = sN (fun p => prF y (cn p)) k
  | 0, _ => by
    have : ∀ m, sN (onF (cbN cd i 0) y) m = 0 := by
      intro m
      induction m with
      | zero => rfl
      | succ m ih =>
        show sN (onF (cbN cd i 0) y) m + onF (cbN cd i 0) y m = 0
        rw [ih]
        unfold onF
        rw [show cbN cd i 0 = 0 from rfl, b_0]
        rfl
    exact this 13
  | k + 1, hk => by
    obtain ⟨e, e1, e2⟩ := hc k (by omega)
    show _ = sN (fun p => prF y (cn p)) k + prF y (cn k)
    rw [← on_sum hc hD y k (by omega)]
    have key : ∀ n, n < 32 → onF (cbN cd i (k + 1)) y n = if n = cn k then prF y n else onF (cbN cd i k) y n := by
      intro n hn
      unfold onF
      rw [cb_bt hc (by omega) hn]
      by_cases q : n = cn k
      · simp [q]
      · simp [q]
    have hz : onF (cbN cd i k) y (cn k) = 0 := by
      unfold onF
      rw [cb_no hc k (by omega) (cn k) (by omega) (fun p hp q => by have := hD p k (by omega) (by omega) q; omega)]
      rfl
    rw [sN_cong (f := onF (cbN cd i (k + 1)) y) (g := fun n => if n = cn k then prF y n else onF (cbN cd i k) y n) 13 (fun n hn => key n (by omega))]
    exact sN_pt (a := cn k) (fun n hn => if_neg hn) (by rw [hz, if_pos rfl, Nat.zero_add]) 13 (by omega)
theorem prF_le (y : Int32) (n : Nat) : prF y n ≤ 1 := by unfold prF; split <;> omega
theorem onF_le (x y : Int32) (n : Nat) : onF x y n ≤ 1 := by
  unfold onF
  split
  · exact prF_le y n
  · omega
theorem nI_s (n : Nat) (h : n < 2147483647) : nI n + 1 = nI (n + 1) := i_nI (i32_add (nI_ti (by omega)) (b := 1) (by decide) (by omega))
theorem pairs_eq (x : Int32) (h0 : bt x 0 = false) : X8_pairsOn x = some (nI (sN (onF x x) 13)) := by
  unfold X8_pairsOn
  have h := lp_from (b := un2 (X8_pairsOn_b4 x)) (n := 13) (res := nI (sN (onF x x) 13)) (fun j z => (nI (sN (onF x x) j), z)) 1 1 (by decide) (by decide) (by decide) (fun j z hj hz => by
    have ze := i_nI hz
    subst ze
    have le := sN_le (onF_le x x) j
    have s1 := nI_s (sN (onF x x) j) (by omega)
    show X8_pairsOn_b4 x (nI (sN (onF x x) j)) (nI j) = some (.inl (nI (sN (onF x x) j + onF x x j), nI j + 1))
    generalize sN (onF x x) j = S at s1
    unfold X8_pairsOn_b4 X8_behind onF prF
    have r3 : nI j - nI j / 12 * 12 = nI (j % 12) := i_rem hz (by decide) (by omega)
    rw [if_neg (fun q => by have := i_lt.mp q; rw [hz] at this; have t : (12 : Int) < j := this; omega), r3, nI_s _ (by omega), bit_eq _ (by omega), bit_eq _ (by omega)]
    by_cases a : bt x j = true
    · rw [if_pos a, if_pos a, if_pos rfl]
      by_cases b : bt x (j % 12 + 1) = true
      · rw [if_pos b, if_pos b, if_pos rfl, s1]
      · rw [if_neg b, if_neg b, if_neg (by decide)]
        rfl
    · rw [if_neg a, if_neg a, if_neg (by decide)]
      rfl) (fun z hz => by
    show X8_pairsOn_b4 x _ z = _
    unfold X8_pairsOn_b4
    rw [if_pos (i_lt.mpr (by rw [hz]; decide))])
  have e1 : sN (onF x x) 1 = 0 := by
    show 0 + onF x x 0 = 0
    unfold onF
    rw [h0]
    rfl
  rw [e1] at h
  have h' : lp big (un2 (X8_pairsOn_b4 x)) (0, 1) = some (nI (sN (onF x x) 13)) := h
  rw [h', Option.bind_some, un1_app]
theorem prs_eq {μ : mS} (hcd : μ.1 7 = cd) (hi : i < 4) (hc : ∀ p, p < 6 → cd (6 * i + p) = nI (cn p) ∧ 1 ≤ cn p ∧ cn p ≤ 12) : lp big (un2 (X11_mark_b135 μ (nI i))) (0, 0) = some (nI (sN (fun p => prF (cbN cd i 6) (cn p)) 6)) := by
  exact lp_zero (b := un2 (X11_mark_b135 μ (nI i))) (n := 6) (res := nI (sN (fun p => prF (cbN cd i 6) (cn p)) 6)) (fun j z => (nI (sN (fun p => prF (cbN cd i 6) (cn p)) j), z)) (by decide) (fun j z hj hz => by
    have ze := i_nI hz
    subst ze
    obtain ⟨e, e1, e2⟩ := hc j hj
    have le := sN_le (f := fun p => prF (cbN cd i 6) (cn p)) (fun n => prF_le _ _) j
    show X11_mark_b135 μ (nI i) (nI (sN (fun p => prF (cbN cd i 6) (cn p)) j)) (nI j) = some (.inl (nI (sN (fun p => prF (cbN cd i 6) (cn p)) j + prF (cbN cd i 6) (cn j)), nI j + 1))
    generalize sN (fun p => prF (cbN cd i 6) (cn p)) j = S at le
    unfold X11_mark_b135
    have c1 := i_ix (c := 6) (cn := 6) (by decide) (nI_ti (n := i) (by omega)) hz (by omega)
    have c2 := i_ixn (c := 6) (cn := 6) (by decide) (nI_ti (n := i) (by omega)) hz (by omega)
    rw [if_neg (nle (by rw [hz]; show (j : Int) < 6; omega)), if_pos (vin_iff.mpr (by rw [c1]; omega) : vin (((6 : Int32) * nI i) + nI j) 24 = true), c2, hcd, e, i_rem (m := cn j) (D := 12) (nI_ti (by omega)) (by decide) (by omega), nI_s _ (by omega), marksBy_eq μ (nI_ti (by omega)) hi, Option.bind_some, hcd]
    have hz0 : mbT cd i ((1 : Int32) <<< (nI (cn j % 12 + 1) &&& 31)) = 0 ↔ _ := mb_zero hc (b := cn j % 12 + 1) (by omega) 6 (Nat.le_refl _)
    unfold prF
    by_cases b : bt (cbN cd i 6) (cn j % 12 + 1) = true
    · rw [if_pos b, if_neg (fun q => by rw [hz0.mp q] at b; exact absurd b (by decide)), nI_s S (by omega)]
    · rw [if_neg b, if_pos (hz0.mpr (Bool.eq_false_iff.mpr b))]
      rw [show nI S + 0 = nI S from Int32.add_zero _]
      rfl) (fun z hz => by
    show X11_mark_b135 μ (nI i) _ z = _
    unfold X11_mark_b135
    rw [if_pos (ile (by rw [hz]; decide))])
end
theorem whole_m : ∀ m, m < 64 → X9_lacks (nI m) = (6 : Int32) - bitsT (nI m) := by decide +kernel
def twoM (m : Int32) : Int32 := (if bitsT (m >>> ((3 : Int32) &&& 31)) ≤ 1 then ((if bitsT (m &&& 7) ≤ 1 then (0 : Int32) else 1) + 0) else ((if bitsT (m &&& 7) ≤ 1 then (0 : Int32) else 1) + 1))
theorem two_m : ∀ m, m < 64 → X3_linesOfTwo (nI m) = twoM (nI m) := by decide +kernel
theorem sim_mark {σ μ : mS} (h : RR σ μ) (a1 a2 : Int32) : SIM (X10_mark σ a1 a2) (X11_mark μ a1 a2) := by
  obtain ⟨c, hG⟩ := h.2.2.1
  have hP4 := hG.P4
  unfold X10_mark X11_mark
  by_cases hb : a1.toInt < 0 ∨ (c.1 : Int) ≤ a1.toInt
  · rw [if_pos (hG.plX.mpr hb), if_pos (hG.plM.mpr hb)]
    exact SIM.ret h rfl
  rw [if_neg (fun q => hb (hG.plX.mp q)), if_neg (fun q => hb (hG.plM.mp q))]
  obtain ⟨i, hi, hi4, rfl⟩ := plEx hG hb
  by_cases h0 : a2.toInt < 1
  · exact SIM.L (i_lt.mpr h0) (SIM.R (in_zero.mpr (Or.inl h0)) (SIM.ret h rfl))
  by_cases h5 : 5 < a2.toInt
  · exact SIM.nL (fun q => h0 (i_lt.mp q)) (SIM.nL (nle h5) (SIM.R (in_zero.mpr (Or.inr h5)) (SIM.ret h rfl)))
  obtain ⟨w, hw, rfl⟩ := i_ex (a := a2) (m := 6) (by omega) (by omega)
  rw [nI_ti (by omega)] at h0
  refine SIM.nL (fun q => by have := i_lt.mp q; rw [nI_ti (by omega)] at this; exact h0 this) (SIM.L (ile (show (nI w).toInt ≤ 5 by omega)) (SIM.nR (fun q => ?_) ?_))
  · have q2 : (nI w).toInt < 1 ∨ 5 < (nI w).toInt := in_zero.mp q
    rw [nI_ti (by omega)] at q2
    omega
  obtain ⟨r, hr, e1, e2, e3⟩ := hG.kd hi
  have vi : vin (nI i) 4 = true := vinI (by omega) (by decide)
  have vi2 : vin (nI i) 1360 = true := vinI (by omega) (by decide)
  obtain ⟨m, hm, em⟩ := hG.hv.1 i (by omega)
  have em2 : σ.1 (152 + 5) i = nI m := by rw [← em]; unfold HX; rw [if_pos (by omega)]
  obtain ⟨-, cb, cds⟩ := hG.2.2.2.1.2.2 i hi
  have hcn : ∀ p, p < 6 → c.2.2 (6 * i + p) = nI ((c.2.2 (6 * i + p)).toNatClampNeg) ∧ 1 ≤ (c.2.2 (6 * i + p)).toNatClampNeg ∧ (c.2.2 (6 * i + p)).toNatClampNeg ≤ 12 := by
    intro p hp
    obtain ⟨n, n1, n2, en⟩ := (cds p hp).2
    rw [en, nI_nat (by omega)]
    exact ⟨rfl, n1, n2⟩
  have hD : ∀ p q, p < 6 → q < 6 → (c.2.2 (6 * i + p)).toNatClampNeg = (c.2.2 (6 * i + q)).toNatClampNeg → p = q := fun p q hp hq e => hG.2.2.2.2.1 i hi p q hp hq (by rw [(hcn p hp).1, (hcn q hq).1, e])
  have hX := pairs_eq (cbN c.2.2 i 6) (cb_no hcn 6 (by omega) 0 (by omega) (fun p hp q => by have := (hcn p hp).2.1; omega))
  have hM := prs_eq (μ := μ) (cd := c.2.2) hG.2.2.1.symm hi4 hcn
  rw [← on_sum hcn hD _ 6 (Nat.le_refl _)] at hM
  rw [e3, Option.bind_some]
  simp only [if_pos vi, if_pos vi2, nI_nat (n := i) (show i < 2147483648 by omega), e2, hG.mk hi4, em2, bits_eq, Option.bind_some, f3X, f3M, bd_some, cb, hX, hM, un1_app, hG.las, hG.cal, show (6 : Int32).toNatClampNeg = 6 by decide, show (7 : Int32).toNatClampNeg = 7 by decide, if_pos (by decide : vin 6 1360 = true), if_pos (by decide : vin 7 1360 = true)]
  have hF := h.fnd (f := 3) (by decide)
  have R3 : ∀ A B, A = some ((-3 : Int32), fndX σ 3) → B = some ((-3 : Int32), fndM μ 3) → SIM A B := fun A B a b => by rw [a, b]; exact SIM.ret hF rfl
  have RV : ∀ A B (v w : Int32), A = some (v, σ) → B = some (w, μ) → v = w → SIM A B := fun A B v w a b e => by rw [a, b]; exact SIM.ret h e
  have t1 := whole_m m hm
  have t2 := two_m m hm
  unfold twoM at t2
  rcases (show r = 0 ∨ r = 1 ∨ r = 2 ∨ r = 3 ∨ r = 4 ∨ r = 5 by omega) with rfl | rfl | rfl | rfl | rfl | rfl <;> rcases (show w = 1 ∨ w = 2 ∨ w = 3 ∨ w = 4 ∨ w = 5 by omega) with rfl | rfl | rfl | rfl | rfl
  all_goals first
    | exact R3 _ _ rfl rfl
    | exact RV _ _ _ _ rfl rfl rfl
    | exact RV _ _ _ _ rfl rfl t1
    | skip
  by_cases q : bitsT (nI m >>> ((3 : Int32) &&& 31)) ≤ 1
  · rw [if_pos q] at t2
    simp only [if_pos q]
    exact RV _ _ _ _ rfl rfl t2
  · rw [if_neg q] at t2
    simp only [if_neg q]
    exact RV _ _ _ _ rfl rfl t2

/-! count, findings, digest -/
theorem lpE {T : Type} {b b' : T × Int32 → Option ((T × Int32) ⊕ T)} {n : Nat} (hn : n < 900000) (hs : ∀ j v, j < n → ∃ v', b (v, nI j) = some (.inl (v', nI j + 1)) ∧ b' (v, nI j) = some (.inl (v', nI j + 1))) (he : ∀ v, b (v, nI n) = some (.inr v) ∧ b' (v, nI n) = some (.inr v)) (v0 : T) : ∃ r, lp big b (v0, 0) = some r ∧ lp big b' (v0, 0) = some r := by
  obtain ⟨r, r', l1, l2, rfl⟩ := lpR (b := b) (b' := b') (I := fun d q q' => ∃ j v, j + d = n ∧ q = (v, nI j) ∧ q' = (v, nI j)) (Q := fun r r' => r = r') (fun d q q' hI => by
    obtain ⟨j, v, hj, rfl, rfl⟩ := hI
    by_cases e : j = n
    · subst e
      right
      exact ⟨_, _, (he v).1, (he v).2, rfl⟩
    · left
      obtain ⟨v', h1, h2⟩ := hs j v (by omega)
      refine ⟨_, _, d - 1, by omega, h1, h2, j + 1, v', by omega, ?_, ?_⟩
      · rw [nI_s j (by omega)]
      · rw [nI_s j (by omega)]) big n (v0, 0) (v0, 0) ⟨0, v0, by omega, rfl, rfl⟩ (by show n < 1000000; omega)
  exact ⟨r, l1, l2⟩
theorem lt_nI {a b : Nat} (ha : a < 2147483648) (hb : b < 2147483648) (h : a < b) : ¬ nI b ≤ nI a := nle (by rw [nI_ti ha, nI_ti hb]; omega)
theorem le_nI {a : Nat} : nI a ≤ nI a := i_le.mpr (Int.le_refl _)
theorem there_E {σ μ : mS} {k z : Nat} {a : Int32} {m : Nat} (hz : z < 7) (hm : ∀ (v : Int32) (x : Nat), x < z → X11_thereAre_b4 μ a v (nI x) = if 0 ≤ μ.1 m x then some (.inl (v + 1, nI x + 1)) else some (.inl (v + 0, nI x + 1))) (hm2 : ∀ v : Int32, X11_thereAre_b4 μ a v (nI z) = some (.inr v)) (he : ∀ x, x < z → μ.1 m x = σ.1 k x) : ∃ v, X10_thoseThere σ k z = some v ∧ X11_thereAre μ a = some v := by
  unfold X10_thoseThere X11_thereAre
  obtain ⟨r, h1, h2⟩ := lpE (b := un2 (X10_thoseThere_b10 σ k z)) (b' := un2 (X11_thereAre_b4 μ a)) (n := z) (by omega) (fun j v hj => by
    show ∃ v', X10_thoseThere_b10 σ k z v (nI j) = _ ∧ X11_thereAre_b4 μ a v (nI j) = _
    unfold X10_thoseThere_b10
    rw [hm v j hj, show Int32.ofNat z = nI z from rfl, if_neg (lt_nI (by omega) (by omega) hj), if_pos (vinI hj (by omega)), nI_nat (by omega), he j hj]
    by_cases q : σ.1 k j < 0
    · rw [if_pos q, if_neg (nle (i_lt.mp q)), Int32.add_zero]
      exact ⟨_, rfl, rfl⟩
    · rw [if_neg q, if_pos (i_le.mpr (by have : ¬ (σ.1 k j).toInt < (0 : Int32).toInt := fun x => q (i_lt.mpr x); omega))]
      exact ⟨_, rfl, rfl⟩) (fun v => by
    show X10_thoseThere_b10 σ k z v (nI z) = _ ∧ X11_thereAre_b4 μ a v (nI z) = _
    unfold X10_thoseThere_b10
    rw [hm2 v, show Int32.ofNat z = nI z from rfl, if_pos le_nI]
    exact ⟨rfl, rfl⟩) 0
  exact ⟨r, by rw [h1, Option.bind_some, un1_app], by rw [h2, Option.bind_some, un1_app]⟩
theorem kept_E {σ μ : mS} {a : Int32} (hm : ∀ (v : Int32) (x : Nat), x < 3 → X11_thereAre_b4 μ a v (nI x) = if 0 ≤ μ.1 11 x then some (.inl (v + 1, nI x + 1)) else some (.inl (v + 0, nI x + 1))) (hm2 : ∀ v : Int32, X11_thereAre_b4 μ a v (nI 3) = some (.inr v)) (he : ∀ x, x < 3 → μ.1 11 x = σ.1 (160 + x) 1) : ∃ v, X10_keptHalls σ = some v ∧ X11_thereAre μ a = some v := by
  unfold X10_keptHalls X11_thereAre
  obtain ⟨r, h1, h2⟩ := lpE (b := un2 (X10_keptHalls_b4 σ)) (b' := un2 (X11_thereAre_b4 μ a)) (n := 3) (by omega) (fun j v hj => by
    show ∃ v', X10_keptHalls_b4 σ v (nI j) = _ ∧ X11_thereAre_b4 μ a v (nI j) = _
    unfold X10_keptHalls_b4
    rw [hm v j hj, if_neg (show ¬ (3 : Int32) ≤ nI j from lt_nI (a := j) (b := 3) (by omega) (by omega) hj), if_pos (vinI hj (by omega)), nI_nat (by omega), he j hj]
    by_cases q : σ.1 (160 + j) 1 < 0
    · rw [if_pos q, if_neg (nle (i_lt.mp q)), Int32.add_zero]
      exact ⟨_, rfl, rfl⟩
    · rw [if_neg q, if_pos (i_le.mpr (by have : ¬ (σ.1 (160 + j) 1).toInt < (0 : Int32).toInt := fun x => q (i_lt.mpr x); omega))]
      exact ⟨_, rfl, rfl⟩) (fun v => by
    show X10_keptHalls_b4 σ v (nI 3) = _ ∧ X11_thereAre_b4 μ a v (nI 3) = _
    unfold X10_keptHalls_b4
    rw [hm2 v, if_pos (by decide : (3 : Int32) ≤ nI 3)]
    exact ⟨rfl, rfl⟩) 0
  exact ⟨r, by rw [h1, Option.bind_some, un1_app], by rw [h2, Option.bind_some, un1_app]⟩
theorem isA1 : ∀ r, r < 6 → (X11_isA (nI r) 1 = 0 ↔ ki_X9 r = 0) := by decide +kernel
theorem isA2 : ∀ r, r < 6 → (X11_isA (nI r) 2 = 0 ↔ ki_X0 r = 0) := by decide +kernel
theorem whole_E {σ μ : mS} {c : cT} (hG : RG σ μ c) : ∃ v, X7_wholeOnes σ = some v ∧ X11_manyOf μ 1 = some v := by
  have hP4 := hG.P4
  unfold X7_wholeOnes X11_manyOf
  obtain ⟨r, h1, h2⟩ := lpE (b := un2 (X7_wholeOnes_b4 σ)) (b' := un2 (X11_manyOf_b4 μ 1)) (n := c.1) (by omega) (fun j v hj => by
    show ∃ v', X7_wholeOnes_b4 σ v (nI j) = _ ∧ X11_manyOf_b4 μ 1 v (nI j) = _
    obtain ⟨r, hr, e1, e2, e3⟩ := hG.kd hj
    unfold X7_wholeOnes_b4 X11_manyOf_b4
    rw [hG.pX, hG.1, if_neg (lt_nI (by omega) (by omega) hj), if_neg (lt_nI (by omega) (by omega) hj), e3, Option.bind_some, if_pos (vinI (by omega) (by omega)), nI_nat (by omega), e2]
    by_cases q : ki_X9 r = 0
    · rw [if_pos q, if_pos ((isA1 r hr).mpr q), Int32.add_zero]
      exact ⟨_, rfl, rfl⟩
    · rw [if_neg q, if_neg (fun x => q ((isA1 r hr).mp x))]
      exact ⟨_, rfl, rfl⟩) (fun v => by
    show X7_wholeOnes_b4 σ v (nI c.1) = _ ∧ X11_manyOf_b4 μ 1 v (nI c.1) = _
    unfold X7_wholeOnes_b4 X11_manyOf_b4
    rw [hG.pX, hG.1, if_pos le_nI, if_pos le_nI]
    exact ⟨rfl, rfl⟩) 0
  exact ⟨r, by rw [h1, Option.bind_some, un1_app], by rw [h2, Option.bind_some, un1_app]⟩
theorem deaf_E {σ μ : mS} {c : cT} (hG : RG σ μ c) : ∃ v, X7_deafOnes σ = some v ∧ X11_manyOf μ 2 = some v := by
  have hP4 := hG.P4
  unfold X7_deafOnes X11_manyOf
  obtain ⟨r, h1, h2⟩ := lpE (b := un2 (X7_deafOnes_b4 σ)) (b' := un2 (X11_manyOf_b4 μ 2)) (n := c.1) (by omega) (fun j v hj => by
    show ∃ v', X7_deafOnes_b4 σ v (nI j) = _ ∧ X11_manyOf_b4 μ 2 v (nI j) = _
    obtain ⟨r, hr, e1, e2, e3⟩ := hG.kd hj
    unfold X7_deafOnes_b4 X11_manyOf_b4
    rw [hG.pX, hG.1, if_neg (lt_nI (by omega) (by omega) hj), if_neg (lt_nI (by omega) (by omega) hj), e3, Option.bind_some, if_pos (vinI (by omega) (by omega)), nI_nat (by omega), e2]
    by_cases q : ki_X0 r = 0
    · rw [if_pos q, if_pos ((isA2 r hr).mpr q), Int32.add_zero]
      exact ⟨_, rfl, rfl⟩
    · rw [if_neg q, if_neg (fun x => q ((isA2 r hr).mp x))]
      exact ⟨_, rfl, rfl⟩) (fun v => by
    show X7_deafOnes_b4 σ v (nI c.1) = _ ∧ X11_manyOf_b4 μ 2 v (nI c.1) = _
    unfold X7_deafOnes_b4 X11_manyOf_b4
    rw [hG.pX, hG.1, if_pos le_nI, if_pos le_nI]
    exact ⟨rfl, rfl⟩) 0
  exact ⟨r, by rw [h1, Option.bind_some, un1_app], by rw [h2, Option.bind_some, un1_app]⟩
theorem marks_E {σ μ : mS} {c : cT} (hG : RG σ μ c) : ∃ v, X2_allMarks σ 5 = some v ∧ X11_allMarks μ = some v := by
  have hP4 := hG.P4
  unfold X2_allMarks X11_allMarks
  obtain ⟨r, h1, h2⟩ := lpE (b := un2 (X2_allMarks_b4 σ 5)) (b' := un2 (X11_allMarks_b4 μ)) (n := c.1) (by omega) (fun j v hj => by
    show ∃ v', X2_allMarks_b4 σ 5 v (nI j) = _ ∧ X11_allMarks_b4 μ v (nI j) = _
    unfold X2_allMarks_b4 X11_allMarks_b4
    obtain ⟨m, hm, em⟩ := hG.hv.1 j (by omega)
    have em2 : σ.1 (152 + 5) j = nI m := by rw [← em]; unfold HX; rw [if_pos (by omega)]
    rw [hG.pX, hG.1, if_neg (lt_nI (by omega) (by omega) hj), if_neg (lt_nI (by omega) (by omega) hj), if_pos (vinI (by omega) (by omega)), if_pos (vinI (by omega) (by omega)), nI_nat (by omega), hG.mk (by omega), em2, bits_eq, Option.bind_some, bc64 m hm]
    exact ⟨_, rfl, rfl⟩) (fun v => by
    show X2_allMarks_b4 σ 5 v (nI c.1) = _ ∧ X11_allMarks_b4 μ v (nI c.1) = _
    unfold X2_allMarks_b4 X11_allMarks_b4
    rw [hG.pX, hG.1, if_pos le_nI, if_pos le_nI]
    exact ⟨rfl, rfl⟩) 0
  exact ⟨r, by rw [h1, Option.bind_some, un1_app], by rw [h2, Option.bind_some, un1_app]⟩
theorem ta9 {μ : mS} (v : Int32) {x : Nat} (h : x < 6) : X11_thereAre_b4 μ 9 v (nI x) = if 0 ≤ μ.1 1 x then some (.inl (v + 1, nI x + 1)) else some (.inl (v + 0, nI x + 1)) := by
  show (if (6 : Int32) ≤ nI x then some (Sum.inr v) else Option.bind (if vin (nI x) 6 = true then some (μ.1 1 (nI x).toNatClampNeg) else none) (un1 (fun v16 => if 0 ≤ v16 then some (.inl ((v + 1), (nI x + 1))) else some (.inl ((v + 0), (nI x + 1)))))) = _
  rw [if_neg (show ¬ (6 : Int32) ≤ nI x from lt_nI (a := x) (b := 6) (by omega) (by omega) h), if_pos (vinI h (by omega)), Option.bind_some, un1_app, nI_nat (by omega)]
theorem ta10 {μ : mS} (v : Int32) {x : Nat} (h : x < 4) : X11_thereAre_b4 μ 10 v (nI x) = if 0 ≤ μ.1 4 x then some (.inl (v + 1, nI x + 1)) else some (.inl (v + 0, nI x + 1)) := by
  show (if (4 : Int32) ≤ nI x then some (Sum.inr v) else Option.bind (if vin (nI x) 4 = true then some (μ.1 4 (nI x).toNatClampNeg) else none) (un1 (fun v16 => if 0 ≤ v16 then some (.inl ((v + 1), (nI x + 1))) else some (.inl ((v + 0), (nI x + 1)))))) = _
  rw [if_neg (show ¬ (4 : Int32) ≤ nI x from lt_nI (a := x) (b := 4) (by omega) (by omega) h), if_pos (vinI h (by omega)), Option.bind_some, un1_app, nI_nat (by omega)]
theorem ta11 {μ : mS} (v : Int32) {x : Nat} (h : x < 3) : X11_thereAre_b4 μ 11 v (nI x) = if 0 ≤ μ.1 11 x then some (.inl (v + 1, nI x + 1)) else some (.inl (v + 0, nI x + 1)) := by
  show (if (3 : Int32) ≤ nI x then some (Sum.inr v) else Option.bind (if vin (nI x) 3 = true then some (μ.1 11 (nI x).toNatClampNeg) else none) (un1 (fun v16 => if 0 ≤ v16 then some (.inl ((v + 1), (nI x + 1))) else some (.inl ((v + 0), (nI x + 1)))))) = _
  rw [if_neg (show ¬ (3 : Int32) ≤ nI x from lt_nI (a := x) (b := 3) (by omega) (by omega) h), if_pos (vinI h (by omega)), Option.bind_some, un1_app, nI_nat (by omega)]
theorem count_E {σ μ : mS} (h : RR σ μ) {w : Nat} (hw : w < 12) : ∃ v, X10_count σ (nI w) = some v ∧ X11_countOf μ (nI w) = some v := by
  obtain ⟨c, hG⟩ := h.2.2.1
  unfold X10_count X11_countOf
  rcases (show w = 0 ∨ w = 1 ∨ w = 2 ∨ w = 3 ∨ w = 4 ∨ w = 5 ∨ w = 6 ∨ w = 7 ∨ w = 8 ∨ w = 9 ∨ w = 10 ∨ w = 11 by omega) with rfl | rfl | rfl | rfl | rfl | rfl | rfl | rfl | rfl | rfl | rfl | rfl
  · exact ⟨_, rfl, by rw [hG.pX, hG.1]; rfl⟩
  · exact ⟨_, rfl, by rw [← hG.cal]; rfl⟩
  · exact ⟨_, rfl, by rw [← hG.2.2.2.2.2.2.1]; rfl⟩
  · exact ⟨_, rfl, by rw [← hG.bag]; rfl⟩
  · exact ⟨_, rfl, by rw [← hG.las]; rfl⟩
  · exact ⟨_, rfl, by rw [← hG.won]; rfl⟩
  · obtain ⟨v, h1, h2⟩ := marks_E hG
    rw [h1, h2]
    exact ⟨v, rfl, rfl⟩
  · obtain ⟨v, h1, h2⟩ := whole_E hG
    rw [h1, h2]
    exact ⟨v, rfl, rfl⟩
  · obtain ⟨v, h1, h2⟩ := deaf_E hG
    rw [h1, h2]
    exact ⟨v, rfl, rfl⟩
  · obtain ⟨v, h1, h2⟩ := there_E (σ := σ) (μ := μ) (k := 24) (z := 6) (a := 9) (m := 1) (by omega) (fun v x hx => ta9 v hx) (fun v => rfl) (fun x hx => (h.1 x hx).1)
    rw [h1, show nI 9 = 9 from rfl, h2]
    exact ⟨v, rfl, rfl⟩
  · obtain ⟨v, h1, h2⟩ := there_E (σ := σ) (μ := μ) (k := 48) (z := 4) (a := 10) (m := 4) (by omega) (fun v x hx => ta10 v hx) (fun v => rfl) (fun x hx => (h.2.1 x hx).1)
    rw [h1, show nI 10 = 10 from rfl, h2]
    exact ⟨v, rfl, rfl⟩
  · obtain ⟨v, h1, h2⟩ := kept_E (σ := σ) (μ := μ) (a := 11) (fun v x hx => ta11 v hx) (fun v => rfl) (fun x hx => (hG.2.2.2.2.2.2.2.2 x hx).1)
    rw [h1, show nI 11 = 11 from rfl, h2]
    exact ⟨v, rfl, rfl⟩
theorem sim_count {σ μ : mS} (h : RR σ μ) (a1 : Int32) : ∃ v, X10_count σ a1 = some v ∧ X11_count μ a1 = some v := by
  unfold X11_count
  by_cases b : a1.toInt < 0 ∨ 11 < a1.toInt
  · refine ⟨-1, ?_, by rw [if_pos (in_zero.mpr b)]⟩
    unfold X10_count
    have ne : ∀ k : Nat, k < 12 → ¬ a1 = nI k := fun k hk q => by
      have := i_eq.mp q
      rw [nI_ti (by omega)] at this
      omega
    rw [if_neg (show ¬ a1 = (0 : Int32) from ne 0 (by omega)), if_neg (show ¬ a1 = (1 : Int32) from ne 1 (by omega)), if_neg (show ¬ a1 = (2 : Int32) from ne 2 (by omega)), if_neg (show ¬ a1 = (3 : Int32) from ne 3 (by omega)), if_neg (show ¬ a1 = (4 : Int32) from ne 4 (by omega)), if_neg (show ¬ a1 = (5 : Int32) from ne 5 (by omega)), if_neg (show ¬ a1 = (6 : Int32) from ne 6 (by omega)), if_neg (show ¬ a1 = (7 : Int32) from ne 7 (by omega)), if_neg (show ¬ a1 = (8 : Int32) from ne 8 (by omega)), if_neg (show ¬ a1 = (9 : Int32) from ne 9 (by omega)), if_neg (show ¬ a1 = (10 : Int32) from ne 10 (by omega)), if_neg (show ¬ a1 = (11 : Int32) from ne 11 (by omega))]
  · rw [if_neg (fun q => b (in_zero.mp q))]
    obtain ⟨w, hw, rfl⟩ := i_ex (a := a1) (m := 12) (by omega) (by omega)
    obtain ⟨v, h1, h2⟩ := count_E h hw
    exact ⟨v, h1, by rw [h2, Option.bind_some]⟩
theorem sim_findings {σ μ : mS} (h : RR σ μ) (a1 : Int32) : ∃ v, X10_findings σ a1 = some v ∧ X11_findings μ a1 = some v := by
  unfold X10_findings X11_findings
  by_cases b : a1.toInt < 1 ∨ 5 < a1.toInt
  · rw [if_pos (in_zero.mpr b : X11_in a1.toInt64 1 5 = 0)]
    by_cases b2 : a1.toInt < 1
    · rw [if_pos (i_lt.mpr b2)]
      exact ⟨_, rfl, rfl⟩
    · rw [if_neg (fun q => b2 (i_lt.mp q)), if_neg (nle (by show (5 : Int) < _; omega))]
      exact ⟨_, rfl, rfl⟩
  · rw [if_neg (fun q => b (in_zero.mp q) : ¬ X11_in a1.toInt64 1 5 = 0), if_neg (fun q => b (Or.inl (i_lt.mp q))), if_pos (ile (by show _ ≤ (5 : Int); omega))]
    obtain ⟨w, hw, rfl⟩ := i_ex (a := a1) (m := 6) (by omega) (by omega)
    rw [if_pos (vinI hw (by omega)), if_pos (vinI hw (by omega)), nI_nat (by omega)]
    exact ⟨_, rfl, by rw [h.2.2.2.2.2.2.2 w hw]⟩
/-! digest -/
theorem dg_rows {σ μ : mS} (h : RR σ μ) (y : Int64) : ∃ v, lp big (un2 (X10_digest_b148 σ)) (y, 0) = some v ∧ lp big (un2 (X11_digest_b142 μ)) (y, 0) = some v :=
  lpE (b := un2 (X10_digest_b148 σ)) (b' := un2 (X11_digest_b142 μ)) (n := 6) (by omega) (fun j v hj => by
    show ∃ v', X10_digest_b148 σ v (nI j) = _ ∧ X11_digest_b142 μ v (nI j) = _
    unfold X10_digest_b148 X11_digest_b142
    obtain ⟨w1, w2, w3, w4⟩ := h.1 j hj
    have hv : vin (nI j) 6 = true := vinI hj (by omega)
    have l6 : ¬ (6 : Int32) ≤ nI j := lt_nI (a := j) (b := 6) (by omega) (by omega) hj
    rw [if_neg l6, if_neg l6, if_pos hv, if_pos hv, nI_nat (by omega), w1]
    generalize ((31 * v) + ((σ.1 24 j)).toInt64) = y
    by_cases ng : (σ.1 24 j).toInt < 0
    · have q : σ.1 24 j ≤ 0 := i_le.mpr (by show _ ≤ (0 : Int); omega)
      have e1 : lp big (un2 (X10_digest_b171 σ (nI j))) (y, 0) = some y := lp_r (f := 999999) (by
        show X10_digest_b171 σ (nI j) y 0 = _
        unfold X10_digest_b171
        rw [if_pos hv, nI_nat (by omega), if_pos q])
      have e2 : lp big (un2 (X11_digest_b165 μ (nI j))) (y, 0) = some y := lp_r (f := 999999) (by
        show X11_digest_b165 μ (nI j) y 0 = _
        unfold X11_digest_b165
        rw [if_pos hv, nI_nat (by omega), w1, if_pos q])
      rw [e1, e2]
      exact ⟨_, rfl, rfl⟩
    obtain ⟨z, hz, ez⟩ := i_ex (a := σ.1 24 j) (m := 41) (by omega) (by omega)
    obtain ⟨r, g1, g2⟩ := lpE (b := un2 (X10_digest_b171 σ (nI j))) (b' := un2 (X11_digest_b165 μ (nI j))) (n := z) (by omega) (fun i v hi => by
      show ∃ v', X10_digest_b171 σ (nI j) v (nI i) = _ ∧ X11_digest_b165 μ (nI j) v (nI i) = _
      unfold X10_digest_b171 X11_digest_b165
      have c1 := i_ix (c := 40) (cn := 40) (by decide) (nI_ti (n := j) (by omega)) (nI_ti (n := i) (by omega)) (by omega)
      have c2 := i_ixn (c := 40) (cn := 40) (by decide) (nI_ti (n := j) (by omega)) (nI_ti (n := i) (by omega)) (by omega)
      rw [if_pos hv, if_pos hv, nI_nat (n := j) (by omega), w1, ez, if_neg (lt_nI (by omega) (by omega) hi), if_neg (lt_nI (by omega) (by omega) hi), if_pos hv, if_pos (vinI (by omega) (by omega)), if_pos (vin_iff.mpr (by rw [c1]; omega) : vin (((40 : Int32) * nI j) + nI i) 240 = true), c2, nI_nat (n := i) (by omega), w4 i (by rw [ez, nI_ti (by omega)]; omega)]
      exact ⟨_, rfl, rfl⟩) (fun v => by
      show X10_digest_b171 σ (nI j) v (nI z) = _ ∧ X11_digest_b165 μ (nI j) v (nI z) = _
      unfold X10_digest_b171 X11_digest_b165
      refine ⟨?_, ?_⟩ <;> simp only [if_pos hv, nI_nat (n := j) (show j < 2147483648 by omega), w1, ez, if_pos (le_nI (a := z))]) y
    rw [g1, g2]
    exact ⟨_, rfl, rfl⟩) (fun v => ⟨rfl, rfl⟩) y
theorem dg_texts {σ μ : mS} (h : RR σ μ) (y : Int64) : ∃ v, lp big (un2 (X10_digest_b213 σ)) (y, 0) = some v ∧ lp big (un2 (X11_digest_b210 μ)) (y, 0) = some v :=
  lpE (b := un2 (X10_digest_b213 σ)) (b' := un2 (X11_digest_b210 μ)) (n := 4) (by omega) (fun j v hj => by
    show ∃ v', X10_digest_b213 σ v (nI j) = _ ∧ X11_digest_b210 μ v (nI j) = _
    unfold X10_digest_b213 X11_digest_b210
    obtain ⟨w1, w2, w3, w4⟩ := h.2.1 j hj
    have hv : vin (nI j) 4 = true := vinI hj (by omega)
    have l6 : ¬ (4 : Int32) ≤ nI j := lt_nI (a := j) (b := 4) (by omega) (by omega) hj
    rw [if_neg l6, if_neg l6, if_pos hv, if_pos hv, nI_nat (by omega), w1]
    generalize ((31 * v) + ((σ.1 48 j)).toInt64) = y
    by_cases ng : (σ.1 48 j).toInt < 0
    · have q : σ.1 48 j ≤ 0 := i_le.mpr (by show _ ≤ (0 : Int); omega)
      have e1 : lp big (un2 (X10_digest_b235 σ (nI j))) (y, 0) = some y := lp_r (f := 999999) (by
        show X10_digest_b235 σ (nI j) y 0 = _
        unfold X10_digest_b235
        rw [if_pos hv, nI_nat (by omega), if_pos q])
      have e2 : lp big (un2 (X11_digest_b232 μ (nI j))) (y, 0) = some y := lp_r (f := 999999) (by
        show X11_digest_b232 μ (nI j) y 0 = _
        unfold X11_digest_b232
        rw [if_pos hv, nI_nat (by omega), w1, if_pos q])
      rw [e1, e2]
      exact ⟨_, rfl, rfl⟩
    obtain ⟨z, hz, ez⟩ := i_ex (a := σ.1 48 j) (m := 61) (by omega) (by omega)
    obtain ⟨r, g1, g2⟩ := lpE (b := un2 (X10_digest_b235 σ (nI j))) (b' := un2 (X11_digest_b232 μ (nI j))) (n := z) (by omega) (fun i v hi => by
      show ∃ v', X10_digest_b235 σ (nI j) v (nI i) = _ ∧ X11_digest_b232 μ (nI j) v (nI i) = _
      unfold X10_digest_b235 X11_digest_b232
      have c1 := i_ix (c := 60) (cn := 60) (by decide) (nI_ti (n := j) (by omega)) (nI_ti (n := i) (by omega)) (by omega)
      have c2 := i_ixn (c := 60) (cn := 60) (by decide) (nI_ti (n := j) (by omega)) (nI_ti (n := i) (by omega)) (by omega)
      rw [if_pos hv, if_pos hv, nI_nat (n := j) (by omega), w1, ez, if_neg (lt_nI (by omega) (by omega) hi), if_neg (lt_nI (by omega) (by omega) hi), if_pos hv, if_pos (vinI (by omega) (by omega)), if_pos (vin_iff.mpr (by rw [c1]; omega) : vin (((60 : Int32) * nI j) + nI i) 240 = true), c2, nI_nat (n := i) (by omega), w4 i (by rw [ez, nI_ti (by omega)]; omega)]
      exact ⟨_, rfl, rfl⟩) (fun v => by
      show X10_digest_b235 σ (nI j) v (nI z) = _ ∧ X11_digest_b232 μ (nI j) v (nI z) = _
      unfold X10_digest_b235 X11_digest_b232
      refine ⟨?_, ?_⟩ <;> simp only [if_pos hv, nI_nat (n := j) (show j < 2147483648 by omega), w1, ez, if_pos (le_nI (a := z))]) y
    rw [g1, g2]
    exact ⟨_, rfl, rfl⟩) (fun v => ⟨rfl, rfl⟩) y
theorem dg_kept {σ μ : mS} {c : cT} (hG : RG σ μ c) (y : Int64) : ∃ v, lp big (un2 (X10_digest_b118 σ)) (y, 0) = some v ∧ lp big (un2 (X11_digest_b115 μ)) (y, 0) = some v :=
  lpE (b := un2 (X10_digest_b118 σ)) (b' := un2 (X11_digest_b115 μ)) (n := 3) (by omega) (fun j v hj => by
    show ∃ v', X10_digest_b118 σ v (nI j) = _ ∧ X11_digest_b115 μ v (nI j) = _
    unfold X10_digest_b118 X11_digest_b115
    have l3 : ¬ (3 : Int32) ≤ nI j := lt_nI (a := j) (b := 3) (by omega) (by omega) hj
    have hv : vin (nI j) 3 = true := vinI hj (by omega)
    rw [if_neg l3, if_neg l3, if_pos hv, if_pos hv, nI_nat (by omega), (hG.2.2.2.2.2.2.2.2 j hj).1]
    exact ⟨_, rfl, rfl⟩) (fun v => ⟨rfl, rfl⟩) y
theorem dg_players {σ μ : mS} {c : cT} (hG : RG σ μ c) (y : Int64) : ∃ v, lp big (un2 (X10_digest_b33 σ)) (y, 0) = some v ∧ lp big (un2 (X11_digest_b33 μ)) (y, 0) = some v := by
  have hP4 := hG.P4
  exact lpE (b := un2 (X10_digest_b33 σ)) (b' := un2 (X11_digest_b33 μ)) (n := c.1) (by omega) (fun j v hj => by
    show ∃ v', X10_digest_b33 σ v (nI j) = _ ∧ X11_digest_b33 μ v (nI j) = _
    unfold X10_digest_b33 X11_digest_b33
    rw [hG.pX, hG.1, if_neg (lt_nI (by omega) (by omega) hj), if_neg (lt_nI (by omega) (by omega) hj)]
    obtain ⟨r1, g1, g2⟩ := lpE (b := un2 (X10_digest_b47 σ (nI j))) (b' := un2 (X11_digest_b44 μ (nI j))) (n := 5) (by omega) (fun i v hi => by
      show ∃ v', X10_digest_b47 σ (nI j) v (nI i) = _ ∧ X11_digest_b44 μ (nI j) v (nI i) = _
      unfold X10_digest_b47 X11_digest_b44
      obtain ⟨t, t1, t2⟩ := told_eq hG hj hi
      rw [if_neg (fun q => by have := i_lt.mp q; rw [nI_ti (by omega)] at this; have : (4 : Int) < i := this; omega), if_neg (show ¬ (5 : Int32) ≤ nI i from lt_nI (a := i) (b := 5) (by omega) (by omega) hi), t1, t2]
      exact ⟨_, rfl, rfl⟩) (fun v => ⟨rfl, rfl⟩) v
    obtain ⟨r2, g3, g4⟩ := lpE (b := un2 (X10_digest_b77 σ (nI j))) (b' := un2 (X11_digest_b74 μ (nI j))) (n := 6) (by omega) (fun i v hi => by
      show ∃ v', X10_digest_b77 σ (nI j) v (nI i) = _ ∧ X11_digest_b74 μ (nI j) v (nI i) = _
      unfold X10_digest_b77 X11_digest_b74
      have l6 : ¬ (6 : Int32) ≤ nI i := lt_nI (a := i) (b := 6) (by omega) (by omega) hi
      have c1 := i_ix (c := 6) (cn := 6) (by decide) (nI_ti (n := j) (by omega)) (nI_ti (n := i) (by omega)) (by omega)
      have c2 := i_ixn (c := 6) (cn := 6) (by decide) (nI_ti (n := j) (by omega)) (nI_ti (n := i) (by omega)) (by omega)
      rw [if_neg l6, if_neg l6, if_pos (vinI (by omega) (by omega)), if_pos (vinI hi (by omega)), if_pos (vin_iff.mpr (by rw [c1]; omega) : vin (((6 : Int32) * nI j) + nI i) 24 = true), c2, nI_nat (n := i) (by omega), nI_nat (n := j) (by omega), ((hG.2.2.2.1.2.2 j hj).2.2 i hi).1, ← hG.2.2.1]
      exact ⟨_, rfl, rfl⟩) (fun v => ⟨rfl, rfl⟩) r1
    rw [g1, g2, Option.bind_some, Option.bind_some, un1_app, un1_app, g3, g4]
    exact ⟨_, rfl, rfl⟩) (fun v => by
    show X10_digest_b33 σ v (nI c.1) = _ ∧ X11_digest_b33 μ v (nI c.1) = _
    unfold X10_digest_b33 X11_digest_b33
    rw [hG.pX, hG.1, if_pos le_nI, if_pos le_nI]
    exact ⟨rfl, rfl⟩) y
theorem sim_digest {σ μ : mS} (h : RR σ μ) : ∃ v, X10_digest σ = some v ∧ X11_digest μ = some v := by
  obtain ⟨c, hG⟩ := h.2.2.1
  unfold X10_digest X11_digest
  obtain ⟨r1, a1, b1⟩ := lpE (b := un2 (X10_digest_b6 σ)) (b' := un2 (X11_digest_b6 μ)) (n := 12) (by omega) (fun i v hi => by
    show ∃ v', X10_digest_b6 σ v (nI i) = _ ∧ X11_digest_b6 μ v (nI i) = _
    unfold X10_digest_b6 X11_digest_b6
    obtain ⟨t, t1, t2⟩ := count_E h hi
    rw [if_neg (fun q => by have := i_lt.mp q; rw [nI_ti (by omega)] at this; have : (11 : Int) < i := this; omega), if_neg (show ¬ (12 : Int32) ≤ nI i from lt_nI (a := i) (b := 12) (by omega) (by omega) hi), t1, t2]
    exact ⟨_, rfl, rfl⟩) (fun v => ⟨rfl, rfl⟩) 17
  obtain ⟨r2, a2, b2⟩ := dg_players hG r1
  obtain ⟨r3, a3, b3⟩ := dg_kept hG r2
  obtain ⟨r4, a4, b4⟩ := dg_rows h r3
  obtain ⟨r5, a5, b5⟩ := dg_texts h r4
  refine ⟨r5, ?_, ?_⟩
  · rw [a1, Option.bind_some, un1_app, a2, Option.bind_some, un1_app, a3, Option.bind_some, un1_app, a4, Option.bind_some, un1_app, a5, Option.bind_some, un1_app]
  · rw [b1, Option.bind_some, un1_app, b2, Option.bind_some, un1_app, b3, Option.bind_some, un1_app, b4, Option.bind_some, un1_app, b5, Option.bind_some, un1_app]

/-! kinds -/
theorem nI_p (n k : Nat) (h : n + k < 2147483648) : nI n + nI k = nI (n + k) := i_nI (i32_add (nI_ti (by omega)) (nI_ti (by omega)) h)
def prOK (σ : mS) (r j : Nat) : Prop := (∃ n, 1 ≤ n ∧ n ≤ 12 ∧ σ.1 (16 + r) (2 * j) = nI n) ∧ 0 ≤ (σ.1 (16 + r) (2 * j + 1)).toInt ∧ (σ.1 (16 + r) (2 * j + 1)).toInt ≤ 6
theorem wrM {μ : mS} {r x : Nat} (hr : r < 6) (hx : x < 40) {sz : Int32} (hs : μ.1 1 r = sz) : X11_wrongOf_b38 μ (nI r) (nI x) = if sz ≤ nI x then some (.inr (.inl ())) else if X11_in ((μ.1 2 (40 * r + x)).toInt64) (if x % 2 = 0 then 1 else 0) (if x % 2 = 0 then 12 else 6) = 0 then some (.inr (.inr 3)) else some (.inl (nI x + 1)) := by
  unfold X11_wrongOf_b38
  have c1 := i_ix (c := 40) (cn := 40) (by decide) (nI_ti (n := r) (by omega)) (nI_ti (n := x) (by omega)) (by omega)
  have c2 := i_ixn (c := 40) (cn := 40) (by decide) (nI_ti (n := r) (by omega)) (nI_ti (n := x) (by omega)) (by omega)
  have e2 : nI x - nI x / 2 * 2 = nI (x % 2) := i_rem (nI_ti (by omega)) (by decide) (by omega)
  rw [if_pos (vinI hr (by omega)), nI_nat (n := r) (by omega), hs, if_pos (vin_iff.mpr (by rw [c1]; omega) : vin (((40 : Int32) * nI r) + nI x) 240 = true), un1_app, un1_app, c2, e2]
  by_cases q : x % 2 = 0
  · rw [q]
    rfl
  · rw [show x % 2 = 1 by omega]
    rfl
theorem pr_both {σ μ : mS} (h : RR σ μ) {r z : Nat} (hr : r < 6) (hz : z ≤ 8) (hs : σ.1 24 r = nI (2 * z)) : ∀ d k f f', k + d = z → d < f → 2 * d < f' → (lp f (un1 (X10_refusedPairs_b53 (nI r) σ)) (nI (2 * k)) = some (.inl ()) ∧ lp f' (un1 (X11_wrongOf_b38 μ (nI r))) (nI (2 * k)) = some (.inl ()) ∧ ∀ j, k ≤ j → j < z → prOK σ r j) ∨ (lp f (un1 (X10_refusedPairs_b53 (nI r) σ)) (nI (2 * k)) = some (.inr (-3, fndX σ 3)) ∧ lp f' (un1 (X11_wrongOf_b38 μ (nI r))) (nI (2 * k)) = some (.inr 3)) := by
  obtain ⟨w1, w2, w3, w4⟩ := h.1 r hr
  have hsM : μ.1 1 r = nI (2 * z) := by rw [w1, hs]
  have hsi : (σ.1 24 r).toInt = ((2 * z : Nat) : Int) := by rw [hs, nI_ti (by omega)]
  have hv : vin (nI r) 6 = true := vinI hr (by omega)
  have p1 : ∀ k : Nat, k ≤ 8 → nI (2 * k) + 1 = nI (2 * k + 1) := fun k hk => nI_s _ (by omega)
  have p2 : ∀ k : Nat, k ≤ 8 → nI (2 * k) + 2 = nI (2 * (k + 1)) := fun k hk => nI_p (2 * k) 2 (by omega)
  intro d
  induction d with
  | zero =>
    intro k f f' hk hf hf'
    obtain ⟨f, rfl⟩ : ∃ g, f = g + 1 := ⟨f - 1, by omega⟩
    obtain ⟨f', rfl⟩ : ∃ g, f' = g + 1 := ⟨f' - 1, by omega⟩
    have ek : k = z := by omega
    subst ek
    left
    refine ⟨lp_r ?_, lp_r ?_, fun j h1 h2 => absurd h1 (by omega)⟩
    · show X10_refusedPairs_b53 (nI r) σ (nI (2 * k)) = _
      unfold X10_refusedPairs_b53
      rw [nI_nat (by omega), hs, p1 k (by omega), if_pos (ile (by rw [nI_ti (by omega), nI_ti (by omega)]; omega))]
    · show X11_wrongOf_b38 μ (nI r) (nI (2 * k)) = _
      rw [wrM hr (by omega) hsM, if_pos le_nI]
  | succ d ih =>
    intro k f f' hk hf hf'
    obtain ⟨f, rfl⟩ : ∃ g, f = g + 1 := ⟨f - 1, by omega⟩
    obtain ⟨f', rfl⟩ : ∃ g, f' = g + 1 := ⟨f' - 1, by omega⟩
    obtain ⟨f', rfl⟩ : ∃ g, f' = g + 1 := ⟨f' - 1, by omega⟩
    have m0 : X11_wrongOf_b38 μ (nI r) (nI (2 * k)) = if X11_in ((σ.1 (16 + r) (2 * k)).toInt64) 1 12 = 0 then some (.inr (.inr 3)) else some (.inl (nI (2 * k + 1))) := by
      rw [wrM hr (by omega) hsM, if_neg (lt_nI (a := 2 * k) (b := 2 * z) (by omega) (by omega) (by omega)), if_pos (show 2 * k % 2 = 0 by omega), if_pos (show 2 * k % 2 = 0 by omega), w4 (2 * k) (by omega), p1 k (by omega)]
    have m1 : X11_wrongOf_b38 μ (nI r) (nI (2 * k + 1)) = if X11_in ((σ.1 (16 + r) (2 * k + 1)).toInt64) 0 6 = 0 then some (.inr (.inr 3)) else some (.inl (nI (2 * (k + 1)))) := by
      rw [wrM hr (by omega) hsM, if_neg (lt_nI (a := 2 * k + 1) (b := 2 * z) (by omega) (by omega) (by omega)), if_neg (show ¬ (2 * k + 1) % 2 = 0 by omega), if_neg (show ¬ (2 * k + 1) % 2 = 0 by omega), w4 (2 * k + 1) (by omega), nI_s _ (by omega), show 2 * k + 1 + 1 = 2 * (k + 1) by omega]
    have x0 : X10_refusedPairs_b53 (nI r) σ (nI (2 * k)) = if X10_isNumber (σ.1 (16 + r) (2 * k)) = 0 then some (.inr (.inr (-3, fndX σ 3))) else if σ.1 (16 + r) (2 * k + 1) < 0 then some (.inr (.inr (-3, fndX σ 3))) else if σ.1 (16 + r) (2 * k + 1) ≤ 6 then some (.inl (nI (2 * (k + 1)))) else some (.inr (.inr (-3, fndX σ 3))) := by
      unfold X10_refusedPairs_b53
      rw [nI_nat (n := r) (by omega), hs, p1 k (by omega), if_neg (lt_nI (by omega) (by omega) (by omega)), if_pos hv, if_pos (vinI (by omega) (by omega)), if_pos hv, if_pos (vinI (by omega) (by omega)), nI_nat (n := 2 * k) (by omega), nI_nat (n := 2 * k + 1) (by omega), p2 k (by omega), f3X, bd_some]
    by_cases b0 : (σ.1 (16 + r) (2 * k)).toInt < 1 ∨ 12 < (σ.1 (16 + r) (2 * k)).toInt
    · right
      rw [if_pos (isNumber_zero.mpr b0)] at x0
      rw [if_pos (in_zero.mpr b0)] at m0
      exact ⟨lp_r x0, lp_r m0⟩
    rw [if_neg (fun q => b0 (isNumber_zero.mp q))] at x0
    rw [if_neg (fun q => b0 (in_zero.mp q))] at m0
    have M1 : lp (f' + 1 + 1) (un1 (X11_wrongOf_b38 μ (nI r))) (nI (2 * k)) = lp (f' + 1) (un1 (X11_wrongOf_b38 μ (nI r))) (nI (2 * k + 1)) := lp_l m0
    rw [M1]
    by_cases b1 : (σ.1 (16 + r) (2 * k + 1)).toInt < 0 ∨ 6 < (σ.1 (16 + r) (2 * k + 1)).toInt
    · right
      rw [if_pos (in_zero.mpr b1)] at m1
      refine ⟨lp_r ?_, lp_r m1⟩
      show X10_refusedPairs_b53 (nI r) σ (nI (2 * k)) = _
      rw [x0]
      by_cases b2 : (σ.1 (16 + r) (2 * k + 1)).toInt < 0
      · rw [if_pos (i_lt.mpr b2)]
      · rw [if_neg (fun q => b2 (i_lt.mp q)), if_neg (nle (by show (6 : Int) < _; omega))]
    rw [if_neg (fun q => b1 (in_zero.mp q))] at m1
    rw [if_neg (fun q => b1 (Or.inl (i_lt.mp q))), if_pos (ile (by show _ ≤ (6 : Int); omega))] at x0
    have X1 : lp (f + 1) (un1 (X10_refusedPairs_b53 (nI r) σ)) (nI (2 * k)) = lp f (un1 (X10_refusedPairs_b53 (nI r) σ)) (nI (2 * (k + 1))) := lp_l x0
    have M2 : lp (f' + 1) (un1 (X11_wrongOf_b38 μ (nI r))) (nI (2 * k + 1)) = lp f' (un1 (X11_wrongOf_b38 μ (nI r))) (nI (2 * (k + 1))) := lp_l m1
    rw [X1, M2]
    rcases ih (k + 1) f f' (by omega) (by omega) (by omega) with ⟨g1, g2, g3⟩ | g
    · left
      refine ⟨g1, g2, fun j hj1 hj2 => ?_⟩
      by_cases e : j = k
      · subst e
        obtain ⟨n, hn, en⟩ := i_ex (a := σ.1 (16 + r) (2 * j)) (m := 13) (by omega) (by omega)
        have : (σ.1 (16 + r) (2 * j)).toInt = (n : Int) := by rw [en, nI_ti (by omega)]
        exact ⟨⟨n, by omega, by omega, en⟩, by omega, by omega⟩
      · exact g3 j (by omega) hj2
    · exact Or.inr g
/-- the pairs of a row: both refuse, or both take them -/
theorem pairs_both {σ μ : mS} {c : cT} (h : RR σ μ) (hG : RG σ μ c) {i r : Nat} (hi : i < c.1) (hr : r < 6) : (∃ z, z ≤ 8 ∧ σ.1 24 r = nI (2 * z) ∧ (∀ j, j < z → prOK σ r j) ∧ X10_refusedPairs σ (nI i) (nI r) = some (0, σ) ∧ X11_wrongOf μ (nI r) = some 0) ∨ (∃ f, 1 ≤ f ∧ f < 6 ∧ X10_refusedPairs σ (nI i) (nI r) = some (-3, fndX σ f) ∧ X11_wrongOf μ (nI r) = some (nI f)) := by
  obtain ⟨w1, w2, w3, w4⟩ := h.1 r hr
  have hP4 := hG.P4
  have hv : vin (nI r) 6 = true := vinI hr (by omega)
  have pl : ¬ X10_isPlayer σ (nI i) = 0 := fun q => by
    have := hG.plX.mp q
    rw [nI_ti (by omega)] at this
    omega
  unfold X10_refusedPairs X11_wrongOf
  rw [if_neg pl, if_pos hv, if_pos hv, if_pos hv, nI_nat (by omega), w1]
  by_cases ng : (σ.1 24 r).toInt < 0
  · right
    rw [refRow_no hr ng, bd_some, if_neg (by decide), if_neg (nle ng)]
    exact ⟨1, by omega, by omega, rfl, rfl⟩
  rw [refRow_ok hr (by omega), bd_some, if_pos rfl, if_pos hv, if_pos (ge0 (by omega))]
  obtain ⟨s, hs, es⟩ := i_ex (a := σ.1 24 r) (m := 41) (by omega) (by omega)
  rw [es]
  have e2 : nI s - nI s / 2 * 2 = nI (s % 2) := i_rem (nI_ti (by omega)) (by decide) (by omega)
  rw [e2, f5X, bd_some]
  by_cases b : 16 < s
  · right
    rw [if_pos (i_lt.mpr (by rw [nI_ti (by omega)]; show (16 : Int) < s; omega) : (16 : Int32) < nI s), if_neg (nle (by rw [nI_ti (by omega)]; show (16 : Int) < s; omega) : ¬ nI s ≤ 16)]
    exact ⟨5, by omega, by omega, by split <;> rfl, rfl⟩
  rw [if_neg (show ¬ (16 : Int32) < nI s from fun q => by have := i_lt.mp q; rw [nI_ti (by omega)] at this; have : (16 : Int) < s := this; omega), if_pos (ile (by rw [nI_ti (by omega)]; show (s : Int) ≤ 16; omega) : nI s ≤ 16)]
  by_cases od : s % 2 = 1
  · right
    rw [od]
    exact ⟨5, by omega, by omega, rfl, rfl⟩
  rw [show s % 2 = 0 by omega, if_pos (show nI 0 = 0 from rfl), if_neg (show ¬ nI 0 = 1 by decide)]
  obtain ⟨z, rfl⟩ : ∃ z, s = 2 * z := ⟨s / 2, by omega⟩
  rcases pr_both h hr (z := z) (by omega) es z 0 big big (by omega) (by show z < 1000000; omega) (by show 2 * z < 1000000; omega) with ⟨g1, g2, g3⟩ | ⟨g1, g2⟩
  · left
    have g1' : lp big (un1 (X10_refusedPairs_b53 (nI r) σ)) 0 = some (.inl ()) := g1
    have g2' : lp big (un1 (X11_wrongOf_b38 μ (nI r))) 0 = some (.inl ()) := g2
    rw [g1', g2']
    exact ⟨z, by omega, rfl, fun j hj => g3 j (by omega) hj, rfl, rfl⟩
  · right
    have g1' : lp big (un1 (X10_refusedPairs_b53 (nI r) σ)) 0 = some (.inr (-3, fndX σ 3)) := g1
    have g2' : lp big (un1 (X11_wrongOf_b38 μ (nI r))) 0 = some (.inr 3) := g2
    rw [g1', g2']
    exact ⟨3, by omega, by omega, rfl, rfl⟩

/-! kinds, the pairs held against each kind -/
def FK (m0 m : mS) : Prop := (∀ q, q ≠ 10 → m.1 q = m0.1 q) ∧ (∀ q, q < 1312 → m.1 10 q = m0.1 10 q) ∧ m.2 = m0.2
theorem fit_both {σ μ m0 : mS} {c : cT} (hG : RG σ μ c) {i r κ z : Nat} (hi : i < c.1) (hr : r < 6) (hκ : κ < 6) (hz : z ≤ 8) (hs : σ.1 24 r = nI (2 * z)) (hok : ∀ j, j < z → prOK σ r j) (r0 : m0.1 0 5 = nI c.1) (r1 : m0.1 1 r = nI (2 * z)) (r2 : ∀ j, j < 2 * z → m0.1 2 (40 * r + j) = σ.1 (16 + r) j) (r7 : m0.1 7 = c.2.2) (r6 : m0.1 6 i = nI κ) : ∀ d k f f' m H, k + d = z → d + 1 < f → d + 1 < f' → FK m0 m → getH (m.1 10) 1312 = H → HV H → ∃ (v : Bool) (m' : mS), lp f (un5 (X10_fitsPairs_b41 σ (nI κ) (nI i) (nI r))) (H i, H 5, H 7, H 6, nI (2 * k)) = some (if v = true then .inl () else .inr 0) ∧ lp f' (un3 (X11_kindsBy_b44 (nI i) (nI r))) (m, 1, nI (2 * k)) = some (m', if v = true then 1 else 0) ∧ FK m0 m' := by
  have hP4 := hG.P4
  have hv : vin (nI r) 6 = true := vinI hr (by omega)
  intro d
  induction d with
  | zero =>
    intro k f f' m H hk hf hf' hF hH hV
    obtain ⟨f, rfl⟩ : ∃ g, f = g + 1 := ⟨f - 1, by omega⟩
    obtain ⟨f', rfl⟩ : ∃ g, f' = g + 1 := ⟨f' - 1, by omega⟩
    have ek : k = z := by omega
    subst ek
    refine ⟨true, m, lp_r ?_, lp_r ?_, hF⟩
    · show X10_fitsPairs_b41 σ (nI κ) (nI i) (nI r) (H i) (H 5) (H 7) (H 6) (nI (2 * k)) = _
      unfold X10_fitsPairs_b41
      rw [if_pos hv, nI_nat (by omega), hs, nI_s _ (by omega), if_pos (ile (by rw [nI_ti (by omega), nI_ti (by omega)]; omega))]
      rfl
    · show X11_kindsBy_b44 (nI i) (nI r) m 1 (nI (2 * k)) = _
      unfold X11_kindsBy_b44
      rw [if_pos hv, nI_nat (by omega), hF.1 1 (by decide), r1, if_pos le_nI]
      rfl
  | succ d ih =>
    intro k f f' m H hk hf hf' hF hH hV
    obtain ⟨f, rfl⟩ : ∃ g, f = g + 1 := ⟨f - 1, by omega⟩
    obtain ⟨f', rfl⟩ : ∃ g, f' = g + 1 := ⟨f' - 1, by omega⟩
    obtain ⟨⟨n, n1, n2, en⟩, -, -⟩ := hok k (by omega)
    have p1 : nI (2 * k) + 1 = nI (2 * k + 1) := nI_s _ (by omega)
    have p2 : nI (2 * k) + 2 = nI (2 * (k + 1)) := nI_p (2 * k) 2 (by omega)
    have c1 := i_ix (c := 40) (cn := 40) (by decide) (nI_ti (n := r) (by omega)) (nI_ti (n := 2 * k) (by omega)) (by omega)
    have c2 := i_ixn (c := 40) (cn := 40) (by decide) (nI_ti (n := r) (by omega)) (nI_ti (n := 2 * k) (by omega)) (by omega)
    have c0 : ((40 : Int32) * nI r) + nI (2 * k) = nI (40 * r + 2 * k) := i_nI c1
    have c3 : nI (40 * r + 2 * k) + 1 = nI (40 * r + 2 * k + 1) := nI_s _ (by omega)
    have it : m.1 2 (40 * r + 2 * k) = nI n := by rw [hF.1 2 (by decide), r2 _ (by omega), en]
    have it2 : m.1 2 (40 * r + 2 * k + 1) = σ.1 (16 + r) (2 * k + 1) := by rw [hF.1 2 (by decide), Nat.add_assoc, r2 _ (by omega)]
    have h5 : m.1 10 1317 = H 5 := by
      have := congrFun hH 5
      rw [getH_lt (by omega)] at this
      exact this
    have P5 : (m.1 0 5).toInt = (c.1 : Int) := by rw [hF.1 0 (by decide), r0, nI_ti (by omega)]
    have hcal := calls_eq m (a1 := 1312) (num := nI n) (b := 1312) (P := c.1) (by decide) (by decide) P5 hP4
    rw [hH] at hcal
    generalize hcc : cfM m c.1 = cc at hcal
    have cc1 : cc.1 = c.1 := by rw [← hcc]; rfl
    have cc2 : cc.2.1 i = nI κ := by rw [← hcc]; show m.1 6 i = _; rw [hF.1 6 (by decide), r6]
    have cc3 : cc.2.2 = c.2.2 := by rw [← hcc]; show m.1 7 = _; rw [hF.1 7 (by decide), r7]
    generalize hm2 : mrow m 10 (putH (m.1 10) 1312 (ringH cc H (nI n))) = m2 at hcal
    have m2r : ∀ q, q ≠ 10 → m2.1 q = m.1 q := fun q hq => by rw [← hm2, mrow_ne hq]
    have m2g : getH (m2.1 10) 1312 = ringH cc H (nI n) := by rw [← hm2, mrow_at]; exact getH_put (ringH_8 (by omega) (fun q hq => by rw [← hH]; exact getH_8 q hq))
    have F2 : FK m0 m2 := ⟨fun q hq => by rw [m2r q hq]; exact hF.1 q hq, fun q hq => by
      rw [← hm2, mrow_at]
      unfold putH
      rw [if_neg (by omega)]
      exact hF.2.1 q hq, by rw [← hm2]; exact hF.2.2⟩
    have V2 : HV (ringH cc H (nI n)) := hV.ring (by omega) _
    have R_i : ringH cc H (nI n) i = H i ||| mbT c.2.2 i (X11_heard (nI κ) (nI n) (H 7) (H 6)) := by
      unfold ringH nmk
      rw [if_pos (by omega), cc2, cc3]
    have R_5 : ringH cc H (nI n) 5 = H 5 &&& (((1 : Int32) <<< (nI n &&& 31)) ^^^ (-1)) := by unfold ringH; rw [if_neg (by omega), if_neg (by decide), if_pos rfl]
    have R_6 : ringH cc H (nI n) 6 = H 6 + 1 := by unfold ringH; rw [if_neg (by omega), if_neg (by decide), if_neg (by decide), if_pos rfl]
    have R_7 : ringH cc H (nI n) 7 = nI n := by unfold ringH; rw [if_neg (by omega), if_neg (by decide), if_neg (by decide), if_neg (by decide), if_pos rfl]
    obtain ⟨mi, hmi, emi⟩ := V2.1 i (by omega)
    have oi : m2.1 10 (1312 + i) = ringH cc H (nI n) i := by
      have := congrFun m2g i
      rw [getH_lt (by omega)] at this
      exact this
    have ii : ((1312 : Int32) + nI i) = nI (1312 + i) := nI_p 1312 i (by omega)
    have X0 : X10_fitsPairs_b41 σ (nI κ) (nI i) (nI r) (H i) (H 5) (H 7) (H 6) (nI (2 * k)) = if bt (H 5) n = true then (if bitsT (ringH cc H (nI n) i) = σ.1 (16 + r) (2 * k + 1) then some (.inl (ringH cc H (nI n) i, ringH cc H (nI n) 5, ringH cc H (nI n) 7, ringH cc H (nI n) 6, nI (2 * (k + 1)))) else some (.inr (.inr 0))) else some (.inr (.inr 0)) := by
      unfold X10_fitsPairs_b41
      simp only [if_pos hv, nI_nat (n := r) (show r < 2147483648 by omega), hs, p1, if_neg (lt_nI (a := 2 * k + 1) (b := 2 * z) (by omega) (by omega) (by omega)), if_pos (vinI (r := 2 * k) (n := 40) (by omega) (by omega)), nI_nat (n := 2 * k) (show 2 * k < 2147483648 by omega), en, bit_eq (H 5) (n := n) (by omega), if_pos (vinI (r := κ) (n := 6) (by omega) (by omega)), nI_nat (n := κ) (show κ < 2147483648 by omega), heard_eq hκ (n := n) (by omega), marked_eq σ hG.2.2.2.1 (nI_ti (n := i) (by omega)) hi, Option.bind_some, if_pos (vinI (r := 2 * k + 1) (n := 40) (by omega) (by omega)), nI_nat (n := 2 * k + 1) (show 2 * k + 1 < 2147483648 by omega), ← R_i, ← R_5, ← R_6, R_7, p2]
      rw [emi, bc64 mi hmi]
      by_cases b : bt (H 5) n = true
      · rw [if_pos b, if_pos b, if_neg (by decide)]
      · rw [if_neg b, if_neg b, if_pos rfl]
    have M0 : X11_kindsBy_b44 (nI i) (nI r) m 1 (nI (2 * k)) = if bt (H 5) n = true then (if bitsT (ringH cc H (nI n) i) = σ.1 (16 + r) (2 * k + 1) then some (.inl (m2, 1, nI (2 * (k + 1)))) else some (.inl (m2, 0, nI (2 * (k + 1))))) else some (.inl (m, 0, nI (2 * (k + 1)))) := by
      unfold X11_kindsBy_b44
      simp only [if_pos hv, nI_nat (n := r) (show r < 2147483648 by omega), hF.1 1 (by decide), r1, if_neg (lt_nI (a := 2 * k) (b := 2 * z) (by omega) (by omega) (by omega)), if_neg (show ¬ (1 : Int32) = 0 by decide), c3, c0, if_pos (vinI (r := 40 * r + 2 * k) (n := 240) (by omega) (by omega)), if_pos (show vin 1317 1360 = true by decide), show (1317 : Int32).toNatClampNeg = 1317 by decide, nI_nat (n := 40 * r + 2 * k) (show 40 * r + 2 * k < 2147483648 by omega), it, h5, has_eq (H 5) (n := n) (by omega), hcal, bd_some, ii, if_pos (vinI (r := 1312 + i) (n := 1360) (by omega) (by omega)), nI_nat (n := 1312 + i) (show 1312 + i < 2147483648 by omega), bits_eq, Option.bind_some, oi, if_pos (vinI (r := 40 * r + 2 * k + 1) (n := 240) (by omega) (by omega)), nI_nat (n := 40 * r + 2 * k + 1) (show 40 * r + 2 * k + 1 < 2147483648 by omega), m2r 2 (by decide), it2, p2]
      by_cases b : bt (H 5) n = true
      · rw [if_pos b, if_pos b, if_neg (by decide)]
      · rw [if_neg b, if_neg b, if_pos rfl]
    have stop : ∀ m' : mS, FK m0 m' → lp f' (un3 (X11_kindsBy_b44 (nI i) (nI r))) (m', 0, nI (2 * (k + 1))) = some (m', 0) := by
      intro m' hF'
      obtain ⟨f', rfl⟩ : ∃ g, f' = g + 1 := ⟨f' - 1, by omega⟩
      refine lp_r ?_
      show X11_kindsBy_b44 (nI i) (nI r) m' 0 (nI (2 * (k + 1))) = _
      unfold X11_kindsBy_b44
      rw [if_pos hv]
      by_cases q : m'.1 1 (nI r).toNatClampNeg ≤ nI (2 * (k + 1))
      · rw [if_pos q]
      · rw [if_neg q, if_pos rfl]
    by_cases b : bt (H 5) n = true
    · rw [if_pos b] at X0 M0
      by_cases e : bitsT (ringH cc H (nI n) i) = σ.1 (16 + r) (2 * k + 1)
      · rw [if_pos e] at X0 M0
        obtain ⟨v, m', g1, g2, g3⟩ := ih (k + 1) f f' m2 (ringH cc H (nI n)) (by omega) (by omega) (by omega) F2 m2g V2
        exact ⟨v, m', (lp_l X0).trans g1, (lp_l M0).trans g2, g3⟩
      · rw [if_neg e] at X0 M0
        exact ⟨false, m2, lp_r X0, (lp_l M0).trans (stop m2 F2), F2⟩
    · rw [if_neg b] at X0 M0
      exact ⟨false, m, lp_r X0, (lp_l M0).trans (stop m hF), hF⟩
/-- between the kinds: the reference's memory but for player i's kind and the tried hall -/
def FI (i : Nat) (μ m : mS) : Prop := (∀ q, q ≠ 6 → q ≠ 10 → m.1 q = μ.1 q) ∧ (∀ j, j ≠ i → m.1 6 j = μ.1 6 j) ∧ (∀ q, q < 1312 → m.1 10 q = μ.1 10 q) ∧ m.2 = μ.2
theorem kinds_both {σ μ : mS} {c : cT} (h : RR σ μ) (hG : RG σ μ c) {i r z : Nat} (hi : i < c.1) (hr : r < 6) (hz : z ≤ 8) (hs : σ.1 24 r = nI (2 * z)) (hok : ∀ j, j < z → prOK σ r j) : ∃ v ν, X10_fittingKinds σ (nI i) (nI r) = some v ∧ X11_kindsBy μ (nI i) (nI r) = some (v, ν) ∧ FrM μ ν := by
  have hP4 := hG.P4
  obtain ⟨w1, w2, w3, w4⟩ := h.1 r hr
  have vi : vin (nI i) 4 = true := vinI (by omega) (by omega)
  have ni : (nI i).toNatClampNeg = i := nI_nat (by omega)
  unfold X10_fittingKinds X11_kindsBy
  obtain ⟨v1, q2, l1, l2, m, rfl, hm⟩ := lpR (b := un2 (X10_fittingKinds_b5 σ (nI i) (nI r))) (b' := un3 (X11_kindsBy_b13 (nI i) (nI r)))
    (I := fun d q q' => ∃ κ v s, κ + d = 6 ∧ q = (v, nI κ) ∧ q' = (s, v, nI κ) ∧ FI i μ s) (Q := fun r1 r2 => ∃ s, r2 = (s, r1) ∧ FI i μ s) (fun d q q' hI => by
    obtain ⟨κ, v, s, hd, rfl, rfl, f1, f2, f3, f4⟩ := hI
    show (∃ t1 t1' n', n' < d ∧ X10_fittingKinds_b5 σ (nI i) (nI r) v (nI κ) = _ ∧ X11_kindsBy_b13 (nI i) (nI r) s v (nI κ) = _ ∧ _) ∨ (∃ r1 r2, X10_fittingKinds_b5 σ (nI i) (nI r) v (nI κ) = _ ∧ X11_kindsBy_b13 (nI i) (nI r) s v (nI κ) = _ ∧ _)
    unfold X10_fittingKinds_b5 X11_kindsBy_b13
    by_cases he : κ = 6
    · subst he
      right
      exact ⟨_, _, rfl, rfl, s, rfl, f1, f2, f3, f4⟩
    have l6 : ¬ (6 : Int32) ≤ nI κ := lt_nI (a := κ) (b := 6) (by omega) (by omega) (by omega)
    rw [if_neg l6, if_neg l6, if_pos vi, ni]
    have e0 := copies_eq (mwI s 6 i (nI κ)) (a1 := 0) (a2 := 1312) (a3 := 8) (s := 0) (t := 1312) (n := 8) (by decide) (by decide) (by decide) (by decide) (by decide) (Or.inl (by decide))
    generalize hm0 : mrow (mwI s 6 i (nI κ)) 10 (cpF ((mwI s 6 i (nI κ)).1 10) 0 1312 8) = m0 at e0
    have s10 : (mwI s 6 i (nI κ)).1 10 = s.1 10 := mwI_rk (by decide)
    have m0r : ∀ q, q ≠ 6 → q ≠ 10 → m0.1 q = μ.1 q := fun q q6 q10 => by rw [← hm0, mrow_ne q10, mwI_rk q6]; exact f1 q q6 q10
    have m06 : m0.1 6 = upd (s.1 6) i (nI κ) := by rw [← hm0, mrow_ne (by decide), mwI_row, mrow_at]
    have m010 : m0.1 10 = cpF (s.1 10) 0 1312 8 := by rw [← hm0, mrow_at, s10]
    have g0 : getH (m0.1 10) 1312 = HX σ 5 := by
      rw [m010, getH_cp_in (by omega), hG.2.2.2.2.2.1]
      funext q
      unfold getH
      by_cases hq : q < 8
      · rw [if_pos hq, if_pos hq]
        exact f3 _ (by omega)
      · rw [if_neg hq, if_neg hq]
    have low : ∀ q, q < 1312 → m0.1 10 q = μ.1 10 q := fun q hq => by
      have := congrFun (getH_cp_out (f := s.1 10) (s := 0) (t := 1312) (n := 8) (b := if q < 1304 then q else 1304) (by split <;> omega)) (if q < 1304 then 0 else q - 1304)
      rw [m010]
      by_cases x : q < 1304
      · rw [if_pos x, if_pos x, getH_lt (by omega), getH_lt (by omega), Nat.add_zero] at this
        rw [this]
        exact f3 q hq
      · rw [if_neg x, if_neg x, getH_lt (by omega), getH_lt (by omega), show 1304 + (q - 1304) = q by omega] at this
        rw [this]
        exact f3 q hq
    rw [e0, bd_some]
    obtain ⟨b, m', g1, g2, g3, g4, g5⟩ := fit_both hG (m0 := m0) hi hr (κ := κ) (by omega) hz hs hok (by rw [m0r 0 (by decide) (by decide)]; exact hG.1) (by rw [m0r 1 (by decide) (by decide), w1, hs]) (fun j hj => by rw [m0r 2 (by decide) (by decide)]; exact w4 j (by rw [hs, nI_ti (by omega)]; omega)) (by rw [m0r 7 (by decide) (by decide)]; exact hG.2.2.1.symm) (by rw [m06, upd_at]) z 0 big big m0 (HX σ 5) (by omega) (by show z + 1 < 1000000; omega) (by show z + 1 < 1000000; omega) ⟨fun _ _ => rfl, fun _ _ => rfl, rfl⟩ g0 hG.hv
    have x5 : X10_fitsPairs σ (nI κ) (nI i) (nI r) = some (if b = true then 1 else 0) := by
      unfold X10_fitsPairs
      have g1' : lp big (un5 (X10_fitsPairs_b41 σ (nI κ) (nI i) (nI r))) ((σ.1 (152 + 5) i), (σ.1 (144 + 5) 3), (σ.1 (144 + 5) 4), (σ.1 (144 + 5) 5), 0) = some (if b = true then .inl () else .inr 0) := by
        rw [← g1]
        show _ = lp big _ ((if i < 4 then σ.1 (152 + 5) i else if i = 4 then σ.1 (144 + 5) 2 else if i = 5 then σ.1 (144 + 5) 3 else if i = 6 then σ.1 (144 + 5) 5 else if i = 7 then σ.1 (144 + 5) 4 else 0), _, _, _, _)
        rw [if_pos (by omega)]
        rfl
      rw [if_pos vi, ni, g1', Option.bind_some]
      cases b <;> rfl
    have g2' : lp big (un3 (X11_kindsBy_b44 (nI i) (nI r))) (m0, 1, 0) = some (m', if b = true then 1 else 0) := g2
    rw [x5, g2', Option.bind_some, Option.bind_some]
    have FI' : FI i μ m' := by
      refine ⟨fun q q6 q10 => by rw [g3 q q10]; exact m0r q q6 q10, fun j hj => by rw [g3 6 (by decide), m06, upd_ne hj]; exact f2 j hj, fun q hq => by rw [g4 q hq]; exact low q hq, ?_⟩
      rw [g5, ← hm0]
      exact f4
    left
    have sk := nI_s κ (by omega)
    cases b with
    | true => exact ⟨_, _, d - 1, by omega, rfl, rfl, κ + 1, _, m', by omega, by rw [sk], by rw [sk], FI'⟩
    | false => exact ⟨_, _, d - 1, by omega, rfl, rfl, κ + 1, v, m', by omega, by rw [sk], by rw [sk, or_zero], FI'⟩) big 6 (0, 0) (μ, 0, 0) ⟨0, 0, μ, rfl, rfl, rfl, fun _ _ _ => rfl, fun _ _ => rfl, fun _ _ => rfl, rfl⟩ (by show 6 < 1000000; omega)
  rw [l1, l2, Option.bind_some, Option.bind_some, if_pos vi, un1_app, ni]
  refine ⟨v1, mwI m 6 i (μ.1 6 i), rfl, ?_, fun q a1 a2 a3 a4 => ?_, fun q hq => ?_, ?_⟩
  · show (if vin (nI i) 4 = true then some (v1, mwI m 6 i (μ.1 6 i)) else none) = _
    rw [if_pos vi]
  · by_cases e : q = 6
    · subst e
      rw [mwI_row, mrow_at]
      funext j
      by_cases ej : j = i
      · subst ej
        rw [upd_at]
      · rw [upd_ne ej]
        exact hm.2.1 j ej
    · rw [mwI_rk e]
      exact hm.1 q e a1
  · rw [mwI_rk (by decide)]
    exact hm.2.2.1 q hq
  · exact hm.2.2.2
theorem sim_kinds {σ μ : mS} (h : RR σ μ) (a1 a2 : Int32) : SIM (X10_kinds σ a1 a2) (X11_kinds μ a1 a2) := by
  obtain ⟨c, hG⟩ := h.2.2.1
  have hP4 := hG.P4
  unfold X10_kinds X11_kinds
  by_cases hb : a1.toInt < 0 ∨ (c.1 : Int) ≤ a1.toInt
  · unfold X10_refusedPairs
    rw [if_pos (hG.plX.mpr hb), if_pos (hG.plM.mpr hb), bd_some, if_neg (by decide)]
    exact SIM.ret h rfl
  obtain ⟨i, hi, hi4, rfl⟩ := plEx hG hb
  by_cases hb2 : a2.toInt < 0 ∨ 6 ≤ a2.toInt
  · unfold X10_refusedPairs
    rw [if_neg (fun q => hb (hG.plX.mp q)), if_neg (fun q => hb (hG.plM.mp q)), refRow_bad hb2, bd_some, if_neg (by decide), bd_some, if_neg (by decide), if_pos (isRowM_zero.mpr hb2)]
    exact SIM.ret h rfl
  obtain ⟨r, hr, rfl⟩ := rowEx hb2
  rw [if_neg (fun q => hb (hG.plM.mp q)), if_neg (rowY hr).2]
  rcases pairs_both h hG hi hr with ⟨z, hz, hs, hok, x1, x2⟩ | ⟨f, f1, f2, x1, x2⟩
  · rw [x1, x2, bd_some, if_pos rfl, Option.bind_some, if_pos (by decide)]
    obtain ⟨v, ν, y1, y2, y3⟩ := kinds_both h hG hi hr hz hs hok
    rw [y1, y2, Option.bind_some, bd_some]
    exact SIM.ret (h.tri FrX.rf y3) rfl
  · rw [x1, x2, bd_some, if_neg (by decide), Option.bind_some, if_neg (show ¬ nI f ≤ 0 from lt_nI (a := 0) (b := f) (by omega) (by omega) (by omega)), finds_eq μ f2, bd_some]
    exact SIM.ret (h.fnd f2) rfl

/-! next -/
def mxN (g : Nat → Nat) : Nat → Nat
  | 0 => 0
  | m + 1 => max (mxN g m) (g m)
theorem mxN_cong {g h : Nat → Nat} : ∀ m, (∀ v, v < m → g v = h v) → mxN g m = mxN h m
  | 0, _ => rfl
  | m + 1, e => by
    show max (mxN g m) (g m) = max (mxN h m) (h m)
    rw [mxN_cong m (fun v hv => e v (by omega)), e m (by omega)]
theorem mxN_le {g : Nat → Nat} {k : Nat} (h : ∀ v, g v ≤ k) : ∀ m, mxN g m ≤ k
  | 0 => Nat.zero_le _
  | m + 1 => by
    have := mxN_le h m
    have := h m
    show max (mxN g m) (g m) ≤ k
    omega
theorem mxN_upd {g h : Nat → Nat} {a : Nat} (h1 : ∀ v, v ≠ a → g v = h v) (h2 : g a = h a + 1) : ∀ m, a < m → mxN g m = max (mxN h m) (h a + 1)
  | 0, q => absurd q (Nat.not_lt_zero _)
  | m + 1, q => by
    show max (mxN g m) (g m) = max (max (mxN h m) (h m)) (h a + 1)
    by_cases e : a = m
    · subst e
      rw [mxN_cong a (fun v hv => h1 v (by omega)), h2]
      omega
    · rw [mxN_upd h1 h2 m (by omega), h1 m (fun x => e x.symm)]
      omega
theorem jmax_n {a b : Nat} (ha : a < 1000) (hb : b < 1000) : jmax (nI a) (nI b) = nI (max a b) := by
  unfold jmax
  by_cases q : a < b
  · rw [if_pos (i_lt.mpr (by rw [nI_ti (by omega), nI_ti (by omega)]; omega)), show max a b = b by omega]
  · rw [if_neg (fun x => by have := i_lt.mp x; rw [nI_ti (by omega), nI_ti (by omega)] at this; omega), show max a b = a by omega]
theorem larger_n {a b : Nat} (ha : a < 1000) (hb : b < 1000) : X11_larger (nI a) (nI b) = nI (max a b) := by
  unfold X11_larger
  by_cases q : b ≤ a
  · rw [if_pos (ile (by rw [nI_ti (by omega), nI_ti (by omega)]; omega)), show max a b = a by omega]
  · rw [if_neg (lt_nI (by omega) (by omega) (by omega)), show max a b = b by omega]
theorem bits7 : ∀ m, m < 64 → bitsT (nI m) = nI ((bitsT (nI m)).toNatClampNeg) ∧ (bitsT (nI m)).toNatClampNeg < 7 := by decide +kernel
theorem and63 : ∀ m, m < 64 → nI m &&& 63 = nI m := by decide +kernel
def cnF (a : Int32) (val : Nat → Nat) (v κ : Nat) : Nat := if bt a κ = true then (if val κ = v then 1 else 0) else 0
theorem cnF_le (a : Int32) (val : Nat → Nat) (v κ : Nat) : cnF a val v κ ≤ 1 := by unfold cnF; split <;> (try split) <;> omega
/-- what a mark would be by kind κ -/
def vK (c : cT) (H : hT) (i n κ : Nat) : Int32 := H i ||| mbT c.2.2 i (X11_heard (nI κ) (nI n) (H 7) (H 6))
def vN (c : cT) (H : hT) (i n κ : Nat) : Nat := (bitsT (vK c H i n κ)).toNatClampNeg
theorem vK_ok {c : cT} {H : hT} (hV : HV H) (hP : c.1 ≤ 4) {i n κ : Nat} (hi : i < c.1) : (∃ m, m < 64 ∧ vK c H i n κ = nI m) ∧ bitsT (vK c H i n κ) = nI (vN c H i n κ) ∧ vN c H i n κ < 7 := by
  obtain ⟨m, hm, e⟩ := (hV.ring (c := (c.1, (fun _ => nI κ), c.2.2)) hP (nI n)).1 i (by omega)
  have e2 : vK c H i n κ = nI m := by
    rw [← e]
    unfold ringH nmk vK
    rw [if_pos hi]
  refine ⟨⟨m, hm, e2⟩, ?_⟩
  unfold vN
  rw [e2]
  exact bits7 m hm
theorem part_M {σ μ : mS} {c : cT} (hG : RG σ μ c) {i n : Nat} (hi : i < c.1) (hn : n < 31) (a : Int32) : X11_part μ (nI i) a (nI n) = some (nI (mxN (fun v => sN (cnF a (vN c (HX σ 5) i n) v) 6) 7)) := by
  have hP4 := hG.P4
  have vi : vin (nI i) 1360 = true := vinI (by omega) (by omega)
  have hH : ∀ q, q < 8 → μ.1 10 q = HX σ 5 q := fun q hq => by rw [hG.2.2.2.2.2.1, getH_lt hq, Nat.zero_add]
  have inner : ∀ v, v < 7 → lp big (un2 (X11_part_b19 μ (nI i) a (nI n) (nI v))) (0, 0) = some (nI (sN (cnF a (vN c (HX σ 5) i n) v) 6)) := fun v hv =>
    lp_zero (b := un2 (X11_part_b19 μ (nI i) a (nI n) (nI v))) (n := 6) (res := nI (sN (cnF a (vN c (HX σ 5) i n) v) 6)) (fun κ x => (nI (sN (cnF a (vN c (HX σ 5) i n) v) κ), x)) (by decide) (fun κ x hκ hx => by
      have xe := i_nI hx
      subst xe
      show X11_part_b19 μ (nI i) a (nI n) (nI v) (nI (sN (cnF a (vN c (HX σ 5) i n) v) κ)) (nI κ) = some (.inl (nI (sN (cnF a (vN c (HX σ 5) i n) v) κ + cnF a (vN c (HX σ 5) i n) v κ), nI κ + 1))
      have le := sN_le (cnF_le a (vN c (HX σ 5) i n) v) κ
      generalize sN (cnF a (vN c (HX σ 5) i n) v) κ = S at le
      unfold X11_part_b19 cnF
      obtain ⟨-, b1, b2⟩ := vK_ok (n := n) (κ := κ) hG.hv hP4 hi
      unfold vK at b1
      rw [if_neg (show ¬ (6 : Int32) ≤ nI κ from lt_nI (a := κ) (b := 6) (by omega) (by omega) hκ), if_pos vi, if_pos (by decide), if_pos (by decide), marksBy_eq μ (nI_ti (n := i) (by omega)) (by omega), Option.bind_some, nI_nat (n := i) (by omega), bits_eq, Option.bind_some, show (7 : Int32).toNatClampNeg = 7 by decide, show (6 : Int32).toNatClampNeg = 6 by decide, hH 7 (by omega), hH 6 (by omega), hH i (by omega), ← hG.2.2.1, b1, has_eq a (by omega)]
      by_cases q : bt a κ = true
      · rw [if_pos q, if_pos q, if_neg (by decide)]
        by_cases q2 : vN c (HX σ 5) i n κ = v
        · rw [if_pos q2, if_pos (by rw [q2]), nI_s S (by omega)]
        · rw [if_neg q2, if_neg (fun x => q2 ((eqL (by omega) (by omega)).mp x)), Int32.add_zero]
          rfl
      · rw [if_neg q, if_neg q, if_pos rfl, Int32.add_zero]
        rfl) (fun x hx => by
      show X11_part_b19 μ (nI i) a (nI n) (nI v) _ x = _
      unfold X11_part_b19
      rw [if_pos (ile (by rw [hx]; decide))])
  unfold X11_part
  have h := lp_zero (b := un2 (X11_part_b6 μ (nI i) a (nI n))) (n := 7) (res := nI (mxN (fun v => sN (cnF a (vN c (HX σ 5) i n) v) 6) 7)) (fun v x => (nI (mxN (fun v => sN (cnF a (vN c (HX σ 5) i n) v) 6) v), x)) (by decide) (fun v x hv hx => by
    have xe := i_nI hx
    subst xe
    show X11_part_b6 μ (nI i) a (nI n) (nI (mxN (fun v => sN (cnF a (vN c (HX σ 5) i n) v) 6) v)) (nI v) = some (.inl (nI (max (mxN (fun v => sN (cnF a (vN c (HX σ 5) i n) v) 6) v) (sN (cnF a (vN c (HX σ 5) i n) v) 6)), nI v + 1))
    have l1 := mxN_le (g := fun v => sN (cnF a (vN c (HX σ 5) i n) v) 6) (k := 6) (fun v => sN_le (cnF_le _ _ _) 6) v
    have l2 := sN_le (cnF_le a (vN c (HX σ 5) i n) v) 6
    unfold X11_part_b6
    rw [if_neg (show ¬ (7 : Int32) ≤ nI v from lt_nI (a := v) (b := 7) (by omega) (by omega) hv), inner v hv, Option.bind_some, un1_app, larger_n (by omega) (by omega)]) (fun x hx => by
    show X11_part_b6 μ (nI i) a (nI n) _ x = _
    unfold X11_part_b6
    rw [if_pos (ile (by rw [hx]; decide))])
  have h' : lp big (un2 (X11_part_b6 μ (nI i) a (nI n))) (0, 0) = _ := h
  rw [h', Option.bind_some, un1_app]
theorem FrX.row200 {σ τ : mS} (h : FrX σ τ) (f : Nat → Int32) : FrX σ (mrow τ 200 f) := ⟨fun q a1 a2 a3 a4 a5 => by rw [mrow_ne a4]; exact h.1 q a1 a2 a3 a4 a5, fun q hq => by rw [mrow_ne (by decide)]; exact h.2.1 q hq, h.2.2⟩
theorem part_X {σ μ s : mS} {c : cT} (hG : RG σ μ c) (hF : FrX σ s) {i n : Nat} (hi : i < c.1) (hn : n < 31) (a : Int32) : ∃ s', X10_greatestPart s a (nI i) (nI n) = some (nI (mxN (fun v => sN (cnF a (vN c (HX σ 5) i n) v) 6) 7), s') ∧ FrX σ s' := by
  have hP4 := hG.P4
  unfold X10_greatestPart
  rw [fillI_eq s 200 7 0 (by decide), bd_some]
  obtain ⟨q1, -, l1, -, s', rfl, hF'⟩ := lpR (b := un3 (X10_greatestPart_b14 a (nI i) (nI n))) (b' := un3 (X10_greatestPart_b14 a (nI i) (nI n)))
    (I := fun d q q' => q' = q ∧ ∃ κ s x, κ + d = 6 ∧ q = (s, nI (mxN (fun v => sN (cnF a (vN c (HX σ 5) i n) v) κ) 7), x) ∧ x = nI κ ∧ FrX σ s ∧ ∀ v, v < 7 → s.1 200 v = nI (sN (cnF a (vN c (HX σ 5) i n) v) κ))
    (Q := fun r _ => ∃ s, r = (s, nI (mxN (fun v => sN (cnF a (vN c (HX σ 5) i n) v) 6) 7)) ∧ FrX σ s) (fun d q q' hI => by
    obtain ⟨rfl, κ, s, x, hd, rfl, rfl, hF, hrow⟩ := hI
    show (∃ t1 t1' n', n' < d ∧ X10_greatestPart_b14 a (nI i) (nI n) s _ (nI κ) = _ ∧ X10_greatestPart_b14 a (nI i) (nI n) s _ (nI κ) = _ ∧ _) ∨ (∃ r1 r2, X10_greatestPart_b14 a (nI i) (nI n) s _ (nI κ) = _ ∧ X10_greatestPart_b14 a (nI i) (nI n) s _ (nI κ) = _ ∧ _)
    unfold X10_greatestPart_b14
    by_cases he : κ = 6
    · subst he
      right
      exact ⟨_, _, rfl, rfl, s, rfl, hF⟩
    left
    have sk := nI_s κ (by omega)
    have hGs : RG s μ c := hG.tri hF FrM.rf
    have hXs : HX s 5 = HX σ 5 := by rw [hGs.2.2.2.2.2.1, hG.2.2.2.2.2.1]
    rw [if_neg (show ¬ (6 : Int32) ≤ nI κ from lt_nI (a := κ) (b := 6) (by omega) (by omega) (by omega)), bit_eq a (by omega)]
    by_cases q : bt a κ = true
    · rw [if_pos q, if_pos rfl]
      obtain ⟨⟨m, hm, e⟩, b1, b2⟩ := vK_ok (n := n) (κ := κ) hG.hv hP4 hi
      have mb : X10_marksBy s (nI κ) (nI i) (nI n) = some (vK c (HX σ 5) i n κ) := by
        rw [marksByX hGs hi (by omega) hn]
        unfold vK
        have h7 : μ.1 10 7 = HX σ 5 7 := by rw [hG.2.2.2.2.2.1, getH_lt (by omega)]
        have h6 : μ.1 10 6 = HX σ 5 6 := by rw [hG.2.2.2.2.2.1, getH_lt (by omega)]
        have h_i : s.1 (152 + 5) i = HX σ 5 i := by rw [← hXs]; unfold HX; rw [if_pos (by omega)]
        rw [h7, h6, h_i, ← hG.2.2.1]
      have bc : J6_bitCount_0f7a4 (vK c (HX σ 5) i n κ &&& 63) = nI (vN c (HX σ 5) i n κ) := by rw [e, and63 m hm, bc64 m hm, ← e, b1]
      rw [mb, Option.bind_some, bc]
      generalize hv0 : vN c (HX σ 5) i n κ = v0 at b2 bc b1
      have v7 : vin (nI v0) 7 = true := vinI b2 (by omega)
      have l2 := sN_le (cnF_le a (vN c (HX σ 5) i n) v0) κ
      have l3 := mxN_le (g := fun v => sN (cnF a (vN c (HX σ 5) i n) v) κ) (k := κ) (fun v => sN_le (cnF_le _ _ _) κ) 7
      rw [if_pos v7, if_pos v7, if_pos v7, nI_nat (by omega), mwI_rd, hrow v0 b2, nI_s _ (by omega), jmax_n (by omega) (by omega)]
      have up : ∀ v, sN (cnF a (vN c (HX σ 5) i n) v) (κ + 1) = if v = v0 then sN (cnF a (vN c (HX σ 5) i n) v) κ + 1 else sN (cnF a (vN c (HX σ 5) i n) v) κ := by
        intro v
        show sN (cnF a (vN c (HX σ 5) i n) v) κ + cnF a (vN c (HX σ 5) i n) v κ = _
        unfold cnF
        rw [if_pos q, hv0]
        by_cases ev : v = v0
        · rw [if_pos ev, if_pos ev.symm]
        · rw [if_neg ev, if_neg (fun x => ev x.symm), Nat.add_zero]
      have mx := mxN_upd (g := fun v => sN (cnF a (vN c (HX σ 5) i n) v) (κ + 1)) (h := fun v => sN (cnF a (vN c (HX σ 5) i n) v) κ) (a := v0) (fun v hv => by show sN _ (κ + 1) = _; rw [up v, if_neg hv]) (by show sN _ (κ + 1) = _; rw [up v0, if_pos rfl]) 7 b2
      rw [← mx]
      refine ⟨_, _, d - 1, by omega, rfl, rfl, rfl, κ + 1, _, _, by omega, rfl, sk, ?_, fun v hv => ?_⟩
      · rw [mwI_row]
        exact hF.row200 _
      · rw [mwI_row, mrow_at, up v]
        by_cases ev : v = v0
        · subst ev
          rw [upd_at, if_pos rfl]
        · rw [upd_ne ev, if_neg ev]
          exact hrow v hv
    · rw [if_neg q, if_neg (by decide)]
      have up : ∀ v, sN (cnF a (vN c (HX σ 5) i n) v) (κ + 1) = sN (cnF a (vN c (HX σ 5) i n) v) κ := by
        intro v
        show sN (cnF a (vN c (HX σ 5) i n) v) κ + cnF a (vN c (HX σ 5) i n) v κ = _
        unfold cnF
        rw [if_neg q]
        rfl
      refine ⟨_, _, d - 1, by omega, rfl, rfl, rfl, κ + 1, s, _, by omega, ?_, sk, hF, fun v hv => by rw [up v]; exact hrow v hv⟩
      rw [mxN_cong 7 (fun v _ => (up v).symm)]) big 6 (mrow s 200 (seg 0 7 0 (s.1 200)), 0, 0) (mrow s 200 (seg 0 7 0 (s.1 200)), 0, 0) ⟨rfl, 0, _, 0, rfl, by rw [show mxN (fun v => sN (cnF a (vN c (HX σ 5) i n) v) 0) 7 = 0 from rfl]; rfl, rfl, hF.row200 _, fun v hv => by rw [mrow_at]; unfold seg; rw [if_pos (by omega)]; rfl⟩ (by show 6 < 1000000; omega)
  rw [l1, Option.bind_some]
  exact ⟨s', rfl, hF'⟩

theorem mwI_self {σ : mS} {k p : Nat} : mwI σ k p (σ.1 k p) = σ := by rw [mwI_row, upd_self rfl, mrow_id]
theorem next_both {σ μ ν : mS} {c : cT} (h : RR σ μ) (hG : RG σ μ c) (hM : FrM μ ν) {i : Nat} (hi : i < c.1) (a : Int32) : SIM (if a = 0 then some ((-9), σ) else if (σ.1 (144 + 5) 3) = 0 then some ((-9), σ) else (lp big (un4 (X10_next_b49 (nI i) a)) (σ, 7, 0, 1)).bind (un3 (fun s16 y17 y18 => some (y18, mwI s16 0 13 y17)))) ((lp big (un3 (X11_next_b53 (nI i) a ν)) ((-9), 9, 1)).bind (un2 (fun y17 y18 => if 0 ≤ y17 then some (y17, mwI ν 0 14 y18) else some (y17, mwI ν 0 14 (ν.1 0 14))))) := by
  have hR : RR σ ν := h.tri FrX.rf hM
  have hG' : RG σ ν c := hG.tri FrX.rf hM
  have hP4 := hG.P4
  have fin : ∀ A, lp big (un3 (X11_next_b53 (nI i) a ν)) ((-9), 9, 1) = some ((-9), 9) → A = some ((-9), σ) → SIM A ((lp big (un3 (X11_next_b53 (nI i) a ν)) ((-9), 9, 1)).bind (un2 (fun y17 y18 => if 0 ≤ y17 then some (y17, mwI ν 0 14 y18) else some (y17, mwI ν 0 14 (ν.1 0 14))))) := fun A e1 e2 => by
    rw [e1, e2, Option.bind_some]
    show SIM _ (if (0 : Int32) ≤ -9 then some (-9, mwI ν 0 14 9) else some (-9, mwI ν 0 14 (ν.1 0 14)))
    rw [if_neg (by decide), mwI_self]
    exact SIM.ret hR rfl
  by_cases a0 : a = 0
  · refine fin _ (lp_r (f := 999999) ?_) (by rw [if_pos a0])
    show X11_next_b53 (nI i) a ν (-9) 9 1 = _
    unfold X11_next_b53
    rw [if_neg (by decide), if_pos a0]
  rw [if_neg a0]
  have bagM : ν.1 10 5 = σ.1 (144 + 5) 3 := hG'.bag
  have mstep : ∀ n, 1 ≤ n → n < 13 → ∀ y14 y15, X11_next_b53 (nI i) a ν y14 y15 (nI n) = if bt (σ.1 (144 + 5) 3) n = true then some (.inl ((if y15 ≤ nI (mxN (fun v => sN (cnF a (vN c (HX σ 5) i n) v) 6) 7) then y14 else nI n), X11_lesser (nI (mxN (fun v => sN (cnF a (vN c (HX σ 5) i n) v) 6) 7)) y15, nI n + 1)) else some (.inl ((if y15 ≤ 9 then y14 else nI n), X11_lesser 9 y15, nI n + 1)) := by
    intro n n1 n2 y14 y15
    unfold X11_next_b53
    rw [if_neg (show ¬ (13 : Int32) ≤ nI n from lt_nI (a := n) (b := 13) (by omega) (by omega) n2), if_neg a0, if_pos (by decide), show (5 : Int32).toNatClampNeg = 5 by decide, bagM, has_eq _ (by omega), part_M hG' hi (by omega) a]
    by_cases q : bt (σ.1 (144 + 5) 3) n = true
    · rw [if_pos q, if_pos q, if_neg (by decide), Option.bind_some, Option.bind_some]
      rfl
    · rw [if_neg q, if_neg q, if_pos rfl, Option.bind_some]
      rfl
  by_cases b0 : σ.1 (144 + 5) 3 = 0
  · have nob : ∀ n, bt (σ.1 (144 + 5) 3) n = false := fun n => by rw [b0]; exact b_0 n
    refine fin _ ?_ (by rw [if_pos b0])
    exact lp_from (b := un3 (X11_next_b53 (nI i) a ν)) (n := 13) (res := ((-9), 9)) (fun j x => ((-9), 9, x)) 1 1 (by decide) (by decide) (by decide) (fun j x hj hx => by
      have xe := i_nI hx
      subst xe
      show X11_next_b53 (nI i) a ν (-9) 9 (nI j) = _
      by_cases j0 : j = 0
      · subst j0
        unfold X11_next_b53
        rw [if_neg (by decide), if_neg a0, if_pos (by decide), show (5 : Int32).toNatClampNeg = 5 by decide, bagM, has_eq _ (by omega), nob 0]
        rfl
      · rw [mstep j (by omega) hj, nob j]
        rfl) (fun x hx => by
      show X11_next_b53 (nI i) a ν (-9) 9 x = _
      unfold X11_next_b53
      rw [if_pos (ile (by rw [hx]; decide))])
  rw [if_neg b0]
  obtain ⟨nb, hnb, eb⟩ := hG.hv.2.2
  have eb' : σ.1 (144 + 5) 3 = nI (2 * nb) := eb
  obtain ⟨z, hz, ez⟩ := bag_has nb hnb (fun q => b0 (by rw [eb', q]; rfl))
  rw [← eb'] at ez
  obtain ⟨q1, q2, l1, l2, s, g, n0, rfl, rfl, hF, hn0⟩ := lpR (b := un4 (X10_next_b49 (nI i) a)) (b' := un3 (X11_next_b53 (nI i) a ν))
    (I := fun d q q' => ∃ n s x13 x14 y14 y15, n + d = 13 ∧ 1 ≤ n ∧ q = (s, x13, x14, nI n) ∧ q' = (y14, y15, nI n) ∧ FrX σ s ∧ ((x13 = 7 ∧ x14 = 0 ∧ y14 = -9 ∧ y15 = 9 ∧ ∀ n', 1 ≤ n' → n' < n → bt (σ.1 (144 + 5) 3) n' = false) ∨ (∃ g n0, g ≤ 6 ∧ n0 ≤ 12 ∧ x13 = nI g ∧ y15 = nI g ∧ x14 = nI n0 ∧ y14 = nI n0)))
    (Q := fun r r' => ∃ s g n0, r = (s, nI g, nI n0) ∧ r' = (nI n0, nI g) ∧ FrX σ s ∧ n0 ≤ 12) (fun d q q' hI => by
    obtain ⟨n, s, x13, x14, y14, y15, hd, n1, rfl, rfl, hF, hI⟩ := hI
    show (∃ t1 t1' n', n' < d ∧ X10_next_b49 (nI i) a s x13 x14 (nI n) = _ ∧ X11_next_b53 (nI i) a ν y14 y15 (nI n) = _ ∧ _) ∨ (∃ r1 r2, X10_next_b49 (nI i) a s x13 x14 (nI n) = _ ∧ X11_next_b53 (nI i) a ν y14 y15 (nI n) = _ ∧ _)
    by_cases he : n = 13
    · subst he
      right
      rcases hI with ⟨-, -, -, -, hno⟩ | ⟨g, n0, hg, hn0, rfl, rfl, rfl, rfl⟩
      · have := hno (z + 1) (by omega) (by omega)
        rw [ez] at this
        exact absurd this (by decide)
      · exact ⟨_, _, rfl, rfl, s, g, n0, rfl, rfl, hF, hn0⟩
    left
    have sk := nI_s n (by omega)
    have sbag : s.1 (144 + 5) 3 = σ.1 (144 + 5) 3 := by rw [hF.1 (144 + 5) (by omega) (by omega) (by omega) (by omega) (by omega)]
    rw [mstep n n1 (by omega)]
    unfold X10_next_b49
    rw [if_neg (show ¬ (12 : Int32) < nI n from fun q => by have := i_lt.mp q; rw [nI_ti (by omega)] at this; have : (12 : Int) < n := this; omega), holds_eq (by omega), sbag]
    by_cases q : bt (σ.1 (144 + 5) 3) n = true
    · obtain ⟨s', e1, hF'⟩ := part_X hG hF hi (n := n) (by omega) a
      rw [if_pos q, if_pos q, if_neg (by decide), e1, bd_some]
      have gl := mxN_le (g := fun v => sN (cnF a (vN c (HX σ 5) i n) v) 6) (k := 6) (fun v => sN_le (cnF_le _ _ _) 6) 7
      generalize mxN (fun v => sN (cnF a (vN c (HX σ 5) i n) v) 6) 7 = G at gl e1
      rcases hI with ⟨rfl, rfl, rfl, rfl, hno⟩ | ⟨g, n0, hg, hn0, rfl, rfl, rfl, rfl⟩
      · have t1 : ¬ (7 : Int32) ≤ nI G := lt_nI (a := G) (b := 7) (by omega) (by omega) (by omega)
        have t2 : ¬ (9 : Int32) ≤ nI G := lt_nI (a := G) (b := 9) (by omega) (by omega) (by omega)
        have t3 : X11_lesser (nI G) 9 = nI G := by unfold X11_lesser; rw [if_neg t2]
        rw [if_neg t1, if_neg t2, t3, sk]
        exact ⟨_, _, d - 1, by omega, rfl, rfl, n + 1, s', _, _, _, _, by omega, by omega, rfl, rfl, hF', Or.inr ⟨G, n, gl, by omega, rfl, rfl, rfl, rfl⟩⟩
      · by_cases le : g ≤ G
        · have t1 : nI g ≤ nI G := ile (by rw [nI_ti (by omega), nI_ti (by omega)]; omega)
          have t3 : X11_lesser (nI G) (nI g) = nI g := by unfold X11_lesser; rw [if_pos t1]
          rw [if_pos t1, if_pos t1, t3, sk]
          exact ⟨_, _, d - 1, by omega, rfl, rfl, n + 1, s', _, _, _, _, by omega, by omega, rfl, rfl, hF', Or.inr ⟨g, n0, hg, hn0, rfl, rfl, rfl, rfl⟩⟩
        · have t1 : ¬ nI g ≤ nI G := lt_nI (by omega) (by omega) (by omega)
          have t3 : X11_lesser (nI G) (nI g) = nI G := by unfold X11_lesser; rw [if_neg t1]
          rw [if_neg t1, if_neg t1, t3, sk]
          exact ⟨_, _, d - 1, by omega, rfl, rfl, n + 1, s', _, _, _, _, by omega, by omega, rfl, rfl, hF', Or.inr ⟨G, n, gl, by omega, rfl, rfl, rfl, rfl⟩⟩
    · rw [if_neg q, if_neg q, if_pos rfl, sk]
      rcases hI with ⟨rfl, rfl, rfl, rfl, hno⟩ | ⟨g, n0, hg, hn0, rfl, rfl, rfl, rfl⟩
      · refine ⟨_, _, d - 1, by omega, rfl, rfl, n + 1, s, _, _, _, _, by omega, by omega, rfl, rfl, hF, Or.inl ⟨rfl, rfl, rfl, rfl, fun n' h1 h2 => ?_⟩⟩
        by_cases e : n' = n
        · subst e
          exact Bool.eq_false_iff.mpr q
        · exact hno n' h1 (by omega)
      · have t1 : nI g ≤ 9 := ile (by rw [nI_ti (by omega)]; show (g : Int) ≤ 9; omega)
        have t3 : X11_lesser 9 (nI g) = nI g := by unfold X11_lesser; rw [if_pos t1]
        rw [if_pos t1, t3]
        exact ⟨_, _, d - 1, by omega, rfl, rfl, n + 1, s, _, _, _, _, by omega, by omega, rfl, rfl, hF, Or.inr ⟨g, n0, hg, hn0, rfl, rfl, rfl, rfl⟩⟩) big 12 (σ, 7, 0, 1) ((-9), 9, 1) ⟨1, σ, 7, 0, -9, 9, rfl, by omega, rfl, rfl, FrX.rf, Or.inl ⟨rfl, rfl, rfl, rfl, fun n' h1 h2 => absurd h1 (by omega)⟩⟩ (by show 12 < 1000000; omega)
  rw [l1, l2, Option.bind_some, Option.bind_some]
  show SIM (some (nI n0, mwI s 0 13 (nI g))) (if 0 ≤ nI n0 then some (nI n0, mwI ν 0 14 (nI g)) else some (nI n0, mwI ν 0 14 (ν.1 0 14)))
  rw [if_pos (ge0 (by rw [nI_ti (by omega)]; omega))]
  exact SIM.ret ((h.tri hF hM).asked _) rfl
theorem sim_next {σ μ : mS} (h : RR σ μ) (a1 a2 : Int32) : SIM (X10_next σ a1 a2) (X11_next μ a1 a2) := by
  obtain ⟨c, hG⟩ := h.2.2.1
  have hP4 := hG.P4
  unfold X10_next X11_next
  by_cases hb : a1.toInt < 0 ∨ (c.1 : Int) ≤ a1.toInt
  · unfold X10_refusedPairs
    rw [if_pos (hG.plX.mpr hb), if_pos (hG.plM.mpr hb), bd_some, if_neg (by decide)]
    exact SIM.ret h rfl
  obtain ⟨i, hi, hi4, rfl⟩ := plEx hG hb
  by_cases hb2 : a2.toInt < 0 ∨ 6 ≤ a2.toInt
  · unfold X10_refusedPairs
    rw [if_neg (fun q => hb (hG.plX.mp q)), if_neg (fun q => hb (hG.plM.mp q)), refRow_bad hb2, bd_some, if_neg (by decide), bd_some, if_neg (by decide), if_pos (isRowM_zero.mpr hb2)]
    exact SIM.ret h rfl
  obtain ⟨r, hr, rfl⟩ := rowEx hb2
  rw [if_neg (fun q => hb (hG.plM.mp q)), if_neg (rowY hr).2]
  rcases pairs_both h hG hi hr with ⟨z, hz, hs, hok, x1, x2⟩ | ⟨f, f1, f2, x1, x2⟩
  · rw [x1, x2, bd_some, if_pos rfl, Option.bind_some, if_pos (by decide)]
    obtain ⟨v, ν, y1, y2, y3⟩ := kinds_both h hG hi hr hz hs hok
    rw [y1, y2, Option.bind_some, bd_some]
    exact next_both h hG y3 hi v
  · rw [x1, x2, bd_some, if_neg (by decide), Option.bind_some, if_neg (show ¬ nI f ≤ 0 from lt_nI (a := 0) (b := f) (by omega) (by omega) (by omega)), finds_eq μ f2, bd_some]
    exact SIM.ret (h.fnd f2) rfl

