/-! odds, mid -/
def qL (n : Nat) : Int64 := (nI n).toInt64
theorem qL_ti {n : Nat} (h : n < 2147483648) : (qL n).toInt = (n : Int) := by unfold qL; rw [l_of_i, nI_ti h]
theorem qL_of {x : Int64} {n : Nat} (h : x.toInt = (n : Int)) (hn : n < 2147483648) : x = qL n := l_eq.mpr (by rw [h, qL_ti hn])
theorem qL_add {a b : Nat} (h : a + b < 2147483648) : qL a + qL b = qL (a + b) := qL_of (by unfold qL; rw [l_add, nI_ti (by omega), nI_ti (by omega)]; omega) h
theorem qL_mul {a b : Nat} (ha : a < 100000) (hb : b < 20) : qL a * qL b = qL (a * b) := by
  have hm : a * b ≤ 100000 * 20 := Nat.mul_le_mul (by omega) (by omega)
  refine qL_of ?_ (by omega)
  rw [Int64.toInt_mul, qL_ti (by omega), qL_ti (by omega), ← Int.natCast_mul]
  exact Int.bmod_eq_of_le (by omega) (by omega)
theorem qL_rem {a b : Nat} (ha : a < 2147483648) (hb : b < 2147483648) : qL a - qL a / qL b * qL b = qL (a % b) := by
  have le : a / b * b ≤ a := Nat.div_mul_le_self a b
  have ld : a / b ≤ a := Nat.div_le_self a b
  have e1 : (qL a / qL b).toInt = ((a / b : Nat) : Int) := by
    rw [Int64.toInt_div, qL_ti ha, qL_ti hb, show Int.tdiv (a : Int) (b : Int) = ((a / b : Nat) : Int) from rfl]
    generalize a / b = q at ld
    exact Int.bmod_eq_of_le (by omega) (by omega)
  have e2 : (qL a / qL b * qL b).toInt = ((a / b * b : Nat) : Int) := by
    rw [Int64.toInt_mul, e1, qL_ti hb, ← Int.natCast_mul]
    generalize a / b * b = q at le
    exact Int.bmod_eq_of_le (by omega) (by omega)
  have e3 : a - a / b * b = a % b := by
    have := Nat.div_add_mod a b
    rw [Nat.mul_comm] at this
    omega
  have lm : a % b ≤ a := Nat.mod_le a b
  refine qL_of ?_ (by omega)
  rw [Int64.toInt_sub, qL_ti ha, e2, ← e3]
  generalize a / b * b = q at le
  rw [Int.bmod_eq_of_le (by omega) (by omega)]
  omega
theorem qL_z {b : Nat} (hb : b < 2147483648) : qL b = 0 ↔ b = 0 := by
  rw [l_eq, qL_ti hb]
  show (b : Int) = 0 ↔ _
  omega
theorem gcd_both : ∀ k a b t fX fM, a < 2147483648 → b < 2 ^ k → b < 2147483648 → t + 2 * k + 1 ≤ 100 → 2 * k + 1 < fX → 2 * k + 1 < fM → ∃ g, g < 2147483648 ∧ lp fX (un3 X10_commonDivisor_b9) (qL a, qL b, nI t) = some (qL g) ∧ lp fM (un2 X11_fraction_b6) (qL a, qL b) = some (qL g) ∧ (0 < b → 0 < g) ∧ (b = 0 → g = a) := by
  have sX0 : ∀ a t, t < 100 → X10_commonDivisor_b9 (qL a) (qL 0) (nI t) = some (.inr (qL a)) := fun a t ht => by
    unfold X10_commonDivisor_b9
    rw [if_neg (show ¬ (100 : Int32) ≤ nI t from lt_nI (a := t) (b := 100) (by omega) (by omega) ht), if_pos ((qL_z (by omega)).mpr rfl)]
  have sM0 : ∀ a, X11_fraction_b6 (qL a) (qL 0) = some (.inr (qL a)) := fun a => by
    unfold X11_fraction_b6
    rw [if_pos ((qL_z (by omega)).mpr rfl)]
  have sX : ∀ a b t, a < 2147483648 → b < 2147483648 → 0 < b → t < 100 → X10_commonDivisor_b9 (qL a) (qL b) (nI t) = some (.inl (qL b, qL (a % b), nI (t + 1))) := fun a b t ha hb h0 ht => by
    have nz : ¬ qL b = 0 := fun q => by have := (qL_z hb).mp q; omega
    unfold X10_commonDivisor_b9
    rw [if_neg (show ¬ (100 : Int32) ≤ nI t from lt_nI (a := t) (b := 100) (by omega) (by omega) ht), if_neg nz, if_pos nz, qL_rem ha hb, nI_s t (by omega)]
  have sM : ∀ a b, a < 2147483648 → b < 2147483648 → 0 < b → X11_fraction_b6 (qL a) (qL b) = some (.inl (qL b, qL (a % b))) := fun a b ha hb h0 => by
    have nz : ¬ qL b = 0 := fun q => by have := (qL_z hb).mp q; omega
    unfold X11_fraction_b6
    rw [if_neg nz, if_pos nz, qL_rem ha hb]
  intro k
  induction k with
  | zero =>
    intro a b t fX fM ha hb hb2 ht hX hM
    have b0 : b = 0 := by
      have : (2 : Nat) ^ 0 = 1 := rfl
      omega
    subst b0
    obtain ⟨fX, rfl⟩ : ∃ g, fX = g + 1 := ⟨fX - 1, by omega⟩
    obtain ⟨fM, rfl⟩ : ∃ g, fM = g + 1 := ⟨fM - 1, by omega⟩
    exact ⟨a, ha, lp_r (sX0 a t (by omega)), lp_r (sM0 a), fun q => absurd q (by omega), fun _ => rfl⟩
  | succ k ih =>
    intro a b t fX fM ha hb hb2 ht hX hM
    obtain ⟨fX, rfl⟩ : ∃ g, fX = g + 1 := ⟨fX - 1, by omega⟩
    obtain ⟨fM, rfl⟩ : ∃ g, fM = g + 1 := ⟨fM - 1, by omega⟩
    by_cases b0 : b = 0
    · subst b0
      exact ⟨a, ha, lp_r (sX0 a t (by omega)), lp_r (sM0 a), fun q => absurd q (by omega), fun _ => rfl⟩
    have bp : 0 < b := Nat.pos_of_ne_zero b0
    have rl : a % b < b := Nat.mod_lt _ bp
    have x1 : lp (fX + 1) (un3 X10_commonDivisor_b9) (qL a, qL b, nI t) = lp fX (un3 X10_commonDivisor_b9) (qL b, qL (a % b), nI (t + 1)) := lp_l (sX a b t ha hb2 bp (by omega))
    have m1 : lp (fM + 1) (un2 X11_fraction_b6) (qL a, qL b) = lp fM (un2 X11_fraction_b6) (qL b, qL (a % b)) := lp_l (sM a b ha hb2 bp)
    rw [x1, m1]
    obtain ⟨fX, rfl⟩ : ∃ g, fX = g + 1 := ⟨fX - 1, by omega⟩
    obtain ⟨fM, rfl⟩ : ∃ g, fM = g + 1 := ⟨fM - 1, by omega⟩
    by_cases r0 : a % b = 0
    · rw [r0]
      exact ⟨b, hb2, lp_r (sX0 b (t + 1) (by omega)), lp_r (sM0 b), fun _ => bp, fun q => absurd q b0⟩
    have rp : 0 < a % b := Nat.pos_of_ne_zero r0
    generalize a % b = r at rl r0 rp
    have rb : b % r < r := Nat.mod_lt _ rp
    have x2 : lp (fX + 1) (un3 X10_commonDivisor_b9) (qL b, qL r, nI (t + 1)) = lp fX (un3 X10_commonDivisor_b9) (qL r, qL (b % r), nI (t + 2)) := lp_l (sX b r (t + 1) hb2 (by omega) rp (by omega))
    have m2 : lp (fM + 1) (un2 X11_fraction_b6) (qL b, qL r) = lp fM (un2 X11_fraction_b6) (qL r, qL (b % r)) := lp_l (sM b r hb2 (by omega) rp)
    rw [x2, m2]
    have half : 2 * (b % r) < b := by
      by_cases q : 2 * r ≤ b
      · omega
      · have : b % r = b - r := by
          rw [Nat.mod_eq_sub_mod (by omega), Nat.mod_eq_of_lt (by omega)]
        omega
    have hk : b % r < 2 ^ k := by
      rw [Nat.pow_succ] at hb
      omega
    obtain ⟨g, g0, g1, g2, g3, g4⟩ := ih r (b % r) (t + 2) fX fM (by omega) hk (by omega) (by omega) (by omega) (by omega)
    refine ⟨g, g0, g1, g2, fun _ => ?_, fun q => absurd q b0⟩
    by_cases z : b % r = 0
    · rw [g4 z]
      exact rp
    · exact g3 (Nat.pos_of_ne_zero z)
/-! sums over the leaves -/
def vl (t i : Nat) (h : hT) : Nat := if t = 0 then (bitsT (h i)).toNatClampNeg else if bt (h 4) i = true then 1 else 0
def sm (t i : Nat) : List (List Nat × hT) → Nat
  | [] => 0
  | l :: L => vl t i l.2 + sm t i L
theorem sm_app (t i : Nat) : ∀ A B, sm t i (A ++ B) = sm t i A + sm t i B
  | [], B => by show sm t i B = 0 + sm t i B; omega
  | a :: A, B => by
    show vl t i a.2 + sm t i (A ++ B) = vl t i a.2 + sm t i A + sm t i B
    rw [sm_app t i A B]
    omega
theorem sm_map (t i : Nat) (f : List Nat → List Nat) : ∀ L, sm t i (L.map (fun l => (f l.1, l.2))) = sm t i L
  | [] => rfl
  | l :: L => by
    show vl t i l.2 + sm t i (L.map (fun l => (f l.1, l.2))) = _
    rw [sm_map t i f L]
    rfl
theorem vl_ok {h : hT} (hV : HV h) {t i : Nat} (hi : i < 4) : vl t i h ≤ 6 := by
  unfold vl
  split
  · obtain ⟨m, hm, e⟩ := hV.1 i hi
    rw [e]
    have := (bits7 m hm).2
    omega
  · split <;> omega
theorem sm_le {t i : Nat} (hi : i < 4) : ∀ L : List (List Nat × hT), (∀ l, l ∈ L → HV l.2) → sm t i L ≤ 6 * L.length
  | [], _ => Nat.zero_le _
  | l :: L, h => by
    have h1 := vl_ok (h l List.mem_cons_self) (t := t) hi
    have h2 := sm_le (t := t) hi L (fun x hx => h x (List.mem_cons_of_mem _ hx))
    show vl t i l.2 + sm t i L ≤ 6 * (L.length + 1)
    omega
def ff : Nat → Nat → Nat
  | _, 0 => 1
  | B, n + 1 => B * ff (B - 1) n
theorem fm_cnt {α β : Type} {g : α → List β} {K : Nat} : ∀ l : List α, (∀ a, a ∈ l → (g a).length = K) → (l.flatMap g).length = l.length * K
  | [], _ => by rw [List.length_nil, Nat.zero_mul]; rfl
  | a :: l, h => by
    rw [List.flatMap_cons, List.length_append, h a List.mem_cons_self, fm_cnt l (fun x hx => h x (List.mem_cons_of_mem _ hx)), List.length_cons, Nat.add_mul, Nat.one_mul, Nat.add_comm]
theorem lv_cnt {c : cT} (hP : c.1 ≤ 4) : ∀ N h, (lv c N h).length = ff (cnB (h 5)) N
  | 0, _ => rfl
  | N + 1, h => by
    show ((nf (h 5) 12 1).flatMap _).length = cnB (h 5) * ff (cnB (h 5) - 1) N
    rw [fm_cnt (K := ff (cnB (h 5) - 1) N) _ (fun n hn => by
      rw [List.length_map, lv_cnt hP N, ← cn_ring hP hn, Nat.add_sub_cancel])]
    rfl
theorem lv_allV {c : cT} (hP : c.1 ≤ 4) : ∀ N h, HV h → ∀ l, l ∈ lv c N h → HV l.2
  | 0, h, hV, l, hl => by
    rw [List.mem_singleton.mp hl]
    exact hV
  | N + 1, h, hV, l, hl => by
    obtain ⟨n, hn, hl2⟩ := List.mem_flatMap.mp hl
    obtain ⟨l', hl', rfl⟩ := List.mem_map.mp hl2
    exact lv_allV hP N _ (hV.ring hP _) l' hl'
theorem leaf_S {σ μ s : mS} {c : cT} (hG : RG σ μ c) {t i e : Nat} (ht : t < 2) (hi : i < c.1) {b : hT} (hV : HV b) (hE : EqW c ((1 : Int32) <<< (nI i &&& 31)) (HX s e) b) : (if nI t = 0 then if vin (nI i) 4 = true then some (((J6_bitCount_0f7a4 (s.1 (152 + e) (nI i).toNatClampNeg))).toInt64, s) else none else some (((((s.1 (144 + e) 2) >>> (nI i &&& 31)) &&& 1)).toInt64, s)) = some (qL (vl t i b), s) := by
  have hP4 := hG.P4
  have hwho : bt ((1 : Int32) <<< (nI i &&& 31)) i = true := by rw [shl_bt (by omega) (by omega)]; exact decide_eq_true rfl
  obtain ⟨e1, e2⟩ := hE.1 i hi hwho
  have m1 : s.1 (152 + e) i = b i := by rw [← e1]; unfold HX; rw [if_pos (by omega)]
  have m2 : bt (s.1 (144 + e) 2) i = bt (b 4) i := by rw [← e2]; rfl
  unfold vl
  rcases (show t = 0 ∨ t = 1 by omega) with rfl | rfl
  · rw [if_pos (show nI 0 = 0 from rfl), if_pos (vinI (by omega) (by omega)), nI_nat (by omega), m1, if_pos rfl]
    obtain ⟨m, hm, em⟩ := hV.1 i (by omega)
    rw [em, bc64 m hm, (bits7 m hm).1]
    have : (nI ((bitsT (nI m)).toNatClampNeg)).toNatClampNeg = (bitsT (nI m)).toNatClampNeg := nI_nat (by have := (bits7 m hm).2; omega)
    rw [this]
    rfl
  · rw [if_neg (show ¬ nI 1 = 0 by decide), bit_eq _ (by omega), m2, if_neg (show ¬ (1 : Nat) = 0 by decide)]
    cases bt (b 4) i <;> rfl
