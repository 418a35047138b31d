/-! next -/
def mxN (g : Nat → Nat) : Nat → Nat
  | 0 => 0
  | m + 1 => max (mxN g m) (g m)
theorem mxN_cong {g h : Nat → Nat} : ∀ m, (∀ v, v < m → g v = h v) → mxN g m = mxN h m
  | 0, _ => rfl
  | m + 1, e => by
    show max (mxN g m) (g m) = max (mxN h m) (h m)
    rw [mxN_cong m (fun v hv => e v (by omega)), e m (by omega)]
theorem mxN_le {g : Nat → Nat} {k : Nat} (h : ∀ v, g v ≤ k) : ∀ m, mxN g m ≤ k
  | 0 => Nat.zero_le _
  | m + 1 => by
    have := mxN_le h m
    have := h m
    show max (mxN g m) (g m) ≤ k
    omega
theorem mxN_upd {g h : Nat → Nat} {a : Nat} (h1 : ∀ v, v ≠ a → g v = h v) (h2 : g a = h a + 1) : ∀ m, a < m → mxN g m = max (mxN h m) (h a + 1)
  | 0, q => absurd q (Nat.not_lt_zero _)
  | m + 1, q => by
    show max (mxN g m) (g m) = max (max (mxN h m) (h m)) (h a + 1)
    by_cases e : a = m
    · subst e
      rw [mxN_cong a (fun v hv => h1 v (by omega)), h2]
      omega
    · rw [mxN_upd h1 h2 m (by omega), h1 m (fun x => e x.symm)]
      omega
theorem jmax_n {a b : Nat} (ha : a < 1000) (hb : b < 1000) : jmax (nI a) (nI b) = nI (max a b) := by
  unfold jmax
  by_cases q : a < b
  · rw [if_pos (i_lt.mpr (by rw [nI_ti (by omega), nI_ti (by omega)]; omega)), show max a b = b by omega]
  · rw [if_neg (fun x => by have := i_lt.mp x; rw [nI_ti (by omega), nI_ti (by omega)] at this; omega), show max a b = a by omega]
theorem larger_n {a b : Nat} (ha : a < 1000) (hb : b < 1000) : X11_larger (nI a) (nI b) = nI (max a b) := by
  unfold X11_larger
  by_cases q : b ≤ a
  · rw [if_pos (ile (by rw [nI_ti (by omega), nI_ti (by omega)]; omega)), show max a b = a by omega]
  · rw [if_neg (lt_nI (by omega) (by omega) (by omega)), show max a b = b by omega]
theorem bits7 : ∀ m, m < 64 → bitsT (nI m) = nI ((bitsT (nI m)).toNatClampNeg) ∧ (bitsT (nI m)).toNatClampNeg < 7 := by decide +kernel
theorem and63 : ∀ m, m < 64 → nI m &&& 63 = nI m := by decide +kernel
def cnF (a : Int32) (val : Nat → Nat) (v κ : Nat) : Nat := if bt a κ = true then (if val κ = v then 1 else 0) else 0
theorem cnF_le (a : Int32) (val : Nat → Nat) (v κ : Nat) : cnF a val v κ ≤ 1 := by unfold cnF; split <;> (try split) <;> omega
/-- what a mark would be by kind κ -/
def vK (c : cT) (H : hT) (i n κ : Nat) : Int32 := H i ||| mbT c.2.2 i (X11_heard (nI κ) (nI n) (H 7) (H 6))
def vN (c : cT) (H : hT) (i n κ : Nat) : Nat := (bitsT (vK c H i n κ)).toNatClampNeg
theorem vK_ok {c : cT} {H : hT} (hV : HV H) (hP : c.1 ≤ 4) {i n κ : Nat} (hi : i < c.1) : (∃ m, m < 64 ∧ vK c H i n κ = nI m) ∧ bitsT (vK c H i n κ) = nI (vN c H i n κ) ∧ vN c H i n κ < 7 := by
  obtain ⟨m, hm, e⟩ := (hV.ring (c := (c.1, (fun _ => nI κ), c.2.2)) hP (nI n)).1 i (by omega)
  have e2 : vK c H i n κ = nI m := by
    rw [← e]
    unfold ringH nmk vK
    rw [if_pos hi]
  refine ⟨⟨m, hm, e2⟩, ?_⟩
  unfold vN
  rw [e2]
  exact bits7 m hm
theorem part_M {σ μ : mS} {c : cT} (hG : RG σ μ c) {i n : Nat} (hi : i < c.1) (hn : n < 31) (a : Int32) : X11_part μ (nI i) a (nI n) = some (nI (mxN (fun v => sN (cnF a (vN c (HX σ 5) i n) v) 6) 7)) := by
  have hP4 := hG.P4
  have vi : vin (nI i) 1360 = true := vinI (by omega) (by omega)
  have hH : ∀ q, q < 8 → μ.1 10 q = HX σ 5 q := fun q hq => by rw [hG.2.2.2.2.2.1, getH_lt hq, Nat.zero_add]
  have inner : ∀ v, v < 7 → lp big (un2 (X11_part_b19 μ (nI i) a (nI n) (nI v))) (0, 0) = some (nI (sN (cnF a (vN c (HX σ 5) i n) v) 6)) := fun v hv =>
    lp_zero (b := un2 (X11_part_b19 μ (nI i) a (nI n) (nI v))) (n := 6) (res := nI (sN (cnF a (vN c (HX σ 5) i n) v) 6)) (fun κ x => (nI (sN (cnF a (vN c (HX σ 5) i n) v) κ), x)) (by decide) (fun κ x hκ hx => by
      have xe := i_nI hx
      subst xe
      show X11_part_b19 μ (nI i) a (nI n) (nI v) (nI (sN (cnF a (vN c (HX σ 5) i n) v) κ)) (nI κ) = some (.inl (nI (sN (cnF a (vN c (HX σ 5) i n) v) κ + cnF a (vN c (HX σ 5) i n) v κ), nI κ + 1))
      have le := sN_le (cnF_le a (vN c (HX σ 5) i n) v) κ
      generalize sN (cnF a (vN c (HX σ 5) i n) v) κ = S at le
      unfold X11_part_b19 cnF
      obtain ⟨-, b1, b2⟩ := vK_ok (n := n) (κ := κ) hG.hv hP4 hi
      unfold vK at b1
      rw [if_neg (show ¬ (6 : Int32) ≤ nI κ from lt_nI (a := κ) (b := 6) (by omega) (by omega) hκ), if_pos vi, if_pos (by decide), if_pos (by decide), marksBy_eq μ (nI_ti (n := i) (by omega)) (by omega), Option.bind_some, nI_nat (n := i) (by omega), bits_eq, Option.bind_some, show (7 : Int32).toNatClampNeg = 7 by decide, show (6 : Int32).toNatClampNeg = 6 by decide, hH 7 (by omega), hH 6 (by omega), hH i (by omega), ← hG.2.2.1, b1, has_eq a (by omega)]
      by_cases q : bt a κ = true
      · rw [if_pos q, if_pos q, if_neg (by decide)]
        by_cases q2 : vN c (HX σ 5) i n κ = v
        · rw [if_pos q2, if_pos (by rw [q2]), nI_s S (by omega)]
        · rw [if_neg q2, if_neg (fun x => q2 ((eqL (by omega) (by omega)).mp x)), Int32.add_zero]
          rfl
      · rw [if_neg q, if_neg q, if_pos rfl, Int32.add_zero]
        rfl) (fun x hx => by
      show X11_part_b19 μ (nI i) a (nI n) (nI v) _ x = _
      unfold X11_part_b19
      rw [if_pos (ile (by rw [hx]; decide))])
  unfold X11_part
  have h := lp_zero (b := un2 (X11_part_b6 μ (nI i) a (nI n))) (n := 7) (res := nI (mxN (fun v => sN (cnF a (vN c (HX σ 5) i n) v) 6) 7)) (fun v x => (nI (mxN (fun v => sN (cnF a (vN c (HX σ 5) i n) v) 6) v), x)) (by decide) (fun v x hv hx => by
    have xe := i_nI hx
    subst xe
    show X11_part_b6 μ (nI i) a (nI n) (nI (mxN (fun v => sN (cnF a (vN c (HX σ 5) i n) v) 6) v)) (nI v) = some (.inl (nI (max (mxN (fun v => sN (cnF a (vN c (HX σ 5) i n) v) 6) v) (sN (cnF a (vN c (HX σ 5) i n) v) 6)), nI v + 1))
    have l1 := mxN_le (g := fun v => sN (cnF a (vN c (HX σ 5) i n) v) 6) (k := 6) (fun v => sN_le (cnF_le _ _ _) 6) v
    have l2 := sN_le (cnF_le a (vN c (HX σ 5) i n) v) 6
    unfold X11_part_b6
    rw [if_neg (show ¬ (7 : Int32) ≤ nI v from lt_nI (a := v) (b := 7) (by omega) (by omega) hv), inner v hv, Option.bind_some, un1_app, larger_n (by omega) (by omega)]) (fun x hx => by
    show X11_part_b6 μ (nI i) a (nI n) _ x = _
    unfold X11_part_b6
    rw [if_pos (ile (by rw [hx]; decide))])
  have h' : lp big (un2 (X11_part_b6 μ (nI i) a (nI n))) (0, 0) = _ := h
  rw [h', Option.bind_some, un1_app]
theorem FrX.row200 {σ τ : mS} (h : FrX σ τ) (f : Nat → Int32) : FrX σ (mrow τ 200 f) := ⟨fun q a1 a2 a3 a4 a5 => by rw [mrow_ne a4]; exact h.1 q a1 a2 a3 a4 a5, fun q hq => by rw [mrow_ne (by decide)]; exact h.2.1 q hq, h.2.2⟩
theorem part_X {σ μ s : mS} {c : cT} (hG : RG σ μ c) (hF : FrX σ s) {i n : Nat} (hi : i < c.1) (hn : n < 31) (a : Int32) : ∃ s', X10_greatestPart s a (nI i) (nI n) = some (nI (mxN (fun v => sN (cnF a (vN c (HX σ 5) i n) v) 6) 7), s') ∧ FrX σ s' := by
  have hP4 := hG.P4
  unfold X10_greatestPart
  rw [fillI_eq s 200 7 0 (by decide), bd_some]
  obtain ⟨q1, -, l1, -, s', rfl, hF'⟩ := lpR (b := un3 (X10_greatestPart_b14 a (nI i) (nI n))) (b' := un3 (X10_greatestPart_b14 a (nI i) (nI n)))
    (I := fun d q q' => q' = q ∧ ∃ κ s x, κ + d = 6 ∧ q = (s, nI (mxN (fun v => sN (cnF a (vN c (HX σ 5) i n) v) κ) 7), x) ∧ x = nI κ ∧ FrX σ s ∧ ∀ v, v < 7 → s.1 200 v = nI (sN (cnF a (vN c (HX σ 5) i n) v) κ))
    (Q := fun r _ => ∃ s, r = (s, nI (mxN (fun v => sN (cnF a (vN c (HX σ 5) i n) v) 6) 7)) ∧ FrX σ s) (fun d q q' hI => by
    obtain ⟨rfl, κ, s, x, hd, rfl, rfl, hF, hrow⟩ := hI
    show (∃ t1 t1' n', n' < d ∧ X10_greatestPart_b14 a (nI i) (nI n) s _ (nI κ) = _ ∧ X10_greatestPart_b14 a (nI i) (nI n) s _ (nI κ) = _ ∧ _) ∨ (∃ r1 r2, X10_greatestPart_b14 a (nI i) (nI n) s _ (nI κ) = _ ∧ X10_greatestPart_b14 a (nI i) (nI n) s _ (nI κ) = _ ∧ _)
    unfold X10_greatestPart_b14
    by_cases he : κ = 6
    · subst he
      right
      exact ⟨_, _, rfl, rfl, s, rfl, hF⟩
    left
    have sk := nI_s κ (by omega)
    have hGs : RG s μ c := hG.tri hF FrM.rf
    have hXs : HX s 5 = HX σ 5 := by rw [hGs.2.2.2.2.2.1, hG.2.2.2.2.2.1]
    rw [if_neg (show ¬ (6 : Int32) ≤ nI κ from lt_nI (a := κ) (b := 6) (by omega) (by omega) (by omega)), bit_eq a (by omega)]
    by_cases q : bt a κ = true
    · rw [if_pos q, if_pos rfl]
      obtain ⟨⟨m, hm, e⟩, b1, b2⟩ := vK_ok (n := n) (κ := κ) hG.hv hP4 hi
      have mb : X10_marksBy s (nI κ) (nI i) (nI n) = some (vK c (HX σ 5) i n κ) := by
        rw [marksByX hGs hi (by omega) hn]
        unfold vK
        have h7 : μ.1 10 7 = HX σ 5 7 := by rw [hG.2.2.2.2.2.1, getH_lt (by omega)]
        have h6 : μ.1 10 6 = HX σ 5 6 := by rw [hG.2.2.2.2.2.1, getH_lt (by omega)]
        have h_i : s.1 (152 + 5) i = HX σ 5 i := by rw [← hXs]; unfold HX; rw [if_pos (by omega)]
        rw [h7, h6, h_i, ← hG.2.2.1]
      have bc : J6_bitCount_0f7a4 (vK c (HX σ 5) i n κ &&& 63) = nI (vN c (HX σ 5) i n κ) := by rw [e, and63 m hm, bc64 m hm, ← e, b1]
      rw [mb, Option.bind_some, bc]
      generalize hv0 : vN c (HX σ 5) i n κ = v0 at b2 bc b1
      have v7 : vin (nI v0) 7 = true := vinI b2 (by omega)
      have l2 := sN_le (cnF_le a (vN c (HX σ 5) i n) v0) κ
      have l3 := mxN_le (g := fun v => sN (cnF a (vN c (HX σ 5) i n) v) κ) (k := κ) (fun v => sN_le (cnF_le _ _ _) κ) 7
      rw [if_pos v7, if_pos v7, if_pos v7, nI_nat (by omega), mwI_rd, hrow v0 b2, nI_s _ (by omega), jmax_n (by omega) (by omega)]
      have up : ∀ v, sN (cnF a (vN c (HX σ 5) i n) v) (κ + 1) = if v = v0 then sN (cnF a (vN c (HX σ 5) i n) v) κ + 1 else sN (cnF a (vN c (HX σ 5) i n) v) κ := by
        intro v
        show sN (cnF a (vN c (HX σ 5) i n) v) κ + cnF a (vN c (HX σ 5) i n) v κ = _
        unfold cnF
        rw [if_pos q, hv0]
        by_cases ev : v = v0
        · rw [if_pos ev, if_pos ev.symm]
        · rw [if_neg ev, if_neg (fun x => ev x.symm), Nat.add_zero]
      have mx := mxN_upd (g := fun v => sN (cnF a (vN c (HX σ 5) i n) v) (κ + 1)) (h := fun v => sN (cnF a (vN c (HX σ 5) i n) v) κ) (a := v0) (fun v hv => by show sN _ (κ + 1) = _; rw [up v, if_neg hv]) (by show sN _ (κ + 1) = _; rw [up v0, if_pos rfl]) 7 b2
      rw [← mx]
      refine ⟨_, _, d - 1, by omega, rfl, rfl, rfl, κ + 1, _, _, by omega, rfl, sk, ?_, fun v hv => ?_⟩
      · rw [mwI_row]
        exact hF.row200 _
      · rw [mwI_row, mrow_at, up v]
        by_cases ev : v = v0
        · subst ev
          rw [upd_at, if_pos rfl]
        · rw [upd_ne ev, if_neg ev]
          exact hrow v hv
    · rw [if_neg q, if_neg (by decide)]
      have up : ∀ v, sN (cnF a (vN c (HX σ 5) i n) v) (κ + 1) = sN (cnF a (vN c (HX σ 5) i n) v) κ := by
        intro v
        show sN (cnF a (vN c (HX σ 5) i n) v) κ + cnF a (vN c (HX σ 5) i n) v κ = _
        unfold cnF
        rw [if_neg q]
        rfl
      refine ⟨_, _, d - 1, by omega, rfl, rfl, rfl, κ + 1, s, _, by omega, ?_, sk, hF, fun v hv => by rw [up v]; exact hrow v hv⟩
      rw [mxN_cong 7 (fun v _ => (up v).symm)]) big 6 (mrow s 200 (seg 0 7 0 (s.1 200)), 0, 0) (mrow s 200 (seg 0 7 0 (s.1 200)), 0, 0) ⟨rfl, 0, _, 0, rfl, by rw [show mxN (fun v => sN (cnF a (vN c (HX σ 5) i n) v) 0) 7 = 0 from rfl]; rfl, rfl, hF.row200 _, fun v hv => by rw [mrow_at]; unfold seg; rw [if_pos (by omega)]; rfl⟩ (by show 6 < 1000000; omega)
  rw [l1, Option.bind_some]
  exact ⟨s', rfl, hF'⟩
