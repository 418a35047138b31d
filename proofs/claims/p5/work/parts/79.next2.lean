theorem mwI_self {σ : mS} {k p : Nat} : mwI σ k p (σ.1 k p) = σ := by rw [mwI_row, upd_self rfl, mrow_id]
theorem next_both {σ μ ν : mS} {c : cT} (h : RR σ μ) (hG : RG σ μ c) (hM : FrM μ ν) {i : Nat} (hi : i < c.1) (a : Int32) : SIM (if a = 0 then some ((-9), σ) else if (σ.1 (144 + 5) 3) = 0 then some ((-9), σ) else (lp big (un4 (X10_next_b49 (nI i) a)) (σ, 7, 0, 1)).bind (un3 (fun s16 y17 y18 => some (y18, mwI s16 0 13 y17)))) ((lp big (un3 (X11_next_b53 (nI i) a ν)) ((-9), 9, 1)).bind (un2 (fun y17 y18 => if 0 ≤ y17 then some (y17, mwI ν 0 14 y18) else some (y17, mwI ν 0 14 (ν.1 0 14))))) := by
  have hR : RR σ ν := h.tri FrX.rf hM
  have hG' : RG σ ν c := hG.tri FrX.rf hM
  have hP4 := hG.P4
  have fin : ∀ A, lp big (un3 (X11_next_b53 (nI i) a ν)) ((-9), 9, 1) = some ((-9), 9) → A = some ((-9), σ) → SIM A ((lp big (un3 (X11_next_b53 (nI i) a ν)) ((-9), 9, 1)).bind (un2 (fun y17 y18 => if 0 ≤ y17 then some (y17, mwI ν 0 14 y18) else some (y17, mwI ν 0 14 (ν.1 0 14))))) := fun A e1 e2 => by
    rw [e1, e2, Option.bind_some]
    show SIM _ (if (0 : Int32) ≤ -9 then some (-9, mwI ν 0 14 9) else some (-9, mwI ν 0 14 (ν.1 0 14)))
    rw [if_neg (by decide), mwI_self]
    exact SIM.ret hR rfl
  by_cases a0 : a = 0
  · refine fin _ (lp_r (f := 999999) ?_) (by rw [if_pos a0])
    show X11_next_b53 (nI i) a ν (-9) 9 1 = _
    unfold X11_next_b53
    rw [if_neg (by decide), if_pos a0]
  rw [if_neg a0]
  have bagM : ν.1 10 5 = σ.1 (144 + 5) 3 := hG'.bag
  have mstep : ∀ n, 1 ≤ n → n < 13 → ∀ y14 y15, X11_next_b53 (nI i) a ν y14 y15 (nI n) = if bt (σ.1 (144 + 5) 3) n = true then some (.inl ((if y15 ≤ nI (mxN (fun v => sN (cnF a (vN c (HX σ 5) i n) v) 6) 7) then y14 else nI n), X11_lesser (nI (mxN (fun v => sN (cnF a (vN c (HX σ 5) i n) v) 6) 7)) y15, nI n + 1)) else some (.inl ((if y15 ≤ 9 then y14 else nI n), X11_lesser 9 y15, nI n + 1)) := by
    intro n n1 n2 y14 y15
    unfold X11_next_b53
    rw [if_neg (show ¬ (13 : Int32) ≤ nI n from lt_nI (a := n) (b := 13) (by omega) (by omega) n2), if_neg a0, if_pos (by decide), show (5 : Int32).toNatClampNeg = 5 by decide, bagM, has_eq _ (by omega), part_M hG' hi (by omega) a]
    by_cases q : bt (σ.1 (144 + 5) 3) n = true
    · rw [if_pos q, if_pos q, if_neg (by decide), Option.bind_some, Option.bind_some]
      rfl
    · rw [if_neg q, if_neg q, if_pos rfl, Option.bind_some]
      rfl
  by_cases b0 : σ.1 (144 + 5) 3 = 0
  · have nob : ∀ n, bt (σ.1 (144 + 5) 3) n = false := fun n => by rw [b0]; exact b_0 n
    refine fin _ ?_ (by rw [if_pos b0])
    exact lp_from (b := un3 (X11_next_b53 (nI i) a ν)) (n := 13) (res := ((-9), 9)) (fun j x => ((-9), 9, x)) 1 1 (by decide) (by decide) (by decide) (fun j x hj hx => by
      have xe := i_nI hx
      subst xe
      show X11_next_b53 (nI i) a ν (-9) 9 (nI j) = _
      by_cases j0 : j = 0
      · subst j0
        unfold X11_next_b53
        rw [if_neg (by decide), if_neg a0, if_pos (by decide), show (5 : Int32).toNatClampNeg = 5 by decide, bagM, has_eq _ (by omega), nob 0]
        rfl
      · rw [mstep j (by omega) hj, nob j]
        rfl) (fun x hx => by
      show X11_next_b53 (nI i) a ν (-9) 9 x = _
      unfold X11_next_b53
      rw [if_pos (ile (by rw [hx]; decide))])
  rw [if_neg b0]
  obtain ⟨nb, hnb, eb⟩ := hG.hv.2.2
  have eb' : σ.1 (144 + 5) 3 = nI (2 * nb) := eb
  obtain ⟨z, hz, ez⟩ := bag_has nb hnb (fun q => b0 (by rw [eb', q]; rfl))
  rw [← eb'] at ez
  obtain ⟨q1, q2, l1, l2, s, g, n0, rfl, rfl, hF, hn0⟩ := lpR (b := un4 (X10_next_b49 (nI i) a)) (b' := un3 (X11_next_b53 (nI i) a ν))
    (I := fun d q q' => ∃ n s x13 x14 y14 y15, n + d = 13 ∧ 1 ≤ n ∧ q = (s, x13, x14, nI n) ∧ q' = (y14, y15, nI n) ∧ FrX σ s ∧ ((x13 = 7 ∧ x14 = 0 ∧ y14 = -9 ∧ y15 = 9 ∧ ∀ n', 1 ≤ n' → n' < n → bt (σ.1 (144 + 5) 3) n' = false) ∨ (∃ g n0, g ≤ 6 ∧ n0 ≤ 12 ∧ x13 = nI g ∧ y15 = nI g ∧ x14 = nI n0 ∧ y14 = nI n0)))
    (Q := fun r r' => ∃ s g n0, r = (s, nI g, nI n0) ∧ r' = (nI n0, nI g) ∧ FrX σ s ∧ n0 ≤ 12) (fun d q q' hI => by
    obtain ⟨n, s, x13, x14, y14, y15, hd, n1, rfl, rfl, hF, hI⟩ := hI
    show (∃ t1 t1' n', n' < d ∧ X10_next_b49 (nI i) a s x13 x14 (nI n) = _ ∧ X11_next_b53 (nI i) a ν y14 y15 (nI n) = _ ∧ _) ∨ (∃ r1 r2, X10_next_b49 (nI i) a s x13 x14 (nI n) = _ ∧ X11_next_b53 (nI i) a ν y14 y15 (nI n) = _ ∧ _)
    by_cases he : n = 13
    · subst he
      right
      rcases hI with ⟨-, -, -, -, hno⟩ | ⟨g, n0, hg, hn0, rfl, rfl, rfl, rfl⟩
      · have := hno (z + 1) (by omega) (by omega)
        rw [ez] at this
        exact absurd this (by decide)
      · exact ⟨_, _, rfl, rfl, s, g, n0, rfl, rfl, hF, hn0⟩
    left
    have sk := nI_s n (by omega)
    have sbag : s.1 (144 + 5) 3 = σ.1 (144 + 5) 3 := by rw [hF.1 (144 + 5) (by omega) (by omega) (by omega) (by omega) (by omega)]
    rw [mstep n n1 (by omega)]
    unfold X10_next_b49
    rw [if_neg (show ¬ (12 : Int32) < nI n from fun q => by have := i_lt.mp q; rw [nI_ti (by omega)] at this; have : (12 : Int) < n := this; omega), holds_eq (by omega), sbag]
    by_cases q : bt (σ.1 (144 + 5) 3) n = true
    · obtain ⟨s', e1, hF'⟩ := part_X hG hF hi (n := n) (by omega) a
      rw [if_pos q, if_pos q, if_neg (by decide), e1, bd_some]
      have gl := mxN_le (g := fun v => sN (cnF a (vN c (HX σ 5) i n) v) 6) (k := 6) (fun v => sN_le (cnF_le _ _ _) 6) 7
      generalize mxN (fun v => sN (cnF a (vN c (HX σ 5) i n) v) 6) 7 = G at gl e1
      rcases hI with ⟨rfl, rfl, rfl, rfl, hno⟩ | ⟨g, n0, hg, hn0, rfl, rfl, rfl, rfl⟩
      · have t1 : ¬ (7 : Int32) ≤ nI G := lt_nI (a := G) (b := 7) (by omega) (by omega) (by omega)
        have t2 : ¬ (9 : Int32) ≤ nI G := lt_nI (a := G) (b := 9) (by omega) (by omega) (by omega)
        have t3 : X11_lesser (nI G) 9 = nI G := by unfold X11_lesser; rw [if_neg t2]
        rw [if_neg t1, if_neg t2, t3, sk]
        exact ⟨_, _, d - 1, by omega, rfl, rfl, n + 1, s', _, _, _, _, by omega, by omega, rfl, rfl, hF', Or.inr ⟨G, n, gl, by omega, rfl, rfl, rfl, rfl⟩⟩
      · by_cases le : g ≤ G
        · have t1 : nI g ≤ nI G := ile (by rw [nI_ti (by omega), nI_ti (by omega)]; omega)
          have t3 : X11_lesser (nI G) (nI g) = nI g := by unfold X11_lesser; rw [if_pos t1]
          rw [if_pos t1, if_pos t1, t3, sk]
          exact ⟨_, _, d - 1, by omega, rfl, rfl, n + 1, s', _, _, _, _, by omega, by omega, rfl, rfl, hF', Or.inr ⟨g, n0, hg, hn0, rfl, rfl, rfl, rfl⟩⟩
        · have t1 : ¬ nI g ≤ nI G := lt_nI (by omega) (by omega) (by omega)
          have t3 : X11_lesser (nI G) (nI g) = nI G := by unfold X11_lesser; rw [if_neg t1]
          rw [if_neg t1, if_neg t1, t3, sk]
          exact ⟨_, _, d - 1, by omega, rfl, rfl, n + 1, s', _, _, _, _, by omega, by omega, rfl, rfl, hF', Or.inr ⟨G, n, gl, by omega, rfl, rfl, rfl, rfl⟩⟩
    · rw [if_neg q, if_neg q, if_pos rfl, sk]
      rcases hI with ⟨rfl, rfl, rfl, rfl, hno⟩ | ⟨g, n0, hg, hn0, rfl, rfl, rfl, rfl⟩
      · refine ⟨_, _, d - 1, by omega, rfl, rfl, n + 1, s, _, _, _, _, by omega, by omega, rfl, rfl, hF, Or.inl ⟨rfl, rfl, rfl, rfl, fun n' h1 h2 => ?_⟩⟩
        by_cases e : n' = n
        · subst e
          exact Bool.eq_false_iff.mpr q
        · exact hno n' h1 (by omega)
      · have t1 : nI g ≤ 9 := ile (by rw [nI_ti (by omega)]; show (g : Int) ≤ 9; omega)
        have t3 : X11_lesser 9 (nI g) = nI g := by unfold X11_lesser; rw [if_pos t1]
        rw [if_pos t1, t3]
        exact ⟨_, _, d - 1, by omega, rfl, rfl, n + 1, s, _, _, _, _, by omega, by omega, rfl, rfl, hF, Or.inr ⟨g, n0, hg, hn0, rfl, rfl, rfl, rfl⟩⟩) big 12 (σ, 7, 0, 1) ((-9), 9, 1) ⟨1, σ, 7, 0, -9, 9, rfl, by omega, rfl, rfl, FrX.rf, Or.inl ⟨rfl, rfl, rfl, rfl, fun n' h1 h2 => absurd h1 (by omega)⟩⟩ (by show 12 < 1000000; omega)
  rw [l1, l2, Option.bind_some, Option.bind_some]
  show SIM (some (nI n0, mwI s 0 13 (nI g))) (if 0 ≤ nI n0 then some (nI n0, mwI ν 0 14 (nI g)) else some (nI n0, mwI ν 0 14 (ν.1 0 14)))
  rw [if_pos (ge0 (by rw [nI_ti (by omega)]; omega))]
  exact SIM.ret ((h.tri hF hM).asked _) rfl
theorem sim_next {σ μ : mS} (h : RR σ μ) (a1 a2 : Int32) : SIM (X10_next σ a1 a2) (X11_next μ a1 a2) := by
  obtain ⟨c, hG⟩ := h.2.2.1
  have hP4 := hG.P4
  unfold X10_next X11_next
  by_cases hb : a1.toInt < 0 ∨ (c.1 : Int) ≤ a1.toInt
  · unfold X10_refusedPairs
    rw [if_pos (hG.plX.mpr hb), if_pos (hG.plM.mpr hb), bd_some, if_neg (by decide)]
    exact SIM.ret h rfl
  obtain ⟨i, hi, hi4, rfl⟩ := plEx hG hb
  by_cases hb2 : a2.toInt < 0 ∨ 6 ≤ a2.toInt
  · unfold X10_refusedPairs
    rw [if_neg (fun q => hb (hG.plX.mp q)), if_neg (fun q => hb (hG.plM.mp q)), refRow_bad hb2, bd_some, if_neg (by decide), bd_some, if_neg (by decide), if_pos (isRowM_zero.mpr hb2)]
    exact SIM.ret h rfl
  obtain ⟨r, hr, rfl⟩ := rowEx hb2
  rw [if_neg (fun q => hb (hG.plM.mp q)), if_neg (rowY hr).2]
  rcases pairs_both h hG hi hr with ⟨z, hz, hs, hok, x1, x2⟩ | ⟨f, f1, f2, x1, x2⟩
  · rw [x1, x2, bd_some, if_pos rfl, Option.bind_some, if_pos (by decide)]
    obtain ⟨v, ν, y1, y2, y3⟩ := kinds_both h hG hi hr hz hs hok
    rw [y1, y2, Option.bind_some, bd_some]
    exact next_both h hG y3 hi v
  · rw [x1, x2, bd_some, if_neg (by decide), Option.bind_some, if_neg (show ¬ nI f ≤ 0 from lt_nI (a := 0) (b := f) (by omega) (by omega) (by omega)), finds_eq μ f2, bd_some]
    exact SIM.ret (h.fnd f2) rfl
