/-! deeds: call, rub, undo, keep, on -/
def FrH (σ μ τ ν : mS) : Prop := (∀ q, q ≠ 149 → q ≠ 157 → ¬ (160 ≤ q ∧ q < 164) → ¬ (168 ≤ q ∧ q < 172) → τ.1 q = σ.1 q) ∧ τ.2 = σ.2 ∧ (∀ q, q ≠ 0 → q ≠ 10 → q ≠ 11 → ν.1 q = μ.1 q) ∧ (∀ q, q ≠ 12 → ν.1 0 q = μ.1 0 q) ∧ ν.2 = μ.2
theorem RR.hallop {σ μ τ ν : mS} {c : cT} (h : RR σ μ) (hF : FrH σ μ τ ν) (hG : RG τ ν c) : RR τ ν := by
  obtain ⟨hW, hT, -, hO⟩ := h
  obtain ⟨f1, f2, f3, f4, f5⟩ := hF
  refine ⟨hW.of (f1 _ (by omega) (by omega) (by omega) (by omega)) (fun r hr => f1 _ (by omega) (by omega) (by omega) (by omega)) (f3 _ (by omega) (by omega) (by omega)) (f3 _ (by omega) (by omega) (by omega)), hT.of (f1 _ (by omega) (by omega) (by omega) (by omega)) (fun r hr => f1 _ (by omega) (by omega) (by omega) (by omega)) (f3 _ (by omega) (by omega) (by omega)) (f3 _ (by omega) (by omega) (by omega)), ⟨c, hG⟩, hO.of (by rw [f1 _ (by omega) (by omega) (by omega) (by omega)]) (by rw [f1 _ (by omega) (by omega) (by omega) (by omega)]) f2 (fun f _ => by rw [f1 _ (by omega) (by omega) (by omega) (by omega)]) (f4 _ (by omega)) (f4 _ (by omega)) f5 (fun f _ => by rw [f3 _ (by omega) (by omega) (by omega)])⟩
theorem FrH.cf {σ μ τ ν : mS} {c : cT} (hF : FrH σ μ τ ν) (hC : CF σ c) : CF τ c := hC.of (hF.1 _ (by omega) (by omega) (by omega) (by omega)) (hF.1 _ (by omega) (by omega) (by omega) (by omega)) (hF.1 _ (by omega) (by omega) (by omega) (by omega)) (fun i hi => hF.1 _ (by omega) (by omega) (by omega) (by omega))
theorem RD.far {c : cT} {sz : Int32} {dr f g : Nat → Int32} {b : Nat} (h : RD c sz dr f b) (hg : ∀ b', b ≤ b' → b' + 8 ≤ b + 328 → getH g b' = getH f b') : RD c sz dr g b := by
  obtain ⟨d, dn, h1, h2, h3, h4, h5⟩ := h
  exact ⟨d, dn, h1, h2, h3, by rw [hg b (by omega) (by omega)]; exact h4, fun k hk => by rw [hg _ (by omega) (by omega)]; exact h5 k hk⟩
/-- one more deed -/
theorem RG.push {σ μ τ ν : mS} {c : cT} {d m : Nat} (h : RG σ μ c) (hF : FrH σ μ τ ν) (hd : d < 40) (hsz : σ.1 (160 + 3) 1 = nI d) (hm : dOK c.1 m) (x1 : HX τ 5 = dStep c (HX σ 5) m) (x2 : τ.1 (160 + 3) 1 = nI (d + 1)) (x3 : ∀ k, k ≤ d → τ.1 (168 + 3) k = upd (σ.1 (168 + 3)) d (nI m) k) (x4 : ∀ k, k < 3 → τ.1 (160 + k) 1 = σ.1 (160 + k) 1 ∧ τ.1 (168 + k) = σ.1 (168 + k)) (m1 : ν.1 0 12 = nI (d + 1)) (m2 : ν.1 11 = μ.1 11) (g0 : getH (ν.1 10) 0 = dStep c (getH (μ.1 10) 0) m) (g1 : getH (ν.1 10) (8 * (d + 1)) = getH (μ.1 10) 0) (g2 : ∀ b, 8 ≤ b → b + 8 ≤ 8 * (d + 1) ∨ 8 * (d + 2) ≤ b → getH (ν.1 10) b = getH (μ.1 10) b) : RG τ ν c := by
  obtain ⟨a1, a2, a3, a4, a5, a6, a7, a8, a9⟩ := h
  refine ⟨by rw [hF.2.2.2.1 5 (by decide)]; exact a1, by rw [hF.2.2.1 6 (by decide) (by decide) (by decide)]; exact a2, by rw [hF.2.2.1 7 (by decide) (by decide) (by decide)]; exact a3, hF.cf a4, a5, by rw [x1, g0, a6], by rw [m1, x2], ?_, fun k hk => ?_⟩
  · obtain ⟨d', dn, h1, h2, h3, h4, h5⟩ := a8
    have e : d' = d := by
      rw [hsz] at h1
      exact ((eqL (by omega) (by omega)).mp h1).symm
    subst e
    have cg : ∀ k, k ≤ d' → rpl c (fun q => if q = d' then m else dn q) k = rpl c dn k := fun k hk => rpl_cong (fun q hq => by rw [if_neg (by omega)])
    refine ⟨d' + 1, fun q => if q = d' then m else dn q, x2, by omega, fun k hk => ?_, ?_, fun k hk => ?_⟩
    · rw [x3 k (by omega)]
      by_cases e : k = d'
      · subst e
        simp only [upd_at, if_true]
        exact ⟨trivial, hm⟩
      · simp only [upd_ne e, if_neg e]
        exact h3 k (by omega)
    · show _ = dStep c (rpl c _ d') (if d' = d' then m else dn d')
      rw [if_pos rfl, cg d' (by omega), g0, h4]
    · rw [cg k (by omega), Nat.zero_add]
      by_cases e : k = d'
      · subst e
        rw [g1, h4]
      · rw [g2 _ (by omega) (Or.inl (by omega))]
        have := h5 k (by omega)
        rw [Nat.zero_add] at this
        exact this
  · obtain ⟨b1, b2⟩ := a9 k hk
    obtain ⟨c1, c2⟩ := x4 k hk
    refine ⟨by rw [m2, c1]; exact b1, ?_⟩
    rw [c1, c2]
    rcases b2 with b2 | b2
    · exact Or.inl b2
    · exact Or.inr (b2.far (fun b' h1 h2 => g2 b' (by omega) (Or.inr (by omega))))
theorem add_eq (σ : mS) {d : Nat} {v : Int32} (hd : d < 40) (hsz : σ.1 (160 + 3) 1 = nI d) : X1_add σ 3 v = some ((), mrow (mrow σ (168 + 3) (upd (σ.1 (168 + 3)) d v)) (160 + 3) (upd (σ.1 (160 + 3)) 1 (nI (d + 1)))) := by
  unfold X1_add
  have e : nI d + 1 = nI (d + 1) := i_nI (i32_add (nI_ti (by omega)) (b := 1) (by decide) (by omega))
  rw [hsz, if_neg (nle (by rw [nI_ti (by omega)]; show (d : Int) < 40; omega)), if_pos (vinI hd (by decide)), nI_nat (by omega), mwI_rk (by decide : 160 + 3 ≠ 168 + 3), hsz, e, mwI_row, mwI_row, mrow_ne (by decide : 160 + 3 ≠ 168 + 3)]
theorem known_eq (μ : mS) {d : Nat} (hd : d < 40) (h12 : μ.1 0 12 = nI d) : X11_known μ = some ((), mrow (mwI μ 0 12 (nI (d + 1))) 10 (cpF (μ.1 10) 0 (8 * (d + 1)) 8)) := by
  unfold X11_known
  have e : nI d + 1 = nI (d + 1) := i_nI (i32_add (nI_ti (by omega)) (b := 1) (by decide) (by omega))
  have e8 : (nI (d + 1) * 8).toInt = ((8 * (d + 1) : Nat) : Int) := by
    have k8 : (8 : Int32).toInt = 8 := by decide
    rw [i_mul (by rw [k8, nI_ti (by omega)]; omega) (by rw [k8, nI_ti (by omega)]; omega), k8, nI_ti (by omega)]
    omega
  rw [h12, e, mwI_rd, copies_eq _ (s := 0) (t := 8 * (d + 1)) (n := 8) (by decide) e8 (by decide) (by omega) (by omega) (Or.inl (by omega)), bd_some, mwI_rk (by decide : (10 : Nat) ≠ 0)]
theorem dnum {σ μ : mS} {c : cT} (h : RG σ μ c) : ∃ d, d ≤ 40 ∧ σ.1 (160 + 3) 1 = nI d ∧ μ.1 0 12 = nI d := by
  obtain ⟨d, dn, h1, h2, -⟩ := h.2.2.2.2.2.2.2.1
  exact ⟨d, h2, h1, by rw [h.2.2.2.2.2.2.1]; exact h1⟩
/-- a number called in both, d deeds done -/
theorem call_both {σ μ : mS} {c : cT} (h : RR σ μ) (hG : RG σ μ c) {d n : Nat} (hd : d < 40) (hsz : σ.1 (160 + 3) 1 = nI d) (h12 : μ.1 0 12 = nI d) (hn : 1 ≤ n ∧ n ≤ 12) : ∃ v τ ν, X10_doCall σ (nI n) = some (v, τ) ∧ bd (X11_known μ) (fun r12 s14 => bd (X11_calls s14 (0) (nI n)) (fun r15 s17 => some (r15, s17))) = some (v, ν) ∧ RR τ ν ∧ RG τ ν c ∧ τ.1 (160 + 3) 1 = nI (d + 1) := by
  have hP4 := hG.P4
  have hC := hG.2.2.2.1
  have hV := hG.hv
  unfold X10_doCall
  rw [add_eq σ hd hsz, bd_some, known_eq μ hd h12, bd_some]
  generalize hS : mrow (mrow σ (168 + 3) (upd (σ.1 (168 + 3)) d (nI n))) (160 + 3) (upd (σ.1 (160 + 3)) 1 (nI (d + 1))) = S
  have rS : ∀ q, q ≠ 163 → q ≠ 171 → S.1 q = σ.1 q := fun q q1 q2 => by rw [← hS, mrow_ne q1, mrow_ne q2]
  have S2 : S.2 = σ.2 := by rw [← hS]; rfl
  have hCS : CF S c := hC.of (rS _ (by omega) (by omega)) (rS _ (by omega) (by omega)) (rS _ (by omega) (by omega)) (fun i hi => rS _ (by omega) (by omega))
  have hHS : HX S 5 = HX σ 5 := HX_of (rS _ (by omega) (by omega)) (rS _ (by omega) (by omega))
  rw [ring15 S (by decide) hCS (by rw [hHS]; exact hV.m hP4) (by omega), bd_some, hHS]
  generalize hN : mrow (mwI μ 0 12 (nI (d + 1))) 10 (cpF (μ.1 10) 0 (8 * (d + 1)) 8) = N
  have rN : ∀ q, q ≠ 0 → q ≠ 10 → N.1 q = μ.1 q := fun q q0 q10 => by rw [← hN, mrow_ne q10, mwI_rk q0]
  have N0 : N.1 0 = upd (μ.1 0) 12 (nI (d + 1)) := by rw [← hN, mrow_ne (by decide), mwI_row, mrow_at]
  have N10 : N.1 10 = cpF (μ.1 10) 0 (8 * (d + 1)) 8 := by rw [← hN, mrow_at]
  have N2 : N.2 = μ.2 := by rw [← hN]; rfl
  have hP5 : (N.1 0 5).toInt = (c.1 : Int) := by rw [N0, upd_ne (by decide), hG.1, nI_ti (by omega)]
  have hcf : cfM N c.1 = c := by
    unfold cfM
    rw [rN 6 (by decide) (by decide), rN 7 (by decide) (by decide), ← hG.2.1, ← hG.2.2.1]
  have gN0 : getH (N.1 10) 0 = HX σ 5 := by rw [N10, getH_cp_out (Or.inl (by omega))]; exact hG.2.2.2.2.2.1.symm
  rw [calls_eq N (a1 := 0) (b := 0) (P := c.1) (by decide) (by decide) hP5 hP4, bd_some, hcf, gN0]
  have n4 : N.1 10 (0 + 4) = HX σ 5 4 := by
    have := congrFun gN0 4
    rw [getH_lt (by omega)] at this
    exact this
  rw [n4]
  generalize hTe : rgX S c 5 15 (nI n) = T
  generalize hVv : mrow N 10 (putH (N.1 10) 0 (ringH c (HX σ 5) (nI n))) = V
  have rT : ∀ q, q ≠ 149 → q ≠ 157 → T.1 q = S.1 q := fun q q1 q2 => by rw [← hTe, rgX_row q2 q1]
  have hF : FrH σ μ T V := ⟨fun q q1 q2 q3 q4 => by rw [rT q q1 q2, rS q (by omega) (by omega)], by rw [← hTe, rgX_2, S2], fun q q0 q10 q11 => by rw [← hVv, mrow_ne q10, rN q q0 q10], fun q q12 => by rw [← hVv, mrow_ne (by decide), N0, upd_ne q12], by rw [← hVv]; exact N2⟩
  have hd1 : T.1 (160 + 3) 1 = nI (d + 1) := by rw [rT _ (by omega) (by omega), ← hS, mrow_at, upd_at]
  have hst : ∀ h' : hT, dStep c h' n = ringH c h' (nI n) := fun h' => by unfold dStep; rw [if_pos (by omega)]
  have V10 : V.1 10 = putH (cpF (μ.1 10) 0 (8 * (d + 1)) 8) 0 (ringH c (HX σ 5) (nI n)) := by rw [← hVv, mrow_at, N10]
  have hGT : RG T V c := by
    refine hG.push hF hd hsz (Or.inl hn) ?_ hd1 (fun k hk => ?_) (fun k hk => ⟨?_, ?_⟩) ?_ ?_ ?_ ?_ (fun b h8 hb => ?_)
    · rw [← hTe, rgX_HX hP4, hHS, hst]
    · rw [rT _ (by omega) (by omega), ← hS, mrow_ne (by decide), mrow_at]
    · rw [rT _ (by omega) (by omega), rS _ (by omega) (by omega)]
    · rw [rT _ (by omega) (by omega), rS _ (by omega) (by omega)]
    · rw [← hVv, mrow_ne (by decide), N0, upd_at]
    · rw [← hVv, mrow_ne (by decide), rN 11 (by decide) (by decide)]
    · rw [V10, getH_put (ringH_8 hP4 (fun q hq => by rw [hG.2.2.2.2.2.1]; exact getH_8 q hq)), hst, ← hG.2.2.2.2.2.1]
    · rw [V10, getH_put_out (Or.inr (by omega)), getH_cp_in (by omega)]
      rw [show 0 + (8 * (d + 1) - 8 * (d + 1)) = 0 by omega]
    · rw [V10, getH_put_out (Or.inr (by omega)), getH_cp_out (by omega)]
  exact ⟨_, T, V, rfl, rfl, h.hallop hF hGT, hGT, hd1⟩
/-- a place rubbed in both -/
theorem rub_both {σ μ : mS} {c : cT} (h : RR σ μ) (hG : RG σ μ c) {d i p : Nat} (hd : d < 40) (hsz : σ.1 (160 + 3) 1 = nI d) (h12 : μ.1 0 12 = nI d) (hi : i < c.1) (hp : p < 6) : ∃ τ m ν, X10_doRub σ (nI i) (nI p) = some ((), τ) ∧ X11_known μ = some ((), m) ∧ ν = mwI m 10 i ((m.1 10 i) ^^^ ((1 : Int32) <<< (nI p &&& 31))) ∧ RR τ ν ∧ RG τ ν c ∧ τ.1 (160 + 3) 1 = nI (d + 1) := by
  have hP4 := hG.P4
  unfold X10_doRub
  have ec : (((16 : Int32) + (nI i * 6)) + nI p) = nI (16 + 6 * i + p) := by
    have k6 : (6 : Int32).toInt = 6 := by decide
    have e6 : (nI i * 6).toInt = ((6 * i : Nat) : Int) := by
      rw [i_mul (by rw [k6, nI_ti (by omega)]; omega) (by rw [k6, nI_ti (by omega)]; omega), k6, nI_ti (by omega)]
      omega
    exact i_nI (i32_add (i32_add (a := 16) (by decide) e6 (by omega)) (nI_ti (by omega)) (by omega))
  rw [ec, add_eq σ hd hsz, bd_some, known_eq μ hd h12]
  generalize hS : mrow (mrow σ (168 + 3) (upd (σ.1 (168 + 3)) d (nI (16 + 6 * i + p)))) (160 + 3) (upd (σ.1 (160 + 3)) 1 (nI (d + 1))) = S
  have rS : ∀ q, q ≠ 163 → q ≠ 171 → S.1 q = σ.1 q := fun q q1 q2 => by rw [← hS, mrow_ne q1, mrow_ne q2]
  have S2 : S.2 = σ.2 := by rw [← hS]; rfl
  have hHS : HX S 5 = HX σ 5 := HX_of (rS _ (by omega) (by omega)) (rS _ (by omega) (by omega))
  rw [turn_eq S (by omega), bd_some]
  generalize hN : mrow (mwI μ 0 12 (nI (d + 1))) 10 (cpF (μ.1 10) 0 (8 * (d + 1)) 8) = N
  have rN : ∀ q, q ≠ 0 → q ≠ 10 → N.1 q = μ.1 q := fun q q0 q10 => by rw [← hN, mrow_ne q10, mwI_rk q0]
  have N0 : N.1 0 = upd (μ.1 0) 12 (nI (d + 1)) := by rw [← hN, mrow_ne (by decide), mwI_row, mrow_at]
  have N10 : N.1 10 = cpF (μ.1 10) 0 (8 * (d + 1)) 8 := by rw [← hN, mrow_at]
  have N2 : N.2 = μ.2 := by rw [← hN]; rfl
  have gN0 : getH (N.1 10) 0 = HX σ 5 := by rw [N10, getH_cp_out (Or.inl (by omega))]; exact hG.2.2.2.2.2.1.symm
  generalize hTe : mrow S (152 + 5) (upd (S.1 (152 + 5)) i (S.1 (152 + 5) i ^^^ ((1 : Int32) <<< (nI p &&& 31)))) = T
  refine ⟨T, N, _, rfl, rfl, rfl, ?_⟩
  generalize hVv : mwI N 10 i ((N.1 10 i) ^^^ ((1 : Int32) <<< (nI p &&& 31))) = V
  have rT : ∀ q, q ≠ 157 → T.1 q = S.1 q := fun q q1 => by rw [← hTe, mrow_ne q1]
  have hF : FrH σ μ T V := ⟨fun q q1 q2 q3 q4 => by rw [rT q q2, rS q (by omega) (by omega)], by rw [← hTe]; exact S2, fun q q0 q10 q11 => by rw [← hVv, mwI_rk q10, rN q q0 q10], fun q q12 => by rw [← hVv, mwI_rk (by decide), N0, upd_ne q12], by rw [← hVv]; exact N2⟩
  have hd1 : T.1 (160 + 3) 1 = nI (d + 1) := by rw [rT _ (by omega), ← hS, mrow_at, upd_at]
  have hst : ∀ h' : hT, dStep c h' (16 + 6 * i + p) = turnH h' i p := fun h' => by
    unfold dStep
    rw [if_neg (by omega), show (16 + 6 * i + p - 16) / 6 = i by omega, show (16 + 6 * i + p - 16) % 6 = p by omega]
  have V10 : V.1 10 = upd (N.1 10) i ((N.1 10 i) ^^^ ((1 : Int32) <<< (nI p &&& 31))) := by rw [← hVv, mwI_row, mrow_at]
  have g0 : getH (V.1 10) 0 = turnH (HX σ 5) i p := by
    rw [V10, ← gN0]
    unfold turnH
    rw [getH_lt (show i < 8 by omega), Nat.zero_add]
    funext q
    by_cases hq : q < 8
    · rw [getH_lt hq, Nat.zero_add]
      by_cases e : q = i
      · subst e; rw [upd_at, upd_at]
      · rw [upd_ne e, upd_ne e, getH_lt hq, Nat.zero_add]
    · rw [upd_ne (by omega), getH_8 q (by omega), getH_8 q (by omega)]
  have gfar : ∀ b, 8 ≤ b → getH (V.1 10) b = getH (N.1 10) b := fun b hb => by
    funext q
    unfold getH
    by_cases hq : q < 8
    · rw [if_pos hq, if_pos hq, V10, upd_ne (by omega)]
    · rw [if_neg hq, if_neg hq]
  have hGT : RG T V c := by
    refine hG.push hF hd hsz (m := 16 + 6 * i + p) (Or.inr (by omega)) ?_ hd1 (fun k hk => ?_) (fun k hk => ⟨?_, ?_⟩) ?_ ?_ ?_ ?_ (fun b h8 hb => ?_)
    · rw [← hTe, turn_HX (by omega), hHS, hst]
    · rw [rT _ (by omega), ← hS, mrow_ne (by decide), mrow_at]
    · rw [rT _ (by omega), rS _ (by omega) (by omega)]
    · rw [rT _ (by omega), rS _ (by omega) (by omega)]
    · rw [← hVv, mwI_rk (by decide), N0, upd_at]
    · rw [← hVv, mwI_rk (by decide), rN 11 (by decide) (by decide)]
    · rw [g0, hst, ← hG.2.2.2.2.2.1]
    · rw [gfar _ (by omega), N10, getH_cp_in (by omega)]
      rw [show 0 + (8 * (d + 1) - 8 * (d + 1)) = 0 by omega]
    · rw [gfar _ h8, N10, getH_cp_out (by omega)]
  exact ⟨h.hallop hF hGT, hGT, hd1⟩
theorem pz {c : Nat} (h : c ≤ 4) : (nI c = 0) ↔ c = 0 := eqL (v := 0) (by omega) (by omega)
theorem sim_call {σ μ : mS} (h : RR σ μ) (a1 : Int32) : SIM (X10_call σ a1) (X11_call μ a1) := by
  obtain ⟨c, hG⟩ := h.2.2.1
  have hP4 := hG.P4
  unfold X10_call X11_call
  by_cases hb : a1.toInt < 1 ∨ 12 < a1.toInt
  · exact SIM.L (isNumber_zero.mpr hb) (SIM.R (in_zero.mpr hb) (SIM.ret h rfl))
  obtain ⟨n, hn, rfl⟩ := i_ex (a := a1) (m := 13) (by omega) (by omega)
  rw [nI_ti (by omega)] at hb
  refine SIM.nL (fun q => by have := isNumber_zero.mp q; rw [nI_ti (by omega)] at this; exact hb this) (SIM.nR (fun q => by have q2 : (nI n).toInt < 1 ∨ 12 < (nI n).toInt := in_zero.mp q; rw [nI_ti (by omega)] at q2; exact hb q2) ?_)
  rw [hG.pX, hG.1]
  refine SIM.ite Iff.rfl (fun _ => SIM.ret h rfl) (fun hp => SIM.R (by decide) ?_)
  rw [show (5 : Int32).toNatClampNeg = 5 by decide, hG.bag, has_eq _ (by omega), holds_eq (by omega)]
  refine SIM.ite Iff.rfl (fun _ => SIM.ret h rfl) (fun _ => ?_)
  obtain ⟨d, hd, e1, e2⟩ := dnum hG
  rw [e1, e2]
  by_cases h40 : d = 40
  · subst h40
    exact SIM.nL (by decide) (SIM.R (by decide) (SIM.ret h rfl))
  refine SIM.L (i_lt.mpr (by rw [nI_ti (by omega)]; show (d : Int) < 40; omega)) (SIM.nR (fun q => h40 ((eqL (v := 40) (by omega) (by omega)).mp q)) ?_)
  obtain ⟨v, τ, ν, g1, g2, hR, -⟩ := call_both h hG (by omega) e1 e2 (n := n) (by omega)
  rw [g1, g2, bd_some]
  exact ⟨v, τ, ν, rfl, rfl, hR⟩
theorem sim_rub {σ μ : mS} (h : RR σ μ) (a1 a2 : Int32) : SIM (X10_rub σ a1 a2) (X11_rub μ a1 a2) := by
  obtain ⟨c, hG⟩ := h.2.2.1
  have hP4 := hG.P4
  unfold X10_rub X11_rub
  by_cases hb : a1.toInt < 0 ∨ (c.1 : Int) ≤ a1.toInt
  · rw [if_pos (hG.plX.mpr hb), if_pos (hG.plM.mpr hb)]
    exact SIM.ret h rfl
  rw [if_neg (fun q => hb (hG.plX.mp q)), if_neg (fun q => hb (hG.plM.mp q))]
  obtain ⟨i, hi, hi4, rfl⟩ := plEx hG hb
  by_cases hp : a2.toInt < 0 ∨ 6 ≤ a2.toInt
  · refine SIM.L (isPlace_zero.mpr hp) (SIM.R (in_zero.mpr (show a2.toInt < 0 ∨ 5 < a2.toInt by omega)) (SIM.ret h rfl))
  obtain ⟨p, hp6, rfl⟩ := i_ex (a := a2) (m := 6) (by omega) (by omega)
  refine SIM.nL (fun q => hp (isPlace_zero.mp q)) (SIM.nR (fun q => by have q2 : (nI p).toInt < 0 ∨ 5 < (nI p).toInt := in_zero.mp q; omega) ?_)
  obtain ⟨d, hd, e1, e2⟩ := dnum hG
  rw [e1, e2]
  by_cases h40 : d = 40
  · subst h40
    exact SIM.nL (by decide) (SIM.R (by decide) (SIM.ret h rfl))
  refine SIM.L (i_lt.mpr (by rw [nI_ti (by omega)]; show (d : Int) < 40; omega)) (SIM.nR (fun q => h40 ((eqL (v := 40) (by omega) (by omega)).mp q)) ?_)
  obtain ⟨τ, m, ν, g1, g2, g3, hR, hG2, -⟩ := rub_both h hG (by omega) e1 e2 hi hp6
  have v1 : vin (nI i) 1360 = true := vinI (by omega) (by decide)
  rw [g1, g2, bd_some, bd_some, if_pos (vinI hi4 (by decide)), if_pos v1, if_pos v1, if_pos v1, nI_nat (by omega), ← g3]
  exact SIM.ret hR (hG2.mk hi4).symm
