theorem un1_app {A0 α : Type} {f : A0 → α} {a : A0} : un1 f a = f a := rfl
set_option maxHeartbeats 4000000 in
theorem sim_hall {σ μ : mS} (h : RR σ μ) (a1 : Int32) : SIM (X10_hall σ a1) (X11_hall μ a1) := by
  unfold X10_hall X11_hall
  by_cases hb : a1.toInt < 0 ∨ 4 ≤ a1.toInt
  · rw [refText_bad hb, bd_some, if_neg (by decide), if_pos (isTextM_zero.mpr hb)]
    exact SIM.ret h rfl
  obtain ⟨r, hr, rfl⟩ := textEx hb
  have hv : vin (nI r) 4 = true := vinI hr (by decide)
  obtain ⟨w1, w2, w3, w4⟩ := h.2.1 r hr
  rw [if_neg (textY hr).2]
  refine SIM.R hv ?_
  rw [nI_nat (by omega), w1]
  by_cases hs : (σ.1 48 r).toInt < 0
  · rw [refText_no hr hs, bd_some, if_neg (by decide), if_neg (nle hs), f1M, bd_some]
    exact SIM.ret (h.fnd (by decide)) rfl
  rw [refText_ok hr (by omega), bd_some, if_pos rfl]
  refine SIM.R (ge0 (by omega)) (SIM.L hv (SIM.L hv ?_))
  obtain ⟨n, hn, en⟩ := i_ex (a := σ.1 48 r) (m := 61) (by omega) (by omega)
  have en2 : (σ.1 48 r).toInt = (n : Int) := by rw [en, nI_ti (by omega)]
  obtain ⟨v, s, m, e1, e2, hF, hok⟩ := read_sim (σ := σ) (μ := μ) hr (by omega) en (by rw [w1]; exact en) (fun i hi => w4 i (by omega))
  rw [en, e1, e2, bd_some, bd_some]
  refine SIM.ite Iff.rfl (fun hv9 => ?_) (fun _ => SIM.ret (h.scr hF) rfl)
  obtain ⟨k, hk1, hk4, s56, m08, hP⟩ := hok hv9
  obtain ⟨⟨u, s15⟩, f0, f1, f2, f3, f4⟩ := fillBy_eq s hk4 s56
  dsimp only at f1 f2 f3 f4
  rw [f0, bd_some, hall60, Option.bind_some, m08, hall48 _ hk4 mwI_rd, Option.bind_some]
  have hRs := h.scr hF
  generalize hS : mwI (mwI (mwI (mwI s15 (160 + 3) 1 0) (160 + 0) 1 (-1)) (160 + 1) 1 (-1)) (160 + 2) 1 (-1) = S
  have rS : ∀ q, ¬ (160 ≤ q ∧ q < 164) → S.1 q = s15.1 q := fun q hq => by rw [← hS, mwI_rk (by omega), mwI_rk (by omega), mwI_rk (by omega), mwI_rk (by omega)]
  have S2 : S.2 = s.2 := by rw [← hS]; exact f2
  have k0 : S.1 (160 + 0) 1 = -1 := by rw [← hS, mwI_rk (by decide), mwI_rk (by decide), mwI_rd]
  have k1 : S.1 (160 + 1) 1 = -1 := by rw [← hS, mwI_rk (by decide), mwI_rd]
  have k2 : S.1 (160 + 2) 1 = -1 := by rw [← hS, mwI_rd]
  have k3 : S.1 (160 + 3) 1 = 0 := by rw [← hS, mwI_rk (by decide), mwI_rk (by decide), mwI_rk (by decide), mwI_rd]
  have p88 : S.1 88 4 = nI k := by rw [rS 88 (by omega)]; exact f3
  rw [un1_app, un1_app, begin_eq S (by decide), bd_some, hall76, Option.bind_some, un1_app, hall102, Option.bind_some, un1_app, hall139, Option.bind_some, un1_app]
  generalize hN : mrow (mrow (mrow (mwI m 0 5 (nI k)) 6 (cpT ((mwI m 0 5 (nI k)).1 8) ((mwI m 0 5 (nI k)).1 6) 0 0 k)) 7 (cpT ((mrow (mwI m 0 5 (nI k)) 6 (cpT ((mwI m 0 5 (nI k)).1 8) ((mwI m 0 5 (nI k)).1 6) 0 0 k)).1 9) ((mrow (mwI m 0 5 (nI k)) 6 (cpT ((mwI m 0 5 (nI k)).1 8) ((mwI m 0 5 (nI k)).1 6) 0 0 k)).1 7) 0 0 24)) 10 (cpT (frH 1) ((mrow (mrow (mwI m 0 5 (nI k)) 6 (cpT ((mwI m 0 5 (nI k)).1 8) ((mwI m 0 5 (nI k)).1 6) 0 0 k)) 7 (cpT ((mrow (mwI m 0 5 (nI k)) 6 (cpT ((mwI m 0 5 (nI k)).1 8) ((mwI m 0 5 (nI k)).1 6) 0 0 k)).1 9) ((mrow (mwI m 0 5 (nI k)) 6 (cpT ((mwI m 0 5 (nI k)).1 8) ((mwI m 0 5 (nI k)).1 6) 0 0 k)).1 7) 0 0 24)).1 10) 0 0 8) = N
  have rN : ∀ q, q ≠ 0 → q ≠ 6 → q ≠ 7 → q ≠ 10 → N.1 q = m.1 q := fun q q0 q6 q7 q10 => by rw [← hN, mrow_ne q10, mrow_ne q7, mrow_ne q6, mwI_rk q0]
  have N2 : N.2 = m.2 := by rw [← hN]; rfl
  have N0 : N.1 0 = upd (m.1 0) 5 (nI k) := by rw [← hN, mrow_ne (by decide), mrow_ne (by decide), mrow_ne (by decide), mwI_row, mrow_at]
  have N6 : ∀ i, i < k → N.1 6 i = m.1 8 i := fun i hi => by
    rw [← hN, mrow_ne (by decide), mrow_ne (by decide), mrow_at, mwI_rk (by decide)]
    unfold cpT
    rw [if_pos (by omega), Nat.zero_add, Nat.sub_zero]
  have N7 : ∀ i, i < 24 → N.1 7 i = m.1 9 i := fun i hi => by
    rw [← hN, mrow_ne (by decide), mrow_at, mrow_ne (by decide), mwI_rk (by decide)]
    unfold cpT
    rw [if_pos (by omega), Nat.zero_add, Nat.sub_zero]
  have N10 : ∀ q, q < 8 → N.1 10 q = frH 1 q := fun q hq => by
    rw [← hN, mrow_at]
    unfold cpT
    rw [if_pos (by omega), Nat.zero_add, Nat.sub_zero]
  have fr1 : frH 1 = frH k := by
    funext q
    unfold frH
    rw [if_neg (by decide : ¬ (1 = 0)), if_neg (by omega : ¬ (k = 0))]
  -- the new memory of the reference
  generalize hV : mwI (mwI (mwI (mwI N 0 12 0) 11 0 (-1)) 11 1 (-1)) 11 2 (-1) = V
  have rV : ∀ q, q ≠ 0 → q ≠ 11 → V.1 q = N.1 q := fun q q0 q11 => by rw [← hV, mwI_rk q11, mwI_rk q11, mwI_rk q11, mwI_rk q0]
  have V0 : V.1 0 = upd (N.1 0) 12 0 := by rw [← hV, mwI_rk (by decide), mwI_rk (by decide), mwI_rk (by decide), mwI_row, mrow_at]
  have V11 : ∀ q, q < 3 → V.1 11 q = -1 := fun q hq => by
    rcases (show q = 0 ∨ q = 1 ∨ q = 2 by omega) with rfl | rfl | rfl
    · rw [← hV]; rfl
    · rw [← hV]; rfl
    · rw [← hV]; rfl
  have V2 : V.2 = m.2 := by rw [← hV]; exact N2
  generalize hX : hlX S 5 (seg 0 4 0 (S.1 (152 + 5))) 0 (if (S.1 88 4) = 0 then 0 else 8190) 0 0 = X
  have rX : ∀ q, q ≠ 152 + 5 → q ≠ 144 + 5 → X.1 q = S.1 q := fun q q1 q2 => by rw [← hX, hlX_row q1 q2]
  have X2e : X.2 = s.2 := by rw [← hX]; exact S2
  have X5 : HX X 5 = frH k := by rw [← hX, begin_HX (P := k) (by rw [p88, nI_ti (by omega)])]
  have sX : ∀ q, q ≠ 157 → q ≠ 149 → ¬ (160 ≤ q ∧ q < 164) → q ≠ 88 → q ≠ 112 → q ≠ 136 → ¬ (128 ≤ q ∧ q < 132) → X.1 q = s.1 q := fun q a1 a2 a3 a4 a5 a6 a7 => by rw [rX q (by omega) (by omega), rS q a3]; exact f1 q a4 a5 a6 a7
  have sV : ∀ q, q ≠ 0 → q ≠ 6 → q ≠ 7 → q ≠ 10 → q ≠ 11 → V.1 q = m.1 q := fun q a0 a6 a7 a10 a11 => by rw [rV q a0 a11, rN q a0 a6 a7 a10]
  have ans : X.1 88 4 = V.1 0 5 := by rw [rX 88 (by omega) (by omega), p88, V0, upd_ne (by decide), N0, upd_at]
  obtain ⟨hW, hT, -, hO⟩ := hRs
  refine SIM.ret ⟨?_, ?_, ⟨(k, V.1 6, V.1 7), ?_⟩, ?_⟩ ans
  · exact hW.of (sX _ (by omega) (by omega) (by omega) (by omega) (by omega) (by omega) (by omega)) (fun q hq => sX _ (by omega) (by omega) (by omega) (by omega) (by omega) (by omega) (by omega)) (sV _ (by omega) (by omega) (by omega) (by omega) (by omega)) (sV _ (by omega) (by omega) (by omega) (by omega) (by omega))
  · exact hT.of (sX _ (by omega) (by omega) (by omega) (by omega) (by omega) (by omega) (by omega)) (fun q hq => sX _ (by omega) (by omega) (by omega) (by omega) (by omega) (by omega) (by omega)) (sV _ (by omega) (by omega) (by omega) (by omega) (by omega)) (sV _ (by omega) (by omega) (by omega) (by omega) (by omega))
  · have V6 : ∀ i, i < k → V.1 6 i = m.1 8 i := fun i hi => by rw [rV 6 (by decide) (by decide)]; exact N6 i hi
    have V7 : ∀ i, i < 24 → V.1 7 i = m.1 9 i := fun i hi => by rw [rV 7 (by decide) (by decide)]; exact N7 i hi
    have g0 : getH (V.1 10) 0 = frH k := by
      funext q
      unfold getH
      by_cases hq : q < 8
      · rw [if_pos hq, Nat.zero_add, rV 10 (by decide) (by decide), N10 q hq, fr1]
      · rw [if_neg hq]
        unfold frH
        rw [if_neg (by omega)]
    refine ⟨?_, rfl, rfl, ⟨?_, hk4, fun i hi => ⟨?_, ?_, fun p hp => ⟨?_, ?_⟩⟩⟩, fun i hi p q hp hq e => ?_, ?_, ?_, ⟨0, fun _ => 0, ?_, by omega, fun z hz => absurd hz (Nat.not_lt_zero _), g0, fun z hz => absurd hz (Nat.not_lt_zero _)⟩, fun z hz => ⟨?_, Or.inl ?_⟩⟩
    · rw [V0, upd_ne (by decide), N0, upd_at]
    · rw [rX 88 (by omega) (by omega), p88, nI_ti (by omega)]
    · obtain ⟨r9, hr9, q1, q2⟩ := (hP i hi).1
      exact ⟨r9, hr9, by rw [rX 112 (by omega) (by omega), rS 112 (by omega), (f4 i hi).1]; exact q1, by show V.1 6 i = _; rw [V6 i hi]; exact q2⟩
    · rw [rX 136 (by omega) (by omega), rS 136 (by omega), (f4 i hi).2.1]
      refine cbG_cb (fun q hq => ?_)
      rw [((hP i hi).2.1 q hq).1]
      exact (V7 _ (by have : i < k := hi; omega)).symm
    · rw [rX (128 + i) (by omega) (by omega), rS (128 + i) (by have : i < k := hi; omega), (f4 i hi).2.2 p hp, ((hP i hi).2.1 p hp).1]
      exact (V7 _ (by have : i < k := hi; omega)).symm
    · obtain ⟨w, y1, y2, y3⟩ := ((hP i hi).2.1 p hp).2
      exact ⟨w, y1, y2, by show V.1 7 (6 * i + p) = _; rw [V7 _ (by have : i < k := hi; omega)]; exact y3⟩
    · have e' : V.1 7 (6 * i + p) = V.1 7 (6 * i + q) := e
      rw [V7 _ (by have : i < k := hi; omega), V7 _ (by have : i < k := hi; omega)] at e'
      exact (hP i hi).2.2 p q hp hq e'
    · rw [X5, g0]
    · rw [V0, upd_at, rX _ (by omega) (by omega), k3]
    · rw [rX _ (by omega) (by omega), k3]; rfl
    · rw [V11 z hz, rX _ (by omega) (by omega)]
      rcases (show z = 0 ∨ z = 1 ∨ z = 2 by omega) with rfl | rfl | rfl
      · exact k0.symm
      · exact k1.symm
      · exact k2.symm
    · rw [rX _ (by omega) (by omega)]
      rcases (show z = 0 ∨ z = 1 ∨ z = 2 by omega) with rfl | rfl | rfl
      · exact k0
      · exact k1
      · exact k2
  · refine hO.of ?_ ?_ X2e (fun f hf => ?_) ?_ ?_ V2 (fun f hf => ?_)
    · rw [sX 0 (by omega) (by omega) (by omega) (by omega) (by omega) (by omega) (by omega)]
    · rw [sX 0 (by omega) (by omega) (by omega) (by omega) (by omega) (by omega) (by omega)]
    · rw [sX 208 (by omega) (by omega) (by omega) (by omega) (by omega) (by omega) (by omega)]
    · rw [V0, upd_ne (by decide), N0, upd_ne (by decide)]
    · rw [V0, upd_ne (by decide), N0, upd_ne (by decide)]
    · rw [sV 12 (by omega) (by omega) (by omega) (by omega) (by omega)]
