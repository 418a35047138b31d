/-! what comes, tried aside -/
def FrX (σ τ : mS) : Prop := (∀ q, ¬ (144 ≤ q ∧ q < 149) → ¬ (152 ≤ q ∧ q < 157) → q ≠ 192 → q ≠ 200 → q ≠ 0 → τ.1 q = σ.1 q) ∧ (∀ q, q ≠ 11 → τ.1 0 q = σ.1 0 q) ∧ τ.2 = σ.2
def FrM (μ ν : mS) : Prop := (∀ q, q ≠ 10 → q ≠ 13 → q ≠ 14 → q ≠ 15 → ν.1 q = μ.1 q) ∧ (∀ q, q < 1312 → ν.1 10 q = μ.1 10 q) ∧ ν.2 = μ.2
theorem FrX.rf {σ : mS} : FrX σ σ := ⟨fun _ _ _ _ _ _ => rfl, fun _ _ => rfl, rfl⟩
theorem FrM.rf {σ : mS} : FrM σ σ := ⟨fun _ _ _ _ _ => rfl, fun _ _ => rfl, rfl⟩
theorem FrX.tr {a b c : mS} (h1 : FrX a b) (h2 : FrX b c) : FrX a c := ⟨fun q a1 a2 a3 a4 a5 => (h2.1 q a1 a2 a3 a4 a5).trans (h1.1 q a1 a2 a3 a4 a5), fun q a1 => (h2.2.1 q a1).trans (h1.2.1 q a1), h2.2.2.trans h1.2.2⟩
theorem FrM.tr {a b c : mS} (h1 : FrM a b) (h2 : FrM b c) : FrM a c := ⟨fun q a1 a2 a3 a4 => (h2.1 q a1 a2 a3 a4).trans (h1.1 q a1 a2 a3 a4), fun q a1 => (h2.2.1 q a1).trans (h1.2.1 q a1), h2.2.2.trans h1.2.2⟩
theorem RG.tri {σ μ τ ν : mS} {c : cT} (hG : RG σ μ c) (hX : FrX σ τ) (hM : FrM μ ν) : RG τ ν c := hG.of (fun k hk => hX.1 k (by unfold gX at hk; omega) (by unfold gX at hk; omega) (by unfold gX at hk; omega) (by unfold gX at hk; omega) (by unfold gX at hk; omega)) (by rw [hM.1 0 (by decide) (by decide) (by decide) (by decide)]) (by rw [hM.1 0 (by decide) (by decide) (by decide) (by decide)]) (hM.1 6 (by decide) (by decide) (by decide) (by decide)) (hM.1 7 (by decide) (by decide) (by decide) (by decide)) hM.2.1 (fun k _ => by rw [hM.1 11 (by decide) (by decide) (by decide) (by decide)])
theorem RR.tri {σ μ τ ν : mS} (h : RR σ μ) (hX : FrX σ τ) (hM : FrM μ ν) : RR τ ν := by
  obtain ⟨hW, hT, ⟨c, hG⟩, hO⟩ := h
  refine ⟨hW.of (hX.1 _ (by omega) (by omega) (by omega) (by omega) (by omega)) (fun r hr => hX.1 _ (by omega) (by omega) (by omega) (by omega) (by omega)) (hM.1 1 (by decide) (by decide) (by decide) (by decide)) (hM.1 2 (by decide) (by decide) (by decide) (by decide)), hT.of (hX.1 _ (by omega) (by omega) (by omega) (by omega) (by omega)) (fun r hr => hX.1 _ (by omega) (by omega) (by omega) (by omega) (by omega)) (hM.1 4 (by decide) (by decide) (by decide) (by decide)) (hM.1 5 (by decide) (by decide) (by decide) (by decide)), ⟨c, hG.tri hX hM⟩, hO.of (hX.2.1 13 (by decide)) (hX.2.1 16 (by decide)) hX.2.2 (fun f _ => by rw [hX.1 208 (by omega) (by omega) (by omega) (by omega) (by omega)]) (by rw [hM.1 0 (by decide) (by decide) (by decide) (by decide)]) (by rw [hM.1 0 (by decide) (by decide) (by decide) (by decide)]) hM.2.2 (fun f _ => by rw [hM.1 12 (by decide) (by decide) (by decide) (by decide)])⟩
theorem FrX.cf {σ τ : mS} {c : cT} (hX : FrX σ τ) (hC : CF σ c) : CF τ c := hC.of (hX.1 _ (by omega) (by omega) (by omega) (by omega) (by omega)) (hX.1 _ (by omega) (by omega) (by omega) (by omega) (by omega)) (hX.1 _ (by omega) (by omega) (by omega) (by omega) (by omega)) (fun i hi => hX.1 _ (by omega) (by omega) (by omega) (by omega) (by omega))
def ringW (c : cT) (who : Int32) (h : hT) (num : Int32) : hT := fun s => if s < 4 then (if s < c.1 ∧ bt who s = true then nmk c h num s else h s) else if s = 4 then h 4 ||| wnsW c who h num c.1 else if s = 5 then h 5 &&& (((1 : Int32) <<< (num &&& 31)) ^^^ (-1)) else if s = 6 then h 6 + 1 else if s = 7 then num else 0
theorem rgX_HXW {σ : mS} {c : cT} {i : Nat} {who num : Int32} : HX (rgX σ c i who num) i = ringW c who (HX σ i) num := by
  funext s
  show (if s < 4 then (rgX σ c i who num).1 (152 + i) s else if s = 4 then (rgX σ c i who num).1 (144 + i) 2 else if s = 5 then (rgX σ c i who num).1 (144 + i) 3 else if s = 6 then (rgX σ c i who num).1 (144 + i) 5 else if s = 7 then (rgX σ c i who num).1 (144 + i) 4 else 0) = _
  rw [rgX_152, rgX_144]
  unfold ringW
  by_cases h4 : s < 4
  · rw [if_pos h4, if_pos h4]
    unfold mkX
    by_cases hb : s < c.1 ∧ bt who s = true
    · rw [if_pos hb, if_pos hb]
    · rw [if_neg hb, if_neg hb]
      unfold HX
      rw [if_pos h4]
  · rw [if_neg h4, if_neg h4]
    rfl
theorem ringW_15 {c : cT} {h : hT} {num : Int32} (hP : c.1 ≤ 4) (h8 : ∀ q, 8 ≤ q → h q = 0) : ringW c 15 h num = ringH c h num := by
  funext s
  unfold ringW ringH
  by_cases h4 : s < 4
  · rw [if_pos h4]
    by_cases hs : s < c.1
    · rw [if_pos ⟨hs, bt15 s h4⟩, if_pos hs]
    · rw [if_neg (fun z => hs z.1), if_neg hs, if_neg (by omega), if_neg (by omega), if_neg (by omega), if_neg (by omega)]
  · rw [if_neg h4, if_neg (by omega : ¬ s < c.1), wnsW_15 hP]
    by_cases e4 : s = 4
    · rw [if_pos e4, if_pos e4]
    · rw [if_neg e4, if_neg e4]
      by_cases e5 : s = 5
      · rw [if_pos e5, if_pos e5]
      · rw [if_neg e5, if_neg e5]
        by_cases e6 : s = 6
        · rw [if_pos e6, if_pos e6]
        · rw [if_neg e6, if_neg e6]
          by_cases e7 : s = 7
          · rw [if_pos e7, if_pos e7]
          · rw [if_neg e7, if_neg e7, h8 s (by omega)]
theorem HX_8 {σ : mS} {i : Nat} : ∀ q, 8 ≤ q → HX σ i q = 0 := fun q hq => by
  unfold HX
  rw [if_neg (by omega), if_neg (by omega), if_neg (by omega), if_neg (by omega), if_neg (by omega)]
theorem step_eq (s : mS) {c : cT} {e n : Nat} {who : Int32} (he : e < 4) (hC : CF s c) (hM : HM c (HX s e)) (hn : n < 31) : ∃ s', X10_stepAhead s (nI e) (nI n) who = some ((HX s e 4 ||| wnsW c who (HX s e) (nI n) c.1) &&& ((HX s e 4) ^^^ (-1)), s') ∧ HX s' (e + 1) = ringW c who (HX s e) (nI n) ∧ (∀ q, q ≠ 192 → q ≠ 144 + (e + 1) → q ≠ 152 + (e + 1) → s'.1 q = s.1 q) ∧ s'.1 192 = upd (s.1 192) e (nI n) ∧ s'.2 = s.2 := by
  unfold X10_stepAhead
  have e1 : (nI e + 1).toInt = ((e + 1 : Nat) : Int) := i32_add (nI_ti (by omega)) (b := 1) (by decide) (by omega)
  have e2 : (nI e + 1).toNatClampNeg = e + 1 := by rw [i_nat, e1]; rfl
  have v1 : vin (nI e + 1) 5 = true := vin_iff.mpr (by rw [e1]; omega)
  rw [if_pos (vinI he (by decide)), if_pos v1, if_pos (vinI (by omega) (by decide)), nI_nat (by omega), e2]
  generalize hS : mwI s 192 e (nI n) = S
  have rS : ∀ q, q ≠ 192 → S.1 q = s.1 q := fun q hq => by rw [← hS, mwI_rk hq]
  rw [take_eq S (by omega) (by omega) (by omega), bd_some, if_pos v1]
  generalize hT : hlX S (e + 1) (fun q => if q < 4 then S.1 (152 + e) q else S.1 (152 + (e + 1)) q) (S.1 (144 + e) 2) (S.1 (144 + e) 3) (S.1 (144 + e) 4) (S.1 (144 + e) 5) = T
  have rT : ∀ q, q ≠ 144 + (e + 1) → q ≠ 152 + (e + 1) → T.1 q = S.1 q := fun q q1 q2 => by rw [← hT, hlX_row q2 q1]
  have hHT : HX T (e + 1) = HX s e := by
    rw [← hT, take_HX]
    exact HX_of (rS _ (by omega)) (rS _ (by omega))
  have hCT : CF T c := hC.of (by rw [rT _ (by omega) (by omega), rS _ (by omega)]) (by rw [rT _ (by omega) (by omega), rS _ (by omega)]) (by rw [rT _ (by omega) (by omega), rS _ (by omega)]) (fun i hi => by rw [rT _ (by omega) (by omega), rS _ (by omega)])
  rw [ring_eq T (i := e + 1) (by omega) hCT (by rw [hHT]; exact hM) hn, bd_some]
  have h4 : T.1 (144 + (e + 1)) 2 = HX s e 4 := congrFun hHT 4
  refine ⟨rgX T c (e + 1) who (nI n), ?_, ?_, fun q q1 q2 q3 => ?_, ?_, ?_⟩
  · rw [hHT, h4]
    unfold rgX
    rw [hHT, h4]
  · rw [rgX_HXW, hHT]
  · rw [rgX_row q3 q2, rT q q2 q3, rS q q1]
  · rw [rgX_row (by omega) (by omega), rT _ (by omega) (by omega), ← hS, mwI_row, mrow_at]
  · rw [rgX_2, ← hT]
    show S.2 = s.2
    rw [← hS]
    rfl
set_option maxRecDepth 100000 in
theorem bc16 : ∀ n, n < 16 → J6_bitCount_0f7a4 (nI n) = bitsT (nI n) := by decide +kernel
set_option maxRecDepth 100000 in
theorem bc64 : ∀ n, n < 64 → J6_bitCount_0f7a4 (nI n) = bitsT (nI n) := by decide +kernel
/-- the reference's call in a slot that is tried -/
theorem tcall {μ m : mS} {c : cT} {σ : mS} {b n : Nat} (hG : RG σ μ c) (hF : FrM μ m) (hb : 1312 ≤ b) (hb2 : b + 8 ≤ 1360) : ∃ m', X11_calls m (nI b) (nI n) = some (wns c (getH (m.1 10) b) (nI n) c.1 &&& ((getH (m.1 10) b 4) ^^^ (-1)), m') ∧ getH (m'.1 10) b = ringH c (getH (m.1 10) b) (nI n) ∧ (∀ b', b' + 8 ≤ b ∨ b + 8 ≤ b' → getH (m'.1 10) b' = getH (m.1 10) b') ∧ FrM μ m' ∧ (∀ q, q ≠ 10 → m'.1 q = m.1 q) := by
  have hP4 := hG.P4
  have m0 : m.1 0 = μ.1 0 := hF.1 0 (by decide) (by decide) (by decide) (by decide)
  have hcf : cfM m c.1 = c := by
    unfold cfM
    rw [hF.1 6 (by decide) (by decide) (by decide) (by decide), hF.1 7 (by decide) (by decide) (by decide) (by decide), ← hG.2.1, ← hG.2.2.1]
  rw [calls_eq m (a1 := nI b) (b := b) (P := c.1) (nI_ti (by omega)) hb2 (by rw [m0, hG.1, nI_ti (by omega)]) hP4, hcf]
  have e4 : m.1 10 (b + 4) = getH (m.1 10) b 4 := (getH_lt (by omega)).symm
  refine ⟨mrow m 10 (putH (m.1 10) b (ringH c (getH (m.1 10) b) (nI n))), by rw [e4], ?_, fun b' hb' => ?_, ⟨fun q q1 q2 q3 q4 => ?_, fun q hq => ?_, hF.2.2⟩, fun q hq => mrow_ne hq⟩
  · rw [mrow_at, getH_put (ringH_8 hP4 getH_8)]
  · rw [mrow_at, getH_put_out hb']
  · rw [mrow_ne q1]
    exact hF.1 q q1 q2 q3 q4
  · rw [mrow_at]
    unfold putH
    rw [if_neg (by omega)]
    exact hF.2.1 q hq
theorem tcopy {μ m : mS} {s t : Nat} (hF : FrM μ m) (hs : s + 8 ≤ 1360) (ht : 1312 ≤ t) (ht2 : t + 8 ≤ 1360) (hd : s + 8 ≤ t) : ∃ m', X11_copies m (nI s) (nI t) 8 = some ((), m') ∧ getH (m'.1 10) t = getH (m.1 10) s ∧ (∀ b', b' + 8 ≤ t ∨ t + 8 ≤ b' → getH (m'.1 10) b' = getH (m.1 10) b') ∧ FrM μ m' ∧ (∀ q, q ≠ 10 → m'.1 q = m.1 q) := by
  rw [copies_eq m (s := s) (t := t) (n := 8) (nI_ti (by omega)) (nI_ti (by omega)) (by decide) hs ht2 (Or.inl hd)]
  refine ⟨_, rfl, ?_, fun b' hb' => ?_, ⟨fun q q1 q2 q3 q4 => ?_, fun q hq => ?_, hF.2.2⟩, fun q hq => mrow_ne hq⟩
  · rw [mrow_at, getH_cp_in (by omega), show s + (t - t) = s by omega]
  · rw [mrow_at, getH_cp_out hb']
  · rw [mrow_ne q1]
    exact hF.1 q q1 q2 q3 q4
  · rw [mrow_at]
    unfold cpF
    rw [if_neg (by omega)]
    exact hF.2.1 q hq
