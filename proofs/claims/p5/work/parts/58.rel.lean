/-! THE RELATION between the class's memory and the reference's -/
def RW (σ μ : mS) : Prop := ∀ r, r < 6 → μ.1 1 r = σ.1 24 r ∧ -1 ≤ (σ.1 24 r).toInt ∧ (σ.1 24 r).toInt ≤ 40 ∧ ∀ i : Nat, (i : Int) < (σ.1 24 r).toInt → μ.1 2 (40 * r + i) = σ.1 (16 + r) i
def RT (σ μ : mS) : Prop := ∀ t, t < 4 → μ.1 4 t = σ.1 48 t ∧ -1 ≤ (σ.1 48 t).toInt ∧ (σ.1 48 t).toInt ≤ 60 ∧ ∀ i : Nat, (i : Int) < (σ.1 48 t).toInt → μ.1 5 (60 * t + i) = σ.1 (40 + t) i
def DI (c : cT) : Prop := ∀ i, i < c.1 → ∀ p q, p < 6 → q < 6 → c.2.2 (6 * i + p) = c.2.2 (6 * i + q) → p = q
def RD (c : cT) (sz : Int32) (dr : Nat → Int32) (f : Nat → Int32) (b : Nat) : Prop := ∃ (d : Nat) (dn : Nat → Nat), sz = nI d ∧ d ≤ 40 ∧ (∀ k, k < d → dr k = nI (dn k) ∧ dOK c.1 (dn k)) ∧ getH f b = rpl c dn d ∧ ∀ k, k < d → getH f (b + 8 * (k + 1)) = rpl c dn k
def RK (c : cT) (sz : Int32) (dr : Nat → Int32) (f : Nat → Int32) (b : Nat) : Prop := sz = -1 ∨ RD c sz dr f b
def RG (σ μ : mS) (c : cT) : Prop := μ.1 0 5 = nI c.1 ∧ c.2.1 = μ.1 6 ∧ c.2.2 = μ.1 7 ∧ CF σ c ∧ DI c ∧ HX σ 5 = getH (μ.1 10) 0 ∧ μ.1 0 12 = σ.1 (160 + 3) 1 ∧ RD c (σ.1 (160 + 3) 1) (σ.1 (168 + 3)) (μ.1 10) 0 ∧ ∀ k, k < 3 → μ.1 11 k = σ.1 (160 + k) 1 ∧ RK c (σ.1 (160 + k) 1) (σ.1 (168 + k)) (μ.1 10) (328 * (k + 1))
def RO (σ μ : mS) : Prop := μ.1 0 14 = σ.1 0 13 ∧ μ.2 0 15 = σ.2 0 14 ∧ μ.2 0 16 = σ.2 0 15 ∧ μ.1 0 17 = σ.1 0 16 ∧ ∀ f, f < 6 → μ.1 12 f = σ.1 208 f
def RR (σ μ : mS) : Prop := RW σ μ ∧ RT σ μ ∧ (∃ c, RG σ μ c) ∧ RO σ μ
/-- the rows of the class that the players and halls lie in -/
def gX (k : Nat) : Prop := k = 88 ∨ k = 112 ∨ (128 ≤ k ∧ k < 132) ∨ k = 136 ∨ k = 149 ∨ k = 157 ∨ (160 ≤ k ∧ k < 164) ∨ (168 ≤ k ∧ k < 172)
theorem RD.of {c : cT} {sz : Int32} {dr f g : Nat → Int32} {b : Nat} (h : RD c sz dr f b) (hb : b ≤ 984) (hg : ∀ q, q < 1312 → g q = f q) : RD c sz dr g b := by
  obtain ⟨d, dn, h1, h2, h3, h4, h5⟩ := h
  have key : ∀ b', b' ≤ 1304 → getH g b' = getH f b' := fun b' hb' => by
    funext q
    unfold getH
    by_cases hq : q < 8
    · rw [if_pos hq, if_pos hq, hg _ (by omega)]
    · rw [if_neg hq, if_neg hq]
  exact ⟨d, dn, h1, h2, h3, by rw [key b (by omega)]; exact h4, fun k hk => by rw [key _ (by omega)]; exact h5 k hk⟩
theorem getH_of {f g : Nat → Int32} {b : Nat} (hb : b ≤ 1304) (hg : ∀ q, q < 1312 → g q = f q) : getH g b = getH f b := by
  funext q
  unfold getH
  by_cases hq : q < 8
  · rw [if_pos hq, if_pos hq, hg _ (by omega)]
  · rw [if_neg hq, if_neg hq]
theorem HX_of {σ τ : mS} {i : Nat} (h1 : τ.1 (144 + i) = σ.1 (144 + i)) (h2 : τ.1 (152 + i) = σ.1 (152 + i)) : HX τ i = HX σ i := by
  funext s
  unfold HX
  rw [h1, h2]
theorem RG.of {σ τ μ ν : mS} {c : cT} (h : RG σ μ c) (hσ : ∀ k, gX k → τ.1 k = σ.1 k) (h0 : ν.1 0 5 = μ.1 0 5) (h12 : ν.1 0 12 = μ.1 0 12) (h6 : ν.1 6 = μ.1 6) (h7 : ν.1 7 = μ.1 7) (h10 : ∀ q, q < 1312 → ν.1 10 q = μ.1 10 q) (h11 : ∀ k, k < 3 → ν.1 11 k = μ.1 11 k) : RG τ ν c := by
  obtain ⟨a1, a2, a3, a4, a5, a6, a7, a8, a9⟩ := h
  have g163 := hσ (160 + 3) (by unfold gX; omega)
  have g171 := hσ (168 + 3) (by unfold gX; omega)
  refine ⟨by rw [h0]; exact a1, by rw [h6]; exact a2, by rw [h7]; exact a3, a4.of (hσ _ (by unfold gX; omega)) (hσ _ (by unfold gX; omega)) (hσ _ (by unfold gX; omega)) (fun i hi => hσ _ (by unfold gX; omega)), a5, ?_, by rw [h12, g163]; exact a7, by rw [g163, g171]; exact a8.of (by omega) h10, fun k hk => ?_⟩
  · rw [HX_of (hσ (144 + 5) (by unfold gX; omega)) (hσ (152 + 5) (by unfold gX; omega)), getH_of (by omega) h10]
    exact a6
  · have e1 := hσ (160 + k) (by unfold gX; omega)
    have e2 := hσ (168 + k) (by unfold gX; omega)
    obtain ⟨b1, b2⟩ := a9 k hk
    refine ⟨by rw [h11 k hk, e1]; exact b1, ?_⟩
    rw [e1, e2]
    rcases b2 with b2 | b2
    · exact Or.inl b2
    · exact Or.inr (b2.of (by omega) h10)
theorem RW.of {σ τ μ ν : mS} (h : RW σ μ) (h1 : τ.1 24 = σ.1 24) (h2 : ∀ r, r < 6 → τ.1 (16 + r) = σ.1 (16 + r)) (h3 : ν.1 1 = μ.1 1) (h4 : ν.1 2 = μ.1 2) : RW τ ν := fun r hr => by
  rw [h1, h2 r hr, h3, h4]
  exact h r hr
theorem RT.of {σ τ μ ν : mS} (h : RT σ μ) (h1 : τ.1 48 = σ.1 48) (h2 : ∀ r, r < 4 → τ.1 (40 + r) = σ.1 (40 + r)) (h3 : ν.1 4 = μ.1 4) (h4 : ν.1 5 = μ.1 5) : RT τ ν := fun r hr => by
  rw [h1, h2 r hr, h3, h4]
  exact h r hr
theorem RO.of {σ τ μ ν : mS} (h : RO σ μ) (h1 : τ.1 0 13 = σ.1 0 13) (h2 : τ.1 0 16 = σ.1 0 16) (h3 : τ.2 = σ.2) (h4 : ∀ f, f < 6 → τ.1 208 f = σ.1 208 f) (g1 : ν.1 0 14 = μ.1 0 14) (g2 : ν.1 0 17 = μ.1 0 17) (g3 : ν.2 = μ.2) (g4 : ∀ f, f < 6 → ν.1 12 f = μ.1 12 f) : RO τ ν := by
  obtain ⟨a, b, c, d, e⟩ := h
  exact ⟨by rw [h1, g1]; exact a, by rw [h3, g3]; exact b, by rw [h3, g3]; exact c, by rw [h2, g2]; exact d, fun f hf => by rw [h4 f hf, g4 f hf]; exact e f hf⟩
theorem RW.set {σ μ τ ν : mS} (h : RW σ μ) {r : Nat} {v : Int32} (hv : -1 ≤ v.toInt ∧ v.toInt ≤ 40) (t24 : ∀ q, q < 6 → τ.1 24 q = if q = r then v else σ.1 24 q) (t16 : ∀ q, q < 6 → q ≠ r → τ.1 (16 + q) = σ.1 (16 + q)) (n1 : ∀ q, q < 6 → ν.1 1 q = if q = r then v else μ.1 1 q) (n2 : ∀ q, q < 6 → q ≠ r → ∀ i, i < 40 → ν.1 2 (40 * q + i) = μ.1 2 (40 * q + i)) (hc : ∀ i : Nat, (i : Int) < v.toInt → ν.1 2 (40 * r + i) = τ.1 (16 + r) i) : RW τ ν := by
  intro q hq
  obtain ⟨a, b, c, d⟩ := h q hq
  rw [t24 q hq, n1 q hq]
  by_cases e : q = r
  · subst e
    simp only [if_true]
    exact ⟨trivial, hv.1, hv.2, hc⟩
  · rw [if_neg e, if_neg e]
    exact ⟨a, b, c, fun i hi => by rw [n2 q hq e i (by omega), t16 q hq e]; exact d i hi⟩
theorem RT.set {σ μ τ ν : mS} (h : RT σ μ) {r : Nat} {v : Int32} (hv : -1 ≤ v.toInt ∧ v.toInt ≤ 60) (t24 : ∀ q, q < 4 → τ.1 48 q = if q = r then v else σ.1 48 q) (t16 : ∀ q, q < 4 → q ≠ r → τ.1 (40 + q) = σ.1 (40 + q)) (n1 : ∀ q, q < 4 → ν.1 4 q = if q = r then v else μ.1 4 q) (n2 : ∀ q, q < 4 → q ≠ r → ∀ i, i < 60 → ν.1 5 (60 * q + i) = μ.1 5 (60 * q + i)) (hc : ∀ i : Nat, (i : Int) < v.toInt → ν.1 5 (60 * r + i) = τ.1 (40 + r) i) : RT τ ν := by
  intro q hq
  obtain ⟨a, b, c, d⟩ := h q hq
  rw [t24 q hq, n1 q hq]
  by_cases e : q = r
  · subst e
    simp only [if_true]
    exact ⟨trivial, hv.1, hv.2, hc⟩
  · rw [if_neg e, if_neg e]
    exact ⟨a, b, c, fun i hi => by rw [n2 q hq e i (by omega), t16 q hq e]; exact d i hi⟩
/-! both come to the same answer, and are related again -/
def SIM (A B : Option (Int32 × mS)) : Prop := ∃ v τ ν, A = some (v, τ) ∧ B = some (v, ν) ∧ RR τ ν
theorem SIM.ret {σ μ : mS} {v w : Int32} (h : RR σ μ) (e : v = w) : SIM (some (v, σ)) (some (w, μ)) := ⟨v, σ, μ, rfl, by rw [e], h⟩
theorem SIM.ite {c d : Prop} [Decidable c] [Decidable d] {A B A' B' : Option (Int32 × mS)} (h : c ↔ d) (h1 : c → SIM A A') (h2 : ¬ c → SIM B B') : SIM (if c then A else B) (if d then A' else B') := by
  by_cases hc : c
  · rw [if_pos hc, if_pos (h.mp hc)]; exact h1 hc
  · rw [if_neg hc, if_neg (fun q => hc (h.mpr q))]; exact h2 hc
theorem SIM.L {c : Prop} [Decidable c] {A B C : Option (Int32 × mS)} (hc : c) (h : SIM A C) : SIM (if c then A else B) C := by rw [if_pos hc]; exact h
theorem SIM.R {c : Prop} [Decidable c] {A B C : Option (Int32 × mS)} (hc : c) (h : SIM C A) : SIM C (if c then A else B) := by rw [if_pos hc]; exact h
theorem SIM.nL {c : Prop} [Decidable c] {A B C : Option (Int32 × mS)} (hc : ¬ c) (h : SIM B C) : SIM (if c then A else B) C := by rw [if_neg hc]; exact h
theorem SIM.nR {c : Prop} [Decidable c] {A B C : Option (Int32 × mS)} (hc : ¬ c) (h : SIM C B) : SIM C (if c then A else B) := by rw [if_neg hc]; exact h
theorem bd_id {A : Option (Int32 × mS)} : bd A (fun r s => some (r, s)) = A := by
  cases A with
  | none => rfl
  | some q => rfl
theorem SIM.found {σ μ : mS} (h : RR σ μ) {f : Nat} (hf : f < 6) : SIM (X10_found σ (nI f)) (X11_finds μ (nI f)) := by
  have vf : vin (nI f) 6 = true := vin_iff.mpr (by rw [nI_ti (by omega)]; omega)
  unfold X10_found X11_finds
  rw [if_pos vf, if_pos vf, if_pos vf, if_pos vf, nI_nat (by omega)]
  obtain ⟨hW, hT, ⟨c, hG⟩, hO⟩ := h
  obtain ⟨o1, o2, o3, o4, o5⟩ := hO
  have r208 : (mwI σ 0 16 (nI f)).1 208 = σ.1 208 := mwI_rk (by decide)
  have r12 : (mwI μ 0 17 (nI f)).1 12 = μ.1 12 := mwI_rk (by decide)
  rw [r208, r12, o5 f hf]
  refine ⟨-3, _, _, rfl, rfl, ?_, ?_, ⟨c, ?_⟩, ?_⟩
  · exact hW.of (by rw [mwI_rk (by decide), mwI_rk (by decide)]) (fun r hr => by rw [mwI_rk (by omega), mwI_rk (by omega)]) (by rw [mwI_rk (by decide), mwI_rk (by decide)]) (by rw [mwI_rk (by decide), mwI_rk (by decide)])
  · exact hT.of (by rw [mwI_rk (by decide), mwI_rk (by decide)]) (fun r hr => by rw [mwI_rk (by omega), mwI_rk (by omega)]) (by rw [mwI_rk (by decide), mwI_rk (by decide)]) (by rw [mwI_rk (by decide), mwI_rk (by decide)])
  · refine hG.of (fun k hk => ?_) ?_ ?_ ?_ ?_ (fun q hq => ?_) (fun k hk => ?_)
    · unfold gX at hk
      rw [mwI_rk (by omega), mwI_rk (by omega)]
    · rw [mwI_rk (by decide), mwI_row, mrow_at, upd_ne (by decide)]
    · rw [mwI_rk (by decide), mwI_row, mrow_at, upd_ne (by decide)]
    · rw [mwI_rk (by decide), mwI_rk (by decide)]
    · rw [mwI_rk (by decide), mwI_rk (by decide)]
    · rw [mwI_rk (by decide), mwI_rk (by decide)]
    · rw [mwI_rk (by decide), mwI_rk (by decide)]
  · refine ⟨?_, o2, o3, ?_, fun q hq => ?_⟩
    · exact o1
    · rfl
    · rw [mwI_row, mwI_row (k := 208), mrow_at, mrow_at, r208, r12]
      by_cases e : q = f
      · subst e; rw [upd_at, upd_at]
      · rw [upd_ne e, upd_ne e]
        exact o5 q hq
theorem SIM.found' {σ μ : mS} (h : RR σ μ) {f : Nat} (hf : f < 6) : SIM (bd (X10_found σ (nI f)) (fun r s => some (r, s))) (bd (X11_finds μ (nI f)) (fun r s => some (r, s))) := by
  rw [bd_id, bd_id]
  exact SIM.found h hf
/-- asked -/
theorem RR.asked {σ μ : mS} (h : RR σ μ) (v : Int32) : RR (mwI σ 0 13 v) (mwI μ 0 14 v) := by
  obtain ⟨hW, hT, ⟨c, hG⟩, o1, o2, o3, o4, o5⟩ := h
  refine ⟨hW.of (mwI_rk (by decide)) (fun r hr => mwI_rk (by omega)) (mwI_rk (by decide)) (mwI_rk (by decide)), hT.of (mwI_rk (by decide)) (fun r hr => mwI_rk (by omega)) (mwI_rk (by decide)) (mwI_rk (by decide)), ⟨c, hG.of (fun k hk => mwI_rk (by unfold gX at hk; omega)) ?_ ?_ (mwI_rk (by decide)) (mwI_rk (by decide)) (fun q _ => by rw [mwI_rk (by decide)]) (fun q _ => by rw [mwI_rk (by decide)])⟩, ?_, o2, o3, ?_, fun f hf => ?_⟩
  · rw [mwI_row, mrow_at, upd_ne (by decide)]
  · rw [mwI_row, mrow_at, upd_ne (by decide)]
  · rw [mwI_rd, mwI_rd]
  · rw [mwI_row, mwI_row, mrow_at, mrow_at, upd_ne (by decide), upd_ne (by decide)]
    exact o4
  · rw [mwI_rk (by decide), mwI_rk (by decide)]
    exact o5 f hf
