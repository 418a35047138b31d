/-! P1: the first call on a fresh object -/
theorem op_of {A B : Option (Int32 × mS)} {Z : mS → mS → Prop} (hZ : ∀ τ ν, Z τ ν) {c : Int32} (h1 : Hs A (fun q => q.1 = c)) (h2 : Hs B (fun q => q.1 = c)) : ∃ v : Int32, ∃ τ : mS, ∃ w : Int32, ∃ ν : mS, A = some (v, τ) ∧ B = some (w, ν) ∧ (true = true → v = w) ∧ Z τ ν := by
  obtain ⟨⟨v, τ⟩, e1, g1⟩ := h1
  obtain ⟨⟨w, ν⟩, e2, g2⟩ := h2
  exact ⟨v, τ, w, ν, e1, e2, fun _ => g1.trans g2.symm, hZ τ ν⟩
theorem op_of' {A B : Option Int32} {Z : Prop} (hZ : Z) {c : Int32} (h1 : A = some c) (h2 : B = some c) : ∃ v : Int32, ∃ w : Int32, A = some v ∧ B = some w ∧ (true = true → v = w) ∧ Z := ⟨c, c, h1, h2, fun _ => rfl, hZ⟩
theorem isRowM_zero {a : Int32} : X11_isRow a = 0 ↔ (a.toInt < 0 ∨ 6 ≤ a.toInt) := by
  unfold X11_isRow
  rw [in_zero]
  show a.toInt < 0 ∨ 5 < a.toInt ↔ _
  omega
theorem isTextM_zero {a : Int32} : X11_isText a = 0 ↔ (a.toInt < 0 ∨ 4 ≤ a.toInt) := by
  unfold X11_isText
  rw [in_zero]
  show a.toInt < 0 ∨ 3 < a.toInt ↔ _
  omega
theorem cases3 {a : Int32} (h : ¬ (a.toInt < 0 ∨ 3 ≤ a.toInt)) : a = 0 ∨ a = 1 ∨ a = 2 := by
  rcases (show a.toInt = 0 ∨ a.toInt = 1 ∨ a.toInt = 2 by omega) with h | h | h <;> rw [i_of h] <;> decide
theorem cases4 {a : Int32} (h : ¬ (a.toInt < 0 ∨ 4 ≤ a.toInt)) : a = 0 ∨ a = 1 ∨ a = 2 ∨ a = 3 := by
  rcases (show a.toInt = 0 ∨ a.toInt = 1 ∨ a.toInt = 2 ∨ a.toInt = 3 by omega) with h | h | h | h <;> rw [i_of h] <;> decide
theorem cases6 {a : Int32} (h : ¬ (a.toInt < 0 ∨ 6 ≤ a.toInt)) : a = 0 ∨ a = 1 ∨ a = 2 ∨ a = 3 ∨ a = 4 ∨ a = 5 := by
  rcases (show a.toInt = 0 ∨ a.toInt = 1 ∨ a.toInt = 2 ∨ a.toInt = 3 ∨ a.toInt = 4 ∨ a.toInt = 5 by omega) with h | h | h | h | h | h <;> rw [i_of h] <;> decide
theorem frPX (a : Int32) : X10_isPlayer mX0 a = 0 := isPlayer_zero.mpr (by
  have h : (mX0.1 88 4).toInt = 0 := by decide
  rw [h]
  omega)
theorem frPM (a : Int32) : X11_isPlayer mM0 a = 0 := in_zero.mpr (by
  have h : ((mM0.1 0 5) - 1).toInt64.toInt = -1 := by decide
  rw [h]
  show a.toInt < 0 ∨ -1 < a.toInt
  omega)
set_option maxRecDepth 100000 in
theorem fr_0 {a1 a2 a3 a4 a5 : Int32} {Z : mS → mS → Prop} (hZ : ∀ τ ν, Z τ ν) : OpOK (fun _ => true) a1 a2 a3 a4 a5 mX0 mM0 Z 0 := by
  by_cases hb : a1.toInt < 0 ∨ 6 ≤ a1.toInt
  · exact op_of hZ (c := -1) (Hs.pos (isRow_zero.mpr hb) ⟨_, rfl, rfl⟩) (Hs.pos (isRowM_zero.mpr hb) ⟨_, rfl, rfl⟩)
  · by_cases h40 : a2 ≤ 40
    · by_cases h0 : 0 ≤ a2
      · have g1 : a1.toInt = (a1.toInt.toNat : Int) := by omega
        have g2 : a2.toInt = (a2.toInt.toNat : Int) := by
          rw [i_le, i_zero] at h0
          omega
        have g3 : a2.toInt.toNat ≤ 40 := by
          rw [i_le] at h40
          have : (40 : Int32).toInt = 40 := by decide
          omega
        refine op_of hZ (c := a2) (Hs.neg (fun h => hb (isRow_zero.mp h)) (Hs.pos h40 (Hs.pos h0 (Hs.pos (vin_iff.mpr (by omega)) ?_)))) (Hs.neg (fun h => hb (isRowM_zero.mp h)) (Hs.pos h40 (Hs.pos h0 ?_)))
        · rw [fillI_eq _ _ _ _ (by decide)]
          exact Hs.pos (vin_iff.mpr (by omega)) ⟨_, rfl, rfl⟩
        · rw [anew_eq _ g1 (by omega) g2 g3]
          exact ⟨_, rfl, rfl⟩
      · exact op_of hZ (c := -3) (Hs.neg (fun h => hb (isRow_zero.mp h)) (Hs.pos h40 (Hs.neg h0 ⟨_, rfl, rfl⟩))) (Hs.neg (fun h => hb (isRowM_zero.mp h)) (Hs.pos h40 (Hs.neg h0 ⟨_, rfl, rfl⟩)))
    · exact op_of hZ (c := -1) (Hs.neg (fun h => hb (isRow_zero.mp h)) (Hs.neg h40 ⟨_, rfl, rfl⟩)) (Hs.neg (fun h => hb (isRowM_zero.mp h)) (Hs.neg h40 ⟨_, rfl, rfl⟩))
set_option maxRecDepth 100000 in
theorem fr_1 {a1 a2 a3 a4 a5 : Int32} {Z : mS → mS → Prop} (hZ : ∀ τ ν, Z τ ν) : OpOK (fun _ => true) a1 a2 a3 a4 a5 mX0 mM0 Z 1 := by
  by_cases hb : a1.toInt < 0 ∨ 6 ≤ a1.toInt
  · refine op_of hZ (c := -1) ?_ (Hs.pos (isRowM_zero.mpr hb) ⟨_, rfl, rfl⟩)
    unfold X10_lay X10_refusedPlace X10_refusedRow
    rw [if_pos (isRow_zero.mpr hb)]
    exact ⟨_, rfl, rfl⟩
  · rcases cases6 hb with rfl | rfl | rfl | rfl | rfl | rfl <;> exact op_of hZ (c := -3) ⟨_, rfl, rfl⟩ ⟨_, rfl, rfl⟩
set_option maxRecDepth 100000 in
theorem fr_2 {a1 a2 a3 a4 a5 : Int32} {Z : mS → mS → Prop} (hZ : ∀ τ ν, Z τ ν) : OpOK (fun _ => true) a1 a2 a3 a4 a5 mX0 mM0 Z 2 := by
  by_cases hb : a1.toInt < 0 ∨ 6 ≤ a1.toInt
  · refine op_of hZ (c := -1) ?_ (Hs.pos (isRowM_zero.mpr hb) ⟨_, rfl, rfl⟩)
    unfold X10_at X10_refusedPlace X10_refusedRow
    rw [if_pos (isRow_zero.mpr hb)]
    exact ⟨_, rfl, rfl⟩
  · rcases cases6 hb with rfl | rfl | rfl | rfl | rfl | rfl <;> exact op_of hZ (c := -3) ⟨_, rfl, rfl⟩ ⟨_, rfl, rfl⟩
set_option maxRecDepth 100000 in
theorem fr_3 {a1 a2 a3 a4 a5 : Int32} {Z : mS → mS → Prop} (hZ : ∀ τ ν, Z τ ν) : OpOK (fun _ => true) a1 a2 a3 a4 a5 mX0 mM0 Z 3 := by
  by_cases hb : a1.toInt < 0 ∨ 6 ≤ a1.toInt
  · refine op_of hZ (c := -1) ?_ (Hs.pos (isRowM_zero.mpr hb) ⟨_, rfl, rfl⟩)
    unfold X10_tear X10_refusedRow
    rw [if_pos (isRow_zero.mpr hb)]
    exact ⟨_, rfl, rfl⟩
  · rcases cases6 hb with rfl | rfl | rfl | rfl | rfl | rfl <;> exact op_of hZ (c := -3) ⟨_, rfl, rfl⟩ ⟨_, rfl, rfl⟩
set_option maxRecDepth 100000 in
theorem fr_5 {a1 a2 a3 a4 a5 : Int32} {Z : mS → mS → Prop} (hZ : ∀ τ ν, Z τ ν) : OpOK (fun _ => true) a1 a2 a3 a4 a5 mX0 mM0 Z 5 := by
  by_cases hb : a1.toInt < 0 ∨ 6 ≤ a1.toInt
  · refine op_of hZ (c := -1) ?_ (Hs.pos (isRowM_zero.mpr hb) ⟨_, rfl, rfl⟩)
    unfold X10_mean X10_refusedRow
    rw [if_pos (isRow_zero.mpr hb)]
    exact ⟨_, rfl, rfl⟩
  · rcases cases6 hb with rfl | rfl | rfl | rfl | rfl | rfl <;> exact op_of hZ (c := -3) ⟨_, rfl, rfl⟩ ⟨_, rfl, rfl⟩
set_option maxRecDepth 100000 in
theorem fr_4 {a1 a2 a3 a4 a5 : Int32} {Z : mS → mS → Prop} (hZ : ∀ τ ν, Z τ ν) : OpOK (fun _ => true) a1 a2 a3 a4 a5 mX0 mM0 Z 4 := by
  by_cases hb : a1.toInt < 0 ∨ 6 ≤ a1.toInt
  · exact op_of hZ (c := -1) (Hs.pos (isRow_zero.mpr hb) ⟨_, rfl, rfl⟩) (Hs.pos (isRowM_zero.mpr hb) ⟨_, rfl, rfl⟩)
  · by_cases hc : a3.toInt < 0 ∨ 6 ≤ a3.toInt
    · exact op_of hZ (c := -1) (Hs.neg (fun h => hb (isRow_zero.mp h)) (Hs.pos (isRow_zero.mpr hc) ⟨_, rfl, rfl⟩)) (Hs.neg (fun h => hb (isRowM_zero.mp h)) (Hs.pos (isRowM_zero.mpr hc) ⟨_, rfl, rfl⟩))
    · by_cases h0 : 0 ≤ a5
      · refine op_of hZ (c := -3) (Hs.neg (fun h => hb (isRow_zero.mp h)) (Hs.neg (fun h => hc (isRow_zero.mp h)) (Hs.pos h0 ?_))) (Hs.neg (fun h => hb (isRowM_zero.mp h)) (Hs.neg (fun h => hc (isRowM_zero.mp h)) (Hs.pos h0 ?_)))
        · rcases cases6 hb with rfl | rfl | rfl | rfl | rfl | rfl <;> exact ⟨_, rfl, rfl⟩
        · rcases cases6 hb with rfl | rfl | rfl | rfl | rfl | rfl <;> exact ⟨_, rfl, rfl⟩
      · exact op_of hZ (c := -3) (Hs.neg (fun h => hb (isRow_zero.mp h)) (Hs.neg (fun h => hc (isRow_zero.mp h)) (Hs.neg h0 ⟨_, rfl, rfl⟩))) (Hs.neg (fun h => hb (isRowM_zero.mp h)) (Hs.neg (fun h => hc (isRowM_zero.mp h)) (Hs.neg h0 ⟨_, rfl, rfl⟩)))
set_option maxRecDepth 100000 in
theorem fr_6 {a1 a2 a3 a4 a5 : Int32} {Z : mS → mS → Prop} (hZ : ∀ τ ν, Z τ ν) : OpOK (fun _ => true) a1 a2 a3 a4 a5 mX0 mM0 Z 6 := by
  by_cases hb : a1.toInt < 0 ∨ 4 ≤ a1.toInt
  · exact op_of hZ (c := -1) (Hs.pos (isText_zero.mpr hb) ⟨_, rfl, rfl⟩) (Hs.pos (isTextM_zero.mpr hb) ⟨_, rfl, rfl⟩)
  · by_cases h40 : a2 ≤ 60
    · by_cases h0 : 0 ≤ a2
      · have g1 : a1.toInt = (a1.toInt.toNat : Int) := by omega
        have g2 : a2.toInt = (a2.toInt.toNat : Int) := by
          rw [i_le, i_zero] at h0
          omega
        have g3 : a2.toInt.toNat ≤ 60 := by
          rw [i_le] at h40
          have : (60 : Int32).toInt = 60 := by decide
          omega
        refine op_of hZ (c := a2) (Hs.neg (fun h => hb (isText_zero.mp h)) (Hs.pos h40 (Hs.pos h0 (Hs.pos (vin_iff.mpr (by omega)) ?_)))) (Hs.neg (fun h => hb (isTextM_zero.mp h)) (Hs.pos h40 (Hs.pos h0 (Hs.pos (vin_iff.mpr (by omega)) ?_))))
        · rw [fillB_eq _ _ _ _ (by decide)]
          exact Hs.pos (vin_iff.mpr (by omega)) ⟨_, rfl, rfl⟩
        · rw [textM_lp _ g1 (by omega) g2 g3]
          exact ⟨_, rfl, rfl⟩
      · exact op_of hZ (c := -3) (Hs.neg (fun h => hb (isText_zero.mp h)) (Hs.pos h40 (Hs.neg h0 ⟨_, rfl, rfl⟩))) (Hs.neg (fun h => hb (isTextM_zero.mp h)) (Hs.pos h40 (Hs.neg h0 ⟨_, rfl, rfl⟩)))
    · exact op_of hZ (c := -1) (Hs.neg (fun h => hb (isText_zero.mp h)) (Hs.neg h40 ⟨_, rfl, rfl⟩)) (Hs.neg (fun h => hb (isTextM_zero.mp h)) (Hs.neg h40 ⟨_, rfl, rfl⟩))
set_option maxRecDepth 100000 in
theorem fr_7 {a1 a2 a3 a4 a5 : Int32} {Z : mS → mS → Prop} (hZ : ∀ τ ν, Z τ ν) : OpOK (fun _ => true) a1 a2 a3 a4 a5 mX0 mM0 Z 7 := by
  by_cases hb : a1.toInt < 0 ∨ 4 ≤ a1.toInt
  · refine op_of hZ (c := -1) ?_ (Hs.pos (isTextM_zero.mpr hb) ⟨_, rfl, rfl⟩)
    unfold X10_put X10_refusedText
    rw [if_pos (isText_zero.mpr hb)]
    exact ⟨_, rfl, rfl⟩
  · rcases cases4 hb with rfl | rfl | rfl | rfl <;> exact op_of hZ (c := -3) ⟨_, rfl, rfl⟩ ⟨_, rfl, rfl⟩
set_option maxRecDepth 100000 in
theorem fr_8 {a1 a2 a3 a4 a5 : Int32} {Z : mS → mS → Prop} (hZ : ∀ τ ν, Z τ ν) : OpOK (fun _ => true) a1 a2 a3 a4 a5 mX0 mM0 Z 8 := by
  by_cases hb : a1.toInt < 0 ∨ 4 ≤ a1.toInt
  · refine op_of hZ (c := -1) ?_ (Hs.pos (isTextM_zero.mpr hb) ⟨_, rfl, rfl⟩)
    unfold X10_fault X10_refusedText
    rw [if_pos (isText_zero.mpr hb)]
    exact ⟨_, rfl, rfl⟩
  · rcases cases4 hb with rfl | rfl | rfl | rfl <;> exact op_of hZ (c := -3) ⟨_, rfl, rfl⟩ ⟨_, rfl, rfl⟩
set_option maxRecDepth 100000 in
theorem fr_9 {a1 a2 a3 a4 a5 : Int32} {Z : mS → mS → Prop} (hZ : ∀ τ ν, Z τ ν) : OpOK (fun _ => true) a1 a2 a3 a4 a5 mX0 mM0 Z 9 := by
  by_cases hb : a1.toInt < 0 ∨ 4 ≤ a1.toInt
  · refine op_of hZ (c := -1) ?_ (Hs.pos (isTextM_zero.mpr hb) ⟨_, rfl, rfl⟩)
    unfold X10_hall X10_refusedText
    rw [if_pos (isText_zero.mpr hb)]
    exact ⟨_, rfl, rfl⟩
  · rcases cases4 hb with rfl | rfl | rfl | rfl <;> exact op_of hZ (c := -3) ⟨_, rfl, rfl⟩ ⟨_, rfl, rfl⟩
set_option maxRecDepth 100000 in
theorem fr_10 {a1 a2 a3 a4 a5 : Int32} {Z : mS → mS → Prop} (hZ : ∀ τ ν, Z τ ν) : OpOK (fun _ => true) a1 a2 a3 a4 a5 mX0 mM0 Z 10 := by
  exact op_of hZ (c := -1) (Hs.pos (frPX a1) ⟨_, rfl, rfl⟩) (Hs.pos (frPM a1) ⟨_, rfl, rfl⟩)
set_option maxRecDepth 100000 in
theorem fr_11 {a1 a2 a3 a4 a5 : Int32} {Z : mS → mS → Prop} (hZ : ∀ τ ν, Z τ ν) : OpOK (fun _ => true) a1 a2 a3 a4 a5 mX0 mM0 Z 11 := by
  exact op_of hZ (c := -1) (Hs.pos (frPX a1) ⟨_, rfl, rfl⟩) (Hs.pos (frPM a1) ⟨_, rfl, rfl⟩)
set_option maxRecDepth 100000 in
theorem fr_12 {a1 a2 a3 a4 a5 : Int32} {Z : mS → mS → Prop} (hZ : ∀ τ ν, Z τ ν) : OpOK (fun _ => true) a1 a2 a3 a4 a5 mX0 mM0 Z 12 := by
  exact op_of hZ (c := -1) (Hs.pos (frPX a1) ⟨_, rfl, rfl⟩) (Hs.pos (frPM a1) ⟨_, rfl, rfl⟩)
set_option maxRecDepth 100000 in
theorem fr_14 {a1 a2 a3 a4 a5 : Int32} {Z : mS → mS → Prop} (hZ : ∀ τ ν, Z τ ν) : OpOK (fun _ => true) a1 a2 a3 a4 a5 mX0 mM0 Z 14 := by
  exact op_of hZ (c := -1) (Hs.pos (frPX a1) ⟨_, rfl, rfl⟩) (Hs.pos (frPM a1) ⟨_, rfl, rfl⟩)
set_option maxRecDepth 100000 in
theorem fr_21 {a1 a2 a3 a4 a5 : Int32} {Z : mS → mS → Prop} (hZ : ∀ τ ν, Z τ ν) : OpOK (fun _ => true) a1 a2 a3 a4 a5 mX0 mM0 Z 21 := by
  exact op_of hZ (c := -1) (Hs.pos (frPX a1) ⟨_, rfl, rfl⟩) (Hs.pos (frPM a1) ⟨_, rfl, rfl⟩)
set_option maxRecDepth 100000 in
theorem fr_26 {a1 a2 a3 a4 a5 : Int32} {Z : mS → mS → Prop} (hZ : ∀ τ ν, Z τ ν) : OpOK (fun _ => true) a1 a2 a3 a4 a5 mX0 mM0 Z 26 := by
  exact op_of hZ (c := -1) (Hs.pos (frPX a1) ⟨_, rfl, rfl⟩) (Hs.pos (frPM a1) ⟨_, rfl, rfl⟩)
set_option maxRecDepth 100000 in
theorem fr_13 {a1 a2 a3 a4 a5 : Int32} {Z : mS → mS → Prop} (hZ : ∀ τ ν, Z τ ν) : OpOK (fun _ => true) a1 a2 a3 a4 a5 mX0 mM0 Z 13 := by
  by_cases hb : a1.toInt < 1 ∨ 12 < a1.toInt
  · exact op_of hZ (c := -1) (Hs.pos (isNumber_zero.mpr hb) ⟨_, rfl, rfl⟩) (Hs.pos (in_zero.mpr hb) ⟨_, rfl, rfl⟩)
  · exact op_of hZ (c := -4) (Hs.neg (fun h => hb (isNumber_zero.mp h)) ⟨_, rfl, rfl⟩) (Hs.neg (fun h => hb (in_zero.mp h)) ⟨_, rfl, rfl⟩)
set_option maxRecDepth 100000 in
theorem fr_15 {a1 a2 a3 a4 a5 : Int32} {Z : mS → mS → Prop} (hZ : ∀ τ ν, Z τ ν) : OpOK (fun _ => true) a1 a2 a3 a4 a5 mX0 mM0 Z 15 := by
  by_cases hb : a1.toInt < 0 ∨ 0 < a1.toInt
  · refine op_of hZ (c := -1) ?_ (Hs.pos (in_zero.mpr hb) ⟨_, rfl, rfl⟩)
    by_cases h0 : a1 < 0
    · exact Hs.pos h0 ⟨_, rfl, rfl⟩
    · refine Hs.neg h0 (Hs.neg (fun h => ?_) ⟨_, rfl, rfl⟩)
      rw [i_lt, i_zero] at h0
      have h1 : a1.toInt ≤ 0 := i_le.mp h
      omega
  · have h : a1 = 0 := by
      have h : a1.toInt = 0 := by omega
      rw [i_of h]
      decide
    subst h
    exact op_of hZ (c := 0) ⟨_, rfl, rfl⟩ ⟨_, rfl, rfl⟩
set_option maxRecDepth 100000 in
theorem fr_16 {a1 a2 a3 a4 a5 : Int32} {Z : mS → mS → Prop} (hZ : ∀ τ ν, Z τ ν) : OpOK (fun _ => true) a1 a2 a3 a4 a5 mX0 mM0 Z 16 := by
  by_cases hb : a1.toInt < 0 ∨ 3 ≤ a1.toInt
  · refine op_of hZ (c := -1) (Hs.pos (isKept_zero.mpr hb) ⟨_, rfl, rfl⟩) (Hs.pos (in_zero.mpr ?_) ⟨_, rfl, rfl⟩)
    show a1.toInt < 0 ∨ 2 < a1.toInt
    omega
  · rcases cases3 hb with rfl | rfl | rfl <;> exact op_of hZ (c := -4) ⟨_, rfl, rfl⟩ ⟨_, rfl, rfl⟩
set_option maxRecDepth 100000 in
theorem fr_17 {a1 a2 a3 a4 a5 : Int32} {Z : mS → mS → Prop} (hZ : ∀ τ ν, Z τ ν) : OpOK (fun _ => true) a1 a2 a3 a4 a5 mX0 mM0 Z 17 := by
  by_cases hb : a1.toInt < 0 ∨ 3 ≤ a1.toInt
  · refine op_of hZ (c := -1) (Hs.pos (isKept_zero.mpr hb) ⟨_, rfl, rfl⟩) (Hs.pos (in_zero.mpr ?_) ⟨_, rfl, rfl⟩)
    show a1.toInt < 0 ∨ 2 < a1.toInt
    omega
  · rcases cases3 hb with rfl | rfl | rfl <;> exact op_of hZ (c := -3) ⟨_, rfl, rfl⟩ ⟨_, rfl, rfl⟩
set_option maxRecDepth 100000 in
theorem fr_18 {a1 a2 a3 a4 a5 : Int32} {Z : mS → mS → Prop} (hZ : ∀ τ ν, Z τ ν) : OpOK (fun _ => true) a1 a2 a3 a4 a5 mX0 mM0 Z 18 := by
  exact op_of' (hZ _ _) (c := -1) (if_pos (frPX a1)) (if_pos (frPM a1))
set_option maxRecDepth 100000 in
theorem fr_19 {a1 a2 a3 a4 a5 : Int32} {Z : mS → mS → Prop} (hZ : ∀ τ ν, Z τ ν) : OpOK (fun _ => true) a1 a2 a3 a4 a5 mX0 mM0 Z 19 := by
  exact op_of hZ (c := -4) ⟨_, rfl, rfl⟩ ⟨_, rfl, rfl⟩
set_option maxRecDepth 100000 in
theorem fr_20 {a1 a2 a3 a4 a5 : Int32} {Z : mS → mS → Prop} (hZ : ∀ τ ν, Z τ ν) : OpOK (fun _ => true) a1 a2 a3 a4 a5 mX0 mM0 Z 20 := by
  exact op_of hZ (c := -4) ⟨_, rfl, rfl⟩ ⟨_, rfl, rfl⟩
set_option maxRecDepth 100000 in
theorem fr_22 {a1 a2 a3 a4 a5 : Int32} {Z : mS → mS → Prop} (hZ : ∀ τ ν, Z τ ν) : OpOK (fun _ => true) a1 a2 a3 a4 a5 mX0 mM0 Z 22 := by
  by_cases hn : a1.toInt < 0 ∨ 4 < a1.toInt
  · refine op_of hZ (c := -1) ?_ (Hs.pos (in_zero.mpr hn) ⟨_, rfl, rfl⟩)
    by_cases h0 : a1 < 0
    · exact Hs.pos h0 ⟨_, rfl, rfl⟩
    · refine Hs.neg h0 (Hs.pos ?_ ⟨_, rfl, rfl⟩)
      rw [i_lt, i_zero] at h0
      exact i_lt.mpr (show 4 < a1.toInt by omega)
  · have h0 : ¬ a1 < 0 := fun h => hn (Or.inl (i_lt.mp h))
    have h4 : ¬ 4 < a1 := fun h => hn (Or.inr (i_lt.mp h))
    by_cases hb : a2.toInt < 0 ∨ 6 ≤ a2.toInt
    · exact op_of hZ (c := -1) (Hs.neg h0 (Hs.neg h4 (Hs.pos (isRow_zero.mpr hb) ⟨_, rfl, rfl⟩))) (Hs.neg (fun h => hn (in_zero.mp h)) (Hs.pos (isRowM_zero.mpr hb) ⟨_, rfl, rfl⟩))
    · exact op_of hZ (c := -4) (Hs.neg h0 (Hs.neg h4 (Hs.neg (fun h => hb (isRow_zero.mp h)) ⟨_, rfl, rfl⟩))) (Hs.neg (fun h => hn (in_zero.mp h)) (Hs.neg (fun h => hb (isRowM_zero.mp h)) ⟨_, rfl, rfl⟩))
set_option maxRecDepth 100000 in
theorem fr_23 {a1 a2 a3 a4 a5 : Int32} {Z : mS → mS → Prop} (hZ : ∀ τ ν, Z τ ν) : OpOK (fun _ => true) a1 a2 a3 a4 a5 mX0 mM0 Z 23 := by
  exact op_of' (hZ _ _) (c := -1) (if_pos (frPX a1)) (if_pos (frPM a1))
set_option maxRecDepth 100000 in
theorem fr_24 {a1 a2 a3 a4 a5 : Int32} {Z : mS → mS → Prop} (hZ : ∀ τ ν, Z τ ν) : OpOK (fun _ => true) a1 a2 a3 a4 a5 mX0 mM0 Z 24 := by
  refine op_of hZ (c := -1) ?_ (Hs.pos (frPM a1) ⟨_, rfl, rfl⟩)
  unfold X10_kinds X10_refusedPairs
  rw [if_pos (frPX a1)]
  exact ⟨_, rfl, rfl⟩
set_option maxRecDepth 100000 in
theorem fr_25 {a1 a2 a3 a4 a5 : Int32} {Z : mS → mS → Prop} (hZ : ∀ τ ν, Z τ ν) : OpOK (fun _ => true) a1 a2 a3 a4 a5 mX0 mM0 Z 25 := by
  refine op_of hZ (c := -1) ?_ (Hs.pos (frPM a1) ⟨_, rfl, rfl⟩)
  unfold X10_next X10_refusedPairs
  rw [if_pos (frPX a1)]
  exact ⟨_, rfl, rfl⟩
set_option maxRecDepth 100000 in
theorem fr_27 {a1 a2 a3 a4 a5 : Int32} {Z : mS → mS → Prop} (hZ : ∀ τ ν, Z τ ν) : OpOK (fun _ => true) a1 a2 a3 a4 a5 mX0 mM0 Z 27 := by
  refine op_of hZ (c := -1) ?_ (Hs.pos (frPM a1) ⟨_, rfl, rfl⟩)
  unfold X10_odds X10_tellAhead
  rw [if_pos (frPX a1)]
  exact ⟨_, rfl, rfl⟩
set_option maxRecDepth 100000 in
theorem fr_28 {a1 a2 a3 a4 a5 : Int32} {Z : mS → mS → Prop} (hZ : ∀ τ ν, Z τ ν) : OpOK (fun _ => true) a1 a2 a3 a4 a5 mX0 mM0 Z 28 := by
  refine op_of hZ (c := -1) ?_ (Hs.pos (frPM a1) ⟨_, rfl, rfl⟩)
  unfold X10_mid X10_tellAhead
  rw [if_pos (frPX a1)]
  exact ⟨_, rfl, rfl⟩
set_option maxRecDepth 100000 in
theorem fr_29 {a1 a2 a3 a4 a5 : Int32} {Z : mS → mS → Prop} (hZ : ∀ τ ν, Z τ ν) : OpOK (fun _ => true) a1 a2 a3 a4 a5 mX0 mM0 Z 29 := by
  have k1 : (1 : Int32).toInt = 1 := by decide
  have k20 : (20 : Int32).toInt = 20 := by decide
  have kL : (2147483647 : Int64).toInt = 2147483647 := by decide
  by_cases hn : a1.toInt < 1 ∨ 20 < a1.toInt
  · refine op_of hZ (c := -1) ?_ (Hs.pos (in_zero.mpr hn) ⟨_, rfl, rfl⟩)
    by_cases h0 : a1 < 1
    · exact Hs.pos h0 ⟨_, rfl, rfl⟩
    · refine Hs.neg h0 (Hs.pos ?_ ⟨_, rfl, rfl⟩)
      rw [i_lt, k1] at h0
      rw [i_lt, k20]
      omega
  · have h0 : ¬ a1 < 1 := fun h => hn (Or.inl (i_lt.mp h))
    have h4 : ¬ 20 < a1 := fun h => hn (Or.inr (i_lt.mp h))
    by_cases hb : a2.toInt < 1 ∨ 2147483646 < a2.toInt
    · refine op_of hZ (c := -1) (Hs.neg h0 (Hs.neg h4 ?_)) (Hs.neg (fun h => hn (in_zero.mp h)) (Hs.pos (in_zero.mpr hb) ⟨_, rfl, rfl⟩))
      by_cases g0 : a2 < 1
      · exact Hs.pos g0 ⟨_, rfl, rfl⟩
      · refine Hs.neg g0 (Hs.neg ?_ ⟨_, rfl, rfl⟩)
        rw [i_lt, k1] at g0
        rw [l_lt, l_of_i, kL]
        omega
    · have g0 : ¬ a2 < 1 := fun h => hb (Or.inl (i_lt.mp h))
      have g1 : a2.toInt64 < 2147483647 := by
        rw [l_lt, l_of_i, kL]
        omega
      exact op_of hZ (c := -4) (Hs.neg h0 (Hs.neg h4 (Hs.neg g0 (Hs.pos g1 ⟨_, rfl, rfl⟩)))) (Hs.neg (fun h => hn (in_zero.mp h)) (Hs.neg (fun h => hb (in_zero.mp h)) ⟨_, rfl, rfl⟩))
set_option maxRecDepth 100000 in
theorem fr_30 {a1 a2 a3 a4 a5 : Int32} {Z : mS → mS → Prop} (hZ : ∀ τ ν, Z τ ν) : OpOK (fun _ => true) a1 a2 a3 a4 a5 mX0 mM0 Z 30 := by
  exact ⟨fun _ => by decide +kernel, hZ _ _⟩
set_option maxRecDepth 100000 in
theorem fr_31 {a1 a2 a3 a4 a5 : Int32} {Z : mS → mS → Prop} (hZ : ∀ τ ν, Z τ ν) : OpOK (fun _ => true) a1 a2 a3 a4 a5 mX0 mM0 Z 31 := by
  exact ⟨fun _ => by decide +kernel, hZ _ _⟩
set_option maxRecDepth 100000 in
theorem fr_32 {a1 a2 a3 a4 a5 : Int32} {Z : mS → mS → Prop} (hZ : ∀ τ ν, Z τ ν) : OpOK (fun _ => true) a1 a2 a3 a4 a5 mX0 mM0 Z 32 := by
  exact ⟨fun _ => by decide +kernel, hZ _ _⟩
set_option maxRecDepth 100000 in
theorem fr_34 {a1 a2 a3 a4 a5 : Int32} {Z : mS → mS → Prop} (hZ : ∀ τ ν, Z τ ν) : OpOK (fun _ => true) a1 a2 a3 a4 a5 mX0 mM0 Z 34 := by
  exact ⟨fun _ => by decide +kernel, hZ _ _⟩
set_option maxRecDepth 100000 in
theorem fr_33 {a1 a2 a3 a4 a5 : Int32} {Z : mS → mS → Prop} (hZ : ∀ τ ν, Z τ ν) : OpOK (fun _ => true) a1 a2 a3 a4 a5 mX0 mM0 Z 33 := by
  by_cases hb : a1.toInt < 0 ∨ 11 < a1.toInt
  · refine op_of' (hZ _ _) (c := -1) ?_ (if_pos (in_zero.mpr hb))
    unfold X10_count
    rw [if_neg (fun h : a1 = 0 => absurd hb (by rw [h]; decide)), if_neg (fun h : a1 = 1 => absurd hb (by rw [h]; decide)), if_neg (fun h : a1 = 2 => absurd hb (by rw [h]; decide)), if_neg (fun h : a1 = 3 => absurd hb (by rw [h]; decide)), if_neg (fun h : a1 = 4 => absurd hb (by rw [h]; decide)), if_neg (fun h : a1 = 5 => absurd hb (by rw [h]; decide)), if_neg (fun h : a1 = 6 => absurd hb (by rw [h]; decide)), if_neg (fun h : a1 = 7 => absurd hb (by rw [h]; decide)), if_neg (fun h : a1 = 8 => absurd hb (by rw [h]; decide)), if_neg (fun h : a1 = 9 => absurd hb (by rw [h]; decide)), if_neg (fun h : a1 = 10 => absurd hb (by rw [h]; decide)), if_neg (fun h : a1 = 11 => absurd hb (by rw [h]; decide))]
  · rcases (show a1.toInt = 0 ∨ a1.toInt = 1 ∨ a1.toInt = 2 ∨ a1.toInt = 3 ∨ a1.toInt = 4 ∨ a1.toInt = 5 ∨ a1.toInt = 6 ∨ a1.toInt = 7 ∨ a1.toInt = 8 ∨ a1.toInt = 9 ∨ a1.toInt = 10 ∨ a1.toInt = 11 by omega) with h | h | h | h | h | h | h | h | h | h | h | h
    · rw [show a1 = 0 from (i_of h).trans (by decide)]
      exact op_of' (hZ _ _) (c := 0) (by decide +kernel) (by decide +kernel)
    · rw [show a1 = 1 from (i_of h).trans (by decide)]
      exact op_of' (hZ _ _) (c := 0) (by decide +kernel) (by decide +kernel)
    · rw [show a1 = 2 from (i_of h).trans (by decide)]
      exact op_of' (hZ _ _) (c := 0) (by decide +kernel) (by decide +kernel)
    · rw [show a1 = 3 from (i_of h).trans (by decide)]
      exact op_of' (hZ _ _) (c := 0) (by decide +kernel) (by decide +kernel)
    · rw [show a1 = 4 from (i_of h).trans (by decide)]
      exact op_of' (hZ _ _) (c := 0) (by decide +kernel) (by decide +kernel)
    · rw [show a1 = 5 from (i_of h).trans (by decide)]
      exact op_of' (hZ _ _) (c := 0) (by decide +kernel) (by decide +kernel)
    · rw [show a1 = 6 from (i_of h).trans (by decide)]
      exact op_of' (hZ _ _) (c := 0) (by decide +kernel) (by decide +kernel)
    · rw [show a1 = 7 from (i_of h).trans (by decide)]
      exact op_of' (hZ _ _) (c := 0) (by decide +kernel) (by decide +kernel)
    · rw [show a1 = 8 from (i_of h).trans (by decide)]
      exact op_of' (hZ _ _) (c := 0) (by decide +kernel) (by decide +kernel)
    · rw [show a1 = 9 from (i_of h).trans (by decide)]
      exact op_of' (hZ _ _) (c := 0) (by decide +kernel) (by decide +kernel)
    · rw [show a1 = 10 from (i_of h).trans (by decide)]
      exact op_of' (hZ _ _) (c := 0) (by decide +kernel) (by decide +kernel)
    · rw [show a1 = 11 from (i_of h).trans (by decide)]
      exact op_of' (hZ _ _) (c := 0) (by decide +kernel) (by decide +kernel)
set_option maxRecDepth 100000 in
theorem fr_35 {a1 a2 a3 a4 a5 : Int32} {Z : mS → mS → Prop} (hZ : ∀ τ ν, Z τ ν) : OpOK (fun _ => true) a1 a2 a3 a4 a5 mX0 mM0 Z 35 := by
  by_cases hb : a1.toInt < 1 ∨ 5 < a1.toInt
  · refine op_of' (hZ _ _) (c := -1) ?_ (if_pos (in_zero.mpr hb))
    unfold X10_findings
    by_cases h0 : a1 < 1
    · rw [if_pos h0]
    · rw [if_neg h0, if_neg (fun h => ?_)]
      have h1 : a1.toInt ≤ 5 := i_le.mp h
      have h2 : ¬ a1.toInt < 1 := fun q => h0 (i_lt.mpr q)
      omega
  · rcases (show a1.toInt = 1 ∨ a1.toInt = 2 ∨ a1.toInt = 3 ∨ a1.toInt = 4 ∨ a1.toInt = 5 by omega) with h | h | h | h | h
    · rw [show a1 = 1 from (i_of h).trans (by decide)]
      exact op_of' (hZ _ _) (c := 0) (by decide +kernel) (by decide +kernel)
    · rw [show a1 = 2 from (i_of h).trans (by decide)]
      exact op_of' (hZ _ _) (c := 0) (by decide +kernel) (by decide +kernel)
    · rw [show a1 = 3 from (i_of h).trans (by decide)]
      exact op_of' (hZ _ _) (c := 0) (by decide +kernel) (by decide +kernel)
    · rw [show a1 = 4 from (i_of h).trans (by decide)]
      exact op_of' (hZ _ _) (c := 0) (by decide +kernel) (by decide +kernel)
    · rw [show a1 = 5 from (i_of h).trans (by decide)]
      exact op_of' (hZ _ _) (c := 0) (by decide +kernel) (by decide +kernel)
set_option maxRecDepth 100000 in
theorem fr_36 {a1 a2 a3 a4 a5 : Int32} {Z : mS → mS → Prop} (hZ : ∀ τ ν, Z τ ν) : OpOK (fun _ => true) a1 a2 a3 a4 a5 mX0 mM0 Z 36 := by
  exact ⟨5902272754395936206, 5902272754395936206, by decide +kernel, by decide +kernel, fun _ => rfl, hZ _ _⟩
theorem fr_all {a1 a2 a3 a4 a5 : Int32} {Z : mS → mS → Prop} (hZ : ∀ τ ν, Z τ ν) : ∀ j, j ≤ 37 → OpOK (fun _ => true) a1 a2 a3 a4 a5 mX0 mM0 Z j := by
  intro j hj
  match j, hj with
  | 0, _ => exact fr_0 hZ
  | 1, _ => exact fr_1 hZ
  | 2, _ => exact fr_2 hZ
  | 3, _ => exact fr_3 hZ
  | 4, _ => exact fr_4 hZ
  | 5, _ => exact fr_5 hZ
  | 6, _ => exact fr_6 hZ
  | 7, _ => exact fr_7 hZ
  | 8, _ => exact fr_8 hZ
  | 9, _ => exact fr_9 hZ
  | 10, _ => exact fr_10 hZ
  | 11, _ => exact fr_11 hZ
  | 12, _ => exact fr_12 hZ
  | 13, _ => exact fr_13 hZ
  | 14, _ => exact fr_14 hZ
  | 15, _ => exact fr_15 hZ
  | 16, _ => exact fr_16 hZ
  | 17, _ => exact fr_17 hZ
  | 18, _ => exact fr_18 hZ
  | 19, _ => exact fr_19 hZ
  | 20, _ => exact fr_20 hZ
  | 21, _ => exact fr_21 hZ
  | 22, _ => exact fr_22 hZ
  | 23, _ => exact fr_23 hZ
  | 24, _ => exact fr_24 hZ
  | 25, _ => exact fr_25 hZ
  | 26, _ => exact fr_26 hZ
  | 27, _ => exact fr_27 hZ
  | 28, _ => exact fr_28 hZ
  | 29, _ => exact fr_29 hZ
  | 30, _ => exact fr_30 hZ
  | 31, _ => exact fr_31 hZ
  | 32, _ => exact fr_32 hZ
  | 33, _ => exact fr_33 hZ
  | 34, _ => exact fr_34 hZ
  | 35, _ => exact fr_35 hZ
  | 36, _ => exact fr_36 hZ
  | 37, _ => exact hZ _ _
  | j + 38, h => exact absurd h (by omega)
theorem whole_start {p : Program} {e : Env} {s : State} {m : MethodId} {below : List Frame} {meth : Method} {c : Code} (l : Launch) (hflags : l.flags = flags0) {b L : Nat} {xs : Nat → Int32} (hL : L ≤ 6) (C0 : lw_At p s m meth c b L xs) : W p l e room_1 s m #[Value.ref b] below meth c s.heap [] 0 0 (lw_Z below #[Value.ref b] s) (entryFrame m ([Value.ref b] : List Value).toArray 4) := by
  refine law_main l (by omega) C0 (ev := fun _ => true) (fun _ _ => rfl) (Inv := fun k σ μ => k = 0 → σ = mX0 ∧ μ = mM0) (fun _ => ⟨rfl, rfl⟩) (fun k σ μ hk hI => ?_)
  obtain ⟨rfl, rfl⟩ := hI (by omega)
  exact fr_all (fun τ ν h => absurd h (by omega))
