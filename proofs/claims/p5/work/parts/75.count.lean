/-! count, findings, digest -/
theorem lpE {T : Type} {b b' : T × Int32 → Option ((T × Int32) ⊕ T)} {n : Nat} (hn : n < 900000) (hs : ∀ j v, j < n → ∃ v', b (v, nI j) = some (.inl (v', nI j + 1)) ∧ b' (v, nI j) = some (.inl (v', nI j + 1))) (he : ∀ v, b (v, nI n) = some (.inr v) ∧ b' (v, nI n) = some (.inr v)) (v0 : T) : ∃ r, lp big b (v0, 0) = some r ∧ lp big b' (v0, 0) = some r := by
  obtain ⟨r, r', l1, l2, rfl⟩ := lpR (b := b) (b' := b') (I := fun d q q' => ∃ j v, j + d = n ∧ q = (v, nI j) ∧ q' = (v, nI j)) (Q := fun r r' => r = r') (fun d q q' hI => by
    obtain ⟨j, v, hj, rfl, rfl⟩ := hI
    by_cases e : j = n
    · subst e
      right
      exact ⟨_, _, (he v).1, (he v).2, rfl⟩
    · left
      obtain ⟨v', h1, h2⟩ := hs j v (by omega)
      refine ⟨_, _, d - 1, by omega, h1, h2, j + 1, v', by omega, ?_, ?_⟩
      · rw [nI_s j (by omega)]
      · rw [nI_s j (by omega)]) big n (v0, 0) (v0, 0) ⟨0, v0, by omega, rfl, rfl⟩ (by show n < 1000000; omega)
  exact ⟨r, l1, l2⟩
theorem lt_nI {a b : Nat} (ha : a < 2147483648) (hb : b < 2147483648) (h : a < b) : ¬ nI b ≤ nI a := nle (by rw [nI_ti ha, nI_ti hb]; omega)
theorem le_nI {a : Nat} : nI a ≤ nI a := i_le.mpr (Int.le_refl _)
theorem there_E {σ μ : mS} {k z : Nat} {a : Int32} {m : Nat} (hz : z < 7) (hm : ∀ (v : Int32) (x : Nat), x < z → X11_thereAre_b4 μ a v (nI x) = if 0 ≤ μ.1 m x then some (.inl (v + 1, nI x + 1)) else some (.inl (v + 0, nI x + 1))) (hm2 : ∀ v : Int32, X11_thereAre_b4 μ a v (nI z) = some (.inr v)) (he : ∀ x, x < z → μ.1 m x = σ.1 k x) : ∃ v, X10_thoseThere σ k z = some v ∧ X11_thereAre μ a = some v := by
  unfold X10_thoseThere X11_thereAre
  obtain ⟨r, h1, h2⟩ := lpE (b := un2 (X10_thoseThere_b10 σ k z)) (b' := un2 (X11_thereAre_b4 μ a)) (n := z) (by omega) (fun j v hj => by
    show ∃ v', X10_thoseThere_b10 σ k z v (nI j) = _ ∧ X11_thereAre_b4 μ a v (nI j) = _
    unfold X10_thoseThere_b10
    rw [hm v j hj, show Int32.ofNat z = nI z from rfl, if_neg (lt_nI (by omega) (by omega) hj), if_pos (vinI hj (by omega)), nI_nat (by omega), he j hj]
    by_cases q : σ.1 k j < 0
    · rw [if_pos q, if_neg (nle (i_lt.mp q)), Int32.add_zero]
      exact ⟨_, rfl, rfl⟩
    · rw [if_neg q, if_pos (i_le.mpr (by have : ¬ (σ.1 k j).toInt < (0 : Int32).toInt := fun x => q (i_lt.mpr x); omega))]
      exact ⟨_, rfl, rfl⟩) (fun v => by
    show X10_thoseThere_b10 σ k z v (nI z) = _ ∧ X11_thereAre_b4 μ a v (nI z) = _
    unfold X10_thoseThere_b10
    rw [hm2 v, show Int32.ofNat z = nI z from rfl, if_pos le_nI]
    exact ⟨rfl, rfl⟩) 0
  exact ⟨r, by rw [h1, Option.bind_some, un1_app], by rw [h2, Option.bind_some, un1_app]⟩
theorem kept_E {σ μ : mS} {a : Int32} (hm : ∀ (v : Int32) (x : Nat), x < 3 → X11_thereAre_b4 μ a v (nI x) = if 0 ≤ μ.1 11 x then some (.inl (v + 1, nI x + 1)) else some (.inl (v + 0, nI x + 1))) (hm2 : ∀ v : Int32, X11_thereAre_b4 μ a v (nI 3) = some (.inr v)) (he : ∀ x, x < 3 → μ.1 11 x = σ.1 (160 + x) 1) : ∃ v, X10_keptHalls σ = some v ∧ X11_thereAre μ a = some v := by
  unfold X10_keptHalls X11_thereAre
  obtain ⟨r, h1, h2⟩ := lpE (b := un2 (X10_keptHalls_b4 σ)) (b' := un2 (X11_thereAre_b4 μ a)) (n := 3) (by omega) (fun j v hj => by
    show ∃ v', X10_keptHalls_b4 σ v (nI j) = _ ∧ X11_thereAre_b4 μ a v (nI j) = _
    unfold X10_keptHalls_b4
    rw [hm v j hj, if_neg (show ¬ (3 : Int32) ≤ nI j from lt_nI (a := j) (b := 3) (by omega) (by omega) hj), if_pos (vinI hj (by omega)), nI_nat (by omega), he j hj]
    by_cases q : σ.1 (160 + j) 1 < 0
    · rw [if_pos q, if_neg (nle (i_lt.mp q)), Int32.add_zero]
      exact ⟨_, rfl, rfl⟩
    · rw [if_neg q, if_pos (i_le.mpr (by have : ¬ (σ.1 (160 + j) 1).toInt < (0 : Int32).toInt := fun x => q (i_lt.mpr x); omega))]
      exact ⟨_, rfl, rfl⟩) (fun v => by
    show X10_keptHalls_b4 σ v (nI 3) = _ ∧ X11_thereAre_b4 μ a v (nI 3) = _
    unfold X10_keptHalls_b4
    rw [hm2 v, if_pos (by decide : (3 : Int32) ≤ nI 3)]
    exact ⟨rfl, rfl⟩) 0
  exact ⟨r, by rw [h1, Option.bind_some, un1_app], by rw [h2, Option.bind_some, un1_app]⟩
theorem isA1 : ∀ r, r < 6 → (X11_isA (nI r) 1 = 0 ↔ ki_X9 r = 0) := by decide +kernel
theorem isA2 : ∀ r, r < 6 → (X11_isA (nI r) 2 = 0 ↔ ki_X0 r = 0) := by decide +kernel
theorem whole_E {σ μ : mS} {c : cT} (hG : RG σ μ c) : ∃ v, X7_wholeOnes σ = some v ∧ X11_manyOf μ 1 = some v := by
  have hP4 := hG.P4
  unfold X7_wholeOnes X11_manyOf
  obtain ⟨r, h1, h2⟩ := lpE (b := un2 (X7_wholeOnes_b4 σ)) (b' := un2 (X11_manyOf_b4 μ 1)) (n := c.1) (by omega) (fun j v hj => by
    show ∃ v', X7_wholeOnes_b4 σ v (nI j) = _ ∧ X11_manyOf_b4 μ 1 v (nI j) = _
    obtain ⟨r, hr, e1, e2, e3⟩ := hG.kd hj
    unfold X7_wholeOnes_b4 X11_manyOf_b4
    rw [hG.pX, hG.1, if_neg (lt_nI (by omega) (by omega) hj), if_neg (lt_nI (by omega) (by omega) hj), e3, Option.bind_some, if_pos (vinI (by omega) (by omega)), nI_nat (by omega), e2]
    by_cases q : ki_X9 r = 0
    · rw [if_pos q, if_pos ((isA1 r hr).mpr q), Int32.add_zero]
      exact ⟨_, rfl, rfl⟩
    · rw [if_neg q, if_neg (fun x => q ((isA1 r hr).mp x))]
      exact ⟨_, rfl, rfl⟩) (fun v => by
    show X7_wholeOnes_b4 σ v (nI c.1) = _ ∧ X11_manyOf_b4 μ 1 v (nI c.1) = _
    unfold X7_wholeOnes_b4 X11_manyOf_b4
    rw [hG.pX, hG.1, if_pos le_nI, if_pos le_nI]
    exact ⟨rfl, rfl⟩) 0
  exact ⟨r, by rw [h1, Option.bind_some, un1_app], by rw [h2, Option.bind_some, un1_app]⟩
theorem deaf_E {σ μ : mS} {c : cT} (hG : RG σ μ c) : ∃ v, X7_deafOnes σ = some v ∧ X11_manyOf μ 2 = some v := by
  have hP4 := hG.P4
  unfold X7_deafOnes X11_manyOf
  obtain ⟨r, h1, h2⟩ := lpE (b := un2 (X7_deafOnes_b4 σ)) (b' := un2 (X11_manyOf_b4 μ 2)) (n := c.1) (by omega) (fun j v hj => by
    show ∃ v', X7_deafOnes_b4 σ v (nI j) = _ ∧ X11_manyOf_b4 μ 2 v (nI j) = _
    obtain ⟨r, hr, e1, e2, e3⟩ := hG.kd hj
    unfold X7_deafOnes_b4 X11_manyOf_b4
    rw [hG.pX, hG.1, if_neg (lt_nI (by omega) (by omega) hj), if_neg (lt_nI (by omega) (by omega) hj), e3, Option.bind_some, if_pos (vinI (by omega) (by omega)), nI_nat (by omega), e2]
    by_cases q : ki_X0 r = 0
    · rw [if_pos q, if_pos ((isA2 r hr).mpr q), Int32.add_zero]
      exact ⟨_, rfl, rfl⟩
    · rw [if_neg q, if_neg (fun x => q ((isA2 r hr).mp x))]
      exact ⟨_, rfl, rfl⟩) (fun v => by
    show X7_deafOnes_b4 σ v (nI c.1) = _ ∧ X11_manyOf_b4 μ 2 v (nI c.1) = _
    unfold X7_deafOnes_b4 X11_manyOf_b4
    rw [hG.pX, hG.1, if_pos le_nI, if_pos le_nI]
    exact ⟨rfl, rfl⟩) 0
  exact ⟨r, by rw [h1, Option.bind_some, un1_app], by rw [h2, Option.bind_some, un1_app]⟩
theorem marks_E {σ μ : mS} {c : cT} (hG : RG σ μ c) : ∃ v, X2_allMarks σ 5 = some v ∧ X11_allMarks μ = some v := by
  have hP4 := hG.P4
  unfold X2_allMarks X11_allMarks
  obtain ⟨r, h1, h2⟩ := lpE (b := un2 (X2_allMarks_b4 σ 5)) (b' := un2 (X11_allMarks_b4 μ)) (n := c.1) (by omega) (fun j v hj => by
    show ∃ v', X2_allMarks_b4 σ 5 v (nI j) = _ ∧ X11_allMarks_b4 μ v (nI j) = _
    unfold X2_allMarks_b4 X11_allMarks_b4
    obtain ⟨m, hm, em⟩ := hG.hv.1 j (by omega)
    have em2 : σ.1 (152 + 5) j = nI m := by rw [← em]; unfold HX; rw [if_pos (by omega)]
    rw [hG.pX, hG.1, if_neg (lt_nI (by omega) (by omega) hj), if_neg (lt_nI (by omega) (by omega) hj), if_pos (vinI (by omega) (by omega)), if_pos (vinI (by omega) (by omega)), nI_nat (by omega), hG.mk (by omega), em2, bits_eq, Option.bind_some, bc64 m hm]
    exact ⟨_, rfl, rfl⟩) (fun v => by
    show X2_allMarks_b4 σ 5 v (nI c.1) = _ ∧ X11_allMarks_b4 μ v (nI c.1) = _
    unfold X2_allMarks_b4 X11_allMarks_b4
    rw [hG.pX, hG.1, if_pos le_nI, if_pos le_nI]
    exact ⟨rfl, rfl⟩) 0
  exact ⟨r, by rw [h1, Option.bind_some, un1_app], by rw [h2, Option.bind_some, un1_app]⟩
theorem ta9 {μ : mS} (v : Int32) {x : Nat} (h : x < 6) : X11_thereAre_b4 μ 9 v (nI x) = if 0 ≤ μ.1 1 x then some (.inl (v + 1, nI x + 1)) else some (.inl (v + 0, nI x + 1)) := by
  show (if (6 : Int32) ≤ nI x then some (Sum.inr v) else Option.bind (if vin (nI x) 6 = true then some (μ.1 1 (nI x).toNatClampNeg) else none) (un1 (fun v16 => if 0 ≤ v16 then some (.inl ((v + 1), (nI x + 1))) else some (.inl ((v + 0), (nI x + 1)))))) = _
  rw [if_neg (show ¬ (6 : Int32) ≤ nI x from lt_nI (a := x) (b := 6) (by omega) (by omega) h), if_pos (vinI h (by omega)), Option.bind_some, un1_app, nI_nat (by omega)]
theorem ta10 {μ : mS} (v : Int32) {x : Nat} (h : x < 4) : X11_thereAre_b4 μ 10 v (nI x) = if 0 ≤ μ.1 4 x then some (.inl (v + 1, nI x + 1)) else some (.inl (v + 0, nI x + 1)) := by
  show (if (4 : Int32) ≤ nI x then some (Sum.inr v) else Option.bind (if vin (nI x) 4 = true then some (μ.1 4 (nI x).toNatClampNeg) else none) (un1 (fun v16 => if 0 ≤ v16 then some (.inl ((v + 1), (nI x + 1))) else some (.inl ((v + 0), (nI x + 1)))))) = _
  rw [if_neg (show ¬ (4 : Int32) ≤ nI x from lt_nI (a := x) (b := 4) (by omega) (by omega) h), if_pos (vinI h (by omega)), Option.bind_some, un1_app, nI_nat (by omega)]
theorem ta11 {μ : mS} (v : Int32) {x : Nat} (h : x < 3) : X11_thereAre_b4 μ 11 v (nI x) = if 0 ≤ μ.1 11 x then some (.inl (v + 1, nI x + 1)) else some (.inl (v + 0, nI x + 1)) := by
  show (if (3 : Int32) ≤ nI x then some (Sum.inr v) else Option.bind (if vin (nI x) 3 = true then some (μ.1 11 (nI x).toNatClampNeg) else none) (un1 (fun v16 => if 0 ≤ v16 then some (.inl ((v + 1), (nI x + 1))) else some (.inl ((v + 0), (nI x + 1)))))) = _
  rw [if_neg (show ¬ (3 : Int32) ≤ nI x from lt_nI (a := x) (b := 3) (by omega) (by omega) h), if_pos (vinI h (by omega)), Option.bind_some, un1_app, nI_nat (by omega)]
theorem count_E {σ μ : mS} (h : RR σ μ) {w : Nat} (hw : w < 12) : ∃ v, X10_count σ (nI w) = some v ∧ X11_countOf μ (nI w) = some v := by
  obtain ⟨c, hG⟩ := h.2.2.1
  unfold X10_count X11_countOf
  rcases (show w = 0 ∨ w = 1 ∨ w = 2 ∨ w = 3 ∨ w = 4 ∨ w = 5 ∨ w = 6 ∨ w = 7 ∨ w = 8 ∨ w = 9 ∨ w = 10 ∨ w = 11 by omega) with rfl | rfl | rfl | rfl | rfl | rfl | rfl | rfl | rfl | rfl | rfl | rfl
  · exact ⟨_, rfl, by rw [hG.pX, hG.1]; rfl⟩
  · exact ⟨_, rfl, by rw [← hG.cal]; rfl⟩
  · exact ⟨_, rfl, by rw [← hG.2.2.2.2.2.2.1]; rfl⟩
  · exact ⟨_, rfl, by rw [← hG.bag]; rfl⟩
  · exact ⟨_, rfl, by rw [← hG.las]; rfl⟩
  · exact ⟨_, rfl, by rw [← hG.won]; rfl⟩
  · obtain ⟨v, h1, h2⟩ := marks_E hG
    rw [h1, h2]
    exact ⟨v, rfl, rfl⟩
  · obtain ⟨v, h1, h2⟩ := whole_E hG
    rw [h1, h2]
    exact ⟨v, rfl, rfl⟩
  · obtain ⟨v, h1, h2⟩ := deaf_E hG
    rw [h1, h2]
    exact ⟨v, rfl, rfl⟩
  · obtain ⟨v, h1, h2⟩ := there_E (σ := σ) (μ := μ) (k := 24) (z := 6) (a := 9) (m := 1) (by omega) (fun v x hx => ta9 v hx) (fun v => rfl) (fun x hx => (h.1 x hx).1)
    rw [h1, show nI 9 = 9 from rfl, h2]
    exact ⟨v, rfl, rfl⟩
  · obtain ⟨v, h1, h2⟩ := there_E (σ := σ) (μ := μ) (k := 48) (z := 4) (a := 10) (m := 4) (by omega) (fun v x hx => ta10 v hx) (fun v => rfl) (fun x hx => (h.2.1 x hx).1)
    rw [h1, show nI 10 = 10 from rfl, h2]
    exact ⟨v, rfl, rfl⟩
  · obtain ⟨v, h1, h2⟩ := kept_E (σ := σ) (μ := μ) (a := 11) (fun v x hx => ta11 v hx) (fun v => rfl) (fun x hx => (hG.2.2.2.2.2.2.2.2 x hx).1)
    rw [h1, show nI 11 = 11 from rfl, h2]
    exact ⟨v, rfl, rfl⟩
theorem sim_count {σ μ : mS} (h : RR σ μ) (a1 : Int32) : ∃ v, X10_count σ a1 = some v ∧ X11_count μ a1 = some v := by
  unfold X11_count
  by_cases b : a1.toInt < 0 ∨ 11 < a1.toInt
  · refine ⟨-1, ?_, by rw [if_pos (in_zero.mpr b)]⟩
    unfold X10_count
    have ne : ∀ k : Nat, k < 12 → ¬ a1 = nI k := fun k hk q => by
      have := i_eq.mp q
      rw [nI_ti (by omega)] at this
      omega
    rw [if_neg (show ¬ a1 = (0 : Int32) from ne 0 (by omega)), if_neg (show ¬ a1 = (1 : Int32) from ne 1 (by omega)), if_neg (show ¬ a1 = (2 : Int32) from ne 2 (by omega)), if_neg (show ¬ a1 = (3 : Int32) from ne 3 (by omega)), if_neg (show ¬ a1 = (4 : Int32) from ne 4 (by omega)), if_neg (show ¬ a1 = (5 : Int32) from ne 5 (by omega)), if_neg (show ¬ a1 = (6 : Int32) from ne 6 (by omega)), if_neg (show ¬ a1 = (7 : Int32) from ne 7 (by omega)), if_neg (show ¬ a1 = (8 : Int32) from ne 8 (by omega)), if_neg (show ¬ a1 = (9 : Int32) from ne 9 (by omega)), if_neg (show ¬ a1 = (10 : Int32) from ne 10 (by omega)), if_neg (show ¬ a1 = (11 : Int32) from ne 11 (by omega))]
  · rw [if_neg (fun q => b (in_zero.mp q))]
    obtain ⟨w, hw, rfl⟩ := i_ex (a := a1) (m := 12) (by omega) (by omega)
    obtain ⟨v, h1, h2⟩ := count_E h hw
    exact ⟨v, h1, by rw [h2, Option.bind_some]⟩
theorem sim_findings {σ μ : mS} (h : RR σ μ) (a1 : Int32) : ∃ v, X10_findings σ a1 = some v ∧ X11_findings μ a1 = some v := by
  unfold X10_findings X11_findings
  by_cases b : a1.toInt < 1 ∨ 5 < a1.toInt
  · rw [if_pos (in_zero.mpr b : X11_in a1.toInt64 1 5 = 0)]
    by_cases b2 : a1.toInt < 1
    · rw [if_pos (i_lt.mpr b2)]
      exact ⟨_, rfl, rfl⟩
    · rw [if_neg (fun q => b2 (i_lt.mp q)), if_neg (nle (by show (5 : Int) < _; omega))]
      exact ⟨_, rfl, rfl⟩
  · rw [if_neg (fun q => b (in_zero.mp q) : ¬ X11_in a1.toInt64 1 5 = 0), if_neg (fun q => b (Or.inl (i_lt.mp q))), if_pos (ile (by show _ ≤ (5 : Int); omega))]
    obtain ⟨w, hw, rfl⟩ := i_ex (a := a1) (m := 6) (by omega) (by omega)
    rw [if_pos (vinI hw (by omega)), if_pos (vinI hw (by omega)), nI_nat (by omega)]
    exact ⟨_, rfl, by rw [h.2.2.2.2.2.2.2 w hw]⟩
/-! digest -/
theorem dg_rows {σ μ : mS} (h : RR σ μ) (y : Int64) : ∃ v, lp big (un2 (X10_digest_b148 σ)) (y, 0) = some v ∧ lp big (un2 (X11_digest_b142 μ)) (y, 0) = some v :=
  lpE (b := un2 (X10_digest_b148 σ)) (b' := un2 (X11_digest_b142 μ)) (n := 6) (by omega) (fun j v hj => by
    show ∃ v', X10_digest_b148 σ v (nI j) = _ ∧ X11_digest_b142 μ v (nI j) = _
    unfold X10_digest_b148 X11_digest_b142
    obtain ⟨w1, w2, w3, w4⟩ := h.1 j hj
    have hv : vin (nI j) 6 = true := vinI hj (by omega)
    have l6 : ¬ (6 : Int32) ≤ nI j := lt_nI (a := j) (b := 6) (by omega) (by omega) hj
    rw [if_neg l6, if_neg l6, if_pos hv, if_pos hv, nI_nat (by omega), w1]
    generalize ((31 * v) + ((σ.1 24 j)).toInt64) = y
    by_cases ng : (σ.1 24 j).toInt < 0
    · have q : σ.1 24 j ≤ 0 := i_le.mpr (by show _ ≤ (0 : Int); omega)
      have e1 : lp big (un2 (X10_digest_b171 σ (nI j))) (y, 0) = some y := lp_r (f := 999999) (by
        show X10_digest_b171 σ (nI j) y 0 = _
        unfold X10_digest_b171
        rw [if_pos hv, nI_nat (by omega), if_pos q])
      have e2 : lp big (un2 (X11_digest_b165 μ (nI j))) (y, 0) = some y := lp_r (f := 999999) (by
        show X11_digest_b165 μ (nI j) y 0 = _
        unfold X11_digest_b165
        rw [if_pos hv, nI_nat (by omega), w1, if_pos q])
      rw [e1, e2]
      exact ⟨_, rfl, rfl⟩
    obtain ⟨z, hz, ez⟩ := i_ex (a := σ.1 24 j) (m := 41) (by omega) (by omega)
    obtain ⟨r, g1, g2⟩ := lpE (b := un2 (X10_digest_b171 σ (nI j))) (b' := un2 (X11_digest_b165 μ (nI j))) (n := z) (by omega) (fun i v hi => by
      show ∃ v', X10_digest_b171 σ (nI j) v (nI i) = _ ∧ X11_digest_b165 μ (nI j) v (nI i) = _
      unfold X10_digest_b171 X11_digest_b165
      have c1 := i_ix (c := 40) (cn := 40) (by decide) (nI_ti (n := j) (by omega)) (nI_ti (n := i) (by omega)) (by omega)
      have c2 := i_ixn (c := 40) (cn := 40) (by decide) (nI_ti (n := j) (by omega)) (nI_ti (n := i) (by omega)) (by omega)
      rw [if_pos hv, if_pos hv, nI_nat (n := j) (by omega), w1, ez, if_neg (lt_nI (by omega) (by omega) hi), if_neg (lt_nI (by omega) (by omega) hi), if_pos hv, if_pos (vinI (by omega) (by omega)), if_pos (vin_iff.mpr (by rw [c1]; omega) : vin (((40 : Int32) * nI j) + nI i) 240 = true), c2, nI_nat (n := i) (by omega), w4 i (by rw [ez, nI_ti (by omega)]; omega)]
      exact ⟨_, rfl, rfl⟩) (fun v => by
      show X10_digest_b171 σ (nI j) v (nI z) = _ ∧ X11_digest_b165 μ (nI j) v (nI z) = _
      unfold X10_digest_b171 X11_digest_b165
      refine ⟨?_, ?_⟩ <;> simp only [if_pos hv, nI_nat (n := j) (show j < 2147483648 by omega), w1, ez, if_pos (le_nI (a := z))]) y
    rw [g1, g2]
    exact ⟨_, rfl, rfl⟩) (fun v => ⟨rfl, rfl⟩) y
theorem dg_texts {σ μ : mS} (h : RR σ μ) (y : Int64) : ∃ v, lp big (un2 (X10_digest_b213 σ)) (y, 0) = some v ∧ lp big (un2 (X11_digest_b210 μ)) (y, 0) = some v :=
  lpE (b := un2 (X10_digest_b213 σ)) (b' := un2 (X11_digest_b210 μ)) (n := 4) (by omega) (fun j v hj => by
    show ∃ v', X10_digest_b213 σ v (nI j) = _ ∧ X11_digest_b210 μ v (nI j) = _
    unfold X10_digest_b213 X11_digest_b210
    obtain ⟨w1, w2, w3, w4⟩ := h.2.1 j hj
    have hv : vin (nI j) 4 = true := vinI hj (by omega)
    have l6 : ¬ (4 : Int32) ≤ nI j := lt_nI (a := j) (b := 4) (by omega) (by omega) hj
    rw [if_neg l6, if_neg l6, if_pos hv, if_pos hv, nI_nat (by omega), w1]
    generalize ((31 * v) + ((σ.1 48 j)).toInt64) = y
    by_cases ng : (σ.1 48 j).toInt < 0
    · have q : σ.1 48 j ≤ 0 := i_le.mpr (by show _ ≤ (0 : Int); omega)
      have e1 : lp big (un2 (X10_digest_b235 σ (nI j))) (y, 0) = some y := lp_r (f := 999999) (by
        show X10_digest_b235 σ (nI j) y 0 = _
        unfold X10_digest_b235
        rw [if_pos hv, nI_nat (by omega), if_pos q])
      have e2 : lp big (un2 (X11_digest_b232 μ (nI j))) (y, 0) = some y := lp_r (f := 999999) (by
        show X11_digest_b232 μ (nI j) y 0 = _
        unfold X11_digest_b232
        rw [if_pos hv, nI_nat (by omega), w1, if_pos q])
      rw [e1, e2]
      exact ⟨_, rfl, rfl⟩
    obtain ⟨z, hz, ez⟩ := i_ex (a := σ.1 48 j) (m := 61) (by omega) (by omega)
    obtain ⟨r, g1, g2⟩ := lpE (b := un2 (X10_digest_b235 σ (nI j))) (b' := un2 (X11_digest_b232 μ (nI j))) (n := z) (by omega) (fun i v hi => by
      show ∃ v', X10_digest_b235 σ (nI j) v (nI i) = _ ∧ X11_digest_b232 μ (nI j) v (nI i) = _
      unfold X10_digest_b235 X11_digest_b232
      have c1 := i_ix (c := 60) (cn := 60) (by decide) (nI_ti (n := j) (by omega)) (nI_ti (n := i) (by omega)) (by omega)
      have c2 := i_ixn (c := 60) (cn := 60) (by decide) (nI_ti (n := j) (by omega)) (nI_ti (n := i) (by omega)) (by omega)
      rw [if_pos hv, if_pos hv, nI_nat (n := j) (by omega), w1, ez, if_neg (lt_nI (by omega) (by omega) hi), if_neg (lt_nI (by omega) (by omega) hi), if_pos hv, if_pos (vinI (by omega) (by omega)), if_pos (vin_iff.mpr (by rw [c1]; omega) : vin (((60 : Int32) * nI j) + nI i) 240 = true), c2, nI_nat (n := i) (by omega), w4 i (by rw [ez, nI_ti (by omega)]; omega)]
      exact ⟨_, rfl, rfl⟩) (fun v => by
      show X10_digest_b235 σ (nI j) v (nI z) = _ ∧ X11_digest_b232 μ (nI j) v (nI z) = _
      unfold X10_digest_b235 X11_digest_b232
      refine ⟨?_, ?_⟩ <;> simp only [if_pos hv, nI_nat (n := j) (show j < 2147483648 by omega), w1, ez, if_pos (le_nI (a := z))]) y
    rw [g1, g2]
    exact ⟨_, rfl, rfl⟩) (fun v => ⟨rfl, rfl⟩) y
theorem dg_kept {σ μ : mS} {c : cT} (hG : RG σ μ c) (y : Int64) : ∃ v, lp big (un2 (X10_digest_b118 σ)) (y, 0) = some v ∧ lp big (un2 (X11_digest_b115 μ)) (y, 0) = some v :=
  lpE (b := un2 (X10_digest_b118 σ)) (b' := un2 (X11_digest_b115 μ)) (n := 3) (by omega) (fun j v hj => by
    show ∃ v', X10_digest_b118 σ v (nI j) = _ ∧ X11_digest_b115 μ v (nI j) = _
    unfold X10_digest_b118 X11_digest_b115
    have l3 : ¬ (3 : Int32) ≤ nI j := lt_nI (a := j) (b := 3) (by omega) (by omega) hj
    have hv : vin (nI j) 3 = true := vinI hj (by omega)
    rw [if_neg l3, if_neg l3, if_pos hv, if_pos hv, nI_nat (by omega), (hG.2.2.2.2.2.2.2.2 j hj).1]
    exact ⟨_, rfl, rfl⟩) (fun v => ⟨rfl, rfl⟩) y
theorem dg_players {σ μ : mS} {c : cT} (hG : RG σ μ c) (y : Int64) : ∃ v, lp big (un2 (X10_digest_b33 σ)) (y, 0) = some v ∧ lp big (un2 (X11_digest_b33 μ)) (y, 0) = some v := by
  have hP4 := hG.P4
  exact lpE (b := un2 (X10_digest_b33 σ)) (b' := un2 (X11_digest_b33 μ)) (n := c.1) (by omega) (fun j v hj => by
    show ∃ v', X10_digest_b33 σ v (nI j) = _ ∧ X11_digest_b33 μ v (nI j) = _
    unfold X10_digest_b33 X11_digest_b33
    rw [hG.pX, hG.1, if_neg (lt_nI (by omega) (by omega) hj), if_neg (lt_nI (by omega) (by omega) hj)]
    obtain ⟨r1, g1, g2⟩ := lpE (b := un2 (X10_digest_b47 σ (nI j))) (b' := un2 (X11_digest_b44 μ (nI j))) (n := 5) (by omega) (fun i v hi => by
      show ∃ v', X10_digest_b47 σ (nI j) v (nI i) = _ ∧ X11_digest_b44 μ (nI j) v (nI i) = _
      unfold X10_digest_b47 X11_digest_b44
      obtain ⟨t, t1, t2⟩ := told_eq hG hj hi
      rw [if_neg (fun q => by have := i_lt.mp q; rw [nI_ti (by omega)] at this; have : (4 : Int) < i := this; omega), if_neg (show ¬ (5 : Int32) ≤ nI i from lt_nI (a := i) (b := 5) (by omega) (by omega) hi), t1, t2]
      exact ⟨_, rfl, rfl⟩) (fun v => ⟨rfl, rfl⟩) v
    obtain ⟨r2, g3, g4⟩ := lpE (b := un2 (X10_digest_b77 σ (nI j))) (b' := un2 (X11_digest_b74 μ (nI j))) (n := 6) (by omega) (fun i v hi => by
      show ∃ v', X10_digest_b77 σ (nI j) v (nI i) = _ ∧ X11_digest_b74 μ (nI j) v (nI i) = _
      unfold X10_digest_b77 X11_digest_b74
      have l6 : ¬ (6 : Int32) ≤ nI i := lt_nI (a := i) (b := 6) (by omega) (by omega) hi
      have c1 := i_ix (c := 6) (cn := 6) (by decide) (nI_ti (n := j) (by omega)) (nI_ti (n := i) (by omega)) (by omega)
      have c2 := i_ixn (c := 6) (cn := 6) (by decide) (nI_ti (n := j) (by omega)) (nI_ti (n := i) (by omega)) (by omega)
      rw [if_neg l6, if_neg l6, if_pos (vinI (by omega) (by omega)), if_pos (vinI hi (by omega)), if_pos (vin_iff.mpr (by rw [c1]; omega) : vin (((6 : Int32) * nI j) + nI i) 24 = true), c2, nI_nat (n := i) (by omega), nI_nat (n := j) (by omega), ((hG.2.2.2.1.2.2 j hj).2.2 i hi).1, ← hG.2.2.1]
      exact ⟨_, rfl, rfl⟩) (fun v => ⟨rfl, rfl⟩) r1
    rw [g1, g2, Option.bind_some, Option.bind_some, un1_app, un1_app, g3, g4]
    exact ⟨_, rfl, rfl⟩) (fun v => by
    show X10_digest_b33 σ v (nI c.1) = _ ∧ X11_digest_b33 μ v (nI c.1) = _
    unfold X10_digest_b33 X11_digest_b33
    rw [hG.pX, hG.1, if_pos le_nI, if_pos le_nI]
    exact ⟨rfl, rfl⟩) y
theorem sim_digest {σ μ : mS} (h : RR σ μ) : ∃ v, X10_digest σ = some v ∧ X11_digest μ = some v := by
  obtain ⟨c, hG⟩ := h.2.2.1
  unfold X10_digest X11_digest
  obtain ⟨r1, a1, b1⟩ := lpE (b := un2 (X10_digest_b6 σ)) (b' := un2 (X11_digest_b6 μ)) (n := 12) (by omega) (fun i v hi => by
    show ∃ v', X10_digest_b6 σ v (nI i) = _ ∧ X11_digest_b6 μ v (nI i) = _
    unfold X10_digest_b6 X11_digest_b6
    obtain ⟨t, t1, t2⟩ := count_E h hi
    rw [if_neg (fun q => by have := i_lt.mp q; rw [nI_ti (by omega)] at this; have : (11 : Int) < i := this; omega), if_neg (show ¬ (12 : Int32) ≤ nI i from lt_nI (a := i) (b := 12) (by omega) (by omega) hi), t1, t2]
    exact ⟨_, rfl, rfl⟩) (fun v => ⟨rfl, rfl⟩) 17
  obtain ⟨r2, a2, b2⟩ := dg_players hG r1
  obtain ⟨r3, a3, b3⟩ := dg_kept hG r2
  obtain ⟨r4, a4, b4⟩ := dg_rows h r3
  obtain ⟨r5, a5, b5⟩ := dg_texts h r4
  refine ⟨r5, ?_, ?_⟩
  · rw [a1, Option.bind_some, un1_app, a2, Option.bind_some, un1_app, a3, Option.bind_some, un1_app, a4, Option.bind_some, un1_app, a5, Option.bind_some, un1_app]
  · rw [b1, Option.bind_some, un1_app, b2, Option.bind_some, un1_app, b3, Option.bind_some, un1_app, b4, Option.bind_some, un1_app, b5, Option.bind_some, un1_app]
