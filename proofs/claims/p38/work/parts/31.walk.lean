theorem ki_X9_ne {r : Nat} (h : ¬ ki_X9 r = 0) : r = 1 ∨ r = 4 := by
  unfold ki_X9 at h
  by_cases h1 : r = 1
  · exact Or.inl h1
  by_cases h4 : r = 4
  · exact Or.inr h4
  simp [h1, h4] at h
theorem x_inst_X9 {K : Kx} {cc : ByteArray} {own : String} {n : Nat} {σ : mS} {pc : Nat} {lv : List (Nat × Value)} {st : List Value} (C : Cx LX K cc own n) {r i : Nat} (hr : r < 6) (hl : Cond.classLink own i "CalledNumbers$Whole" ∈ mB) (d : decode cc pc = .ok (.instanceof i, 3)) (kk : Wx LX K σ (pc + 3) lv (.int (ki_X9 r) :: st)) : Wx LX K σ pc lv (.ref (kad K (104 + r)) :: st) := by
  rcases (show r = 0 ∨ r = 1 ∨ r = 2 ∨ r = 3 ∨ r = 4 ∨ r = 5 by omega) with rfl | rfl | rfl | rfl | rfl | rfl
  · exact x_instNo (q := (RX5, TX5, 0)) C (iX13 (i := 0) (by decide)) rfl rfl (by decide +kernel) hl d kk
  · exact x_instS (q := (RX9, TX9, 0)) C (iX13 (i := 1) (by decide)) rfl rfl hl d kk
  · exact x_instNo (q := (RX0, TX0, 0)) C (iX13 (i := 2) (by decide)) rfl rfl (by decide +kernel) hl d kk
  · exact x_instNo (q := (RX3, TX3, 0)) C (iX13 (i := 3) (by decide)) rfl rfl (by decide +kernel) hl d kk
  · exact x_instY (q := (RX4, TX4, 0)) C (iX13 (i := 4) (by decide)) rfl rfl twN1156 hl d kk
  · exact x_instNo (q := (RX8, TX8, 0)) C (iX13 (i := 5) (by decide)) rfl rfl (by decide +kernel) hl d kk
theorem x_cast_X9 {K : Kx} {cc : ByteArray} {own : String} {n : Nat} {σ : mS} {pc : Nat} {lv : List (Nat × Value)} {st : List Value} (C : Cx LX K cc own n) {r i : Nat} (hr : r = 1 ∨ r = 4) (hl : Cond.classLink own i "CalledNumbers$Whole" ∈ mB) (d : decode cc pc = .ok (.checkcast i, 3)) (kk : Wx LX K σ (pc + 3) lv (.ref (kad K (104 + r)) :: st)) : Wx LX K σ pc lv (.ref (kad K (104 + r)) :: st) := by
  rcases hr with rfl | rfl
  · exact x_castS (q := (RX9, TX9, 0)) C (iX13 (i := 1) (by decide)) rfl rfl hl d kk
  · exact x_castY (q := (RX4, TX4, 0)) C (iX13 (i := 4) (by decide)) rfl rfl twN1156 hl d kk
set_option maxHeartbeats 4000000 in
set_option maxRecDepth 100000 in
theorem c_X7_wholeOnes {l : Launch} {D : va_G} {ad : Nat → Nat} {cy : Nat → ClassId} (hJ : mJ LX ad) {σ : mS}  {r : Int32}  (h0 : X7_wholeOnes σ = some r) : MetG l LX D ad cy yX7_wholeOnes cX7_wholeOnes 3 (some .int) 1 [.ref (ad 88)] σ (some (.int r)) σ := by
  refine MetG.of hJ (by decide +kernel) [(0, .ref (ad 88))] rfl (Nat.le_of_ble_eq_true rfl) ?_
  intro K e1 e2 e3 e4 e5 C R
  subst e1
  subst e2
  subst e3
  subst e4
  unfold X7_wholeOnes at h0
  refine x_iconst (v := 0) C dX7_wholeOnes_0 rfl ?_
  refine x_istore_n (lv' := [(1, .int 0), (0, .ref (kad K 88))]) C dX7_wholeOnes_1 (by rw [e5]; decide) rfl ?_
  refine x_iconst (v := 0) C dX7_wholeOnes_2 rfl ?_
  refine x_istore_n (lv' := [(2, .int 0), (1, .int 0), (0, .ref (kad K 88))]) C dX7_wholeOnes_3 (by rw [e5]; decide) rfl ?_
  obtain ⟨e10, g11, h0⟩ := ob_bind h0
  have J1 : ∀ (y3 : Int32), y3 = e10 → Wx LX K σ 32 [(1, .int y3)] [] := by
    intro y3 e9
    subst e9
    replace h0 := un1_l h0
    refine x_iload_n C 0 dX7_wholeOnes_32 rfl ?_
    cases h0
    exact x_iret C R dX7_wholeOnes_33
  refine lp_G (G := fun q : Int32 × Int32 => Wx LX K σ 4 [(2, .int q.2), (1, .int q.1), (0, .ref (kad K 88))] []) (fun q x h1 ihL1 ihR1 => ?_) big _ g11
  obtain ⟨x1, x2⟩ := q
  replace h1 : X7_wholeOnes_b4 σ x1 x2 = some x := h1
  unfold X7_wholeOnes_b4 at h1
  show Wx LX K σ 4 [(2, .int x2), (1, .int x1), (0, .ref (kad K 88))] []
  refine x_iload_n C 0 dX7_wholeOnes_4 rfl ?_
  refine x_aload_n C 2 dX7_wholeOnes_5 rfl ?_
  refine x_getI (j := 4) (i := 51) (q := (RX7, TX7, 5)) C (iX 88 (by decide)) rfl rfl inBX7 (by decide) tw171 rfl dX7_wholeOnes_6 ?_
  refine x_icmpge C 32 dX7_wholeOnes_9 (by decide) (fun c5 => ?_) (fun c5 => ?_)
  · replace h1 := ob_pos c5 h1
    refine x_lv (lv' := [(1, .int x1)]) [1] rfl ?_
    exact J1 _ (ihR1 _ (Option.some.inj h1).symm)
  · replace h1 := ob_neg c5 h1
    refine x_aload_n C 2 dX7_wholeOnes_12 rfl ?_
    refine x_iload_n C 0 dX7_wholeOnes_13 rfl ?_
    obtain ⟨r6, g7, h1⟩ := ob_bind h1
    refine x_callV (ar := 1) (q := (RX7, TX7, 5)) (rest := []) C (c_X7_kindAt C.2.2.2.2.2.2.1  g7) (iX 88 (by decide)) rfl rfl hy_X7_kindAt ⟨tw730, tw399, tw400, tw65, tw401⟩ (by decide) (by decide) rfl rfl (Nat.le_of_ble_eq_true rfl) dX7_wholeOnes_14 ?_
    show Wx LX K σ 17 [(2, .int x2), (1, .int x1), (0, .ref (kad K 88))] [.ref (kad K (104 + r6))]
    refine x_inst_X9 C (KB_X7_kindAt g7) tw127 dX7_wholeOnes_17 ?_
    refine x_ifeq C 26 dX7_wholeOnes_20 (by decide) (fun c9 => ?_) (fun c9 => ?_)
    · replace h1 := ob_pos c9 h1
      refine x_iinc (v := (x2 + 1)) (lv' := [(2, .int (x2 + 1)), (1, .int x1), (0, .ref (kad K 88))]) C 0 dX7_wholeOnes_26 rfl rfl (by rw [e5]; decide) rfl ?_
      refine x_goto C 4 dX7_wholeOnes_29 (by decide) ?_
      refine x_lv (lv' := [(2, .int (x2 + 1)), (1, .int x1), (0, .ref (kad K 88))]) [0, 1, 2] rfl ?_
      exact ihL1 _ (Option.some.inj h1).symm
    · replace h1 := ob_neg c9 h1
      refine x_iinc (v := (x1 + 1)) (lv' := [(1, .int (x1 + 1)), (2, .int x2), (0, .ref (kad K 88))]) C 1 dX7_wholeOnes_23 rfl rfl (by rw [e5]; decide) rfl ?_
      refine x_iinc (v := (x2 + 1)) (lv' := [(2, .int (x2 + 1)), (1, .int (x1 + 1)), (0, .ref (kad K 88))]) C 1 dX7_wholeOnes_26 rfl rfl (by rw [e5]; decide) rfl ?_
      refine x_goto C 4 dX7_wholeOnes_29 (by decide) ?_
      refine x_lv (lv' := [(2, .int (x2 + 1)), (1, .int (x1 + 1)), (0, .ref (kad K 88))]) [0, 1, 2] rfl ?_
      exact ihL1 _ (Option.some.inj h1).symm
theorem ki_X0_ne {r : Nat} (h : ¬ ki_X0 r = 0) : r = 2 ∨ r = 5 := by
  unfold ki_X0 at h
  by_cases h2 : r = 2
  · exact Or.inl h2
  by_cases h5 : r = 5
  · exact Or.inr h5
  simp [h2, h5] at h
theorem x_inst_X0 {K : Kx} {cc : ByteArray} {own : String} {n : Nat} {σ : mS} {pc : Nat} {lv : List (Nat × Value)} {st : List Value} (C : Cx LX K cc own n) {r i : Nat} (hr : r < 6) (hl : Cond.classLink own i "CalledNumbers$Deaf" ∈ mB) (d : decode cc pc = .ok (.instanceof i, 3)) (kk : Wx LX K σ (pc + 3) lv (.int (ki_X0 r) :: st)) : Wx LX K σ pc lv (.ref (kad K (104 + r)) :: st) := by
  rcases (show r = 0 ∨ r = 1 ∨ r = 2 ∨ r = 3 ∨ r = 4 ∨ r = 5 by omega) with rfl | rfl | rfl | rfl | rfl | rfl
  · exact x_instNo (q := (RX5, TX5, 0)) C (iX13 (i := 0) (by decide)) rfl rfl (by decide +kernel) hl d kk
  · exact x_instNo (q := (RX9, TX9, 0)) C (iX13 (i := 1) (by decide)) rfl rfl (by decide +kernel) hl d kk
  · exact x_instS (q := (RX0, TX0, 0)) C (iX13 (i := 2) (by decide)) rfl rfl hl d kk
  · exact x_instNo (q := (RX3, TX3, 0)) C (iX13 (i := 3) (by decide)) rfl rfl (by decide +kernel) hl d kk
  · exact x_instNo (q := (RX4, TX4, 0)) C (iX13 (i := 4) (by decide)) rfl rfl (by decide +kernel) hl d kk
  · exact x_instY (q := (RX8, TX8, 0)) C (iX13 (i := 5) (by decide)) rfl rfl twN1157 hl d kk
theorem x_cast_X0 {K : Kx} {cc : ByteArray} {own : String} {n : Nat} {σ : mS} {pc : Nat} {lv : List (Nat × Value)} {st : List Value} (C : Cx LX K cc own n) {r i : Nat} (hr : r = 2 ∨ r = 5) (hl : Cond.classLink own i "CalledNumbers$Deaf" ∈ mB) (d : decode cc pc = .ok (.checkcast i, 3)) (kk : Wx LX K σ (pc + 3) lv (.ref (kad K (104 + r)) :: st)) : Wx LX K σ pc lv (.ref (kad K (104 + r)) :: st) := by
  rcases hr with rfl | rfl
  · exact x_castS (q := (RX0, TX0, 0)) C (iX13 (i := 2) (by decide)) rfl rfl hl d kk
  · exact x_castY (q := (RX8, TX8, 0)) C (iX13 (i := 5) (by decide)) rfl rfl twN1157 hl d kk
set_option maxHeartbeats 4000000 in
set_option maxRecDepth 100000 in
theorem c_X7_deafOnes {l : Launch} {D : va_G} {ad : Nat → Nat} {cy : Nat → ClassId} (hJ : mJ LX ad) {σ : mS}  {r : Int32}  (h0 : X7_deafOnes σ = some r) : MetG l LX D ad cy yX7_deafOnes cX7_deafOnes 3 (some .int) 1 [.ref (ad 88)] σ (some (.int r)) σ := by
  refine MetG.of hJ (by decide +kernel) [(0, .ref (ad 88))] rfl (Nat.le_of_ble_eq_true rfl) ?_
  intro K e1 e2 e3 e4 e5 C R
  subst e1
  subst e2
  subst e3
  subst e4
  unfold X7_deafOnes at h0
  refine x_iconst (v := 0) C dX7_deafOnes_0 rfl ?_
  refine x_istore_n (lv' := [(1, .int 0), (0, .ref (kad K 88))]) C dX7_deafOnes_1 (by rw [e5]; decide) rfl ?_
  refine x_iconst (v := 0) C dX7_deafOnes_2 rfl ?_
  refine x_istore_n (lv' := [(2, .int 0), (1, .int 0), (0, .ref (kad K 88))]) C dX7_deafOnes_3 (by rw [e5]; decide) rfl ?_
  obtain ⟨e10, g11, h0⟩ := ob_bind h0
  have J1 : ∀ (y3 : Int32), y3 = e10 → Wx LX K σ 32 [(1, .int y3)] [] := by
    intro y3 e9
    subst e9
    replace h0 := un1_l h0
    refine x_iload_n C 0 dX7_deafOnes_32 rfl ?_
    cases h0
    exact x_iret C R dX7_deafOnes_33
  refine lp_G (G := fun q : Int32 × Int32 => Wx LX K σ 4 [(2, .int q.2), (1, .int q.1), (0, .ref (kad K 88))] []) (fun q x h1 ihL1 ihR1 => ?_) big _ g11
  obtain ⟨x1, x2⟩ := q
  replace h1 : X7_deafOnes_b4 σ x1 x2 = some x := h1
  unfold X7_deafOnes_b4 at h1
  show Wx LX K σ 4 [(2, .int x2), (1, .int x1), (0, .ref (kad K 88))] []
  refine x_iload_n C 0 dX7_deafOnes_4 rfl ?_
  refine x_aload_n C 2 dX7_deafOnes_5 rfl ?_
  refine x_getI (j := 4) (i := 51) (q := (RX7, TX7, 5)) C (iX 88 (by decide)) rfl rfl inBX7 (by decide) tw171 rfl dX7_deafOnes_6 ?_
  refine x_icmpge C 32 dX7_deafOnes_9 (by decide) (fun c5 => ?_) (fun c5 => ?_)
  · replace h1 := ob_pos c5 h1
    refine x_lv (lv' := [(1, .int x1)]) [1] rfl ?_
    exact J1 _ (ihR1 _ (Option.some.inj h1).symm)
  · replace h1 := ob_neg c5 h1
    refine x_aload_n C 2 dX7_deafOnes_12 rfl ?_
    refine x_iload_n C 0 dX7_deafOnes_13 rfl ?_
    obtain ⟨r6, g7, h1⟩ := ob_bind h1
    refine x_callV (ar := 1) (q := (RX7, TX7, 5)) (rest := []) C (c_X7_kindAt C.2.2.2.2.2.2.1  g7) (iX 88 (by decide)) rfl rfl hy_X7_kindAt ⟨tw730, tw399, tw400, tw65, tw401⟩ (by decide) (by decide) rfl rfl (Nat.le_of_ble_eq_true rfl) dX7_deafOnes_14 ?_
    show Wx LX K σ 17 [(2, .int x2), (1, .int x1), (0, .ref (kad K 88))] [.ref (kad K (104 + r6))]
    refine x_inst_X0 C (KB_X7_kindAt g7) tw134 dX7_deafOnes_17 ?_
    refine x_ifeq C 26 dX7_deafOnes_20 (by decide) (fun c9 => ?_) (fun c9 => ?_)
    · replace h1 := ob_pos c9 h1
      refine x_iinc (v := (x2 + 1)) (lv' := [(2, .int (x2 + 1)), (1, .int x1), (0, .ref (kad K 88))]) C 0 dX7_deafOnes_26 rfl rfl (by rw [e5]; decide) rfl ?_
      refine x_goto C 4 dX7_deafOnes_29 (by decide) ?_
      refine x_lv (lv' := [(2, .int (x2 + 1)), (1, .int x1), (0, .ref (kad K 88))]) [0, 1, 2] rfl ?_
      exact ihL1 _ (Option.some.inj h1).symm
    · replace h1 := ob_neg c9 h1
      refine x_iinc (v := (x1 + 1)) (lv' := [(1, .int (x1 + 1)), (2, .int x2), (0, .ref (kad K 88))]) C 1 dX7_deafOnes_23 rfl rfl (by rw [e5]; decide) rfl ?_
      refine x_iinc (v := (x2 + 1)) (lv' := [(2, .int (x2 + 1)), (1, .int (x1 + 1)), (0, .ref (kad K 88))]) C 1 dX7_deafOnes_26 rfl rfl (by rw [e5]; decide) rfl ?_
      refine x_goto C 4 dX7_deafOnes_29 (by decide) ?_
      refine x_lv (lv' := [(2, .int (x2 + 1)), (1, .int (x1 + 1)), (0, .ref (kad K 88))]) [0, 1, 2] rfl ?_
      exact ihL1 _ (Option.some.inj h1).symm
set_option maxHeartbeats 4000000 in
set_option maxRecDepth 100000 in
theorem c_X8_pairsOn {l : Launch} {D : va_G} {ad : Nat → Nat} {cy : Nat → ClassId} (hJ : mJ LX ad) {σ : mS} {a1 : Int32} {r : Int32}  (h0 : X8_pairsOn a1 = some r) : MetG l LX D ad cy yX8_pairsOn cX8_pairsOn 4 (some .int) 1 [.ref (ad (104 + 5)), .int a1] σ (some (.int r)) σ := by
  refine MetG.of hJ (by decide +kernel) [(0, .ref (ad (104 + 5))), (1, .int a1)] rfl (Nat.le_of_ble_eq_true rfl) ?_
  intro K e1 e2 e3 e4 e5 C R
  subst e1
  subst e2
  subst e3
  subst e4
  unfold X8_pairsOn at h0
  refine x_iconst (v := 0) C dX8_pairsOn_0 rfl ?_
  refine x_istore_n (lv' := [(2, .int 0), (0, .ref (kad K (104 + 5))), (1, .int a1)]) C dX8_pairsOn_1 (by rw [e5]; decide) rfl ?_
  refine x_iconst (v := 1) C dX8_pairsOn_2 rfl ?_
  refine x_istore_n (lv' := [(3, .int 1), (2, .int 0), (0, .ref (kad K (104 + 5))), (1, .int a1)]) C dX8_pairsOn_3 (by rw [e5]; decide) rfl ?_
  obtain ⟨e11, g12, h0⟩ := ob_bind h0
  have J1 : ∀ (y3 : Int32), y3 = e11 → Wx LX K σ 40 [(2, .int y3)] [] := by
    intro y3 e9
    subst e9
    replace h0 := un1_l h0
    refine x_iload_n C 0 dX8_pairsOn_40 rfl ?_
    cases h0
    exact x_iret C R dX8_pairsOn_41
  refine x_lv (lv' := [(3, .int 1), (2, .int 0), (1, .int a1)]) [0, 1, 3] rfl ?_
  refine lp_G (G := fun q : Int32 × Int32 => Wx LX K σ 4 [(3, .int q.2), (2, .int q.1), (1, .int a1)] []) (fun q x h1 ihL1 ihR1 => ?_) big _ g12
  obtain ⟨x1, x2⟩ := q
  replace h1 : X8_pairsOn_b4 a1 x1 x2 = some x := h1
  unfold X8_pairsOn_b4 at h1
  show Wx LX K σ 4 [(3, .int x2), (2, .int x1), (1, .int a1)] []
  refine x_iload_n C 0 dX8_pairsOn_4 rfl ?_
  refine x_bipush (v := 12) C dX8_pairsOn_5 rfl ?_
  refine x_icmpgt C 40 dX8_pairsOn_7 (by decide) (fun c5 => ?_) (fun c5 => ?_)
  · replace h1 := ob_pos c5 h1
    refine x_lv (lv' := [(2, .int x1)]) [1] rfl ?_
    exact J1 _ (ihR1 _ (Option.some.inj h1).symm)
  · replace h1 := ob_neg c5 h1
    refine x_iload_n C 2 dX8_pairsOn_10 rfl ?_
    refine x_iload_n C 0 dX8_pairsOn_11 rfl ?_
    refine x_ishr C dX8_pairsOn_12 ?_
    refine x_iconst (v := 1) C dX8_pairsOn_13 rfl ?_
    refine x_iand C dX8_pairsOn_14 ?_
    refine x_iconst (v := 1) C dX8_pairsOn_15 rfl ?_
    refine x_icmpne C 34 dX8_pairsOn_16 (by decide) (fun c7 => ?_) (fun c7 => ?_)
    · replace h1 := ob_neg c7 h1
      refine x_iinc (v := (x2 + 1)) (lv' := [(3, .int (x2 + 1)), (2, .int x1), (1, .int a1)]) C 0 dX8_pairsOn_34 rfl rfl (by rw [e5]; decide) rfl ?_
      refine x_goto C 4 dX8_pairsOn_37 (by decide) ?_
      refine x_lv (lv' := [(3, .int (x2 + 1)), (2, .int x1), (1, .int a1)]) [0, 1, 2] rfl ?_
      exact ihL1 _ (Option.some.inj h1).symm
    · replace h1 := ob_pos c7 h1
      refine x_iload_n C 2 dX8_pairsOn_19 rfl ?_
      refine x_iload_n C 0 dX8_pairsOn_20 rfl ?_
      refine x_callS (ar := 1) (rest := [.int a1]) C (c_X8_behind C.2.2.2.2.2.2.1  rfl) hy_X8_behind ⟨tw484, tw485, tw71, tw486⟩ (by decide) (by decide) rfl rfl (Nat.le_of_ble_eq_true rfl) dX8_pairsOn_21 ?_
      show Wx LX K σ 24 [(3, .int x2), (2, .int x1), (1, .int a1)] [.int (X8_behind x2), .int a1]
      refine x_ishr C dX8_pairsOn_24 ?_
      refine x_iconst (v := 1) C dX8_pairsOn_25 rfl ?_
      refine x_iand C dX8_pairsOn_26 ?_
      refine x_iconst (v := 1) C dX8_pairsOn_27 rfl ?_
      refine x_icmpne C 34 dX8_pairsOn_28 (by decide) (fun c10 => ?_) (fun c10 => ?_)
      · replace h1 := ob_neg c10 h1
        refine x_iinc (v := (x2 + 1)) (lv' := [(3, .int (x2 + 1)), (2, .int x1), (1, .int a1)]) C 0 dX8_pairsOn_34 rfl rfl (by rw [e5]; decide) rfl ?_
        refine x_goto C 4 dX8_pairsOn_37 (by decide) ?_
        refine x_lv (lv' := [(3, .int (x2 + 1)), (2, .int x1), (1, .int a1)]) [0, 1, 2] rfl ?_
        exact ihL1 _ (Option.some.inj h1).symm
      · replace h1 := ob_pos c10 h1
        refine x_iinc (v := (x1 + 1)) (lv' := [(2, .int (x1 + 1)), (3, .int x2), (1, .int a1)]) C 1 dX8_pairsOn_31 rfl rfl (by rw [e5]; decide) rfl ?_
        refine x_iinc (v := (x2 + 1)) (lv' := [(3, .int (x2 + 1)), (2, .int (x1 + 1)), (1, .int a1)]) C 1 dX8_pairsOn_34 rfl rfl (by rw [e5]; decide) rfl ?_
        refine x_goto C 4 dX8_pairsOn_37 (by decide) ?_
        refine x_lv (lv' := [(3, .int (x2 + 1)), (2, .int (x1 + 1)), (1, .int a1)]) [0, 1, 2] rfl ?_
        exact ihL1 _ (Option.some.inj h1).symm
set_option maxHeartbeats 4000000 in
set_option maxRecDepth 100000 in
theorem c_X10_isRow {l : Launch} {D : va_G} {ad : Nat → Nat} {cy : Nat → ClassId} (hJ : mJ LX ad) {σ : mS} {a1 : Int32} {r : Int32}  (h0 : X10_isRow a1 = r) : MetG l LX D ad cy yX10_isRow cX10_isRow 2 (some .boolean) 0 [.ref (ad 0), .int a1] σ (some (.int r)) σ := by
  refine MetG.of hJ (by decide +kernel) [(0, .ref (ad 0)), (1, .int a1)] rfl (Nat.le_of_ble_eq_true rfl) ?_
  intro K e1 e2 e3 e4 e5 C R
  subst e1
  subst e2
  subst e3
  subst e4
  unfold X10_isRow at h0
  refine x_iload_n C 1 dX10_isRow_0 rfl ?_
  refine x_iflt C 14 dX10_isRow_1 (by decide) (fun c2 => ?_) (fun c2 => ?_)
  · replace h0 := ob_pos c2 h0
    refine x_iconst (v := 0) C dX10_isRow_14 rfl ?_
    subst h0
    exact x_zret C (Or.inl rfl) R dX10_isRow_15
  · replace h0 := ob_neg c2 h0
    refine x_iload_n C 1 dX10_isRow_4 rfl ?_
    refine x_bipush (v := 6) C dX10_isRow_5 rfl ?_
    refine x_icmpge C 14 dX10_isRow_7 (by decide) (fun c4 => ?_) (fun c4 => ?_)
    · replace h0 := ob_pos c4 h0
      refine x_iconst (v := 0) C dX10_isRow_14 rfl ?_
      subst h0
      exact x_zret C (Or.inl rfl) R dX10_isRow_15
    · replace h0 := ob_neg c4 h0
      refine x_iconst (v := 1) C dX10_isRow_10 rfl ?_
      refine x_goto C 15 dX10_isRow_11 (by decide) ?_
      subst h0
      exact x_zret C (Or.inr rfl) R dX10_isRow_15
set_option maxHeartbeats 4000000 in
set_option maxRecDepth 100000 in
theorem c_X10_found {l : Launch} {D : va_G} {ad : Nat → Nat} {cy : Nat → ClassId} (hJ : mJ LX ad) {σ τ : mS} {a1 : Int32} {r : Int32}  (h0 : X10_found σ a1 = some (r, τ)) : MetG l LX D ad cy yX10_found cX10_found 2 (some .int) 0 [.ref (ad 0), .int a1] σ (some (.int r)) τ := by
  refine MetG.of hJ (by decide +kernel) [(0, .ref (ad 0)), (1, .int a1)] rfl (Nat.le_of_ble_eq_true rfl) ?_
  intro K e1 e2 e3 e4 e5 C R
  subst e1
  subst e2
  subst e3
  subst e4
  unfold X10_found at h0
  refine x_aload_n C 0 dX10_found_0 rfl ?_
  refine x_iload_n C 1 dX10_found_1 rfl ?_
  refine x_putI (j := 16) (i := 304) (q := (RX10, TX10, 18)) C tyX10 tyX10_ok nmX10 (iX 0 (by decide)) rfl rfl inBX10 (by decide) tw251 rfl (by decide +kernel) rfl dX10_found_2 ?_
  refine x_aload_n C 0 dX10_found_5 rfl ?_
  refine x_getR (j := 17) (i := 74) (q := (RX10, TX10, 18)) C 208 (iX 0 (by decide)) rfl rfl inBX10 (by decide) tw252 rfl dX10_found_6 ?_
  refine x_iload_n C 1 dX10_found_9 rfl ?_
  refine x_dup2 C dX10_found_10 rfl rfl ?_
  obtain ⟨c1, h0⟩ := ob_if h0
  refine x_iald C (iX 208 (by decide)) rfl (vin_in c1) dX10_found_11 ?_
  refine x_iconst (v := 1) C dX10_found_12 rfl ?_
  refine x_iadd C dX10_found_13 ?_
  obtain ⟨c2, h0⟩ := ob_if h0
  refine x_iast C (iX 208 (by decide)) rfl (vin_in c2) dX10_found_14 ?_
  refine x_bipush (v := (-3)) C dX10_found_15 rfl ?_
  cases h0
  exact x_iret C R dX10_found_17
set_option maxHeartbeats 4000000 in
set_option maxRecDepth 100000 in
theorem c_X10_row {l : Launch} {D : va_G} {ad : Nat → Nat} {cy : Nat → ClassId} (hJ : mJ LX ad) {σ τ : mS} {a1 : Int32} {a2 : Int32} {r : Int32}  (h0 : X10_row σ a1 a2 = some (r, τ)) : MetG l LX D ad cy yX10_row cX10_row 3 (some .int) 1 [.ref (ad 0), .int a1, .int a2] σ (some (.int r)) τ := by
  refine MetG.of hJ (by decide +kernel) [(0, .ref (ad 0)), (1, .int a1), (2, .int a2)] rfl (Nat.le_of_ble_eq_true rfl) ?_
  intro K e1 e2 e3 e4 e5 C R
  subst e1
  subst e2
  subst e3
  subst e4
  unfold X10_row at h0
  refine x_aload_n C 0 dX10_row_0 rfl ?_
  refine x_iload_n C 1 dX10_row_1 rfl ?_
  refine x_callV (ar := 1) (q := (RX10, TX10, 18)) (rest := []) C (c_X10_isRow C.2.2.2.2.2.2.1  rfl) (iX 0 (by decide)) rfl rfl hy_X10_isRow ⟨tw294, tw296, tw0, tw63, tw297⟩ (by decide) (by decide) rfl rfl (Nat.le_of_ble_eq_true rfl) dX10_row_2 ?_
  show Wx LX K σ 5 [(0, .ref (kad K 0)), (1, .int a1), (2, .int a2)] [.int (X10_isRow a1)]
  refine x_ifeq C 14 dX10_row_5 (by decide) (fun c3 => ?_) (fun c3 => ?_)
  · replace h0 := ob_pos c3 h0
    refine x_iconst (v := (-1)) C dX10_row_14 rfl ?_
    cases h0
    exact x_iret C R dX10_row_15
  · replace h0 := ob_neg c3 h0
    refine x_iload_n C 2 dX10_row_8 rfl ?_
    refine x_bipush (v := 40) C dX10_row_9 rfl ?_
    refine x_icmple C 16 dX10_row_11 (by decide) (fun c5 => ?_) (fun c5 => ?_)
    · replace h0 := ob_pos c5 h0
      refine x_iload_n C 2 dX10_row_16 rfl ?_
      refine x_ifge C 26 dX10_row_17 (by decide) (fun c7 => ?_) (fun c7 => ?_)
      · replace h0 := ob_pos c7 h0
        refine x_aload_n C 0 dX10_row_26 rfl ?_
        refine x_getR (j := 0) (i := 11) (q := (RX10, TX10, 18)) C 8 (iX 0 (by decide)) rfl rfl inBX10 (by decide) tw235 rfl dX10_row_27 ?_
        refine x_iload_n C 1 dX10_row_30 rfl ?_
        obtain ⟨c8, h0⟩ := ob_if h0
        refine x_aald C (iX 8 (by decide)) rfl rfl rfl (vin_in c8) dX10_row_31 ?_
        refine x_iconst (v := 0) C dX10_row_32 rfl ?_
        obtain ⟨r9, s11, g10, h0⟩ := ob_bd h0
        refine x_callS (ar := 2) (rest := []) C (c_J7_fill_53178 C.2.2.2.2.2.2.1 (iX2 (vin_lt c8)) (lX2 (vin_lt c8)) g10) hy_J7_fill_53178 ⟨tw232, tw233, tw74, tw234⟩ (by decide) (by decide) rfl rfl (Nat.le_of_ble_eq_true rfl) dX10_row_33 ?_
        show Wx LX K s11 36 [(0, .ref (kad K 0)), (1, .int a1), (2, .int a2)] []
        refine x_aload_n C 0 dX10_row_36 rfl ?_
        refine x_getR (j := 1) (i := 14) (q := (RX10, TX10, 18)) C 24 (iX 0 (by decide)) rfl rfl inBX10 (by decide) tw236 rfl dX10_row_37 ?_
        refine x_iload_n C 1 dX10_row_40 rfl ?_
        refine x_iload_n C 2 dX10_row_41 rfl ?_
        obtain ⟨c12, h0⟩ := ob_if h0
        refine x_iast C (iX 24 (by decide)) rfl (vin_in c12) dX10_row_42 ?_
        refine x_iload_n C 2 dX10_row_43 rfl ?_
        cases h0
        exact x_iret C R dX10_row_44
      · replace h0 := ob_neg c7 h0
        refine x_aload_n C 0 dX10_row_20 rfl ?_
        refine x_iconst (v := 5) C dX10_row_21 rfl ?_
        obtain ⟨r13, s15, g14, h0⟩ := ob_bd h0
        refine x_callV (ar := 1) (q := (RX10, TX10, 18)) (rest := []) C (c_X10_found C.2.2.2.2.2.2.1  g14) (iX 0 (by decide)) rfl rfl hy_X10_found ⟨tw298, tw300, tw1, tw63, tw301⟩ (by decide) (by decide) rfl rfl (Nat.le_of_ble_eq_true rfl) dX10_row_22 ?_
        show Wx LX K s15 25 [(0, .ref (kad K 0)), (1, .int a1), (2, .int a2)] [.int r13]
        cases h0
        exact x_iret C R dX10_row_25
    · replace h0 := ob_neg c5 h0
      refine x_iconst (v := (-1)) C dX10_row_14 rfl ?_
      cases h0
      exact x_iret C R dX10_row_15
set_option maxHeartbeats 4000000 in
set_option maxRecDepth 100000 in
theorem c_X10_refusedRow {l : Launch} {D : va_G} {ad : Nat → Nat} {cy : Nat → ClassId} (hJ : mJ LX ad) {σ τ : mS} {a1 : Int32} {r : Int32}  (h0 : X10_refusedRow σ a1 = some (r, τ)) : MetG l LX D ad cy yX10_refusedRow cX10_refusedRow 2 (some .int) 1 [.ref (ad 0), .int a1] σ (some (.int r)) τ := by
  refine MetG.of hJ (by decide +kernel) [(0, .ref (ad 0)), (1, .int a1)] rfl (Nat.le_of_ble_eq_true rfl) ?_
  intro K e1 e2 e3 e4 e5 C R
  subst e1
  subst e2
  subst e3
  subst e4
  unfold X10_refusedRow at h0
  refine x_aload_n C 0 dX10_refusedRow_0 rfl ?_
  refine x_iload_n C 1 dX10_refusedRow_1 rfl ?_
  refine x_callV (ar := 1) (q := (RX10, TX10, 18)) (rest := []) C (c_X10_isRow C.2.2.2.2.2.2.1  rfl) (iX 0 (by decide)) rfl rfl hy_X10_isRow ⟨tw294, tw296, tw0, tw63, tw297⟩ (by decide) (by decide) rfl rfl (Nat.le_of_ble_eq_true rfl) dX10_refusedRow_2 ?_
  show Wx LX K σ 5 [(0, .ref (kad K 0)), (1, .int a1)] [.int (X10_isRow a1)]
  refine x_ifne C 10 dX10_refusedRow_5 (by decide) (fun c3 => ?_) (fun c3 => ?_)
  · replace h0 := ob_neg c3 h0
    refine x_aload_n C 0 dX10_refusedRow_10 rfl ?_
    refine x_getR (j := 1) (i := 14) (q := (RX10, TX10, 18)) C 24 (iX 0 (by decide)) rfl rfl inBX10 (by decide) tw236 rfl dX10_refusedRow_11 ?_
    refine x_iload_n C 1 dX10_refusedRow_14 rfl ?_
    obtain ⟨c4, h0⟩ := ob_if h0
    refine x_iald C (iX 24 (by decide)) rfl (vin_in c4) dX10_refusedRow_15 ?_
    refine x_ifge C 27 dX10_refusedRow_16 (by decide) (fun c6 => ?_) (fun c6 => ?_)
    · replace h0 := ob_pos c6 h0
      refine x_iconst (v := 0) C dX10_refusedRow_27 rfl ?_
      cases h0
      exact x_iret C R dX10_refusedRow_28
    · replace h0 := ob_neg c6 h0
      refine x_aload_n C 0 dX10_refusedRow_19 rfl ?_
      refine x_iconst (v := 1) C dX10_refusedRow_20 rfl ?_
      obtain ⟨r7, s9, g8, h0⟩ := ob_bd h0
      refine x_callV (ar := 1) (q := (RX10, TX10, 18)) (rest := []) C (c_X10_found C.2.2.2.2.2.2.1  g8) (iX 0 (by decide)) rfl rfl hy_X10_found ⟨tw298, tw300, tw1, tw63, tw301⟩ (by decide) (by decide) rfl rfl (Nat.le_of_ble_eq_true rfl) dX10_refusedRow_21 ?_
      show Wx LX K s9 24 [(0, .ref (kad K 0)), (1, .int a1)] [.int r7]
      refine x_goto C 28 dX10_refusedRow_24 (by decide) ?_
      cases h0
      exact x_iret C R dX10_refusedRow_28
  · replace h0 := ob_pos c3 h0
    refine x_iconst (v := (-1)) C dX10_refusedRow_8 rfl ?_
    cases h0
    exact x_iret C R dX10_refusedRow_9
set_option maxHeartbeats 4000000 in
set_option maxRecDepth 100000 in
theorem c_X10_refusedPlace {l : Launch} {D : va_G} {ad : Nat → Nat} {cy : Nat → ClassId} (hJ : mJ LX ad) {σ τ : mS} {a1 : Int32} {a2 : Int32} {r : Int32}  (h0 : X10_refusedPlace σ a1 a2 = some (r, τ)) : MetG l LX D ad cy yX10_refusedPlace cX10_refusedPlace 4 (some .int) 2 [.ref (ad 0), .int a1, .int a2] σ (some (.int r)) τ := by
  refine MetG.of hJ (by decide +kernel) [(0, .ref (ad 0)), (1, .int a1), (2, .int a2)] rfl (Nat.le_of_ble_eq_true rfl) ?_
  intro K e1 e2 e3 e4 e5 C R
  subst e1
  subst e2
  subst e3
  subst e4
  unfold X10_refusedPlace at h0
  refine x_aload_n C 0 dX10_refusedPlace_0 rfl ?_
  refine x_iload_n C 1 dX10_refusedPlace_1 rfl ?_
  obtain ⟨r1, s3, g2, h0⟩ := ob_bd h0
  refine x_callV (ar := 1) (q := (RX10, TX10, 18)) (rest := []) C (c_X10_refusedRow C.2.2.2.2.2.2.1  g2) (iX 0 (by decide)) rfl rfl hy_X10_refusedRow ⟨tw310, tw312, tw3, tw63, tw313⟩ (by decide) (by decide) rfl rfl (Nat.le_of_ble_eq_true rfl) dX10_refusedPlace_2 ?_
  show Wx LX K s3 5 [(0, .ref (kad K 0)), (1, .int a1), (2, .int a2)] [.int r1]
  refine x_istore_n (lv' := [(3, .int r1), (0, .ref (kad K 0)), (1, .int a1), (2, .int a2)]) C dX10_refusedPlace_5 (by rw [e5]; decide) rfl ?_
  refine x_iload_n C 0 dX10_refusedPlace_6 rfl ?_
  refine x_ifeq C 12 dX10_refusedPlace_7 (by decide) (fun c5 => ?_) (fun c5 => ?_)
  · replace h0 := ob_pos c5 h0
    refine x_iload_n C 3 dX10_refusedPlace_12 rfl ?_
    refine x_iflt C 26 dX10_refusedPlace_13 (by decide) (fun c7 => ?_) (fun c7 => ?_)
    · replace h0 := ob_pos c7 h0
      refine x_aload_n C 1 dX10_refusedPlace_26 rfl ?_
      refine x_iconst (v := 2) C dX10_refusedPlace_27 rfl ?_
      obtain ⟨r8, s10, g9, h0⟩ := ob_bd h0
      refine x_callV (ar := 1) (q := (RX10, TX10, 18)) (rest := []) C (c_X10_found C.2.2.2.2.2.2.1  g9) (iX 0 (by decide)) rfl rfl hy_X10_found ⟨tw298, tw300, tw1, tw63, tw301⟩ (by decide) (by decide) rfl rfl (Nat.le_of_ble_eq_true rfl) dX10_refusedPlace_28 ?_
      show Wx LX K s10 31 [(3, .int r1), (0, .ref (kad K 0)), (1, .int a1), (2, .int a2)] [.int r8]
      refine x_goto C 35 dX10_refusedPlace_31 (by decide) ?_
      cases h0
      exact x_iret C R dX10_refusedPlace_35
    · replace h0 := ob_neg c7 h0
      refine x_iload_n C 3 dX10_refusedPlace_16 rfl ?_
      refine x_aload_n C 1 dX10_refusedPlace_17 rfl ?_
      refine x_getR (j := 1) (i := 14) (q := (RX10, TX10, 18)) C 24 (iX 0 (by decide)) rfl rfl inBX10 (by decide) tw236 rfl dX10_refusedPlace_18 ?_
      refine x_iload_n C 2 dX10_refusedPlace_21 rfl ?_
      obtain ⟨c11, h0⟩ := ob_if h0
      refine x_iald C (iX 24 (by decide)) rfl (vin_in c11) dX10_refusedPlace_22 ?_
      refine x_icmplt C 34 dX10_refusedPlace_23 (by decide) (fun c13 => ?_) (fun c13 => ?_)
      · replace h0 := ob_pos c13 h0
        refine x_iconst (v := 0) C dX10_refusedPlace_34 rfl ?_
        cases h0
        exact x_iret C R dX10_refusedPlace_35
      · replace h0 := ob_neg c13 h0
        refine x_aload_n C 1 dX10_refusedPlace_26 rfl ?_
        refine x_iconst (v := 2) C dX10_refusedPlace_27 rfl ?_
        obtain ⟨r14, s16, g15, h0⟩ := ob_bd h0
        refine x_callV (ar := 1) (q := (RX10, TX10, 18)) (rest := []) C (c_X10_found C.2.2.2.2.2.2.1  g15) (iX 0 (by decide)) rfl rfl hy_X10_found ⟨tw298, tw300, tw1, tw63, tw301⟩ (by decide) (by decide) rfl rfl (Nat.le_of_ble_eq_true rfl) dX10_refusedPlace_28 ?_
        show Wx LX K s16 31 [(3, .int r1), (0, .ref (kad K 0)), (1, .int a1), (2, .int a2)] [.int r14]
        refine x_goto C 35 dX10_refusedPlace_31 (by decide) ?_
        cases h0
        exact x_iret C R dX10_refusedPlace_35
  · replace h0 := ob_neg c5 h0
    refine x_iload_n C 0 dX10_refusedPlace_10 rfl ?_
    cases h0
    exact x_iret C R dX10_refusedPlace_11
set_option maxHeartbeats 4000000 in
set_option maxRecDepth 100000 in
theorem c_X10_lay {l : Launch} {D : va_G} {ad : Nat → Nat} {cy : Nat → ClassId} (hJ : mJ LX ad) {σ τ : mS} {a1 : Int32} {a2 : Int32} {a3 : Int32} {r : Int32}  (h0 : X10_lay σ a1 a2 a3 = some (r, τ)) : MetG l LX D ad cy yX10_lay cX10_lay 5 (some .int) 3 [.ref (ad 0), .int a1, .int a2, .int a3] σ (some (.int r)) τ := by
  refine MetG.of hJ (by decide +kernel) [(0, .ref (ad 0)), (1, .int a1), (2, .int a2), (3, .int a3)] rfl (Nat.le_of_ble_eq_true rfl) ?_
  intro K e1 e2 e3 e4 e5 C R
  subst e1
  subst e2
  subst e3
  subst e4
  unfold X10_lay at h0
  refine x_aload_n C 0 dX10_lay_0 rfl ?_
  refine x_iload_n C 1 dX10_lay_1 rfl ?_
  refine x_iload_n C 2 dX10_lay_2 rfl ?_
  obtain ⟨r1, s3, g2, h0⟩ := ob_bd h0
  refine x_callV (ar := 2) (q := (RX10, TX10, 18)) (rest := []) C (c_X10_refusedPlace C.2.2.2.2.2.2.1  g2) (iX 0 (by decide)) rfl rfl hy_X10_refusedPlace ⟨tw306, tw308, tw2, tw63, tw309⟩ (by decide) (by decide) rfl rfl (Nat.le_of_ble_eq_true rfl) dX10_lay_3 ?_
  show Wx LX K s3 6 [(0, .ref (kad K 0)), (1, .int a1), (2, .int a2), (3, .int a3)] [.int r1]
  refine x_istore (lv' := [(4, .int r1), (0, .ref (kad K 0)), (1, .int a1), (2, .int a2), (3, .int a3)]) C dX10_lay_6 (by rw [e5]; decide) rfl ?_
  refine x_iload C 0 dX10_lay_8 rfl ?_
  refine x_ifeq C 16 dX10_lay_10 (by decide) (fun c5 => ?_) (fun c5 => ?_)
  · replace h0 := ob_pos c5 h0
    refine x_aload_n C 1 dX10_lay_16 rfl ?_
    refine x_aload_n C 1 dX10_lay_17 rfl ?_
    refine x_getR (j := 0) (i := 11) (q := (RX10, TX10, 18)) C 8 (iX 0 (by decide)) rfl rfl inBX10 (by decide) tw235 rfl dX10_lay_18 ?_
    refine x_iload_n C 2 dX10_lay_21 rfl ?_
    obtain ⟨c6, h0⟩ := ob_if h0
    refine x_aald C (iX 8 (by decide)) rfl rfl rfl (vin_in c6) dX10_lay_22 ?_
    refine x_iload_n C 3 dX10_lay_23 rfl ?_
    obtain ⟨c7, h0⟩ := ob_if h0
    refine x_iald C (iX2 (vin_lt c6)) (lX2 (vin_lt c6)) (vin_in c7) dX10_lay_24 ?_
    refine x_putI (j := 13) (i := 99) (q := (RX10, TX10, 18)) C tyX10 tyX10_ok nmX10 (iX 0 (by decide)) rfl rfl inBX10 (by decide) tw248 rfl (by decide +kernel) rfl dX10_lay_25 ?_
    refine x_aload_n C 1 dX10_lay_28 rfl ?_
    refine x_getR (j := 0) (i := 11) (q := (RX10, TX10, 18)) C 8 (iX 0 (by decide)) rfl rfl inBX10 (by decide) tw235 rfl dX10_lay_29 ?_
    refine x_iload_n C 2 dX10_lay_32 rfl ?_
    obtain ⟨c8, h0⟩ := ob_if h0
    refine x_aald C (iX 8 (by decide)) rfl rfl rfl (vin_in c8) dX10_lay_33 ?_
    refine x_iload_n C 3 dX10_lay_34 rfl ?_
    refine x_iload_n C 4 dX10_lay_35 rfl ?_
    obtain ⟨c9, h0⟩ := ob_if h0
    refine x_iast C (iX2 (vin_lt c8)) (lX2 (vin_lt c8)) (vin_in c9) dX10_lay_36 ?_
    refine x_iconst (v := 1) C dX10_lay_37 rfl ?_
    cases h0
    exact x_iret C R dX10_lay_38
  · replace h0 := ob_neg c5 h0
    refine x_iload C 0 dX10_lay_13 rfl ?_
    cases h0
    exact x_iret C R dX10_lay_15
set_option maxHeartbeats 4000000 in
set_option maxRecDepth 100000 in
theorem c_X10_at {l : Launch} {D : va_G} {ad : Nat → Nat} {cy : Nat → ClassId} (hJ : mJ LX ad) {σ τ : mS} {a1 : Int32} {a2 : Int32} {r : Int32}  (h0 : X10_at σ a1 a2 = some (r, τ)) : MetG l LX D ad cy yX10_at cX10_at 4 (some .int) 3 [.ref (ad 0), .int a1, .int a2] σ (some (.int r)) τ := by
  refine MetG.of hJ (by decide +kernel) [(0, .ref (ad 0)), (1, .int a1), (2, .int a2)] rfl (Nat.le_of_ble_eq_true rfl) ?_
  intro K e1 e2 e3 e4 e5 C R
  subst e1
  subst e2
  subst e3
  subst e4
  unfold X10_at at h0
  refine x_aload_n C 0 dX10_at_0 rfl ?_
  refine x_iload_n C 1 dX10_at_1 rfl ?_
  refine x_iload_n C 2 dX10_at_2 rfl ?_
  obtain ⟨r1, s3, g2, h0⟩ := ob_bd h0
  refine x_callV (ar := 2) (q := (RX10, TX10, 18)) (rest := []) C (c_X10_refusedPlace C.2.2.2.2.2.2.1  g2) (iX 0 (by decide)) rfl rfl hy_X10_refusedPlace ⟨tw306, tw308, tw2, tw63, tw309⟩ (by decide) (by decide) rfl rfl (Nat.le_of_ble_eq_true rfl) dX10_at_3 ?_
  show Wx LX K s3 6 [(0, .ref (kad K 0)), (1, .int a1), (2, .int a2)] [.int r1]
  refine x_istore_n (lv' := [(3, .int r1), (0, .ref (kad K 0)), (1, .int a1), (2, .int a2)]) C dX10_at_6 (by rw [e5]; decide) rfl ?_
  refine x_iload_n C 0 dX10_at_7 rfl ?_
  refine x_ifeq C 13 dX10_at_8 (by decide) (fun c5 => ?_) (fun c5 => ?_)
  · replace h0 := ob_pos c5 h0
    refine x_aload_n C 1 dX10_at_13 rfl ?_
    refine x_aload_n C 1 dX10_at_14 rfl ?_
    refine x_getR (j := 0) (i := 11) (q := (RX10, TX10, 18)) C 8 (iX 0 (by decide)) rfl rfl inBX10 (by decide) tw235 rfl dX10_at_15 ?_
    refine x_iload_n C 2 dX10_at_18 rfl ?_
    obtain ⟨c6, h0⟩ := ob_if h0
    refine x_aald C (iX 8 (by decide)) rfl rfl rfl (vin_in c6) dX10_at_19 ?_
    refine x_iload_n C 3 dX10_at_20 rfl ?_
    obtain ⟨c7, h0⟩ := ob_if h0
    refine x_iald C (iX2 (vin_lt c6)) (lX2 (vin_lt c6)) (vin_in c7) dX10_at_21 ?_
    refine x_putI (j := 13) (i := 99) (q := (RX10, TX10, 18)) C tyX10 tyX10_ok nmX10 (iX 0 (by decide)) rfl rfl inBX10 (by decide) tw248 rfl (by decide +kernel) rfl dX10_at_22 ?_
    refine x_iconst (v := 1) C dX10_at_25 rfl ?_
    cases h0
    exact x_iret C R dX10_at_26
  · replace h0 := ob_neg c5 h0
    refine x_iload_n C 0 dX10_at_11 rfl ?_
    cases h0
    exact x_iret C R dX10_at_12
set_option maxHeartbeats 4000000 in
set_option maxRecDepth 100000 in
theorem c_X10_tear {l : Launch} {D : va_G} {ad : Nat → Nat} {cy : Nat → ClassId} (hJ : mJ LX ad) {σ τ : mS} {a1 : Int32} {r : Int32}  (h0 : X10_tear σ a1 = some (r, τ)) : MetG l LX D ad cy yX10_tear cX10_tear 3 (some .int) 2 [.ref (ad 0), .int a1] σ (some (.int r)) τ := by
  refine MetG.of hJ (by decide +kernel) [(0, .ref (ad 0)), (1, .int a1)] rfl (Nat.le_of_ble_eq_true rfl) ?_
  intro K e1 e2 e3 e4 e5 C R
  subst e1
  subst e2
  subst e3
  subst e4
  unfold X10_tear at h0
  refine x_aload_n C 0 dX10_tear_0 rfl ?_
  refine x_iload_n C 1 dX10_tear_1 rfl ?_
  obtain ⟨r1, s3, g2, h0⟩ := ob_bd h0
  refine x_callV (ar := 1) (q := (RX10, TX10, 18)) (rest := []) C (c_X10_refusedRow C.2.2.2.2.2.2.1  g2) (iX 0 (by decide)) rfl rfl hy_X10_refusedRow ⟨tw310, tw312, tw3, tw63, tw313⟩ (by decide) (by decide) rfl rfl (Nat.le_of_ble_eq_true rfl) dX10_tear_2 ?_
  show Wx LX K s3 5 [(0, .ref (kad K 0)), (1, .int a1)] [.int r1]
  refine x_istore_n (lv' := [(2, .int r1), (0, .ref (kad K 0)), (1, .int a1)]) C dX10_tear_5 (by rw [e5]; decide) rfl ?_
  refine x_iload_n C 0 dX10_tear_6 rfl ?_
  refine x_ifeq C 12 dX10_tear_7 (by decide) (fun c5 => ?_) (fun c5 => ?_)
  · replace h0 := ob_pos c5 h0
    refine x_aload_n C 1 dX10_tear_12 rfl ?_
    refine x_getR (j := 1) (i := 14) (q := (RX10, TX10, 18)) C 24 (iX 0 (by decide)) rfl rfl inBX10 (by decide) tw236 rfl dX10_tear_13 ?_
    refine x_iload_n C 2 dX10_tear_16 rfl ?_
    refine x_iconst (v := (-1)) C dX10_tear_17 rfl ?_
    obtain ⟨c6, h0⟩ := ob_if h0
    refine x_iast C (iX 24 (by decide)) rfl (vin_in c6) dX10_tear_18 ?_
    refine x_iconst (v := 1) C dX10_tear_19 rfl ?_
    cases h0
    exact x_iret C R dX10_tear_20
  · replace h0 := ob_neg c5 h0
    refine x_iload_n C 0 dX10_tear_10 rfl ?_
    cases h0
    exact x_iret C R dX10_tear_11
set_option maxHeartbeats 4000000 in
set_option maxRecDepth 100000 in
theorem c_X10_reaches {l : Launch} {D : va_G} {ad : Nat → Nat} {cy : Nat → ClassId} (hJ : mJ LX ad) {σ : mS} {a1 : Int32} {a2 : Int32} {a3 : Int32} {r : Int32}  (h0 : X10_reaches σ a1 a2 a3 = some r) : MetG l LX D ad cy yX10_reaches cX10_reaches 4 (some .boolean) 0 [.ref (ad 0), .int a1, .int a2, .int a3] σ (some (.int r)) σ := by
  refine MetG.of hJ (by decide +kernel) [(0, .ref (ad 0)), (1, .int a1), (2, .int a2), (3, .int a3)] rfl (Nat.le_of_ble_eq_true rfl) ?_
  intro K e1 e2 e3 e4 e5 C R
  subst e1
  subst e2
  subst e3
  subst e4
  unfold X10_reaches at h0
  refine x_iload_n C 2 dX10_reaches_0 rfl ?_
  refine x_iflt C 24 dX10_reaches_1 (by decide) (fun c2 => ?_) (fun c2 => ?_)
  · replace h0 := ob_pos c2 h0
    refine x_iconst (v := 0) C dX10_reaches_24 rfl ?_
    cases h0
    exact x_zret C (Or.inl rfl) R dX10_reaches_25
  · replace h0 := ob_neg c2 h0
    refine x_iload_n C 2 dX10_reaches_4 rfl ?_
    refine x_i2l C dX10_reaches_5 ?_
    refine x_iload_n C 3 dX10_reaches_6 rfl ?_
    refine x_i2l C dX10_reaches_7 ?_
    refine x_ladd C dX10_reaches_8 ?_
    refine x_aload_n C 0 dX10_reaches_9 rfl ?_
    refine x_getR (j := 1) (i := 14) (q := (RX10, TX10, 18)) C 24 (iX 0 (by decide)) rfl rfl inBX10 (by decide) tw236 rfl dX10_reaches_10 ?_
    refine x_iload_n C 1 dX10_reaches_13 rfl ?_
    obtain ⟨c3, h0⟩ := ob_if h0
    refine x_iald C (iX 24 (by decide)) rfl (vin_in c3) dX10_reaches_14 ?_
    refine x_i2l C dX10_reaches_15 ?_
    refine x_lcmpgt C 24 dX10_reaches_16 dX10_reaches_17 (by decide) (fun c5 => ?_) (fun c5 => ?_)
    · replace h0 := ob_pos c5 h0
      refine x_iconst (v := 0) C dX10_reaches_24 rfl ?_
      cases h0
      exact x_zret C (Or.inl rfl) R dX10_reaches_25
    · replace h0 := ob_neg c5 h0
      refine x_iconst (v := 1) C dX10_reaches_20 rfl ?_
      refine x_goto C 25 dX10_reaches_21 (by decide) ?_
      cases h0
      exact x_zret C (Or.inr rfl) R dX10_reaches_25
set_option maxHeartbeats 4000000 in
set_option maxRecDepth 100000 in
theorem c_X10_copy {l : Launch} {D : va_G} {ad : Nat → Nat} {cy : Nat → ClassId} (hJ : mJ LX ad) {σ τ : mS} {a1 : Int32} {a2 : Int32} {a3 : Int32} {a4 : Int32} {a5 : Int32} {r : Int32}  (h0 : X10_copy σ a1 a2 a3 a4 a5 = some (r, τ)) : MetG l LX D ad cy yX10_copy cX10_copy 6 (some .int) 1 [.ref (ad 0), .int a1, .int a2, .int a3, .int a4, .int a5] σ (some (.int r)) τ := by
  refine MetG.of hJ (by decide +kernel) [(0, .ref (ad 0)), (1, .int a1), (2, .int a2), (3, .int a3), (4, .int a4), (5, .int a5)] rfl (Nat.le_of_ble_eq_true rfl) ?_
  intro K e1 e2 e3 e4 e5 C R
  subst e1
  subst e2
  subst e3
  subst e4
  unfold X10_copy at h0
  refine x_aload_n C 0 dX10_copy_0 rfl ?_
  refine x_iload_n C 1 dX10_copy_1 rfl ?_
  refine x_callV (ar := 1) (q := (RX10, TX10, 18)) (rest := []) C (c_X10_isRow C.2.2.2.2.2.2.1  rfl) (iX 0 (by decide)) rfl rfl hy_X10_isRow ⟨tw294, tw296, tw0, tw63, tw297⟩ (by decide) (by decide) rfl rfl (Nat.le_of_ble_eq_true rfl) dX10_copy_2 ?_
  show Wx LX K σ 5 [(0, .ref (kad K 0)), (1, .int a1), (2, .int a2), (3, .int a3), (4, .int a4), (5, .int a5)] [.int (X10_isRow a1)]
  refine x_ifeq C 16 dX10_copy_5 (by decide) (fun c3 => ?_) (fun c3 => ?_)
  · replace h0 := ob_pos c3 h0
    refine x_iconst (v := (-1)) C dX10_copy_16 rfl ?_
    cases h0
    exact x_iret C R dX10_copy_17
  · replace h0 := ob_neg c3 h0
    refine x_aload_n C 0 dX10_copy_8 rfl ?_
    refine x_iload_n C 3 dX10_copy_9 rfl ?_
    refine x_callV (ar := 1) (q := (RX10, TX10, 18)) (rest := []) C (c_X10_isRow C.2.2.2.2.2.2.1  rfl) (iX 0 (by decide)) rfl rfl hy_X10_isRow ⟨tw294, tw296, tw0, tw63, tw297⟩ (by decide) (by decide) rfl rfl (Nat.le_of_ble_eq_true rfl) dX10_copy_10 ?_
    show Wx LX K σ 13 [(0, .ref (kad K 0)), (1, .int a1), (2, .int a2), (3, .int a3), (4, .int a4), (5, .int a5)] [.int (X10_isRow a3)]
    refine x_ifne C 18 dX10_copy_13 (by decide) (fun c6 => ?_) (fun c6 => ?_)
    · replace h0 := ob_neg c6 h0
      refine x_iload C 5 dX10_copy_18 rfl ?_
      refine x_ifge C 29 dX10_copy_20 (by decide) (fun c8 => ?_) (fun c8 => ?_)
      · replace h0 := ob_pos c8 h0
        refine x_aload_n C 0 dX10_copy_29 rfl ?_
        refine x_getR (j := 1) (i := 14) (q := (RX10, TX10, 18)) C 24 (iX 0 (by decide)) rfl rfl inBX10 (by decide) tw236 rfl dX10_copy_30 ?_
        refine x_iload_n C 1 dX10_copy_33 rfl ?_
        obtain ⟨c9, h0⟩ := ob_if h0
        refine x_iald C (iX 24 (by decide)) rfl (vin_in c9) dX10_copy_34 ?_
        refine x_iflt C 47 dX10_copy_35 (by decide) (fun c11 => ?_) (fun c11 => ?_)
        · replace h0 := ob_pos c11 h0
          refine x_aload_n C 0 dX10_copy_47 rfl ?_
          refine x_iconst (v := 1) C dX10_copy_48 rfl ?_
          obtain ⟨r12, s14, g13, h0⟩ := ob_bd h0
          refine x_callV (ar := 1) (q := (RX10, TX10, 18)) (rest := []) C (c_X10_found C.2.2.2.2.2.2.1  g13) (iX 0 (by decide)) rfl rfl hy_X10_found ⟨tw298, tw300, tw1, tw63, tw301⟩ (by decide) (by decide) rfl rfl (Nat.le_of_ble_eq_true rfl) dX10_copy_49 ?_
          show Wx LX K s14 52 [(0, .ref (kad K 0)), (1, .int a1), (2, .int a2), (3, .int a3), (4, .int a4), (5, .int a5)] [.int r12]
          cases h0
          exact x_iret C R dX10_copy_52
        · replace h0 := ob_neg c11 h0
          refine x_aload_n C 0 dX10_copy_38 rfl ?_
          refine x_getR (j := 1) (i := 14) (q := (RX10, TX10, 18)) C 24 (iX 0 (by decide)) rfl rfl inBX10 (by decide) tw236 rfl dX10_copy_39 ?_
          refine x_iload_n C 3 dX10_copy_42 rfl ?_
          obtain ⟨c15, h0⟩ := ob_if h0
          refine x_iald C (iX 24 (by decide)) rfl (vin_in c15) dX10_copy_43 ?_
          refine x_ifge C 53 dX10_copy_44 (by decide) (fun c17 => ?_) (fun c17 => ?_)
          · replace h0 := ob_pos c17 h0
            refine x_aload_n C 0 dX10_copy_53 rfl ?_
            refine x_iload_n C 1 dX10_copy_54 rfl ?_
            refine x_iload_n C 2 dX10_copy_55 rfl ?_
            refine x_iload C 5 dX10_copy_56 rfl ?_
            obtain ⟨r18, g19, h0⟩ := ob_bind h0
            refine x_callV (ar := 3) (q := (RX10, TX10, 18)) (rest := []) C (c_X10_reaches C.2.2.2.2.2.2.1  g19) (iX 0 (by decide)) rfl rfl hy_X10_reaches ⟨tw326, tw328, tw4, tw63, tw329⟩ (by decide) (by decide) rfl rfl (Nat.le_of_ble_eq_true rfl) dX10_copy_58 ?_
            show Wx LX K σ 61 [(0, .ref (kad K 0)), (1, .int a1), (2, .int a2), (3, .int a3), (4, .int a4), (5, .int a5)] [.int r18]
            refine x_ifeq C 76 dX10_copy_61 (by decide) (fun c21 => ?_) (fun c21 => ?_)
            · replace h0 := ob_pos c21 h0
              refine x_aload_n C 0 dX10_copy_76 rfl ?_
              refine x_iconst (v := 2) C dX10_copy_77 rfl ?_
              obtain ⟨r22, s24, g23, h0⟩ := ob_bd h0
              refine x_callV (ar := 1) (q := (RX10, TX10, 18)) (rest := []) C (c_X10_found C.2.2.2.2.2.2.1  g23) (iX 0 (by decide)) rfl rfl hy_X10_found ⟨tw298, tw300, tw1, tw63, tw301⟩ (by decide) (by decide) rfl rfl (Nat.le_of_ble_eq_true rfl) dX10_copy_78 ?_
              show Wx LX K s24 81 [(0, .ref (kad K 0)), (1, .int a1), (2, .int a2), (3, .int a3), (4, .int a4), (5, .int a5)] [.int r22]
              cases h0
              exact x_iret C R dX10_copy_81
            · replace h0 := ob_neg c21 h0
              refine x_aload_n C 0 dX10_copy_64 rfl ?_
              refine x_iload_n C 3 dX10_copy_65 rfl ?_
              refine x_iload C 4 dX10_copy_66 rfl ?_
              refine x_iload C 5 dX10_copy_68 rfl ?_
              obtain ⟨r25, g26, h0⟩ := ob_bind h0
              refine x_callV (ar := 3) (q := (RX10, TX10, 18)) (rest := []) C (c_X10_reaches C.2.2.2.2.2.2.1  g26) (iX 0 (by decide)) rfl rfl hy_X10_reaches ⟨tw326, tw328, tw4, tw63, tw329⟩ (by decide) (by decide) rfl rfl (Nat.le_of_ble_eq_true rfl) dX10_copy_70 ?_
              show Wx LX K σ 73 [(0, .ref (kad K 0)), (1, .int a1), (2, .int a2), (3, .int a3), (4, .int a4), (5, .int a5)] [.int r25]
              refine x_ifne C 82 dX10_copy_73 (by decide) (fun c28 => ?_) (fun c28 => ?_)
              · replace h0 := ob_neg c28 h0
                refine x_aload_n C 0 dX10_copy_82 rfl ?_
                refine x_getR (j := 0) (i := 11) (q := (RX10, TX10, 18)) C 8 (iX 0 (by decide)) rfl rfl inBX10 (by decide) tw235 rfl dX10_copy_83 ?_
                refine x_iload_n C 1 dX10_copy_86 rfl ?_
                obtain ⟨c29, h0⟩ := ob_if h0
                refine x_aald C (iX 8 (by decide)) rfl rfl rfl (vin_in c29) dX10_copy_87 ?_
                refine x_iload_n C 2 dX10_copy_88 rfl ?_
                refine x_aload_n C 0 dX10_copy_89 rfl ?_
                refine x_getR (j := 0) (i := 11) (q := (RX10, TX10, 18)) C 8 (iX 0 (by decide)) rfl rfl inBX10 (by decide) tw235 rfl dX10_copy_90 ?_
                refine x_iload_n C 3 dX10_copy_93 rfl ?_
                obtain ⟨c30, h0⟩ := ob_if h0
                refine x_aald C (iX 8 (by decide)) rfl rfl rfl (vin_in c30) dX10_copy_94 ?_
                refine x_iload C 4 dX10_copy_95 rfl ?_
                refine x_iload C 5 dX10_copy_97 rfl ?_
                obtain ⟨c31, h0⟩ := ob_if h0
                refine x_acopy C (iX2 (vin_lt c29)) (lX2 (vin_lt c29)) (iX2 (vin_lt c30)) (lX2 (vin_lt c30)) (by decide) tw330 tw332 tw331 tw76 c31.1.1.1 c31.1.1.2 c31.1.2 c31.2.1 c31.2.2 (Nat.le_of_ble_eq_true rfl) dX10_copy_99 ?_
                refine x_iconst (v := 1) C dX10_copy_102 rfl ?_
                cases h0
                exact x_iret C R dX10_copy_103
              · replace h0 := ob_pos c28 h0
                refine x_aload_n C 0 dX10_copy_76 rfl ?_
                refine x_iconst (v := 2) C dX10_copy_77 rfl ?_
                obtain ⟨r32, s34, g33, h0⟩ := ob_bd h0
                refine x_callV (ar := 1) (q := (RX10, TX10, 18)) (rest := []) C (c_X10_found C.2.2.2.2.2.2.1  g33) (iX 0 (by decide)) rfl rfl hy_X10_found ⟨tw298, tw300, tw1, tw63, tw301⟩ (by decide) (by decide) rfl rfl (Nat.le_of_ble_eq_true rfl) dX10_copy_78 ?_
                show Wx LX K s34 81 [(0, .ref (kad K 0)), (1, .int a1), (2, .int a2), (3, .int a3), (4, .int a4), (5, .int a5)] [.int r32]
                cases h0
                exact x_iret C R dX10_copy_81
          · replace h0 := ob_neg c17 h0
            refine x_aload_n C 0 dX10_copy_47 rfl ?_
            refine x_iconst (v := 1) C dX10_copy_48 rfl ?_
            obtain ⟨r35, s37, g36, h0⟩ := ob_bd h0
            refine x_callV (ar := 1) (q := (RX10, TX10, 18)) (rest := []) C (c_X10_found C.2.2.2.2.2.2.1  g36) (iX 0 (by decide)) rfl rfl hy_X10_found ⟨tw298, tw300, tw1, tw63, tw301⟩ (by decide) (by decide) rfl rfl (Nat.le_of_ble_eq_true rfl) dX10_copy_49 ?_
            show Wx LX K s37 52 [(0, .ref (kad K 0)), (1, .int a1), (2, .int a2), (3, .int a3), (4, .int a4), (5, .int a5)] [.int r35]
            cases h0
            exact x_iret C R dX10_copy_52
      · replace h0 := ob_neg c8 h0
        refine x_aload_n C 0 dX10_copy_23 rfl ?_
        refine x_iconst (v := 5) C dX10_copy_24 rfl ?_
        obtain ⟨r38, s40, g39, h0⟩ := ob_bd h0
        refine x_callV (ar := 1) (q := (RX10, TX10, 18)) (rest := []) C (c_X10_found C.2.2.2.2.2.2.1  g39) (iX 0 (by decide)) rfl rfl hy_X10_found ⟨tw298, tw300, tw1, tw63, tw301⟩ (by decide) (by decide) rfl rfl (Nat.le_of_ble_eq_true rfl) dX10_copy_25 ?_
        show Wx LX K s40 28 [(0, .ref (kad K 0)), (1, .int a1), (2, .int a2), (3, .int a3), (4, .int a4), (5, .int a5)] [.int r38]
        cases h0
        exact x_iret C R dX10_copy_28
    · replace h0 := ob_pos c6 h0
      refine x_iconst (v := (-1)) C dX10_copy_16 rfl ?_
      cases h0
      exact x_iret C R dX10_copy_17
set_option maxHeartbeats 4000000 in
set_option maxRecDepth 100000 in
theorem c_X10_mean {l : Launch} {D : va_G} {ad : Nat → Nat} {cy : Nat → ClassId} (hJ : mJ LX ad) {σ τ : mS} {a1 : Int32} {r : Int32}  (h0 : X10_mean σ a1 = some (r, τ)) : MetG l LX D ad cy yX10_mean cX10_mean 7 (some .int) 2 [.ref (ad 0), .int a1] σ (some (.int r)) τ := by
  refine MetG.of hJ (by decide +kernel) [(0, .ref (ad 0)), (1, .int a1)] rfl (Nat.le_of_ble_eq_true rfl) ?_
  intro K e1 e2 e3 e4 e5 C R
  subst e1
  subst e2
  subst e3
  subst e4
  unfold X10_mean at h0
  refine x_aload_n C 0 dX10_mean_0 rfl ?_
  refine x_iload_n C 1 dX10_mean_1 rfl ?_
  obtain ⟨r1, s3, g2, h0⟩ := ob_bd h0
  refine x_callV (ar := 1) (q := (RX10, TX10, 18)) (rest := []) C (c_X10_refusedRow C.2.2.2.2.2.2.1  g2) (iX 0 (by decide)) rfl rfl hy_X10_refusedRow ⟨tw310, tw312, tw3, tw63, tw313⟩ (by decide) (by decide) rfl rfl (Nat.le_of_ble_eq_true rfl) dX10_mean_2 ?_
  show Wx LX K s3 5 [(0, .ref (kad K 0)), (1, .int a1)] [.int r1]
  refine x_istore_n (lv' := [(2, .int r1), (0, .ref (kad K 0)), (1, .int a1)]) C dX10_mean_5 (by rw [e5]; decide) rfl ?_
  refine x_iload_n C 0 dX10_mean_6 rfl ?_
  refine x_ifeq C 12 dX10_mean_7 (by decide) (fun c5 => ?_) (fun c5 => ?_)
  · replace h0 := ob_pos c5 h0
    refine x_aload_n C 1 dX10_mean_12 rfl ?_
    refine x_getR (j := 1) (i := 14) (q := (RX10, TX10, 18)) C 24 (iX 0 (by decide)) rfl rfl inBX10 (by decide) tw236 rfl dX10_mean_13 ?_
    refine x_iload_n C 2 dX10_mean_16 rfl ?_
    obtain ⟨c6, h0⟩ := ob_if h0
    refine x_iald C (iX 24 (by decide)) rfl (vin_in c6) dX10_mean_17 ?_
    refine x_istore_n (lv' := [(3, .int (s3.1 24 a1.toNatClampNeg)), (2, .int r1), (0, .ref (kad K 0)), (1, .int a1)]) C dX10_mean_18 (by rw [e5]; decide) rfl ?_
    refine x_iload_n C 0 dX10_mean_19 rfl ?_
    refine x_ifgt C 29 dX10_mean_20 (by decide) (fun c8 => ?_) (fun c8 => ?_)
    · replace h0 := ob_pos c8 h0
      refine x_lconst (v := 0) C dX10_mean_29 rfl ?_
      refine x_lstore (lv' := [(4, .long 0), (3, .int (s3.1 24 a1.toNatClampNeg)), (2, .int r1), (0, .ref (kad K 0)), (1, .int a1)]) C dX10_mean_30 (by rw [e5]; decide) rfl ?_
      refine x_iconst (v := 0) C dX10_mean_32 rfl ?_
      refine x_istore (lv' := [(6, .int 0), (4, .long 0), (3, .int (s3.1 24 a1.toNatClampNeg)), (2, .int r1), (0, .ref (kad K 0)), (1, .int a1)]) C dX10_mean_33 (by rw [e5]; decide) rfl ?_
      obtain ⟨e17, g18, h0⟩ := ob_bind h0
      have J1 : ∀ (y11 : Int64), y11 = e17 → Wx LX K s3 62 [(4, .long y11), (3, .int (s3.1 24 a1.toNatClampNeg)), (0, .ref (kad K 0))] [] := by
        intro y11 e9
        subst e9
        replace h0 := un1_l h0
        refine x_aload_n C 2 dX10_mean_62 rfl ?_
        refine x_lload C 0 dX10_mean_63 rfl ?_
        refine x_iload_n C 1 dX10_mean_65 rfl ?_
        refine x_i2l C dX10_mean_66 ?_
        obtain ⟨c12, h0⟩ := ob_if h0
        refine x_ldiv C dX10_mean_67 c12 ?_
        refine x_l2i C dX10_mean_68 ?_
        refine x_putI (j := 13) (i := 99) (q := (RX10, TX10, 18)) C tyX10 tyX10_ok nmX10 (iX 0 (by decide)) rfl rfl inBX10 (by decide) tw248 rfl (by decide +kernel) rfl dX10_mean_69 ?_
        refine x_iconst (v := 1) C dX10_mean_72 rfl ?_
        cases h0
        exact x_iret C R dX10_mean_73
      refine x_lv (lv' := [(6, .int 0), (4, .long 0), (3, .int (s3.1 24 a1.toNatClampNeg)), (0, .ref (kad K 0)), (1, .int a1)]) [0, 1, 2, 4, 5] rfl ?_
      refine lp_G (G := fun q : Int64 × Int32 => Wx LX K s3 35 [(6, .int q.2), (4, .long q.1), (3, .int (s3.1 24 a1.toNatClampNeg)), (0, .ref (kad K 0)), (1, .int a1)] []) (fun q x h1 ihL1 ihR1 => ?_) big _ g18
      obtain ⟨x9, x10⟩ := q
      replace h1 : X10_mean_b35 a1 s3 x9 x10 = some x := h1
      unfold X10_mean_b35 at h1
      show Wx LX K s3 35 [(6, .int x10), (4, .long x9), (3, .int (s3.1 24 a1.toNatClampNeg)), (0, .ref (kad K 0)), (1, .int a1)] []
      refine x_iload C 0 dX10_mean_35 rfl ?_
      refine x_iload_n C 2 dX10_mean_37 rfl ?_
      refine x_icmpge C 62 dX10_mean_38 (by decide) (fun c14 => ?_) (fun c14 => ?_)
      · replace h1 := ob_pos c14 h1
        refine x_lv (lv' := [(4, .long x9), (3, .int (s3.1 24 a1.toNatClampNeg)), (0, .ref (kad K 0))]) [1, 2, 3] rfl ?_
        exact J1 _ (ihR1 _ (Option.some.inj h1).symm)
      · replace h1 := ob_neg c14 h1
        refine x_lload C 1 dX10_mean_41 rfl ?_
        refine x_aload_n C 3 dX10_mean_43 rfl ?_
        refine x_getR (j := 0) (i := 11) (q := (RX10, TX10, 18)) C 8 (iX 0 (by decide)) rfl rfl inBX10 (by decide) tw235 rfl dX10_mean_44 ?_
        refine x_iload_n C 4 dX10_mean_47 rfl ?_
        obtain ⟨c15, h1⟩ := ob_if h1
        refine x_aald C (iX 8 (by decide)) rfl rfl rfl (vin_in c15) dX10_mean_48 ?_
        refine x_iload C 0 dX10_mean_49 rfl ?_
        obtain ⟨c16, h1⟩ := ob_if h1
        refine x_iald C (iX2 (vin_lt c15)) (lX2 (vin_lt c15)) (vin_in c16) dX10_mean_51 ?_
        refine x_i2l C dX10_mean_52 ?_
        refine x_ladd C dX10_mean_53 ?_
        refine x_lstore (lv' := [(4, .long (x9 + ((s3.1 (16 + a1.toNatClampNeg) x10.toNatClampNeg)).toInt64)), (6, .int x10), (3, .int (s3.1 24 a1.toNatClampNeg)), (0, .ref (kad K 0)), (1, .int a1)]) C dX10_mean_54 (by rw [e5]; decide) rfl ?_
        refine x_iinc (v := (x10 + 1)) (lv' := [(6, .int (x10 + 1)), (4, .long (x9 + ((s3.1 (16 + a1.toNatClampNeg) x10.toNatClampNeg)).toInt64)), (3, .int (s3.1 24 a1.toNatClampNeg)), (0, .ref (kad K 0)), (1, .int a1)]) C 1 dX10_mean_56 rfl rfl (by rw [e5]; decide) rfl ?_
        refine x_goto C 35 dX10_mean_59 (by decide) ?_
        refine x_lv (lv' := [(6, .int (x10 + 1)), (4, .long (x9 + ((s3.1 (16 + a1.toNatClampNeg) x10.toNatClampNeg)).toInt64)), (3, .int (s3.1 24 a1.toNatClampNeg)), (0, .ref (kad K 0)), (1, .int a1)]) [0, 1, 2, 3, 4] rfl ?_
        exact ihL1 _ (Option.some.inj h1).symm
    · replace h0 := ob_neg c8 h0
      refine x_aload_n C 2 dX10_mean_23 rfl ?_
      refine x_iconst (v := 4) C dX10_mean_24 rfl ?_
      obtain ⟨r19, s21, g20, h0⟩ := ob_bd h0
      refine x_callV (ar := 1) (q := (RX10, TX10, 18)) (rest := []) C (c_X10_found C.2.2.2.2.2.2.1  g20) (iX 0 (by decide)) rfl rfl hy_X10_found ⟨tw298, tw300, tw1, tw63, tw301⟩ (by decide) (by decide) rfl rfl (Nat.le_of_ble_eq_true rfl) dX10_mean_25 ?_
      show Wx LX K s21 28 [(3, .int (s3.1 24 a1.toNatClampNeg)), (2, .int r1), (0, .ref (kad K 0)), (1, .int a1)] [.int r19]
      cases h0
      exact x_iret C R dX10_mean_28
  · replace h0 := ob_neg c5 h0
    refine x_iload_n C 0 dX10_mean_10 rfl ?_
    cases h0
    exact x_iret C R dX10_mean_11
set_option maxHeartbeats 4000000 in
set_option maxRecDepth 100000 in
theorem c_X10_isText {l : Launch} {D : va_G} {ad : Nat → Nat} {cy : Nat → ClassId} (hJ : mJ LX ad) {σ : mS} {a1 : Int32} {r : Int32}  (h0 : X10_isText a1 = r) : MetG l LX D ad cy yX10_isText cX10_isText 2 (some .boolean) 0 [.ref (ad 0), .int a1] σ (some (.int r)) σ := by
  refine MetG.of hJ (by decide +kernel) [(0, .ref (ad 0)), (1, .int a1)] rfl (Nat.le_of_ble_eq_true rfl) ?_
  intro K e1 e2 e3 e4 e5 C R
  subst e1
  subst e2
  subst e3
  subst e4
  unfold X10_isText at h0
  refine x_iload_n C 1 dX10_isText_0 rfl ?_
  refine x_iflt C 13 dX10_isText_1 (by decide) (fun c2 => ?_) (fun c2 => ?_)
  · replace h0 := ob_pos c2 h0
    refine x_iconst (v := 0) C dX10_isText_13 rfl ?_
    subst h0
    exact x_zret C (Or.inl rfl) R dX10_isText_14
  · replace h0 := ob_neg c2 h0
    refine x_iload_n C 1 dX10_isText_4 rfl ?_
    refine x_iconst (v := 4) C dX10_isText_5 rfl ?_
    refine x_icmpge C 13 dX10_isText_6 (by decide) (fun c4 => ?_) (fun c4 => ?_)
    · replace h0 := ob_pos c4 h0
      refine x_iconst (v := 0) C dX10_isText_13 rfl ?_
      subst h0
      exact x_zret C (Or.inl rfl) R dX10_isText_14
    · replace h0 := ob_neg c4 h0
      refine x_iconst (v := 1) C dX10_isText_9 rfl ?_
      refine x_goto C 14 dX10_isText_10 (by decide) ?_
      subst h0
      exact x_zret C (Or.inr rfl) R dX10_isText_14
set_option maxHeartbeats 4000000 in
set_option maxRecDepth 100000 in
theorem c_J7_fill_031fb {l : Launch} {Y : mY} {D : va_G} {ad : Nat → Nat} {cy : Nat → ClassId} (hJ : mJ Y ad) {σ τ : mS} {k : Nat} {z : Nat} {a2 : Int32} {r : Unit} (hk : k ∈ Y.1) (hd : Y.2 k = .inr (.inl (1, z))) (h0 : J7_fill_031fb σ k z a2 = some (r, τ)) : MetG l Y D ad cy yJ7_fill_031fb cJ7_fill_031fb 4 none 0 [.ref (ad k), .int a2] σ (none) τ := by
  refine MetG.of hJ (by decide +kernel) [(0, .ref (ad k)), (1, .int a2)] rfl (Nat.le_of_ble_eq_true rfl) ?_
  intro K e1 e2 e3 e4 e5 C R
  subst e1
  subst e2
  subst e3
  subst e4
  unfold J7_fill_031fb at h0
  refine x_iconst (v := 0) C dJ7_fill_031fb_0 rfl ?_
  refine x_istore_n (lv' := [(2, .int 0), (0, .ref (kad K k)), (1, .int a2)]) C dJ7_fill_031fb_1 (by rw [e5]; decide) rfl ?_
  refine x_aload_n C 1 dJ7_fill_031fb_2 rfl ?_
  refine x_alen (b := 1) C hk hd rfl rfl dJ7_fill_031fb_3 ?_
  refine x_istore_n (lv' := [(3, .int (Int32.ofNat z)), (2, .int 0), (0, .ref (kad K k)), (1, .int a2)]) C dJ7_fill_031fb_4 (by rw [e5]; decide) rfl ?_
  obtain ⟨e7, g8, h0⟩ := ob_bind h0
  have J1 : ∀ (s3 : mS), s3 = e7 → Wx Y K s3 20 [] [] := by
    intro s3 e9
    subst e9
    replace h0 := un1_l h0
    cases h0
    exact x_vret C R dJ7_fill_031fb_20
  refine lp_G (G := fun q : mS × Int32 => Wx Y K q.1 5 [(3, .int (Int32.ofNat z)), (2, .int q.2), (0, .ref (kad K k)), (1, .int a2)] []) (fun q x h1 ihL1 ihR1 => ?_) big _ g8
  obtain ⟨s1, x2⟩ := q
  replace h1 : J7_fill_031fb_b5 k z a2 s1 x2 = some x := h1
  unfold J7_fill_031fb_b5 at h1
  show Wx Y K s1 5 [(3, .int (Int32.ofNat z)), (2, .int x2), (0, .ref (kad K k)), (1, .int a2)] []
  refine x_iload_n C 1 dJ7_fill_031fb_5 rfl ?_
  refine x_iload_n C 0 dJ7_fill_031fb_6 rfl ?_
  refine x_icmpge C 20 dJ7_fill_031fb_7 (by decide) (fun c5 => ?_) (fun c5 => ?_)
  · replace h1 := ob_pos c5 h1
    refine x_lv (lv' := []) [] rfl ?_
    exact J1 _ (ihR1 _ (Option.some.inj h1).symm)
  · replace h1 := ob_neg c5 h1
    refine x_aload_n C 2 dJ7_fill_031fb_10 rfl ?_
    refine x_iload_n C 1 dJ7_fill_031fb_11 rfl ?_
    refine x_iload_n C 3 dJ7_fill_031fb_12 rfl ?_
    obtain ⟨c6, h1⟩ := ob_if h1
    refine x_bast C hk hd (vin_in c6) dJ7_fill_031fb_13 ?_
    refine x_iinc (v := (x2 + 1)) (lv' := [(2, .int (x2 + 1)), (3, .int (Int32.ofNat z)), (0, .ref (kad K k)), (1, .int a2)]) C 1 dJ7_fill_031fb_14 rfl rfl (by rw [e5]; decide) rfl ?_
    refine x_goto C 5 dJ7_fill_031fb_17 (by decide) ?_
    refine x_lv (lv' := [(3, .int (Int32.ofNat z)), (2, .int (x2 + 1)), (0, .ref (kad K k)), (1, .int a2)]) [1, 0, 2, 3] rfl ?_
    exact ihL1 _ (Option.some.inj h1).symm
set_option maxHeartbeats 4000000 in
set_option maxRecDepth 100000 in
theorem c_X10_text {l : Launch} {D : va_G} {ad : Nat → Nat} {cy : Nat → ClassId} (hJ : mJ LX ad) {σ τ : mS} {a1 : Int32} {a2 : Int32} {r : Int32}  (h0 : X10_text σ a1 a2 = some (r, τ)) : MetG l LX D ad cy yX10_text cX10_text 3 (some .int) 1 [.ref (ad 0), .int a1, .int a2] σ (some (.int r)) τ := by
  refine MetG.of hJ (by decide +kernel) [(0, .ref (ad 0)), (1, .int a1), (2, .int a2)] rfl (Nat.le_of_ble_eq_true rfl) ?_
  intro K e1 e2 e3 e4 e5 C R
  subst e1
  subst e2
  subst e3
  subst e4
  unfold X10_text at h0
  refine x_aload_n C 0 dX10_text_0 rfl ?_
  refine x_iload_n C 1 dX10_text_1 rfl ?_
  refine x_callV (ar := 1) (q := (RX10, TX10, 18)) (rest := []) C (c_X10_isText C.2.2.2.2.2.2.1  rfl) (iX 0 (by decide)) rfl rfl hy_X10_isText ⟨tw341, tw343, tw5, tw63, tw344⟩ (by decide) (by decide) rfl rfl (Nat.le_of_ble_eq_true rfl) dX10_text_2 ?_
  show Wx LX K σ 5 [(0, .ref (kad K 0)), (1, .int a1), (2, .int a2)] [.int (X10_isText a1)]
  refine x_ifeq C 14 dX10_text_5 (by decide) (fun c3 => ?_) (fun c3 => ?_)
  · replace h0 := ob_pos c3 h0
    refine x_iconst (v := (-1)) C dX10_text_14 rfl ?_
    cases h0
    exact x_iret C R dX10_text_15
  · replace h0 := ob_neg c3 h0
    refine x_iload_n C 2 dX10_text_8 rfl ?_
    refine x_bipush (v := 60) C dX10_text_9 rfl ?_
    refine x_icmple C 16 dX10_text_11 (by decide) (fun c5 => ?_) (fun c5 => ?_)
    · replace h0 := ob_pos c5 h0
      refine x_iload_n C 2 dX10_text_16 rfl ?_
      refine x_ifge C 26 dX10_text_17 (by decide) (fun c7 => ?_) (fun c7 => ?_)
      · replace h0 := ob_pos c7 h0
        refine x_aload_n C 0 dX10_text_26 rfl ?_
        refine x_getR (j := 2) (i := 20) (q := (RX10, TX10, 18)) C 32 (iX 0 (by decide)) rfl rfl inBX10 (by decide) tw237 rfl dX10_text_27 ?_
        refine x_iload_n C 1 dX10_text_30 rfl ?_
        obtain ⟨c8, h0⟩ := ob_if h0
        refine x_aald C (iX 32 (by decide)) rfl rfl rfl (vin_in c8) dX10_text_31 ?_
        refine x_bipush (v := 32) C dX10_text_32 rfl ?_
        obtain ⟨r9, s11, g10, h0⟩ := ob_bd h0
        refine x_callS (ar := 2) (rest := []) C (c_J7_fill_031fb C.2.2.2.2.2.2.1 (iX5 (vin_lt c8)) (lX5 (vin_lt c8)) g10) hy_J7_fill_031fb ⟨tw345, tw346, tw74, tw347⟩ (by decide) (by decide) rfl rfl (Nat.le_of_ble_eq_true rfl) dX10_text_34 ?_
        show Wx LX K s11 37 [(0, .ref (kad K 0)), (1, .int a1), (2, .int a2)] []
        refine x_aload_n C 0 dX10_text_37 rfl ?_
        refine x_getR (j := 3) (i := 23) (q := (RX10, TX10, 18)) C 48 (iX 0 (by decide)) rfl rfl inBX10 (by decide) tw238 rfl dX10_text_38 ?_
        refine x_iload_n C 1 dX10_text_41 rfl ?_
        refine x_iload_n C 2 dX10_text_42 rfl ?_
        obtain ⟨c12, h0⟩ := ob_if h0
        refine x_iast C (iX 48 (by decide)) rfl (vin_in c12) dX10_text_43 ?_
        refine x_iload_n C 2 dX10_text_44 rfl ?_
        cases h0
        exact x_iret C R dX10_text_45
      · replace h0 := ob_neg c7 h0
        refine x_aload_n C 0 dX10_text_20 rfl ?_
        refine x_iconst (v := 5) C dX10_text_21 rfl ?_
        obtain ⟨r13, s15, g14, h0⟩ := ob_bd h0
        refine x_callV (ar := 1) (q := (RX10, TX10, 18)) (rest := []) C (c_X10_found C.2.2.2.2.2.2.1  g14) (iX 0 (by decide)) rfl rfl hy_X10_found ⟨tw298, tw300, tw1, tw63, tw301⟩ (by decide) (by decide) rfl rfl (Nat.le_of_ble_eq_true rfl) dX10_text_22 ?_
        show Wx LX K s15 25 [(0, .ref (kad K 0)), (1, .int a1), (2, .int a2)] [.int r13]
        cases h0
        exact x_iret C R dX10_text_25
    · replace h0 := ob_neg c5 h0
      refine x_iconst (v := (-1)) C dX10_text_14 rfl ?_
      cases h0
      exact x_iret C R dX10_text_15
set_option maxHeartbeats 4000000 in
set_option maxRecDepth 100000 in
theorem c_X10_refusedText {l : Launch} {D : va_G} {ad : Nat → Nat} {cy : Nat → ClassId} (hJ : mJ LX ad) {σ τ : mS} {a1 : Int32} {r : Int32}  (h0 : X10_refusedText σ a1 = some (r, τ)) : MetG l LX D ad cy yX10_refusedText cX10_refusedText 2 (some .int) 1 [.ref (ad 0), .int a1] σ (some (.int r)) τ := by
  refine MetG.of hJ (by decide +kernel) [(0, .ref (ad 0)), (1, .int a1)] rfl (Nat.le_of_ble_eq_true rfl) ?_
  intro K e1 e2 e3 e4 e5 C R
  subst e1
  subst e2
  subst e3
  subst e4
  unfold X10_refusedText at h0
  refine x_aload_n C 0 dX10_refusedText_0 rfl ?_
  refine x_iload_n C 1 dX10_refusedText_1 rfl ?_
  refine x_callV (ar := 1) (q := (RX10, TX10, 18)) (rest := []) C (c_X10_isText C.2.2.2.2.2.2.1  rfl) (iX 0 (by decide)) rfl rfl hy_X10_isText ⟨tw341, tw343, tw5, tw63, tw344⟩ (by decide) (by decide) rfl rfl (Nat.le_of_ble_eq_true rfl) dX10_refusedText_2 ?_
  show Wx LX K σ 5 [(0, .ref (kad K 0)), (1, .int a1)] [.int (X10_isText a1)]
  refine x_ifne C 10 dX10_refusedText_5 (by decide) (fun c3 => ?_) (fun c3 => ?_)
  · replace h0 := ob_neg c3 h0
    refine x_aload_n C 0 dX10_refusedText_10 rfl ?_
    refine x_getR (j := 3) (i := 23) (q := (RX10, TX10, 18)) C 48 (iX 0 (by decide)) rfl rfl inBX10 (by decide) tw238 rfl dX10_refusedText_11 ?_
    refine x_iload_n C 1 dX10_refusedText_14 rfl ?_
    obtain ⟨c4, h0⟩ := ob_if h0
    refine x_iald C (iX 48 (by decide)) rfl (vin_in c4) dX10_refusedText_15 ?_
    refine x_ifge C 27 dX10_refusedText_16 (by decide) (fun c6 => ?_) (fun c6 => ?_)
    · replace h0 := ob_pos c6 h0
      refine x_iconst (v := 0) C dX10_refusedText_27 rfl ?_
      cases h0
      exact x_iret C R dX10_refusedText_28
    · replace h0 := ob_neg c6 h0
      refine x_aload_n C 0 dX10_refusedText_19 rfl ?_
      refine x_iconst (v := 1) C dX10_refusedText_20 rfl ?_
      obtain ⟨r7, s9, g8, h0⟩ := ob_bd h0
      refine x_callV (ar := 1) (q := (RX10, TX10, 18)) (rest := []) C (c_X10_found C.2.2.2.2.2.2.1  g8) (iX 0 (by decide)) rfl rfl hy_X10_found ⟨tw298, tw300, tw1, tw63, tw301⟩ (by decide) (by decide) rfl rfl (Nat.le_of_ble_eq_true rfl) dX10_refusedText_21 ?_
      show Wx LX K s9 24 [(0, .ref (kad K 0)), (1, .int a1)] [.int r7]
      refine x_goto C 28 dX10_refusedText_24 (by decide) ?_
      cases h0
      exact x_iret C R dX10_refusedText_28
  · replace h0 := ob_pos c3 h0
    refine x_iconst (v := (-1)) C dX10_refusedText_8 rfl ?_
    cases h0
    exact x_iret C R dX10_refusedText_9
set_option maxHeartbeats 4000000 in
set_option maxRecDepth 100000 in
theorem c_X10_put {l : Launch} {D : va_G} {ad : Nat → Nat} {cy : Nat → ClassId} (hJ : mJ LX ad) {σ τ : mS} {a1 : Int32} {a2 : Int32} {a3 : Int32} {r : Int32}  (h0 : X10_put σ a1 a2 a3 = some (r, τ)) : MetG l LX D ad cy yX10_put cX10_put 6 (some .int) 2 [.ref (ad 0), .int a1, .int a2, .int a3] σ (some (.int r)) τ := by
  refine MetG.of hJ (by decide +kernel) [(0, .ref (ad 0)), (1, .int a1), (2, .int a2), (3, .int a3)] rfl (Nat.le_of_ble_eq_true rfl) ?_
  intro K e1 e2 e3 e4 e5 C R
  subst e1
  subst e2
  subst e3
  subst e4
  unfold X10_put at h0
  refine x_aload_n C 0 dX10_put_0 rfl ?_
  refine x_iload_n C 1 dX10_put_1 rfl ?_
  obtain ⟨r1, s3, g2, h0⟩ := ob_bd h0
  refine x_callV (ar := 1) (q := (RX10, TX10, 18)) (rest := []) C (c_X10_refusedText C.2.2.2.2.2.2.1  g2) (iX 0 (by decide)) rfl rfl hy_X10_refusedText ⟨tw352, tw354, tw6, tw63, tw355⟩ (by decide) (by decide) rfl rfl (Nat.le_of_ble_eq_true rfl) dX10_put_2 ?_
  show Wx LX K s3 5 [(0, .ref (kad K 0)), (1, .int a1), (2, .int a2), (3, .int a3)] [.int r1]
  refine x_istore (lv' := [(4, .int r1), (0, .ref (kad K 0)), (1, .int a1), (2, .int a2), (3, .int a3)]) C dX10_put_5 (by rw [e5]; decide) rfl ?_
  refine x_iload C 0 dX10_put_7 rfl ?_
  refine x_ifeq C 15 dX10_put_9 (by decide) (fun c5 => ?_) (fun c5 => ?_)
  · replace h0 := ob_pos c5 h0
    refine x_iload_n C 3 dX10_put_15 rfl ?_
    refine x_iflt C 29 dX10_put_16 (by decide) (fun c7 => ?_) (fun c7 => ?_)
    · replace h0 := ob_pos c7 h0
      refine x_aload_n C 1 dX10_put_29 rfl ?_
      refine x_iconst (v := 2) C dX10_put_30 rfl ?_
      obtain ⟨r8, s10, g9, h0⟩ := ob_bd h0
      refine x_callV (ar := 1) (q := (RX10, TX10, 18)) (rest := []) C (c_X10_found C.2.2.2.2.2.2.1  g9) (iX 0 (by decide)) rfl rfl hy_X10_found ⟨tw298, tw300, tw1, tw63, tw301⟩ (by decide) (by decide) rfl rfl (Nat.le_of_ble_eq_true rfl) dX10_put_31 ?_
      show Wx LX K s10 34 [(4, .int r1), (0, .ref (kad K 0)), (1, .int a1), (2, .int a2), (3, .int a3)] [.int r8]
      cases h0
      exact x_iret C R dX10_put_34
    · replace h0 := ob_neg c7 h0
      refine x_iload_n C 3 dX10_put_19 rfl ?_
      refine x_aload_n C 1 dX10_put_20 rfl ?_
      refine x_getR (j := 3) (i := 23) (q := (RX10, TX10, 18)) C 48 (iX 0 (by decide)) rfl rfl inBX10 (by decide) tw238 rfl dX10_put_21 ?_
      refine x_iload_n C 2 dX10_put_24 rfl ?_
      obtain ⟨c11, h0⟩ := ob_if h0
      refine x_iald C (iX 48 (by decide)) rfl (vin_in c11) dX10_put_25 ?_
      refine x_icmplt C 35 dX10_put_26 (by decide) (fun c13 => ?_) (fun c13 => ?_)
      · replace h0 := ob_pos c13 h0
        refine x_aload_n C 1 dX10_put_35 rfl ?_
        refine x_getR (j := 2) (i := 20) (q := (RX10, TX10, 18)) C 32 (iX 0 (by decide)) rfl rfl inBX10 (by decide) tw237 rfl dX10_put_36 ?_
        refine x_iload_n C 2 dX10_put_39 rfl ?_
        obtain ⟨c14, h0⟩ := ob_if h0
        refine x_aald C (iX 32 (by decide)) rfl rfl rfl (vin_in c14) dX10_put_40 ?_
        refine x_iload_n C 3 dX10_put_41 rfl ?_
        obtain ⟨c15, h0⟩ := ob_if h0
        refine x_bald C (iX5 (vin_lt c14)) (lX5 (vin_lt c14)) (vin_in c15) dX10_put_42 ?_
        refine x_istore (lv' := [(5, .int (s3.1 (40 + a1.toNatClampNeg) a2.toNatClampNeg)), (4, .int r1), (0, .ref (kad K 0)), (1, .int a1), (2, .int a2), (3, .int a3)]) C dX10_put_43 (by rw [e5]; decide) rfl ?_
        refine x_aload_n C 2 dX10_put_45 rfl ?_
        refine x_getR (j := 2) (i := 20) (q := (RX10, TX10, 18)) C 32 (iX 0 (by decide)) rfl rfl inBX10 (by decide) tw237 rfl dX10_put_46 ?_
        refine x_iload_n C 3 dX10_put_49 rfl ?_
        obtain ⟨c16, h0⟩ := ob_if h0
        refine x_aald C (iX 32 (by decide)) rfl rfl rfl (vin_in c16) dX10_put_50 ?_
        refine x_iload_n C 4 dX10_put_51 rfl ?_
        refine x_iload_n C 5 dX10_put_52 rfl ?_
        refine x_i2b C dX10_put_53 ?_
        obtain ⟨c17, h0⟩ := ob_if h0
        refine x_bast C (iX5 (vin_lt c16)) (lX5 (vin_lt c16)) (vin_in c17) dX10_put_54 ?_
        refine x_iload C 0 dX10_put_55 rfl ?_
        refine x_sipush (v := 1000) C dX10_put_57 rfl ?_
        refine x_iadd C dX10_put_60 ?_
        cases h0
        exact x_iret C R dX10_put_61
      · replace h0 := ob_neg c13 h0
        refine x_aload_n C 1 dX10_put_29 rfl ?_
        refine x_iconst (v := 2) C dX10_put_30 rfl ?_
        obtain ⟨r18, s20, g19, h0⟩ := ob_bd h0
        refine x_callV (ar := 1) (q := (RX10, TX10, 18)) (rest := []) C (c_X10_found C.2.2.2.2.2.2.1  g19) (iX 0 (by decide)) rfl rfl hy_X10_found ⟨tw298, tw300, tw1, tw63, tw301⟩ (by decide) (by decide) rfl rfl (Nat.le_of_ble_eq_true rfl) dX10_put_31 ?_
        show Wx LX K s20 34 [(4, .int r1), (0, .ref (kad K 0)), (1, .int a1), (2, .int a2), (3, .int a3)] [.int r18]
        cases h0
        exact x_iret C R dX10_put_34
  · replace h0 := ob_neg c5 h0
    refine x_iload C 0 dX10_put_12 rfl ?_
    cases h0
    exact x_iret C R dX10_put_14
set_option maxHeartbeats 4000000 in
set_option maxRecDepth 100000 in
theorem c_X10_fault {l : Launch} {D : va_G} {ad : Nat → Nat} {cy : Nat → ClassId} (hJ : mJ LX ad) {σ τ : mS} {a1 : Int32} {r : Int32}  (h0 : X10_fault σ a1 = some (r, τ)) : MetG l LX D ad cy yX10_fault cX10_fault 3 (some .int) 2 [.ref (ad 0), .int a1] σ (some (.int r)) τ := by
  refine MetG.of hJ (by decide +kernel) [(0, .ref (ad 0)), (1, .int a1)] rfl (Nat.le_of_ble_eq_true rfl) ?_
  intro K e1 e2 e3 e4 e5 C R
  subst e1
  subst e2
  subst e3
  subst e4
  unfold X10_fault at h0
  refine x_aload_n C 0 dX10_fault_0 rfl ?_
  refine x_iload_n C 1 dX10_fault_1 rfl ?_
  obtain ⟨r1, s3, g2, h0⟩ := ob_bd h0
  refine x_callV (ar := 1) (q := (RX10, TX10, 18)) (rest := []) C (c_X10_refusedText C.2.2.2.2.2.2.1  g2) (iX 0 (by decide)) rfl rfl hy_X10_refusedText ⟨tw352, tw354, tw6, tw63, tw355⟩ (by decide) (by decide) rfl rfl (Nat.le_of_ble_eq_true rfl) dX10_fault_2 ?_
  show Wx LX K s3 5 [(0, .ref (kad K 0)), (1, .int a1)] [.int r1]
  refine x_istore_n (lv' := [(2, .int r1), (0, .ref (kad K 0)), (1, .int a1)]) C dX10_fault_5 (by rw [e5]; decide) rfl ?_
  refine x_iload_n C 0 dX10_fault_6 rfl ?_
  refine x_ifeq C 12 dX10_fault_7 (by decide) (fun c5 => ?_) (fun c5 => ?_)
  · replace h0 := ob_pos c5 h0
    refine x_aload_n C 1 dX10_fault_12 rfl ?_
    refine x_getR (j := 4) (i := 29) (q := (RX10, TX10, 18)) C 56 (iX 0 (by decide)) rfl rfl inBX10 (by decide) tw239 rfl dX10_fault_13 ?_
    refine x_aload_n C 1 dX10_fault_16 rfl ?_
    refine x_getR (j := 2) (i := 20) (q := (RX10, TX10, 18)) C 32 (iX 0 (by decide)) rfl rfl inBX10 (by decide) tw237 rfl dX10_fault_17 ?_
    refine x_iload_n C 2 dX10_fault_20 rfl ?_
    obtain ⟨c6, h0⟩ := ob_if h0
    refine x_aald C (iX 32 (by decide)) rfl rfl rfl (vin_in c6) dX10_fault_21 ?_
    refine x_aload_n C 1 dX10_fault_22 rfl ?_
    refine x_getR (j := 3) (i := 23) (q := (RX10, TX10, 18)) C 48 (iX 0 (by decide)) rfl rfl inBX10 (by decide) tw238 rfl dX10_fault_23 ?_
    refine x_iload_n C 2 dX10_fault_26 rfl ?_
    obtain ⟨c7, h0⟩ := ob_if h0
    refine x_iald C (iX 48 (by decide)) rfl (vin_in c7) dX10_fault_27 ?_
    obtain ⟨r8, s10, g9, h0⟩ := ob_bd h0
    refine x_callV (ar := 2) (q := (RX6, TX6, 3)) (rest := []) C (c_X6_read C.2.2.2.2.2.2.1 (vin_lt c6) g9) (iX 56 (by decide)) rfl rfl hy_X6_read ⟨tw360, tw361, tw362, tw64, tw363⟩ (by decide) (by decide) rfl rfl (Nat.le_of_ble_eq_true rfl) dX10_fault_28 ?_
    show Wx LX K s10 31 [(2, .int r1), (0, .ref (kad K 0)), (1, .int a1)] [.int r8]
    cases h0
    exact x_iret C R dX10_fault_31
  · replace h0 := ob_neg c5 h0
    refine x_iload_n C 0 dX10_fault_10 rfl ?_
    cases h0
    exact x_iret C R dX10_fault_11
set_option maxHeartbeats 4000000 in
set_option maxRecDepth 100000 in
theorem c_X10_hall {l : Launch} {D : va_G} {ad : Nat → Nat} {cy : Nat → ClassId} (hJ : mJ LX ad) {σ τ : mS} {a1 : Int32} {r : Int32}  (h0 : X10_hall σ a1 = some (r, τ)) : MetG l LX D ad cy yX10_hall cX10_hall 4 (some .int) 2 [.ref (ad 0), .int a1] σ (some (.int r)) τ := by
  refine MetG.of hJ (by decide +kernel) [(0, .ref (ad 0)), (1, .int a1)] rfl (Nat.le_of_ble_eq_true rfl) ?_
  intro K e1 e2 e3 e4 e5 C R
  subst e1
  subst e2
  subst e3
  subst e4
  unfold X10_hall at h0
  refine x_aload_n C 0 dX10_hall_0 rfl ?_
  refine x_iload_n C 1 dX10_hall_1 rfl ?_
  obtain ⟨r1, s3, g2, h0⟩ := ob_bd h0
  refine x_callV (ar := 1) (q := (RX10, TX10, 18)) (rest := []) C (c_X10_refusedText C.2.2.2.2.2.2.1  g2) (iX 0 (by decide)) rfl rfl hy_X10_refusedText ⟨tw352, tw354, tw6, tw63, tw355⟩ (by decide) (by decide) rfl rfl (Nat.le_of_ble_eq_true rfl) dX10_hall_2 ?_
  show Wx LX K s3 5 [(0, .ref (kad K 0)), (1, .int a1)] [.int r1]
  refine x_istore_n (lv' := [(2, .int r1), (0, .ref (kad K 0)), (1, .int a1)]) C dX10_hall_5 (by rw [e5]; decide) rfl ?_
  refine x_iload_n C 0 dX10_hall_6 rfl ?_
  refine x_ifeq C 12 dX10_hall_7 (by decide) (fun c5 => ?_) (fun c5 => ?_)
  · replace h0 := ob_pos c5 h0
    refine x_aload_n C 1 dX10_hall_12 rfl ?_
    refine x_getR (j := 4) (i := 29) (q := (RX10, TX10, 18)) C 56 (iX 0 (by decide)) rfl rfl inBX10 (by decide) tw239 rfl dX10_hall_13 ?_
    refine x_aload_n C 1 dX10_hall_16 rfl ?_
    refine x_getR (j := 2) (i := 20) (q := (RX10, TX10, 18)) C 32 (iX 0 (by decide)) rfl rfl inBX10 (by decide) tw237 rfl dX10_hall_17 ?_
    refine x_iload_n C 2 dX10_hall_20 rfl ?_
    obtain ⟨c6, h0⟩ := ob_if h0
    refine x_aald C (iX 32 (by decide)) rfl rfl rfl (vin_in c6) dX10_hall_21 ?_
    refine x_aload_n C 1 dX10_hall_22 rfl ?_
    refine x_getR (j := 3) (i := 23) (q := (RX10, TX10, 18)) C 48 (iX 0 (by decide)) rfl rfl inBX10 (by decide) tw238 rfl dX10_hall_23 ?_
    refine x_iload_n C 2 dX10_hall_26 rfl ?_
    obtain ⟨c7, h0⟩ := ob_if h0
    refine x_iald C (iX 48 (by decide)) rfl (vin_in c7) dX10_hall_27 ?_
    obtain ⟨r8, s10, g9, h0⟩ := ob_bd h0
    refine x_callV (ar := 2) (q := (RX6, TX6, 3)) (rest := []) C (c_X6_read C.2.2.2.2.2.2.1 (vin_lt c6) g9) (iX 56 (by decide)) rfl rfl hy_X6_read ⟨tw360, tw361, tw362, tw64, tw363⟩ (by decide) (by decide) rfl rfl (Nat.le_of_ble_eq_true rfl) dX10_hall_28 ?_
    show Wx LX K s10 31 [(2, .int r1), (0, .ref (kad K 0)), (1, .int a1)] [.int r8]
    refine x_bipush (v := (-9)) C dX10_hall_31 rfl ?_
    refine x_icmpeq C 39 dX10_hall_33 (by decide) (fun c12 => ?_) (fun c12 => ?_)
    · replace h0 := ob_pos c12 h0
      refine x_aload_n C 1 dX10_hall_39 rfl ?_
      refine x_getR (j := 5) (i := 36) (q := (RX10, TX10, 18)) C 88 (iX 0 (by decide)) rfl rfl inBX10 (by decide) tw240 rfl dX10_hall_40 ?_
      refine x_aload_n C 1 dX10_hall_43 rfl ?_
      refine x_getR (j := 4) (i := 29) (q := (RX10, TX10, 18)) C 56 (iX 0 (by decide)) rfl rfl inBX10 (by decide) tw239 rfl dX10_hall_44 ?_
      obtain ⟨r13, s15, g14, h0⟩ := ob_bd h0
      refine x_callV (ar := 1) (q := (RX7, TX7, 5)) (rest := []) C (c_X7_fillBy C.2.2.2.2.2.2.1  g14) (iX 88 (by decide)) rfl rfl hy_X7_fillBy ⟨tw377, tw378, tw379, tw65, tw380⟩ (by decide) (by decide) rfl rfl (Nat.le_of_ble_eq_true rfl) dX10_hall_47 ?_
      show Wx LX K s15 50 [(2, .int r1), (0, .ref (kad K 0)), (1, .int a1)] []
      refine x_aload_n C 1 dX10_hall_50 rfl ?_
      refine x_getR (j := 7) (i := 52) (q := (RX10, TX10, 18)) C (160 + 3) (iX 0 (by decide)) rfl rfl inBX10 (by decide) tw242 rfl dX10_hall_51 ?_
      refine x_iconst (v := 0) C dX10_hall_54 rfl ?_
      refine x_putIN (j := 1) (i := 83) (q := (RX1, TX1, 2)) (host := "CalledNumbers") C tyX1 tyX1_ok nmX1 (iX20 (by decide)) (lX20 (by decide)) rfl inBX1 (by decide) twN223 rfl (by decide +kernel) rfl dX10_hall_55 ?_
      refine x_iconst (v := 0) C dX10_hall_58 rfl ?_
      refine x_istore_n (lv' := [(3, .int 0), (2, .int r1), (0, .ref (kad K 0)), (1, .int a1)]) C dX10_hall_59 (by rw [e5]; decide) rfl ?_
      obtain ⟨e25, g26, h0⟩ := ob_bind h0
      have J1 : ∀ (s18 : mS), s18 = e25 → Wx LX K s18 81 [(0, .ref (kad K 0))] [] := by
        intro s18 e9
        subst e9
        replace h0 := un1_l h0
        refine x_aload_n C 0 dX10_hall_81 rfl ?_
        refine x_getR (j := 6) (i := 45) (q := (RX10, TX10, 18)) C (144 + 5) (iX 0 (by decide)) rfl rfl inBX10 (by decide) tw241 rfl dX10_hall_82 ?_
        obtain ⟨r19, s21, g20, h0⟩ := ob_bd h0
        refine x_callV (ar := 0) (q := (RX2, TX2, 6)) (rest := []) C (c_X2_begin C.2.2.2.2.2.2.1 (by decide) g20) (iX18 (by decide)) (lX18 (by decide)) rfl hy_X2_begin ⟨tw381, tw382, tw383, tw72, tw384⟩ (by decide) (by decide) rfl rfl (Nat.le_of_ble_eq_true rfl) dX10_hall_85 ?_
        show Wx LX K s21 88 [(0, .ref (kad K 0))] []
        refine x_aload_n C 0 dX10_hall_88 rfl ?_
        refine x_getR (j := 5) (i := 36) (q := (RX10, TX10, 18)) C 88 (iX 0 (by decide)) rfl rfl inBX10 (by decide) tw240 rfl dX10_hall_89 ?_
        refine x_getIN (j := 4) (i := 135) (q := (RX7, TX7, 5)) (host := "CalledNumbers") C (iX 88 (by decide)) rfl rfl inBX7 (by decide) twN173 rfl dX10_hall_92 ?_
        cases h0
        exact x_iret C R dX10_hall_95
      refine x_lv (lv' := [(3, .int 0), (0, .ref (kad K 0))]) [0, 2] rfl ?_
      refine lp_G (G := fun q : mS × Int32 => Wx LX K q.1 60 [(3, .int q.2), (0, .ref (kad K 0))] []) (fun q x h1 ihL1 ihR1 => ?_) big _ g26
      obtain ⟨s16, x17⟩ := q
      replace h1 : X10_hall_b60 s16 x17 = some x := h1
      unfold X10_hall_b60 at h1
      show Wx LX K s16 60 [(3, .int x17), (0, .ref (kad K 0))] []
      refine x_iload_n C 0 dX10_hall_60 rfl ?_
      refine x_iconst (v := 3) C dX10_hall_61 rfl ?_
      refine x_icmpge C 81 dX10_hall_62 (by decide) (fun c23 => ?_) (fun c23 => ?_)
      · replace h1 := ob_pos c23 h1
        refine x_lv (lv' := [(0, .ref (kad K 0))]) [1] rfl ?_
        exact J1 _ (ihR1 _ (Option.some.inj h1).symm)
      · replace h1 := ob_neg c23 h1
        refine x_aload_n C 1 dX10_hall_65 rfl ?_
        refine x_getR (j := 8) (i := 56) (q := (RX10, TX10, 18)) C 176 (iX 0 (by decide)) rfl rfl inBX10 (by decide) tw243 rfl dX10_hall_66 ?_
        refine x_iload_n C 0 dX10_hall_69 rfl ?_
        obtain ⟨c24, h1⟩ := ob_if h1
        refine x_aald C (iX 176 (by decide)) rfl rfl rfl (vin_in c24) dX10_hall_70 ?_
        refine x_iconst (v := (-1)) C dX10_hall_71 rfl ?_
        refine x_putIN (j := 1) (i := 83) (q := (RX1, TX1, 2)) (host := "CalledNumbers") C tyX1 tyX1_ok nmX1 (iX20 (Nat.lt_of_lt_of_le (vin_lt c24) (by decide))) (lX20 (Nat.lt_of_lt_of_le (vin_lt c24) (by decide))) rfl inBX1 (by decide) twN223 rfl (by decide +kernel) rfl dX10_hall_72 ?_
        refine x_iinc (v := (x17 + 1)) (lv' := [(3, .int (x17 + 1)), (0, .ref (kad K 0))]) C 0 dX10_hall_75 rfl rfl (by rw [e5]; decide) rfl ?_
        refine x_goto C 60 dX10_hall_78 (by decide) ?_
        refine x_lv (lv' := [(3, .int (x17 + 1)), (0, .ref (kad K 0))]) [0, 1] rfl ?_
        exact ihL1 _ (Option.some.inj h1).symm
    · replace h0 := ob_neg c12 h0
      refine x_bipush (v := (-4)) C dX10_hall_36 rfl ?_
      cases h0
      exact x_iret C R dX10_hall_38
  · replace h0 := ob_neg c5 h0
    refine x_iload_n C 0 dX10_hall_10 rfl ?_
    cases h0
    exact x_iret C R dX10_hall_11
set_option maxHeartbeats 4000000 in
set_option maxRecDepth 100000 in
theorem c_X10_isPlayer {l : Launch} {D : va_G} {ad : Nat → Nat} {cy : Nat → ClassId} (hJ : mJ LX ad) {σ : mS} {a1 : Int32} {r : Int32}  (h0 : X10_isPlayer σ a1 = r) : MetG l LX D ad cy yX10_isPlayer cX10_isPlayer 2 (some .boolean) 0 [.ref (ad 0), .int a1] σ (some (.int r)) σ := by
  refine MetG.of hJ (by decide +kernel) [(0, .ref (ad 0)), (1, .int a1)] rfl (Nat.le_of_ble_eq_true rfl) ?_
  intro K e1 e2 e3 e4 e5 C R
  subst e1
  subst e2
  subst e3
  subst e4
  unfold X10_isPlayer at h0
  refine x_iload_n C 1 dX10_isPlayer_0 rfl ?_
  refine x_iflt C 19 dX10_isPlayer_1 (by decide) (fun c2 => ?_) (fun c2 => ?_)
  · replace h0 := ob_pos c2 h0
    refine x_iconst (v := 0) C dX10_isPlayer_19 rfl ?_
    subst h0
    exact x_zret C (Or.inl rfl) R dX10_isPlayer_20
  · replace h0 := ob_neg c2 h0
    refine x_iload_n C 1 dX10_isPlayer_4 rfl ?_
    refine x_aload_n C 0 dX10_isPlayer_5 rfl ?_
    refine x_getR (j := 5) (i := 36) (q := (RX10, TX10, 18)) C 88 (iX 0 (by decide)) rfl rfl inBX10 (by decide) tw240 rfl dX10_isPlayer_6 ?_
    refine x_getIN (j := 4) (i := 135) (q := (RX7, TX7, 5)) (host := "CalledNumbers") C (iX 88 (by decide)) rfl rfl inBX7 (by decide) twN173 rfl dX10_isPlayer_9 ?_
    refine x_icmpge C 19 dX10_isPlayer_12 (by decide) (fun c4 => ?_) (fun c4 => ?_)
    · replace h0 := ob_pos c4 h0
      refine x_iconst (v := 0) C dX10_isPlayer_19 rfl ?_
      subst h0
      exact x_zret C (Or.inl rfl) R dX10_isPlayer_20
    · replace h0 := ob_neg c4 h0
      refine x_iconst (v := 1) C dX10_isPlayer_15 rfl ?_
      refine x_goto C 20 dX10_isPlayer_16 (by decide) ?_
      subst h0
      exact x_zret C (Or.inr rfl) R dX10_isPlayer_20
set_option maxHeartbeats 4000000 in
set_option maxRecDepth 100000 in
theorem c_X10_ofPlayer {l : Launch} {D : va_G} {ad : Nat → Nat} {cy : Nat → ClassId} (hJ : mJ LX ad) {σ : mS} {a1 : Int32} {a2 : Int32} {r : Int32}  (h0 : X10_ofPlayer σ a1 a2 = some r) : MetG l LX D ad cy yX10_ofPlayer cX10_ofPlayer 4 (some .int) 4 [.ref (ad 0), .int a1, .int a2] σ (some (.int r)) σ := by
  refine MetG.of hJ (by decide +kernel) [(0, .ref (ad 0)), (1, .int a1), (2, .int a2)] rfl (Nat.le_of_ble_eq_true rfl) ?_
  intro K e1 e2 e3 e4 e5 C R
  subst e1
  subst e2
  subst e3
  subst e4
  unfold X10_ofPlayer at h0
  refine x_aload_n C 0 dX10_ofPlayer_0 rfl ?_
  refine x_getR (j := 5) (i := 36) (q := (RX10, TX10, 18)) C 88 (iX 0 (by decide)) rfl rfl inBX10 (by decide) tw240 rfl dX10_ofPlayer_1 ?_
  refine x_iload_n C 1 dX10_ofPlayer_4 rfl ?_
  obtain ⟨r1, g2, h0⟩ := ob_bind h0
  refine x_callV (ar := 1) (q := (RX7, TX7, 5)) (rest := []) C (c_X7_kindAt C.2.2.2.2.2.2.1  g2) (iX 88 (by decide)) rfl rfl hy_X7_kindAt ⟨tw398, tw399, tw400, tw65, tw401⟩ (by decide) (by decide) rfl rfl (Nat.le_of_ble_eq_true rfl) dX10_ofPlayer_5 ?_
  show Wx LX K σ 8 [(0, .ref (kad K 0)), (1, .int a1), (2, .int a2)] [.ref (kad K (104 + r1))]
  refine x_aload_n C 0 dX10_ofPlayer_8 rfl ?_
  refine x_getR (j := 6) (i := 45) (q := (RX10, TX10, 18)) C (144 + 5) (iX 0 (by decide)) rfl rfl inBX10 (by decide) tw241 rfl dX10_ofPlayer_9 ?_
  refine x_getRN (j := 1) (i := 156) (q := (RX2, TX2, 6)) (host := "CalledNumbers") C (152 + 5) (iX18 (by decide)) (lX18 (by decide)) rfl inBX2 (by decide) twN193 rfl dX10_ofPlayer_12 ?_
  refine x_iload_n C 1 dX10_ofPlayer_15 rfl ?_
  obtain ⟨c3, h0⟩ := ob_if h0
  refine x_iald C (iX19 (by decide)) (lX19 (by decide)) (vin_in c3) dX10_ofPlayer_16 ?_
  refine x_K_X5_lacks C (KB_X7_kindAt g2) tw402 (by decide) (Nat.le_of_ble_eq_true rfl) dX10_ofPlayer_17 ?_
  refine x_istore_n (lv' := [(3, .int (kd_X5_lacks r1 (σ.1 (152 + 5) a1.toNatClampNeg))), (0, .ref (kad K 0)), (1, .int a1), (2, .int a2)]) C dX10_ofPlayer_20 (by rw [e5]; decide) rfl ?_
  refine x_iload_n C 3 dX10_ofPlayer_21 rfl ?_
  by_cases c4 : a2 = 0
  · replace h0 := ob_pos c4 h0
    refine x_tableIn C 52 dX10_ofPlayer_22 (by rw [c4]; decide) (by rw [c4]; decide) (by rw [c4]; rfl) (by decide) ?_
    refine x_aload_n C 1 dX10_ofPlayer_52 rfl ?_
    refine x_getR (j := 5) (i := 36) (q := (RX10, TX10, 18)) C 88 (iX 0 (by decide)) rfl rfl inBX10 (by decide) tw240 rfl dX10_ofPlayer_53 ?_
    refine x_getRN (j := 1) (i := 250) (q := (RX7, TX7, 5)) (host := "CalledNumbers") C 112 (iX 88 (by decide)) rfl rfl inBX7 (by decide) twN166 rfl dX10_ofPlayer_56 ?_
    refine x_iload_n C 2 dX10_ofPlayer_59 rfl ?_
    obtain ⟨c8, h0⟩ := ob_if h0
    refine x_iald C (iX 112 (by decide)) rfl (vin_in c8) dX10_ofPlayer_60 ?_
    cases h0
    exact x_iret C R dX10_ofPlayer_61
  replace h0 := ob_neg c4 h0
  by_cases c5 : a2 = 1
  · replace h0 := ob_pos c5 h0
    refine x_tableIn C 62 dX10_ofPlayer_22 (by rw [c5]; decide) (by rw [c5]; decide) (by rw [c5]; rfl) (by decide) ?_
    refine x_aload_n C 1 dX10_ofPlayer_62 rfl ?_
    refine x_getR (j := 6) (i := 45) (q := (RX10, TX10, 18)) C (144 + 5) (iX 0 (by decide)) rfl rfl inBX10 (by decide) tw241 rfl dX10_ofPlayer_63 ?_
    refine x_getRN (j := 1) (i := 156) (q := (RX2, TX2, 6)) (host := "CalledNumbers") C (152 + 5) (iX18 (by decide)) (lX18 (by decide)) rfl inBX2 (by decide) twN193 rfl dX10_ofPlayer_66 ?_
    refine x_iload_n C 2 dX10_ofPlayer_69 rfl ?_
    obtain ⟨c9, h0⟩ := ob_if h0
    refine x_iald C (iX19 (by decide)) (lX19 (by decide)) (vin_in c9) dX10_ofPlayer_70 ?_
    cases h0
    exact x_iret C R dX10_ofPlayer_71
  replace h0 := ob_neg c5 h0
  by_cases c6 : a2 = 2
  · replace h0 := ob_pos c6 h0
    refine x_tableIn C 72 dX10_ofPlayer_22 (by rw [c6]; decide) (by rw [c6]; decide) (by rw [c6]; rfl) (by decide) ?_
    refine x_aload_n C 1 dX10_ofPlayer_72 rfl ?_
    refine x_getR (j := 6) (i := 45) (q := (RX10, TX10, 18)) C (144 + 5) (iX 0 (by decide)) rfl rfl inBX10 (by decide) tw241 rfl dX10_ofPlayer_73 ?_
    refine x_getIN (j := 2) (i := 223) (q := (RX2, TX2, 6)) (host := "CalledNumbers") C (iX18 (by decide)) (lX18 (by decide)) rfl inBX2 (by decide) twN195 rfl dX10_ofPlayer_76 ?_
    refine x_iload_n C 2 dX10_ofPlayer_79 rfl ?_
    refine x_ishr C dX10_ofPlayer_80 ?_
    refine x_iconst (v := 1) C dX10_ofPlayer_81 rfl ?_
    refine x_iand C dX10_ofPlayer_82 ?_
    cases h0
    exact x_iret C R dX10_ofPlayer_83
  replace h0 := ob_neg c6 h0
  by_cases c7 : a2 = 3
  · replace h0 := ob_pos c7 h0
    refine x_tableIn C 84 dX10_ofPlayer_22 (by rw [c7]; decide) (by rw [c7]; decide) (by rw [c7]; rfl) (by decide) ?_
    refine x_iload_n C 0 dX10_ofPlayer_84 rfl ?_
    refine x_ifne C 92 dX10_ofPlayer_85 (by decide) (fun c11 => ?_) (fun c11 => ?_)
    · replace h0 := ob_neg c11 h0
      refine x_iconst (v := 0) C dX10_ofPlayer_92 rfl ?_
      cases h0
      exact x_iret C R dX10_ofPlayer_93
    · replace h0 := ob_pos c11 h0
      refine x_iconst (v := 1) C dX10_ofPlayer_88 rfl ?_
      refine x_goto C 93 dX10_ofPlayer_89 (by decide) ?_
      cases h0
      exact x_iret C R dX10_ofPlayer_93
  replace h0 := ob_neg c7 h0
  refine x_tableOut C 94 dX10_ofPlayer_22 (sw_out (fun c g1 g2 => by
      have g3 : c = 0 ∨ c = 1 ∨ c = 2 ∨ c = 3 := by omega
      rcases g3 with rfl | rfl | rfl | rfl
      · exact c4
      · exact c5
      · exact c6
      · exact c7
      )) (by decide) ?_
  refine x_iload_n C 0 dX10_ofPlayer_94 rfl ?_
  cases h0
  exact x_iret C R dX10_ofPlayer_95
set_option maxHeartbeats 4000000 in
set_option maxRecDepth 100000 in
theorem c_X10_player {l : Launch} {D : va_G} {ad : Nat → Nat} {cy : Nat → ClassId} (hJ : mJ LX ad) {σ τ : mS} {a1 : Int32} {a2 : Int32} {r : Int32}  (h0 : X10_player σ a1 a2 = some (r, τ)) : MetG l LX D ad cy yX10_player cX10_player 3 (some .int) 5 [.ref (ad 0), .int a1, .int a2] σ (some (.int r)) τ := by
  refine MetG.of hJ (by decide +kernel) [(0, .ref (ad 0)), (1, .int a1), (2, .int a2)] rfl (Nat.le_of_ble_eq_true rfl) ?_
  intro K e1 e2 e3 e4 e5 C R
  subst e1
  subst e2
  subst e3
  subst e4
  unfold X10_player at h0
  refine x_aload_n C 0 dX10_player_0 rfl ?_
  refine x_iload_n C 1 dX10_player_1 rfl ?_
  refine x_callV (ar := 1) (q := (RX10, TX10, 18)) (rest := []) C (c_X10_isPlayer C.2.2.2.2.2.2.1  rfl) (iX 0 (by decide)) rfl rfl hy_X10_isPlayer ⟨tw390, tw392, tw8, tw63, tw393⟩ (by decide) (by decide) rfl rfl (Nat.le_of_ble_eq_true rfl) dX10_player_2 ?_
  show Wx LX K σ 5 [(0, .ref (kad K 0)), (1, .int a1), (2, .int a2)] [.int (X10_isPlayer σ a1)]
  refine x_ifeq C 17 dX10_player_5 (by decide) (fun c3 => ?_) (fun c3 => ?_)
  · replace h0 := ob_pos c3 h0
    refine x_iconst (v := (-1)) C dX10_player_17 rfl ?_
    cases h0
    exact x_iret C R dX10_player_18
  · replace h0 := ob_neg c3 h0
    refine x_iload_n C 2 dX10_player_8 rfl ?_
    refine x_iflt C 17 dX10_player_9 (by decide) (fun c5 => ?_) (fun c5 => ?_)
    · replace h0 := ob_pos c5 h0
      refine x_iconst (v := (-1)) C dX10_player_17 rfl ?_
      cases h0
      exact x_iret C R dX10_player_18
    · replace h0 := ob_neg c5 h0
      refine x_iload_n C 2 dX10_player_12 rfl ?_
      refine x_iconst (v := 4) C dX10_player_13 rfl ?_
      refine x_icmple C 19 dX10_player_14 (by decide) (fun c7 => ?_) (fun c7 => ?_)
      · replace h0 := ob_pos c7 h0
        refine x_aload_n C 0 dX10_player_19 rfl ?_
        refine x_aload_n C 0 dX10_player_20 rfl ?_
        refine x_iload_n C 1 dX10_player_21 rfl ?_
        refine x_iload_n C 2 dX10_player_22 rfl ?_
        obtain ⟨r8, g9, h0⟩ := ob_bind h0
        refine x_callV (ar := 2) (q := (RX10, TX10, 18)) (rest := [.ref (kad K 0)]) C (c_X10_ofPlayer C.2.2.2.2.2.2.1  g9) (iX 0 (by decide)) rfl rfl hy_X10_ofPlayer ⟨tw394, tw396, tw9, tw63, tw397⟩ (by decide) (by decide) rfl rfl (Nat.le_of_ble_eq_true rfl) dX10_player_23 ?_
        show Wx LX K σ 26 [(0, .ref (kad K 0)), (1, .int a1), (2, .int a2)] [.int r8, .ref (kad K 0)]
        refine x_putI (j := 13) (i := 99) (q := (RX10, TX10, 18)) C tyX10 tyX10_ok nmX10 (iX 0 (by decide)) rfl rfl inBX10 (by decide) tw248 rfl (by decide +kernel) rfl dX10_player_26 ?_
        refine x_iconst (v := 1) C dX10_player_29 rfl ?_
        cases h0
        exact x_iret C R dX10_player_30
      · replace h0 := ob_neg c7 h0
        refine x_iconst (v := (-1)) C dX10_player_17 rfl ?_
        cases h0
        exact x_iret C R dX10_player_18
set_option maxHeartbeats 4000000 in
set_option maxRecDepth 100000 in
theorem c_X10_isPlace {l : Launch} {D : va_G} {ad : Nat → Nat} {cy : Nat → ClassId} (hJ : mJ LX ad) {σ : mS} {a1 : Int32} {r : Int32}  (h0 : X10_isPlace a1 = r) : MetG l LX D ad cy yX10_isPlace cX10_isPlace 2 (some .boolean) 0 [.ref (ad 0), .int a1] σ (some (.int r)) σ := by
  refine MetG.of hJ (by decide +kernel) [(0, .ref (ad 0)), (1, .int a1)] rfl (Nat.le_of_ble_eq_true rfl) ?_
  intro K e1 e2 e3 e4 e5 C R
  subst e1
  subst e2
  subst e3
  subst e4
  unfold X10_isPlace at h0
  refine x_iload_n C 1 dX10_isPlace_0 rfl ?_
  refine x_iflt C 14 dX10_isPlace_1 (by decide) (fun c2 => ?_) (fun c2 => ?_)
  · replace h0 := ob_pos c2 h0
    refine x_iconst (v := 0) C dX10_isPlace_14 rfl ?_
    subst h0
    exact x_zret C (Or.inl rfl) R dX10_isPlace_15
  · replace h0 := ob_neg c2 h0
    refine x_iload_n C 1 dX10_isPlace_4 rfl ?_
    refine x_bipush (v := 6) C dX10_isPlace_5 rfl ?_
    refine x_icmpge C 14 dX10_isPlace_7 (by decide) (fun c4 => ?_) (fun c4 => ?_)
    · replace h0 := ob_pos c4 h0
      refine x_iconst (v := 0) C dX10_isPlace_14 rfl ?_
      subst h0
      exact x_zret C (Or.inl rfl) R dX10_isPlace_15
    · replace h0 := ob_neg c4 h0
      refine x_iconst (v := 1) C dX10_isPlace_10 rfl ?_
      refine x_goto C 15 dX10_isPlace_11 (by decide) ?_
      subst h0
      exact x_zret C (Or.inr rfl) R dX10_isPlace_15
set_option maxHeartbeats 4000000 in
set_option maxRecDepth 100000 in
theorem c_X10_card {l : Launch} {D : va_G} {ad : Nat → Nat} {cy : Nat → ClassId} (hJ : mJ LX ad) {σ τ : mS} {a1 : Int32} {a2 : Int32} {r : Int32}  (h0 : X10_card σ a1 a2 = some (r, τ)) : MetG l LX D ad cy yX10_card cX10_card 3 (some .int) 1 [.ref (ad 0), .int a1, .int a2] σ (some (.int r)) τ := by
  refine MetG.of hJ (by decide +kernel) [(0, .ref (ad 0)), (1, .int a1), (2, .int a2)] rfl (Nat.le_of_ble_eq_true rfl) ?_
  intro K e1 e2 e3 e4 e5 C R
  subst e1
  subst e2
  subst e3
  subst e4
  unfold X10_card at h0
  refine x_aload_n C 0 dX10_card_0 rfl ?_
  refine x_iload_n C 1 dX10_card_1 rfl ?_
  refine x_callV (ar := 1) (q := (RX10, TX10, 18)) (rest := []) C (c_X10_isPlayer C.2.2.2.2.2.2.1  rfl) (iX 0 (by decide)) rfl rfl hy_X10_isPlayer ⟨tw390, tw392, tw8, tw63, tw393⟩ (by decide) (by decide) rfl rfl (Nat.le_of_ble_eq_true rfl) dX10_card_2 ?_
  show Wx LX K σ 5 [(0, .ref (kad K 0)), (1, .int a1), (2, .int a2)] [.int (X10_isPlayer σ a1)]
  refine x_ifeq C 16 dX10_card_5 (by decide) (fun c3 => ?_) (fun c3 => ?_)
  · replace h0 := ob_pos c3 h0
    refine x_iconst (v := (-1)) C dX10_card_16 rfl ?_
    cases h0
    exact x_iret C R dX10_card_17
  · replace h0 := ob_neg c3 h0
    refine x_aload_n C 0 dX10_card_8 rfl ?_
    refine x_iload_n C 2 dX10_card_9 rfl ?_
    refine x_callV (ar := 1) (q := (RX10, TX10, 18)) (rest := []) C (c_X10_isPlace C.2.2.2.2.2.2.1  rfl) (iX 0 (by decide)) rfl rfl hy_X10_isPlace ⟨tw456, tw458, tw10, tw63, tw459⟩ (by decide) (by decide) rfl rfl (Nat.le_of_ble_eq_true rfl) dX10_card_10 ?_
    show Wx LX K σ 13 [(0, .ref (kad K 0)), (1, .int a1), (2, .int a2)] [.int (X10_isPlace a2)]
    refine x_ifne C 18 dX10_card_13 (by decide) (fun c6 => ?_) (fun c6 => ?_)
    · replace h0 := ob_neg c6 h0
      refine x_aload_n C 0 dX10_card_18 rfl ?_
      refine x_aload_n C 0 dX10_card_19 rfl ?_
      refine x_getR (j := 5) (i := 36) (q := (RX10, TX10, 18)) C 88 (iX 0 (by decide)) rfl rfl inBX10 (by decide) tw240 rfl dX10_card_20 ?_
      refine x_getRN (j := 2) (i := 147) (q := (RX7, TX7, 5)) (host := "CalledNumbers") C 120 (iX 88 (by decide)) rfl rfl inBX7 (by decide) twN168 rfl dX10_card_23 ?_
      refine x_iload_n C 1 dX10_card_26 rfl ?_
      obtain ⟨c7, h0⟩ := ob_if h0
      refine x_aald C (iX 120 (by decide)) rfl rfl rfl (vin_in c7) dX10_card_27 ?_
      refine x_iload_n C 2 dX10_card_28 rfl ?_
      obtain ⟨c8, h0⟩ := ob_if h0
      refine x_iald C (iX16 (vin_lt c7)) (lX16 (vin_lt c7)) (vin_in c8) dX10_card_29 ?_
      refine x_putI (j := 13) (i := 99) (q := (RX10, TX10, 18)) C tyX10 tyX10_ok nmX10 (iX 0 (by decide)) rfl rfl inBX10 (by decide) tw248 rfl (by decide +kernel) rfl dX10_card_30 ?_
      refine x_iconst (v := 1) C dX10_card_33 rfl ?_
      cases h0
      exact x_iret C R dX10_card_34
    · replace h0 := ob_pos c6 h0
      refine x_iconst (v := (-1)) C dX10_card_16 rfl ?_
      cases h0
      exact x_iret C R dX10_card_17
set_option maxRecDepth 100000 in
theorem x_K_X9_lacks {K : Kx} {cc : ByteArray} {own : String} {n : Nat} {σ : mS} {pc : Nat} {lv : List (Nat × Value)} {rest : List Value} (C : Cx LX K cc own n) {r i : Nat} {a1 : Int32} (hr : r = 1 ∨ r = 4) (hl : Cond.methodLink own i yX9_lacks ∈ mB) (hn : 2 < n) (hr9 : (rest.map fun v => v.category).sum ≤ 8) (d : decode cc pc = .ok (.invokevirtual i, 3)) (kk : Wx LX K σ (pc + 3) lv (.int (X9_lacks a1) :: rest)) : Wx LX K σ pc lv (.int a1 :: .ref (kad K (104 + r)) :: rest) := by
  rcases hr with rfl | rfl
  · exact x_callO (ar := 1) (x := yX9_lacks) (owner := "CalledNumbers$Whole") (As := [.int a1]) (q := (RX9, TX9, 0)) (rest := rest) C (c_X9_lacks C.2.2.2.2.2.2.1 (i := 1) (by decide) rfl) (iX13 (i := 1) (by decide)) rfl rfl (by decide +kernel) hl tw1152 tw436 tw1154 tw436 tw67 tw437 tw437 (Nat.lt_of_le_of_lt (by decide) hn) (by decide) rfl rfl hr9 d kk
  · exact x_callO (ar := 1) (x := yX9_lacks) (owner := "CalledNumbers$Whole") (As := [.int a1]) (q := (RX4, TX4, 0)) (rest := rest) C (c_X9_lacks C.2.2.2.2.2.2.1 (i := 4) (by decide) rfl) (iX13 (i := 4) (by decide)) rfl rfl (by decide +kernel) hl tw1152 tw436 tw1153 tw436 tw67 tw437 tw437 (Nat.lt_of_le_of_lt (by decide) hn) (by decide) rfl rfl hr9 d kk
set_option maxRecDepth 100000 in
theorem x_K_X0_callsTillDeaf {K : Kx} {cc : ByteArray} {own : String} {n : Nat} {σ : mS} {pc : Nat} {lv : List (Nat × Value)} {rest : List Value} (C : Cx LX K cc own n) {r i : Nat} {a1 : Int32} (hr : r = 2 ∨ r = 5) (hl : Cond.methodLink own i yX0_callsTillDeaf ∈ mB) (hn : 0 < n) (hr9 : (rest.map fun v => v.category).sum ≤ 8) (d : decode cc pc = .ok (.invokevirtual i, 3)) (kk : Wx LX K σ (pc + 3) lv (.int (X0_callsTillDeaf a1) :: rest)) : Wx LX K σ pc lv (.int a1 :: .ref (kad K (104 + r)) :: rest) := by
  rcases hr with rfl | rfl
  · exact x_callO (ar := 1) (x := yX0_callsTillDeaf) (owner := "CalledNumbers$Deaf") (As := [.int a1]) (q := (RX0, TX0, 0)) (rest := rest) C (c_X0_callsTillDeaf C.2.2.2.2.2.2.1 (i := 2) (by decide) rfl) (iX13 (i := 2) (by decide)) rfl rfl (by decide +kernel) hl tw470 tw468 tw469 tw468 tw68 tw472 tw472 (Nat.lt_of_le_of_lt (by decide) hn) (by decide) rfl rfl hr9 d kk
  · exact x_callO (ar := 1) (x := yX0_callsTillDeaf) (owner := "CalledNumbers$Deaf") (As := [.int a1]) (q := (RX8, TX8, 0)) (rest := rest) C (c_X0_callsTillDeaf C.2.2.2.2.2.2.1 (i := 5) (by decide) rfl) (iX13 (i := 5) (by decide)) rfl rfl (by decide +kernel) hl tw470 tw468 tw471 tw468 tw68 tw472 tw472 (Nat.lt_of_le_of_lt (by decide) hn) (by decide) rfl rfl hr9 d kk
set_option maxRecDepth 100000 in
theorem x_K_X3_linesOfTwo {K : Kx} {cc : ByteArray} {own : String} {n : Nat} {σ : mS} {pc : Nat} {lv : List (Nat × Value)} {rest : List Value} (C : Cx LX K cc own n) {r i : Nat} {a1 : Int32} (hr : r = 3) (hl : Cond.methodLink own i yX3_linesOfTwo ∈ mB) (hn : 2 < n) (hr9 : (rest.map fun v => v.category).sum ≤ 8) (d : decode cc pc = .ok (.invokevirtual i, 3)) (kk : Wx LX K σ (pc + 3) lv (.int (X3_linesOfTwo a1) :: rest)) : Wx LX K σ pc lv (.int a1 :: .ref (kad K (104 + r)) :: rest) := by
  subst hr
  exact x_callV (ar := 1) (As := [.int a1]) (q := (RX3, TX3, 0)) (rest := rest) C (c_X3_linesOfTwo C.2.2.2.2.2.2.1 rfl) (iX13 (i := 3) (by decide)) rfl rfl hy_X3_linesOfTwo ⟨hl, tw475, tw476, tw69, tw477⟩ (Nat.lt_of_le_of_lt (by decide) hn) (by decide) rfl rfl hr9 d kk
set_option maxRecDepth 100000 in
theorem x_K_X8_pairsOn {K : Kx} {cc : ByteArray} {own : String} {n : Nat} {σ : mS} {pc : Nat} {lv : List (Nat × Value)} {rest : List Value} (C : Cx LX K cc own n) {r i : Nat} {a1 : Int32} (hr : r = 5) {v : Int32} (h0 : X8_pairsOn a1 = some v) (hl : Cond.methodLink own i yX8_pairsOn ∈ mB) (hn : 1 < n) (hr9 : (rest.map fun v => v.category).sum ≤ 8) (d : decode cc pc = .ok (.invokevirtual i, 3)) (kk : Wx LX K σ (pc + 3) lv (.int v :: rest)) : Wx LX K σ pc lv (.int a1 :: .ref (kad K (104 + r)) :: rest) := by
  subst hr
  exact x_callV (ar := 1) (As := [.int a1]) (q := (RX8, TX8, 0)) (rest := rest) C (c_X8_pairsOn C.2.2.2.2.2.2.1 h0) (iX13 (i := 5) (by decide)) rfl rfl hy_X8_pairsOn ⟨hl, tw481, tw482, tw71, tw483⟩ (Nat.lt_of_le_of_lt (by decide) hn) (by decide) rfl rfl hr9 d kk
theorem ki_X3_ne {r : Nat} (h : ¬ ki_X3 r = 0) : r = 3 := by
  unfold ki_X3 at h
  by_cases h3 : r = 3
  · exact h3
  simp [h3] at h
theorem x_inst_X3 {K : Kx} {cc : ByteArray} {own : String} {n : Nat} {σ : mS} {pc : Nat} {lv : List (Nat × Value)} {st : List Value} (C : Cx LX K cc own n) {r i : Nat} (hr : r < 6) (hl : Cond.classLink own i "CalledNumbers$Hasty" ∈ mB) (d : decode cc pc = .ok (.instanceof i, 3)) (kk : Wx LX K σ (pc + 3) lv (.int (ki_X3 r) :: st)) : Wx LX K σ pc lv (.ref (kad K (104 + r)) :: st) := by
  rcases (show r = 0 ∨ r = 1 ∨ r = 2 ∨ r = 3 ∨ r = 4 ∨ r = 5 by omega) with rfl | rfl | rfl | rfl | rfl | rfl
  · exact x_instNo (q := (RX5, TX5, 0)) C (iX13 (i := 0) (by decide)) rfl rfl (by decide +kernel) hl d kk
  · exact x_instNo (q := (RX9, TX9, 0)) C (iX13 (i := 1) (by decide)) rfl rfl (by decide +kernel) hl d kk
  · exact x_instNo (q := (RX0, TX0, 0)) C (iX13 (i := 2) (by decide)) rfl rfl (by decide +kernel) hl d kk
  · exact x_instS (q := (RX3, TX3, 0)) C (iX13 (i := 3) (by decide)) rfl rfl hl d kk
  · exact x_instNo (q := (RX4, TX4, 0)) C (iX13 (i := 4) (by decide)) rfl rfl (by decide +kernel) hl d kk
  · exact x_instNo (q := (RX8, TX8, 0)) C (iX13 (i := 5) (by decide)) rfl rfl (by decide +kernel) hl d kk
theorem x_cast_X3 {K : Kx} {cc : ByteArray} {own : String} {n : Nat} {σ : mS} {pc : Nat} {lv : List (Nat × Value)} {st : List Value} (C : Cx LX K cc own n) {r i : Nat} (hr : r = 3) (hl : Cond.classLink own i "CalledNumbers$Hasty" ∈ mB) (d : decode cc pc = .ok (.checkcast i, 3)) (kk : Wx LX K σ (pc + 3) lv (.ref (kad K (104 + r)) :: st)) : Wx LX K σ pc lv (.ref (kad K (104 + r)) :: st) := by
  subst hr
  exact x_castS (q := (RX3, TX3, 0)) C (iX13 (i := 3) (by decide)) rfl rfl hl d kk
theorem ki_X4_ne {r : Nat} (h : ¬ ki_X4 r = 0) : r = 4 := by
  unfold ki_X4 at h
  by_cases h4 : r = 4
  · exact h4
  simp [h4] at h
theorem x_inst_X4 {K : Kx} {cc : ByteArray} {own : String} {n : Nat} {σ : mS} {pc : Nat} {lv : List (Nat × Value)} {st : List Value} (C : Cx LX K cc own n) {r i : Nat} (hr : r < 6) (hl : Cond.classLink own i "CalledNumbers$Late" ∈ mB) (d : decode cc pc = .ok (.instanceof i, 3)) (kk : Wx LX K σ (pc + 3) lv (.int (ki_X4 r) :: st)) : Wx LX K σ pc lv (.ref (kad K (104 + r)) :: st) := by
  rcases (show r = 0 ∨ r = 1 ∨ r = 2 ∨ r = 3 ∨ r = 4 ∨ r = 5 by omega) with rfl | rfl | rfl | rfl | rfl | rfl
  · exact x_instNo (q := (RX5, TX5, 0)) C (iX13 (i := 0) (by decide)) rfl rfl (by decide +kernel) hl d kk
  · exact x_instNo (q := (RX9, TX9, 0)) C (iX13 (i := 1) (by decide)) rfl rfl (by decide +kernel) hl d kk
  · exact x_instNo (q := (RX0, TX0, 0)) C (iX13 (i := 2) (by decide)) rfl rfl (by decide +kernel) hl d kk
  · exact x_instNo (q := (RX3, TX3, 0)) C (iX13 (i := 3) (by decide)) rfl rfl (by decide +kernel) hl d kk
  · exact x_instS (q := (RX4, TX4, 0)) C (iX13 (i := 4) (by decide)) rfl rfl hl d kk
  · exact x_instNo (q := (RX8, TX8, 0)) C (iX13 (i := 5) (by decide)) rfl rfl (by decide +kernel) hl d kk
theorem x_cast_X4 {K : Kx} {cc : ByteArray} {own : String} {n : Nat} {σ : mS} {pc : Nat} {lv : List (Nat × Value)} {st : List Value} (C : Cx LX K cc own n) {r i : Nat} (hr : r = 4) (hl : Cond.classLink own i "CalledNumbers$Late" ∈ mB) (d : decode cc pc = .ok (.checkcast i, 3)) (kk : Wx LX K σ (pc + 3) lv (.ref (kad K (104 + r)) :: st)) : Wx LX K σ pc lv (.ref (kad K (104 + r)) :: st) := by
  subst hr
  exact x_castS (q := (RX4, TX4, 0)) C (iX13 (i := 4) (by decide)) rfl rfl hl d kk
theorem ki_X8_ne {r : Nat} (h : ¬ ki_X8 r = 0) : r = 5 := by
  unfold ki_X8 at h
  by_cases h5 : r = 5
  · exact h5
  simp [h5] at h
theorem x_inst_X8 {K : Kx} {cc : ByteArray} {own : String} {n : Nat} {σ : mS} {pc : Nat} {lv : List (Nat × Value)} {st : List Value} (C : Cx LX K cc own n) {r i : Nat} (hr : r < 6) (hl : Cond.classLink own i "CalledNumbers$Sly" ∈ mB) (d : decode cc pc = .ok (.instanceof i, 3)) (kk : Wx LX K σ (pc + 3) lv (.int (ki_X8 r) :: st)) : Wx LX K σ pc lv (.ref (kad K (104 + r)) :: st) := by
  rcases (show r = 0 ∨ r = 1 ∨ r = 2 ∨ r = 3 ∨ r = 4 ∨ r = 5 by omega) with rfl | rfl | rfl | rfl | rfl | rfl
  · exact x_instNo (q := (RX5, TX5, 0)) C (iX13 (i := 0) (by decide)) rfl rfl (by decide +kernel) hl d kk
  · exact x_instNo (q := (RX9, TX9, 0)) C (iX13 (i := 1) (by decide)) rfl rfl (by decide +kernel) hl d kk
  · exact x_instNo (q := (RX0, TX0, 0)) C (iX13 (i := 2) (by decide)) rfl rfl (by decide +kernel) hl d kk
  · exact x_instNo (q := (RX3, TX3, 0)) C (iX13 (i := 3) (by decide)) rfl rfl (by decide +kernel) hl d kk
  · exact x_instNo (q := (RX4, TX4, 0)) C (iX13 (i := 4) (by decide)) rfl rfl (by decide +kernel) hl d kk
  · exact x_instS (q := (RX8, TX8, 0)) C (iX13 (i := 5) (by decide)) rfl rfl hl d kk
theorem x_cast_X8 {K : Kx} {cc : ByteArray} {own : String} {n : Nat} {σ : mS} {pc : Nat} {lv : List (Nat × Value)} {st : List Value} (C : Cx LX K cc own n) {r i : Nat} (hr : r = 5) (hl : Cond.classLink own i "CalledNumbers$Sly" ∈ mB) (d : decode cc pc = .ok (.checkcast i, 3)) (kk : Wx LX K σ (pc + 3) lv (.ref (kad K (104 + r)) :: st)) : Wx LX K σ pc lv (.ref (kad K (104 + r)) :: st) := by
  subst hr
  exact x_castS (q := (RX8, TX8, 0)) C (iX13 (i := 5) (by decide)) rfl rfl hl d kk
set_option maxHeartbeats 4000000 in
set_option maxRecDepth 100000 in
theorem c_X10_mark {l : Launch} {D : va_G} {ad : Nat → Nat} {cy : Nat → ClassId} (hJ : mJ LX ad) {σ τ : mS} {a1 : Int32} {a2 : Int32} {r : Int32}  (h0 : X10_mark σ a1 a2 = some (r, τ)) : MetG l LX D ad cy yX10_mark cX10_mark 5 (some .int) 3 [.ref (ad 0), .int a1, .int a2] σ (some (.int r)) τ := by
  refine MetG.of hJ (by decide +kernel) [(0, .ref (ad 0)), (1, .int a1), (2, .int a2)] rfl (Nat.le_of_ble_eq_true rfl) ?_
  intro K e1 e2 e3 e4 e5 C R
  subst e1
  subst e2
  subst e3
  subst e4
  unfold X10_mark at h0
  refine x_aload_n C 0 dX10_mark_0 rfl ?_
  refine x_iload_n C 1 dX10_mark_1 rfl ?_
  refine x_callV (ar := 1) (q := (RX10, TX10, 18)) (rest := []) C (c_X10_isPlayer C.2.2.2.2.2.2.1  rfl) (iX 0 (by decide)) rfl rfl hy_X10_isPlayer ⟨tw390, tw392, tw8, tw63, tw393⟩ (by decide) (by decide) rfl rfl (Nat.le_of_ble_eq_true rfl) dX10_mark_2 ?_
  show Wx LX K σ 5 [(0, .ref (kad K 0)), (1, .int a1), (2, .int a2)] [.int (X10_isPlayer σ a1)]
  refine x_ifeq C 18 dX10_mark_5 (by decide) (fun c3 => ?_) (fun c3 => ?_)
  · replace h0 := ob_pos c3 h0
    refine x_iconst (v := (-1)) C dX10_mark_18 rfl ?_
    cases h0
    exact x_iret C R dX10_mark_19
  · replace h0 := ob_neg c3 h0
    refine x_iload_n C 2 dX10_mark_8 rfl ?_
    refine x_iconst (v := 1) C dX10_mark_9 rfl ?_
    refine x_icmplt C 18 dX10_mark_10 (by decide) (fun c5 => ?_) (fun c5 => ?_)
    · replace h0 := ob_pos c5 h0
      refine x_iconst (v := (-1)) C dX10_mark_18 rfl ?_
      cases h0
      exact x_iret C R dX10_mark_19
    · replace h0 := ob_neg c5 h0
      refine x_iload_n C 2 dX10_mark_13 rfl ?_
      refine x_iconst (v := 5) C dX10_mark_14 rfl ?_
      refine x_icmple C 20 dX10_mark_15 (by decide) (fun c7 => ?_) (fun c7 => ?_)
      · replace h0 := ob_pos c7 h0
        refine x_aload_n C 0 dX10_mark_20 rfl ?_
        refine x_getR (j := 5) (i := 36) (q := (RX10, TX10, 18)) C 88 (iX 0 (by decide)) rfl rfl inBX10 (by decide) tw240 rfl dX10_mark_21 ?_
        refine x_iload_n C 1 dX10_mark_24 rfl ?_
        obtain ⟨r8, g9, h0⟩ := ob_bind h0
        refine x_callV (ar := 1) (q := (RX7, TX7, 5)) (rest := []) C (c_X7_kindAt C.2.2.2.2.2.2.1  g9) (iX 88 (by decide)) rfl rfl hy_X7_kindAt ⟨tw398, tw399, tw400, tw65, tw401⟩ (by decide) (by decide) rfl rfl (Nat.le_of_ble_eq_true rfl) dX10_mark_25 ?_
        show Wx LX K σ 28 [(0, .ref (kad K 0)), (1, .int a1), (2, .int a2)] [.ref (kad K (104 + r8))]
        refine x_astore_n (lv' := [(3, .ref (kad K (104 + r8))), (0, .ref (kad K 0)), (1, .int a1), (2, .int a2)]) C dX10_mark_28 (by rw [e5]; decide) rfl ?_
        refine x_iload_n C 3 dX10_mark_29 rfl ?_
        refine x_iconst (v := 1) C dX10_mark_30 rfl ?_
        refine x_icmpne C 62 dX10_mark_31 (by decide) (fun c11 => ?_) (fun c11 => ?_)
        · replace h0 := ob_neg c11 h0
          refine x_iload_n C 3 dX10_mark_62 rfl ?_
          refine x_iconst (v := 2) C dX10_mark_63 rfl ?_
          refine x_icmpne C 93 dX10_mark_64 (by decide) (fun c13 => ?_) (fun c13 => ?_)
          · replace h0 := ob_neg c13 h0
            refine x_iload_n C 3 dX10_mark_93 rfl ?_
            refine x_iconst (v := 3) C dX10_mark_94 rfl ?_
            refine x_icmpne C 126 dX10_mark_95 (by decide) (fun c15 => ?_) (fun c15 => ?_)
            · replace h0 := ob_neg c15 h0
              refine x_iload_n C 3 dX10_mark_126 rfl ?_
              refine x_iconst (v := 4) C dX10_mark_127 rfl ?_
              refine x_icmpne C 146 dX10_mark_128 (by decide) (fun c17 => ?_) (fun c17 => ?_)
              · replace h0 := ob_neg c17 h0
                refine x_iload_n C 3 dX10_mark_146 rfl ?_
                refine x_iconst (v := 5) C dX10_mark_147 rfl ?_
                refine x_icmpne C 179 dX10_mark_148 (by decide) (fun c19 => ?_) (fun c19 => ?_)
                · replace h0 := ob_neg c19 h0
                  refine x_aload_n C 1 dX10_mark_179 rfl ?_
                  refine x_iconst (v := 3) C dX10_mark_180 rfl ?_
                  obtain ⟨r20, s22, g21, h0⟩ := ob_bd h0
                  refine x_callV (ar := 1) (q := (RX10, TX10, 18)) (rest := []) C (c_X10_found C.2.2.2.2.2.2.1  g21) (iX 0 (by decide)) rfl rfl hy_X10_found ⟨tw298, tw300, tw1, tw63, tw301⟩ (by decide) (by decide) rfl rfl (Nat.le_of_ble_eq_true rfl) dX10_mark_181 ?_
                  show Wx LX K s22 184 [(3, .ref (kad K (104 + r8))), (0, .ref (kad K 0)), (1, .int a1), (2, .int a2)] [.int r20]
                  cases h0
                  exact x_iret C R dX10_mark_184
                · replace h0 := ob_pos c19 h0
                  refine x_aload_n C 0 dX10_mark_151 rfl ?_
                  refine x_inst_X8 C (KB_X7_kindAt g9) tw479 dX10_mark_152 ?_
                  refine x_ifeq C 179 dX10_mark_155 (by decide) (fun c24 => ?_) (fun c24 => ?_)
                  · replace h0 := ob_pos c24 h0
                    refine x_aload_n C 1 dX10_mark_179 rfl ?_
                    refine x_iconst (v := 3) C dX10_mark_180 rfl ?_
                    obtain ⟨r25, s27, g26, h0⟩ := ob_bd h0
                    refine x_callV (ar := 1) (q := (RX10, TX10, 18)) (rest := []) C (c_X10_found C.2.2.2.2.2.2.1  g26) (iX 0 (by decide)) rfl rfl hy_X10_found ⟨tw298, tw300, tw1, tw63, tw301⟩ (by decide) (by decide) rfl rfl (Nat.le_of_ble_eq_true rfl) dX10_mark_181 ?_
                    show Wx LX K s27 184 [(3, .ref (kad K (104 + r8))), (0, .ref (kad K 0)), (1, .int a1), (2, .int a2)] [.int r25]
                    cases h0
                    exact x_iret C R dX10_mark_184
                  · replace h0 := ob_neg c24 h0
                    refine x_aload_n C 0 dX10_mark_158 rfl ?_
                    refine x_cast_X8 C (ki_X8_ne c24) tw479 dX10_mark_159 ?_
                    refine x_astore (lv' := [(4, .ref (kad K (104 + r8))), (3, .ref (kad K (104 + r8))), (0, .ref (kad K 0)), (1, .int a1), (2, .int a2)]) C dX10_mark_162 (by rw [e5]; decide) rfl ?_
                    refine x_aload C 0 dX10_mark_164 rfl ?_
                    refine x_aload_n C 2 dX10_mark_166 rfl ?_
                    refine x_getR (j := 5) (i := 36) (q := (RX10, TX10, 18)) C 88 (iX 0 (by decide)) rfl rfl inBX10 (by decide) tw240 rfl dX10_mark_167 ?_
                    refine x_getRN (j := 3) (i := 182) (q := (RX7, TX7, 5)) (host := "CalledNumbers") C 136 (iX 88 (by decide)) rfl rfl inBX7 (by decide) twN170 rfl dX10_mark_170 ?_
                    refine x_iload_n C 3 dX10_mark_173 rfl ?_
                    obtain ⟨c28, h0⟩ := ob_if h0
                    refine x_iald C (iX 136 (by decide)) rfl (vin_in c28) dX10_mark_174 ?_
                    obtain ⟨r29, g30, h0⟩ := ob_bind h0
                    refine x_K_X8_pairsOn C (ki_X8_ne c24) g30 tw480 (by decide) (Nat.le_of_ble_eq_true rfl) dX10_mark_175 ?_
                    cases h0
                    exact x_iret C R dX10_mark_178
              · replace h0 := ob_pos c17 h0
                refine x_aload_n C 0 dX10_mark_131 rfl ?_
                refine x_inst_X4 C (KB_X7_kindAt g9) tw478 dX10_mark_132 ?_
                refine x_ifeq C 146 dX10_mark_135 (by decide) (fun c32 => ?_) (fun c32 => ?_)
                · replace h0 := ob_pos c32 h0
                  refine x_iload_n C 3 dX10_mark_146 rfl ?_
                  refine x_iconst (v := 5) C dX10_mark_147 rfl ?_
                  refine x_icmpne C 179 dX10_mark_148 (by decide) (fun c34 => ?_) (fun c34 => ?_)
                  · replace h0 := ob_neg c34 h0
                    refine x_aload_n C 1 dX10_mark_179 rfl ?_
                    refine x_iconst (v := 3) C dX10_mark_180 rfl ?_
                    obtain ⟨r35, s37, g36, h0⟩ := ob_bd h0
                    refine x_callV (ar := 1) (q := (RX10, TX10, 18)) (rest := []) C (c_X10_found C.2.2.2.2.2.2.1  g36) (iX 0 (by decide)) rfl rfl hy_X10_found ⟨tw298, tw300, tw1, tw63, tw301⟩ (by decide) (by decide) rfl rfl (Nat.le_of_ble_eq_true rfl) dX10_mark_181 ?_
                    show Wx LX K s37 184 [(3, .ref (kad K (104 + r8))), (0, .ref (kad K 0)), (1, .int a1), (2, .int a2)] [.int r35]
                    cases h0
                    exact x_iret C R dX10_mark_184
                  · replace h0 := ob_pos c34 h0
                    refine x_aload_n C 0 dX10_mark_151 rfl ?_
                    refine x_inst_X8 C (KB_X7_kindAt g9) tw479 dX10_mark_152 ?_
                    refine x_ifeq C 179 dX10_mark_155 (by decide) (fun c39 => ?_) (fun c39 => ?_)
                    · replace h0 := ob_pos c39 h0
                      refine x_aload_n C 1 dX10_mark_179 rfl ?_
                      refine x_iconst (v := 3) C dX10_mark_180 rfl ?_
                      obtain ⟨r40, s42, g41, h0⟩ := ob_bd h0
                      refine x_callV (ar := 1) (q := (RX10, TX10, 18)) (rest := []) C (c_X10_found C.2.2.2.2.2.2.1  g41) (iX 0 (by decide)) rfl rfl hy_X10_found ⟨tw298, tw300, tw1, tw63, tw301⟩ (by decide) (by decide) rfl rfl (Nat.le_of_ble_eq_true rfl) dX10_mark_181 ?_
                      show Wx LX K s42 184 [(3, .ref (kad K (104 + r8))), (0, .ref (kad K 0)), (1, .int a1), (2, .int a2)] [.int r40]
                      cases h0
                      exact x_iret C R dX10_mark_184
                    · replace h0 := ob_neg c39 h0
                      refine x_aload_n C 0 dX10_mark_158 rfl ?_
                      refine x_cast_X8 C (ki_X8_ne c39) tw479 dX10_mark_159 ?_
                      refine x_astore (lv' := [(4, .ref (kad K (104 + r8))), (3, .ref (kad K (104 + r8))), (0, .ref (kad K 0)), (1, .int a1), (2, .int a2)]) C dX10_mark_162 (by rw [e5]; decide) rfl ?_
                      refine x_aload C 0 dX10_mark_164 rfl ?_
                      refine x_aload_n C 2 dX10_mark_166 rfl ?_
                      refine x_getR (j := 5) (i := 36) (q := (RX10, TX10, 18)) C 88 (iX 0 (by decide)) rfl rfl inBX10 (by decide) tw240 rfl dX10_mark_167 ?_
                      refine x_getRN (j := 3) (i := 182) (q := (RX7, TX7, 5)) (host := "CalledNumbers") C 136 (iX 88 (by decide)) rfl rfl inBX7 (by decide) twN170 rfl dX10_mark_170 ?_
                      refine x_iload_n C 3 dX10_mark_173 rfl ?_
                      obtain ⟨c43, h0⟩ := ob_if h0
                      refine x_iald C (iX 136 (by decide)) rfl (vin_in c43) dX10_mark_174 ?_
                      obtain ⟨r44, g45, h0⟩ := ob_bind h0
                      refine x_K_X8_pairsOn C (ki_X8_ne c39) g45 tw480 (by decide) (Nat.le_of_ble_eq_true rfl) dX10_mark_175 ?_
                      cases h0
                      exact x_iret C R dX10_mark_178
                · replace h0 := ob_neg c32 h0
                  refine x_aload_n C 1 dX10_mark_138 rfl ?_
                  refine x_getR (j := 6) (i := 45) (q := (RX10, TX10, 18)) C (144 + 5) (iX 0 (by decide)) rfl rfl inBX10 (by decide) tw241 rfl dX10_mark_139 ?_
                  refine x_getIN (j := 4) (i := 177) (q := (RX2, TX2, 6)) (host := "CalledNumbers") C (iX18 (by decide)) (lX18 (by decide)) rfl inBX2 (by decide) twN199 rfl dX10_mark_142 ?_
                  cases h0
                  exact x_iret C R dX10_mark_145
            · replace h0 := ob_pos c15 h0
              refine x_aload_n C 0 dX10_mark_98 rfl ?_
              refine x_inst_X3 C (KB_X7_kindAt g9) tw473 dX10_mark_99 ?_
              refine x_ifeq C 126 dX10_mark_102 (by decide) (fun c47 => ?_) (fun c47 => ?_)
              · replace h0 := ob_pos c47 h0
                refine x_iload_n C 3 dX10_mark_126 rfl ?_
                refine x_iconst (v := 4) C dX10_mark_127 rfl ?_
                refine x_icmpne C 146 dX10_mark_128 (by decide) (fun c49 => ?_) (fun c49 => ?_)
                · replace h0 := ob_neg c49 h0
                  refine x_iload_n C 3 dX10_mark_146 rfl ?_
                  refine x_iconst (v := 5) C dX10_mark_147 rfl ?_
                  refine x_icmpne C 179 dX10_mark_148 (by decide) (fun c51 => ?_) (fun c51 => ?_)
                  · replace h0 := ob_neg c51 h0
                    refine x_aload_n C 1 dX10_mark_179 rfl ?_
                    refine x_iconst (v := 3) C dX10_mark_180 rfl ?_
                    obtain ⟨r52, s54, g53, h0⟩ := ob_bd h0
                    refine x_callV (ar := 1) (q := (RX10, TX10, 18)) (rest := []) C (c_X10_found C.2.2.2.2.2.2.1  g53) (iX 0 (by decide)) rfl rfl hy_X10_found ⟨tw298, tw300, tw1, tw63, tw301⟩ (by decide) (by decide) rfl rfl (Nat.le_of_ble_eq_true rfl) dX10_mark_181 ?_
                    show Wx LX K s54 184 [(3, .ref (kad K (104 + r8))), (0, .ref (kad K 0)), (1, .int a1), (2, .int a2)] [.int r52]
                    cases h0
                    exact x_iret C R dX10_mark_184
                  · replace h0 := ob_pos c51 h0
                    refine x_aload_n C 0 dX10_mark_151 rfl ?_
                    refine x_inst_X8 C (KB_X7_kindAt g9) tw479 dX10_mark_152 ?_
                    refine x_ifeq C 179 dX10_mark_155 (by decide) (fun c56 => ?_) (fun c56 => ?_)
                    · replace h0 := ob_pos c56 h0
                      refine x_aload_n C 1 dX10_mark_179 rfl ?_
                      refine x_iconst (v := 3) C dX10_mark_180 rfl ?_
                      obtain ⟨r57, s59, g58, h0⟩ := ob_bd h0
                      refine x_callV (ar := 1) (q := (RX10, TX10, 18)) (rest := []) C (c_X10_found C.2.2.2.2.2.2.1  g58) (iX 0 (by decide)) rfl rfl hy_X10_found ⟨tw298, tw300, tw1, tw63, tw301⟩ (by decide) (by decide) rfl rfl (Nat.le_of_ble_eq_true rfl) dX10_mark_181 ?_
                      show Wx LX K s59 184 [(3, .ref (kad K (104 + r8))), (0, .ref (kad K 0)), (1, .int a1), (2, .int a2)] [.int r57]
                      cases h0
                      exact x_iret C R dX10_mark_184
                    · replace h0 := ob_neg c56 h0
                      refine x_aload_n C 0 dX10_mark_158 rfl ?_
                      refine x_cast_X8 C (ki_X8_ne c56) tw479 dX10_mark_159 ?_
                      refine x_astore (lv' := [(4, .ref (kad K (104 + r8))), (3, .ref (kad K (104 + r8))), (0, .ref (kad K 0)), (1, .int a1), (2, .int a2)]) C dX10_mark_162 (by rw [e5]; decide) rfl ?_
                      refine x_aload C 0 dX10_mark_164 rfl ?_
                      refine x_aload_n C 2 dX10_mark_166 rfl ?_
                      refine x_getR (j := 5) (i := 36) (q := (RX10, TX10, 18)) C 88 (iX 0 (by decide)) rfl rfl inBX10 (by decide) tw240 rfl dX10_mark_167 ?_
                      refine x_getRN (j := 3) (i := 182) (q := (RX7, TX7, 5)) (host := "CalledNumbers") C 136 (iX 88 (by decide)) rfl rfl inBX7 (by decide) twN170 rfl dX10_mark_170 ?_
                      refine x_iload_n C 3 dX10_mark_173 rfl ?_
                      obtain ⟨c60, h0⟩ := ob_if h0
                      refine x_iald C (iX 136 (by decide)) rfl (vin_in c60) dX10_mark_174 ?_
                      obtain ⟨r61, g62, h0⟩ := ob_bind h0
                      refine x_K_X8_pairsOn C (ki_X8_ne c56) g62 tw480 (by decide) (Nat.le_of_ble_eq_true rfl) dX10_mark_175 ?_
                      cases h0
                      exact x_iret C R dX10_mark_178
                · replace h0 := ob_pos c49 h0
                  refine x_aload_n C 0 dX10_mark_131 rfl ?_
                  refine x_inst_X4 C (KB_X7_kindAt g9) tw478 dX10_mark_132 ?_
                  refine x_ifeq C 146 dX10_mark_135 (by decide) (fun c64 => ?_) (fun c64 => ?_)
                  · replace h0 := ob_pos c64 h0
                    refine x_iload_n C 3 dX10_mark_146 rfl ?_
                    refine x_iconst (v := 5) C dX10_mark_147 rfl ?_
                    refine x_icmpne C 179 dX10_mark_148 (by decide) (fun c66 => ?_) (fun c66 => ?_)
                    · replace h0 := ob_neg c66 h0
                      refine x_aload_n C 1 dX10_mark_179 rfl ?_
                      refine x_iconst (v := 3) C dX10_mark_180 rfl ?_
                      obtain ⟨r67, s69, g68, h0⟩ := ob_bd h0
                      refine x_callV (ar := 1) (q := (RX10, TX10, 18)) (rest := []) C (c_X10_found C.2.2.2.2.2.2.1  g68) (iX 0 (by decide)) rfl rfl hy_X10_found ⟨tw298, tw300, tw1, tw63, tw301⟩ (by decide) (by decide) rfl rfl (Nat.le_of_ble_eq_true rfl) dX10_mark_181 ?_
                      show Wx LX K s69 184 [(3, .ref (kad K (104 + r8))), (0, .ref (kad K 0)), (1, .int a1), (2, .int a2)] [.int r67]
                      cases h0
                      exact x_iret C R dX10_mark_184
                    · replace h0 := ob_pos c66 h0
                      refine x_aload_n C 0 dX10_mark_151 rfl ?_
                      refine x_inst_X8 C (KB_X7_kindAt g9) tw479 dX10_mark_152 ?_
                      refine x_ifeq C 179 dX10_mark_155 (by decide) (fun c71 => ?_) (fun c71 => ?_)
                      · replace h0 := ob_pos c71 h0
                        refine x_aload_n C 1 dX10_mark_179 rfl ?_
                        refine x_iconst (v := 3) C dX10_mark_180 rfl ?_
                        obtain ⟨r72, s74, g73, h0⟩ := ob_bd h0
                        refine x_callV (ar := 1) (q := (RX10, TX10, 18)) (rest := []) C (c_X10_found C.2.2.2.2.2.2.1  g73) (iX 0 (by decide)) rfl rfl hy_X10_found ⟨tw298, tw300, tw1, tw63, tw301⟩ (by decide) (by decide) rfl rfl (Nat.le_of_ble_eq_true rfl) dX10_mark_181 ?_
                        show Wx LX K s74 184 [(3, .ref (kad K (104 + r8))), (0, .ref (kad K 0)), (1, .int a1), (2, .int a2)] [.int r72]
                        cases h0
                        exact x_iret C R dX10_mark_184
                      · replace h0 := ob_neg c71 h0
                        refine x_aload_n C 0 dX10_mark_158 rfl ?_
                        refine x_cast_X8 C (ki_X8_ne c71) tw479 dX10_mark_159 ?_
                        refine x_astore (lv' := [(4, .ref (kad K (104 + r8))), (3, .ref (kad K (104 + r8))), (0, .ref (kad K 0)), (1, .int a1), (2, .int a2)]) C dX10_mark_162 (by rw [e5]; decide) rfl ?_
                        refine x_aload C 0 dX10_mark_164 rfl ?_
                        refine x_aload_n C 2 dX10_mark_166 rfl ?_
                        refine x_getR (j := 5) (i := 36) (q := (RX10, TX10, 18)) C 88 (iX 0 (by decide)) rfl rfl inBX10 (by decide) tw240 rfl dX10_mark_167 ?_
                        refine x_getRN (j := 3) (i := 182) (q := (RX7, TX7, 5)) (host := "CalledNumbers") C 136 (iX 88 (by decide)) rfl rfl inBX7 (by decide) twN170 rfl dX10_mark_170 ?_
                        refine x_iload_n C 3 dX10_mark_173 rfl ?_
                        obtain ⟨c75, h0⟩ := ob_if h0
                        refine x_iald C (iX 136 (by decide)) rfl (vin_in c75) dX10_mark_174 ?_
                        obtain ⟨r76, g77, h0⟩ := ob_bind h0
                        refine x_K_X8_pairsOn C (ki_X8_ne c71) g77 tw480 (by decide) (Nat.le_of_ble_eq_true rfl) dX10_mark_175 ?_
                        cases h0
                        exact x_iret C R dX10_mark_178
                  · replace h0 := ob_neg c64 h0
                    refine x_aload_n C 1 dX10_mark_138 rfl ?_
                    refine x_getR (j := 6) (i := 45) (q := (RX10, TX10, 18)) C (144 + 5) (iX 0 (by decide)) rfl rfl inBX10 (by decide) tw241 rfl dX10_mark_139 ?_
                    refine x_getIN (j := 4) (i := 177) (q := (RX2, TX2, 6)) (host := "CalledNumbers") C (iX18 (by decide)) (lX18 (by decide)) rfl inBX2 (by decide) twN199 rfl dX10_mark_142 ?_
                    cases h0
                    exact x_iret C R dX10_mark_145
              · replace h0 := ob_neg c47 h0
                refine x_aload_n C 0 dX10_mark_105 rfl ?_
                refine x_cast_X3 C (ki_X3_ne c47) tw473 dX10_mark_106 ?_
                refine x_astore (lv' := [(4, .ref (kad K (104 + r8))), (3, .ref (kad K (104 + r8))), (0, .ref (kad K 0)), (1, .int a1), (2, .int a2)]) C dX10_mark_109 (by rw [e5]; decide) rfl ?_
                refine x_aload C 0 dX10_mark_111 rfl ?_
                refine x_aload_n C 2 dX10_mark_113 rfl ?_
                refine x_getR (j := 6) (i := 45) (q := (RX10, TX10, 18)) C (144 + 5) (iX 0 (by decide)) rfl rfl inBX10 (by decide) tw241 rfl dX10_mark_114 ?_
                refine x_getRN (j := 1) (i := 156) (q := (RX2, TX2, 6)) (host := "CalledNumbers") C (152 + 5) (iX18 (by decide)) (lX18 (by decide)) rfl inBX2 (by decide) twN193 rfl dX10_mark_117 ?_
                refine x_iload_n C 3 dX10_mark_120 rfl ?_
                obtain ⟨c78, h0⟩ := ob_if h0
                refine x_iald C (iX19 (by decide)) (lX19 (by decide)) (vin_in c78) dX10_mark_121 ?_
                refine x_K_X3_linesOfTwo C (ki_X3_ne c47) tw474 (by decide) (Nat.le_of_ble_eq_true rfl) dX10_mark_122 ?_
                cases h0
                exact x_iret C R dX10_mark_125
          · replace h0 := ob_pos c13 h0
            refine x_aload_n C 0 dX10_mark_67 rfl ?_
            refine x_inst_X0 C (KB_X7_kindAt g9) tw466 dX10_mark_68 ?_
            refine x_ifeq C 93 dX10_mark_71 (by decide) (fun c80 => ?_) (fun c80 => ?_)
            · replace h0 := ob_pos c80 h0
              refine x_iload_n C 3 dX10_mark_93 rfl ?_
              refine x_iconst (v := 3) C dX10_mark_94 rfl ?_
              refine x_icmpne C 126 dX10_mark_95 (by decide) (fun c82 => ?_) (fun c82 => ?_)
              · replace h0 := ob_neg c82 h0
                refine x_iload_n C 3 dX10_mark_126 rfl ?_
                refine x_iconst (v := 4) C dX10_mark_127 rfl ?_
                refine x_icmpne C 146 dX10_mark_128 (by decide) (fun c84 => ?_) (fun c84 => ?_)
                · replace h0 := ob_neg c84 h0
                  refine x_iload_n C 3 dX10_mark_146 rfl ?_
                  refine x_iconst (v := 5) C dX10_mark_147 rfl ?_
                  refine x_icmpne C 179 dX10_mark_148 (by decide) (fun c86 => ?_) (fun c86 => ?_)
                  · replace h0 := ob_neg c86 h0
                    refine x_aload_n C 1 dX10_mark_179 rfl ?_
                    refine x_iconst (v := 3) C dX10_mark_180 rfl ?_
                    obtain ⟨r87, s89, g88, h0⟩ := ob_bd h0
                    refine x_callV (ar := 1) (q := (RX10, TX10, 18)) (rest := []) C (c_X10_found C.2.2.2.2.2.2.1  g88) (iX 0 (by decide)) rfl rfl hy_X10_found ⟨tw298, tw300, tw1, tw63, tw301⟩ (by decide) (by decide) rfl rfl (Nat.le_of_ble_eq_true rfl) dX10_mark_181 ?_
                    show Wx LX K s89 184 [(3, .ref (kad K (104 + r8))), (0, .ref (kad K 0)), (1, .int a1), (2, .int a2)] [.int r87]
                    cases h0
                    exact x_iret C R dX10_mark_184
                  · replace h0 := ob_pos c86 h0
                    refine x_aload_n C 0 dX10_mark_151 rfl ?_
                    refine x_inst_X8 C (KB_X7_kindAt g9) tw479 dX10_mark_152 ?_
                    refine x_ifeq C 179 dX10_mark_155 (by decide) (fun c91 => ?_) (fun c91 => ?_)
                    · replace h0 := ob_pos c91 h0
                      refine x_aload_n C 1 dX10_mark_179 rfl ?_
                      refine x_iconst (v := 3) C dX10_mark_180 rfl ?_
                      obtain ⟨r92, s94, g93, h0⟩ := ob_bd h0
                      refine x_callV (ar := 1) (q := (RX10, TX10, 18)) (rest := []) C (c_X10_found C.2.2.2.2.2.2.1  g93) (iX 0 (by decide)) rfl rfl hy_X10_found ⟨tw298, tw300, tw1, tw63, tw301⟩ (by decide) (by decide) rfl rfl (Nat.le_of_ble_eq_true rfl) dX10_mark_181 ?_
                      show Wx LX K s94 184 [(3, .ref (kad K (104 + r8))), (0, .ref (kad K 0)), (1, .int a1), (2, .int a2)] [.int r92]
                      cases h0
                      exact x_iret C R dX10_mark_184
                    · replace h0 := ob_neg c91 h0
                      refine x_aload_n C 0 dX10_mark_158 rfl ?_
                      refine x_cast_X8 C (ki_X8_ne c91) tw479 dX10_mark_159 ?_
                      refine x_astore (lv' := [(4, .ref (kad K (104 + r8))), (3, .ref (kad K (104 + r8))), (0, .ref (kad K 0)), (1, .int a1), (2, .int a2)]) C dX10_mark_162 (by rw [e5]; decide) rfl ?_
                      refine x_aload C 0 dX10_mark_164 rfl ?_
                      refine x_aload_n C 2 dX10_mark_166 rfl ?_
                      refine x_getR (j := 5) (i := 36) (q := (RX10, TX10, 18)) C 88 (iX 0 (by decide)) rfl rfl inBX10 (by decide) tw240 rfl dX10_mark_167 ?_
                      refine x_getRN (j := 3) (i := 182) (q := (RX7, TX7, 5)) (host := "CalledNumbers") C 136 (iX 88 (by decide)) rfl rfl inBX7 (by decide) twN170 rfl dX10_mark_170 ?_
                      refine x_iload_n C 3 dX10_mark_173 rfl ?_
                      obtain ⟨c95, h0⟩ := ob_if h0
                      refine x_iald C (iX 136 (by decide)) rfl (vin_in c95) dX10_mark_174 ?_
                      obtain ⟨r96, g97, h0⟩ := ob_bind h0
                      refine x_K_X8_pairsOn C (ki_X8_ne c91) g97 tw480 (by decide) (Nat.le_of_ble_eq_true rfl) dX10_mark_175 ?_
                      cases h0
                      exact x_iret C R dX10_mark_178
                · replace h0 := ob_pos c84 h0
                  refine x_aload_n C 0 dX10_mark_131 rfl ?_
                  refine x_inst_X4 C (KB_X7_kindAt g9) tw478 dX10_mark_132 ?_
                  refine x_ifeq C 146 dX10_mark_135 (by decide) (fun c99 => ?_) (fun c99 => ?_)
                  · replace h0 := ob_pos c99 h0
                    refine x_iload_n C 3 dX10_mark_146 rfl ?_
                    refine x_iconst (v := 5) C dX10_mark_147 rfl ?_
                    refine x_icmpne C 179 dX10_mark_148 (by decide) (fun c101 => ?_) (fun c101 => ?_)
                    · replace h0 := ob_neg c101 h0
                      refine x_aload_n C 1 dX10_mark_179 rfl ?_
                      refine x_iconst (v := 3) C dX10_mark_180 rfl ?_
                      obtain ⟨r102, s104, g103, h0⟩ := ob_bd h0
                      refine x_callV (ar := 1) (q := (RX10, TX10, 18)) (rest := []) C (c_X10_found C.2.2.2.2.2.2.1  g103) (iX 0 (by decide)) rfl rfl hy_X10_found ⟨tw298, tw300, tw1, tw63, tw301⟩ (by decide) (by decide) rfl rfl (Nat.le_of_ble_eq_true rfl) dX10_mark_181 ?_
                      show Wx LX K s104 184 [(3, .ref (kad K (104 + r8))), (0, .ref (kad K 0)), (1, .int a1), (2, .int a2)] [.int r102]
                      cases h0
                      exact x_iret C R dX10_mark_184
                    · replace h0 := ob_pos c101 h0
                      refine x_aload_n C 0 dX10_mark_151 rfl ?_
                      refine x_inst_X8 C (KB_X7_kindAt g9) tw479 dX10_mark_152 ?_
                      refine x_ifeq C 179 dX10_mark_155 (by decide) (fun c106 => ?_) (fun c106 => ?_)
                      · replace h0 := ob_pos c106 h0
                        refine x_aload_n C 1 dX10_mark_179 rfl ?_
                        refine x_iconst (v := 3) C dX10_mark_180 rfl ?_
                        obtain ⟨r107, s109, g108, h0⟩ := ob_bd h0
                        refine x_callV (ar := 1) (q := (RX10, TX10, 18)) (rest := []) C (c_X10_found C.2.2.2.2.2.2.1  g108) (iX 0 (by decide)) rfl rfl hy_X10_found ⟨tw298, tw300, tw1, tw63, tw301⟩ (by decide) (by decide) rfl rfl (Nat.le_of_ble_eq_true rfl) dX10_mark_181 ?_
                        show Wx LX K s109 184 [(3, .ref (kad K (104 + r8))), (0, .ref (kad K 0)), (1, .int a1), (2, .int a2)] [.int r107]
                        cases h0
                        exact x_iret C R dX10_mark_184
                      · replace h0 := ob_neg c106 h0
                        refine x_aload_n C 0 dX10_mark_158 rfl ?_
                        refine x_cast_X8 C (ki_X8_ne c106) tw479 dX10_mark_159 ?_
                        refine x_astore (lv' := [(4, .ref (kad K (104 + r8))), (3, .ref (kad K (104 + r8))), (0, .ref (kad K 0)), (1, .int a1), (2, .int a2)]) C dX10_mark_162 (by rw [e5]; decide) rfl ?_
                        refine x_aload C 0 dX10_mark_164 rfl ?_
                        refine x_aload_n C 2 dX10_mark_166 rfl ?_
                        refine x_getR (j := 5) (i := 36) (q := (RX10, TX10, 18)) C 88 (iX 0 (by decide)) rfl rfl inBX10 (by decide) tw240 rfl dX10_mark_167 ?_
                        refine x_getRN (j := 3) (i := 182) (q := (RX7, TX7, 5)) (host := "CalledNumbers") C 136 (iX 88 (by decide)) rfl rfl inBX7 (by decide) twN170 rfl dX10_mark_170 ?_
                        refine x_iload_n C 3 dX10_mark_173 rfl ?_
                        obtain ⟨c110, h0⟩ := ob_if h0
                        refine x_iald C (iX 136 (by decide)) rfl (vin_in c110) dX10_mark_174 ?_
                        obtain ⟨r111, g112, h0⟩ := ob_bind h0
                        refine x_K_X8_pairsOn C (ki_X8_ne c106) g112 tw480 (by decide) (Nat.le_of_ble_eq_true rfl) dX10_mark_175 ?_
                        cases h0
                        exact x_iret C R dX10_mark_178
                  · replace h0 := ob_neg c99 h0
                    refine x_aload_n C 1 dX10_mark_138 rfl ?_
                    refine x_getR (j := 6) (i := 45) (q := (RX10, TX10, 18)) C (144 + 5) (iX 0 (by decide)) rfl rfl inBX10 (by decide) tw241 rfl dX10_mark_139 ?_
                    refine x_getIN (j := 4) (i := 177) (q := (RX2, TX2, 6)) (host := "CalledNumbers") C (iX18 (by decide)) (lX18 (by decide)) rfl inBX2 (by decide) twN199 rfl dX10_mark_142 ?_
                    cases h0
                    exact x_iret C R dX10_mark_145
              · replace h0 := ob_pos c82 h0
                refine x_aload_n C 0 dX10_mark_98 rfl ?_
                refine x_inst_X3 C (KB_X7_kindAt g9) tw473 dX10_mark_99 ?_
                refine x_ifeq C 126 dX10_mark_102 (by decide) (fun c114 => ?_) (fun c114 => ?_)
                · replace h0 := ob_pos c114 h0
                  refine x_iload_n C 3 dX10_mark_126 rfl ?_
                  refine x_iconst (v := 4) C dX10_mark_127 rfl ?_
                  refine x_icmpne C 146 dX10_mark_128 (by decide) (fun c116 => ?_) (fun c116 => ?_)
                  · replace h0 := ob_neg c116 h0
                    refine x_iload_n C 3 dX10_mark_146 rfl ?_
                    refine x_iconst (v := 5) C dX10_mark_147 rfl ?_
                    refine x_icmpne C 179 dX10_mark_148 (by decide) (fun c118 => ?_) (fun c118 => ?_)
                    · replace h0 := ob_neg c118 h0
                      refine x_aload_n C 1 dX10_mark_179 rfl ?_
                      refine x_iconst (v := 3) C dX10_mark_180 rfl ?_
                      obtain ⟨r119, s121, g120, h0⟩ := ob_bd h0
                      refine x_callV (ar := 1) (q := (RX10, TX10, 18)) (rest := []) C (c_X10_found C.2.2.2.2.2.2.1  g120) (iX 0 (by decide)) rfl rfl hy_X10_found ⟨tw298, tw300, tw1, tw63, tw301⟩ (by decide) (by decide) rfl rfl (Nat.le_of_ble_eq_true rfl) dX10_mark_181 ?_
                      show Wx LX K s121 184 [(3, .ref (kad K (104 + r8))), (0, .ref (kad K 0)), (1, .int a1), (2, .int a2)] [.int r119]
                      cases h0
                      exact x_iret C R dX10_mark_184
                    · replace h0 := ob_pos c118 h0
                      refine x_aload_n C 0 dX10_mark_151 rfl ?_
                      refine x_inst_X8 C (KB_X7_kindAt g9) tw479 dX10_mark_152 ?_
                      refine x_ifeq C 179 dX10_mark_155 (by decide) (fun c123 => ?_) (fun c123 => ?_)
                      · replace h0 := ob_pos c123 h0
                        refine x_aload_n C 1 dX10_mark_179 rfl ?_
                        refine x_iconst (v := 3) C dX10_mark_180 rfl ?_
                        obtain ⟨r124, s126, g125, h0⟩ := ob_bd h0
                        refine x_callV (ar := 1) (q := (RX10, TX10, 18)) (rest := []) C (c_X10_found C.2.2.2.2.2.2.1  g125) (iX 0 (by decide)) rfl rfl hy_X10_found ⟨tw298, tw300, tw1, tw63, tw301⟩ (by decide) (by decide) rfl rfl (Nat.le_of_ble_eq_true rfl) dX10_mark_181 ?_
                        show Wx LX K s126 184 [(3, .ref (kad K (104 + r8))), (0, .ref (kad K 0)), (1, .int a1), (2, .int a2)] [.int r124]
                        cases h0
                        exact x_iret C R dX10_mark_184
                      · replace h0 := ob_neg c123 h0
                        refine x_aload_n C 0 dX10_mark_158 rfl ?_
                        refine x_cast_X8 C (ki_X8_ne c123) tw479 dX10_mark_159 ?_
                        refine x_astore (lv' := [(4, .ref (kad K (104 + r8))), (3, .ref (kad K (104 + r8))), (0, .ref (kad K 0)), (1, .int a1), (2, .int a2)]) C dX10_mark_162 (by rw [e5]; decide) rfl ?_
                        refine x_aload C 0 dX10_mark_164 rfl ?_
                        refine x_aload_n C 2 dX10_mark_166 rfl ?_
                        refine x_getR (j := 5) (i := 36) (q := (RX10, TX10, 18)) C 88 (iX 0 (by decide)) rfl rfl inBX10 (by decide) tw240 rfl dX10_mark_167 ?_
                        refine x_getRN (j := 3) (i := 182) (q := (RX7, TX7, 5)) (host := "CalledNumbers") C 136 (iX 88 (by decide)) rfl rfl inBX7 (by decide) twN170 rfl dX10_mark_170 ?_
                        refine x_iload_n C 3 dX10_mark_173 rfl ?_
                        obtain ⟨c127, h0⟩ := ob_if h0
                        refine x_iald C (iX 136 (by decide)) rfl (vin_in c127) dX10_mark_174 ?_
                        obtain ⟨r128, g129, h0⟩ := ob_bind h0
                        refine x_K_X8_pairsOn C (ki_X8_ne c123) g129 tw480 (by decide) (Nat.le_of_ble_eq_true rfl) dX10_mark_175 ?_
                        cases h0
                        exact x_iret C R dX10_mark_178
                  · replace h0 := ob_pos c116 h0
                    refine x_aload_n C 0 dX10_mark_131 rfl ?_
                    refine x_inst_X4 C (KB_X7_kindAt g9) tw478 dX10_mark_132 ?_
                    refine x_ifeq C 146 dX10_mark_135 (by decide) (fun c131 => ?_) (fun c131 => ?_)
                    · replace h0 := ob_pos c131 h0
                      refine x_iload_n C 3 dX10_mark_146 rfl ?_
                      refine x_iconst (v := 5) C dX10_mark_147 rfl ?_
                      refine x_icmpne C 179 dX10_mark_148 (by decide) (fun c133 => ?_) (fun c133 => ?_)
                      · replace h0 := ob_neg c133 h0
                        refine x_aload_n C 1 dX10_mark_179 rfl ?_
                        refine x_iconst (v := 3) C dX10_mark_180 rfl ?_
                        obtain ⟨r134, s136, g135, h0⟩ := ob_bd h0
                        refine x_callV (ar := 1) (q := (RX10, TX10, 18)) (rest := []) C (c_X10_found C.2.2.2.2.2.2.1  g135) (iX 0 (by decide)) rfl rfl hy_X10_found ⟨tw298, tw300, tw1, tw63, tw301⟩ (by decide) (by decide) rfl rfl (Nat.le_of_ble_eq_true rfl) dX10_mark_181 ?_
                        show Wx LX K s136 184 [(3, .ref (kad K (104 + r8))), (0, .ref (kad K 0)), (1, .int a1), (2, .int a2)] [.int r134]
                        cases h0
                        exact x_iret C R dX10_mark_184
                      · replace h0 := ob_pos c133 h0
                        refine x_aload_n C 0 dX10_mark_151 rfl ?_
                        refine x_inst_X8 C (KB_X7_kindAt g9) tw479 dX10_mark_152 ?_
                        refine x_ifeq C 179 dX10_mark_155 (by decide) (fun c138 => ?_) (fun c138 => ?_)
                        · replace h0 := ob_pos c138 h0
                          refine x_aload_n C 1 dX10_mark_179 rfl ?_
                          refine x_iconst (v := 3) C dX10_mark_180 rfl ?_
                          obtain ⟨r139, s141, g140, h0⟩ := ob_bd h0
                          refine x_callV (ar := 1) (q := (RX10, TX10, 18)) (rest := []) C (c_X10_found C.2.2.2.2.2.2.1  g140) (iX 0 (by decide)) rfl rfl hy_X10_found ⟨tw298, tw300, tw1, tw63, tw301⟩ (by decide) (by decide) rfl rfl (Nat.le_of_ble_eq_true rfl) dX10_mark_181 ?_
                          show Wx LX K s141 184 [(3, .ref (kad K (104 + r8))), (0, .ref (kad K 0)), (1, .int a1), (2, .int a2)] [.int r139]
                          cases h0
                          exact x_iret C R dX10_mark_184
                        · replace h0 := ob_neg c138 h0
                          refine x_aload_n C 0 dX10_mark_158 rfl ?_
                          refine x_cast_X8 C (ki_X8_ne c138) tw479 dX10_mark_159 ?_
                          refine x_astore (lv' := [(4, .ref (kad K (104 + r8))), (3, .ref (kad K (104 + r8))), (0, .ref (kad K 0)), (1, .int a1), (2, .int a2)]) C dX10_mark_162 (by rw [e5]; decide) rfl ?_
                          refine x_aload C 0 dX10_mark_164 rfl ?_
                          refine x_aload_n C 2 dX10_mark_166 rfl ?_
                          refine x_getR (j := 5) (i := 36) (q := (RX10, TX10, 18)) C 88 (iX 0 (by decide)) rfl rfl inBX10 (by decide) tw240 rfl dX10_mark_167 ?_
                          refine x_getRN (j := 3) (i := 182) (q := (RX7, TX7, 5)) (host := "CalledNumbers") C 136 (iX 88 (by decide)) rfl rfl inBX7 (by decide) twN170 rfl dX10_mark_170 ?_
                          refine x_iload_n C 3 dX10_mark_173 rfl ?_
                          obtain ⟨c142, h0⟩ := ob_if h0
                          refine x_iald C (iX 136 (by decide)) rfl (vin_in c142) dX10_mark_174 ?_
                          obtain ⟨r143, g144, h0⟩ := ob_bind h0
                          refine x_K_X8_pairsOn C (ki_X8_ne c138) g144 tw480 (by decide) (Nat.le_of_ble_eq_true rfl) dX10_mark_175 ?_
                          cases h0
                          exact x_iret C R dX10_mark_178
                    · replace h0 := ob_neg c131 h0
                      refine x_aload_n C 1 dX10_mark_138 rfl ?_
                      refine x_getR (j := 6) (i := 45) (q := (RX10, TX10, 18)) C (144 + 5) (iX 0 (by decide)) rfl rfl inBX10 (by decide) tw241 rfl dX10_mark_139 ?_
                      refine x_getIN (j := 4) (i := 177) (q := (RX2, TX2, 6)) (host := "CalledNumbers") C (iX18 (by decide)) (lX18 (by decide)) rfl inBX2 (by decide) twN199 rfl dX10_mark_142 ?_
                      cases h0
                      exact x_iret C R dX10_mark_145
                · replace h0 := ob_neg c114 h0
                  refine x_aload_n C 0 dX10_mark_105 rfl ?_
                  refine x_cast_X3 C (ki_X3_ne c114) tw473 dX10_mark_106 ?_
                  refine x_astore (lv' := [(4, .ref (kad K (104 + r8))), (3, .ref (kad K (104 + r8))), (0, .ref (kad K 0)), (1, .int a1), (2, .int a2)]) C dX10_mark_109 (by rw [e5]; decide) rfl ?_
                  refine x_aload C 0 dX10_mark_111 rfl ?_
                  refine x_aload_n C 2 dX10_mark_113 rfl ?_
                  refine x_getR (j := 6) (i := 45) (q := (RX10, TX10, 18)) C (144 + 5) (iX 0 (by decide)) rfl rfl inBX10 (by decide) tw241 rfl dX10_mark_114 ?_
                  refine x_getRN (j := 1) (i := 156) (q := (RX2, TX2, 6)) (host := "CalledNumbers") C (152 + 5) (iX18 (by decide)) (lX18 (by decide)) rfl inBX2 (by decide) twN193 rfl dX10_mark_117 ?_
                  refine x_iload_n C 3 dX10_mark_120 rfl ?_
                  obtain ⟨c145, h0⟩ := ob_if h0
                  refine x_iald C (iX19 (by decide)) (lX19 (by decide)) (vin_in c145) dX10_mark_121 ?_
                  refine x_K_X3_linesOfTwo C (ki_X3_ne c114) tw474 (by decide) (Nat.le_of_ble_eq_true rfl) dX10_mark_122 ?_
                  cases h0
                  exact x_iret C R dX10_mark_125
            · replace h0 := ob_neg c80 h0
              refine x_aload_n C 0 dX10_mark_74 rfl ?_
              refine x_cast_X0 C (ki_X0_ne c80) tw466 dX10_mark_75 ?_
              refine x_astore (lv' := [(4, .ref (kad K (104 + r8))), (3, .ref (kad K (104 + r8))), (0, .ref (kad K 0)), (1, .int a1), (2, .int a2)]) C dX10_mark_78 (by rw [e5]; decide) rfl ?_
              refine x_aload C 0 dX10_mark_80 rfl ?_
              refine x_aload_n C 2 dX10_mark_82 rfl ?_
              refine x_getR (j := 6) (i := 45) (q := (RX10, TX10, 18)) C (144 + 5) (iX 0 (by decide)) rfl rfl inBX10 (by decide) tw241 rfl dX10_mark_83 ?_
              refine x_getIN (j := 5) (i := 164) (q := (RX2, TX2, 6)) (host := "CalledNumbers") C (iX18 (by decide)) (lX18 (by decide)) rfl inBX2 (by decide) twN201 rfl dX10_mark_86 ?_
              refine x_K_X0_callsTillDeaf C (ki_X0_ne c80) tw467 (by decide) (Nat.le_of_ble_eq_true rfl) dX10_mark_89 ?_
              cases h0
              exact x_iret C R dX10_mark_92
        · replace h0 := ob_pos c11 h0
          refine x_aload_n C 0 dX10_mark_34 rfl ?_
          refine x_inst_X9 C (KB_X7_kindAt g9) tw464 dX10_mark_35 ?_
          refine x_ifeq C 62 dX10_mark_38 (by decide) (fun c147 => ?_) (fun c147 => ?_)
          · replace h0 := ob_pos c147 h0
            refine x_iload_n C 3 dX10_mark_62 rfl ?_
            refine x_iconst (v := 2) C dX10_mark_63 rfl ?_
            refine x_icmpne C 93 dX10_mark_64 (by decide) (fun c149 => ?_) (fun c149 => ?_)
            · replace h0 := ob_neg c149 h0
              refine x_iload_n C 3 dX10_mark_93 rfl ?_
              refine x_iconst (v := 3) C dX10_mark_94 rfl ?_
              refine x_icmpne C 126 dX10_mark_95 (by decide) (fun c151 => ?_) (fun c151 => ?_)
              · replace h0 := ob_neg c151 h0
                refine x_iload_n C 3 dX10_mark_126 rfl ?_
                refine x_iconst (v := 4) C dX10_mark_127 rfl ?_
                refine x_icmpne C 146 dX10_mark_128 (by decide) (fun c153 => ?_) (fun c153 => ?_)
                · replace h0 := ob_neg c153 h0
                  refine x_iload_n C 3 dX10_mark_146 rfl ?_
                  refine x_iconst (v := 5) C dX10_mark_147 rfl ?_
                  refine x_icmpne C 179 dX10_mark_148 (by decide) (fun c155 => ?_) (fun c155 => ?_)
                  · replace h0 := ob_neg c155 h0
                    refine x_aload_n C 1 dX10_mark_179 rfl ?_
                    refine x_iconst (v := 3) C dX10_mark_180 rfl ?_
                    obtain ⟨r156, s158, g157, h0⟩ := ob_bd h0
                    refine x_callV (ar := 1) (q := (RX10, TX10, 18)) (rest := []) C (c_X10_found C.2.2.2.2.2.2.1  g157) (iX 0 (by decide)) rfl rfl hy_X10_found ⟨tw298, tw300, tw1, tw63, tw301⟩ (by decide) (by decide) rfl rfl (Nat.le_of_ble_eq_true rfl) dX10_mark_181 ?_
                    show Wx LX K s158 184 [(3, .ref (kad K (104 + r8))), (0, .ref (kad K 0)), (1, .int a1), (2, .int a2)] [.int r156]
                    cases h0
                    exact x_iret C R dX10_mark_184
                  · replace h0 := ob_pos c155 h0
                    refine x_aload_n C 0 dX10_mark_151 rfl ?_
                    refine x_inst_X8 C (KB_X7_kindAt g9) tw479 dX10_mark_152 ?_
                    refine x_ifeq C 179 dX10_mark_155 (by decide) (fun c160 => ?_) (fun c160 => ?_)
                    · replace h0 := ob_pos c160 h0
                      refine x_aload_n C 1 dX10_mark_179 rfl ?_
                      refine x_iconst (v := 3) C dX10_mark_180 rfl ?_
                      obtain ⟨r161, s163, g162, h0⟩ := ob_bd h0
                      refine x_callV (ar := 1) (q := (RX10, TX10, 18)) (rest := []) C (c_X10_found C.2.2.2.2.2.2.1  g162) (iX 0 (by decide)) rfl rfl hy_X10_found ⟨tw298, tw300, tw1, tw63, tw301⟩ (by decide) (by decide) rfl rfl (Nat.le_of_ble_eq_true rfl) dX10_mark_181 ?_
                      show Wx LX K s163 184 [(3, .ref (kad K (104 + r8))), (0, .ref (kad K 0)), (1, .int a1), (2, .int a2)] [.int r161]
                      cases h0
                      exact x_iret C R dX10_mark_184
                    · replace h0 := ob_neg c160 h0
                      refine x_aload_n C 0 dX10_mark_158 rfl ?_
                      refine x_cast_X8 C (ki_X8_ne c160) tw479 dX10_mark_159 ?_
                      refine x_astore (lv' := [(4, .ref (kad K (104 + r8))), (3, .ref (kad K (104 + r8))), (0, .ref (kad K 0)), (1, .int a1), (2, .int a2)]) C dX10_mark_162 (by rw [e5]; decide) rfl ?_
                      refine x_aload C 0 dX10_mark_164 rfl ?_
                      refine x_aload_n C 2 dX10_mark_166 rfl ?_
                      refine x_getR (j := 5) (i := 36) (q := (RX10, TX10, 18)) C 88 (iX 0 (by decide)) rfl rfl inBX10 (by decide) tw240 rfl dX10_mark_167 ?_
                      refine x_getRN (j := 3) (i := 182) (q := (RX7, TX7, 5)) (host := "CalledNumbers") C 136 (iX 88 (by decide)) rfl rfl inBX7 (by decide) twN170 rfl dX10_mark_170 ?_
                      refine x_iload_n C 3 dX10_mark_173 rfl ?_
                      obtain ⟨c164, h0⟩ := ob_if h0
                      refine x_iald C (iX 136 (by decide)) rfl (vin_in c164) dX10_mark_174 ?_
                      obtain ⟨r165, g166, h0⟩ := ob_bind h0
                      refine x_K_X8_pairsOn C (ki_X8_ne c160) g166 tw480 (by decide) (Nat.le_of_ble_eq_true rfl) dX10_mark_175 ?_
                      cases h0
                      exact x_iret C R dX10_mark_178
                · replace h0 := ob_pos c153 h0
                  refine x_aload_n C 0 dX10_mark_131 rfl ?_
                  refine x_inst_X4 C (KB_X7_kindAt g9) tw478 dX10_mark_132 ?_
                  refine x_ifeq C 146 dX10_mark_135 (by decide) (fun c168 => ?_) (fun c168 => ?_)
                  · replace h0 := ob_pos c168 h0
                    refine x_iload_n C 3 dX10_mark_146 rfl ?_
                    refine x_iconst (v := 5) C dX10_mark_147 rfl ?_
                    refine x_icmpne C 179 dX10_mark_148 (by decide) (fun c170 => ?_) (fun c170 => ?_)
                    · replace h0 := ob_neg c170 h0
                      refine x_aload_n C 1 dX10_mark_179 rfl ?_
                      refine x_iconst (v := 3) C dX10_mark_180 rfl ?_
                      obtain ⟨r171, s173, g172, h0⟩ := ob_bd h0
                      refine x_callV (ar := 1) (q := (RX10, TX10, 18)) (rest := []) C (c_X10_found C.2.2.2.2.2.2.1  g172) (iX 0 (by decide)) rfl rfl hy_X10_found ⟨tw298, tw300, tw1, tw63, tw301⟩ (by decide) (by decide) rfl rfl (Nat.le_of_ble_eq_true rfl) dX10_mark_181 ?_
                      show Wx LX K s173 184 [(3, .ref (kad K (104 + r8))), (0, .ref (kad K 0)), (1, .int a1), (2, .int a2)] [.int r171]
                      cases h0
                      exact x_iret C R dX10_mark_184
                    · replace h0 := ob_pos c170 h0
                      refine x_aload_n C 0 dX10_mark_151 rfl ?_
                      refine x_inst_X8 C (KB_X7_kindAt g9) tw479 dX10_mark_152 ?_
                      refine x_ifeq C 179 dX10_mark_155 (by decide) (fun c175 => ?_) (fun c175 => ?_)
                      · replace h0 := ob_pos c175 h0
                        refine x_aload_n C 1 dX10_mark_179 rfl ?_
                        refine x_iconst (v := 3) C dX10_mark_180 rfl ?_
                        obtain ⟨r176, s178, g177, h0⟩ := ob_bd h0
                        refine x_callV (ar := 1) (q := (RX10, TX10, 18)) (rest := []) C (c_X10_found C.2.2.2.2.2.2.1  g177) (iX 0 (by decide)) rfl rfl hy_X10_found ⟨tw298, tw300, tw1, tw63, tw301⟩ (by decide) (by decide) rfl rfl (Nat.le_of_ble_eq_true rfl) dX10_mark_181 ?_
                        show Wx LX K s178 184 [(3, .ref (kad K (104 + r8))), (0, .ref (kad K 0)), (1, .int a1), (2, .int a2)] [.int r176]
                        cases h0
                        exact x_iret C R dX10_mark_184
                      · replace h0 := ob_neg c175 h0
                        refine x_aload_n C 0 dX10_mark_158 rfl ?_
                        refine x_cast_X8 C (ki_X8_ne c175) tw479 dX10_mark_159 ?_
                        refine x_astore (lv' := [(4, .ref (kad K (104 + r8))), (3, .ref (kad K (104 + r8))), (0, .ref (kad K 0)), (1, .int a1), (2, .int a2)]) C dX10_mark_162 (by rw [e5]; decide) rfl ?_
                        refine x_aload C 0 dX10_mark_164 rfl ?_
                        refine x_aload_n C 2 dX10_mark_166 rfl ?_
                        refine x_getR (j := 5) (i := 36) (q := (RX10, TX10, 18)) C 88 (iX 0 (by decide)) rfl rfl inBX10 (by decide) tw240 rfl dX10_mark_167 ?_
                        refine x_getRN (j := 3) (i := 182) (q := (RX7, TX7, 5)) (host := "CalledNumbers") C 136 (iX 88 (by decide)) rfl rfl inBX7 (by decide) twN170 rfl dX10_mark_170 ?_
                        refine x_iload_n C 3 dX10_mark_173 rfl ?_
                        obtain ⟨c179, h0⟩ := ob_if h0
                        refine x_iald C (iX 136 (by decide)) rfl (vin_in c179) dX10_mark_174 ?_
                        obtain ⟨r180, g181, h0⟩ := ob_bind h0
                        refine x_K_X8_pairsOn C (ki_X8_ne c175) g181 tw480 (by decide) (Nat.le_of_ble_eq_true rfl) dX10_mark_175 ?_
                        cases h0
                        exact x_iret C R dX10_mark_178
                  · replace h0 := ob_neg c168 h0
                    refine x_aload_n C 1 dX10_mark_138 rfl ?_
                    refine x_getR (j := 6) (i := 45) (q := (RX10, TX10, 18)) C (144 + 5) (iX 0 (by decide)) rfl rfl inBX10 (by decide) tw241 rfl dX10_mark_139 ?_
                    refine x_getIN (j := 4) (i := 177) (q := (RX2, TX2, 6)) (host := "CalledNumbers") C (iX18 (by decide)) (lX18 (by decide)) rfl inBX2 (by decide) twN199 rfl dX10_mark_142 ?_
                    cases h0
                    exact x_iret C R dX10_mark_145
              · replace h0 := ob_pos c151 h0
                refine x_aload_n C 0 dX10_mark_98 rfl ?_
                refine x_inst_X3 C (KB_X7_kindAt g9) tw473 dX10_mark_99 ?_
                refine x_ifeq C 126 dX10_mark_102 (by decide) (fun c183 => ?_) (fun c183 => ?_)
                · replace h0 := ob_pos c183 h0
                  refine x_iload_n C 3 dX10_mark_126 rfl ?_
                  refine x_iconst (v := 4) C dX10_mark_127 rfl ?_
                  refine x_icmpne C 146 dX10_mark_128 (by decide) (fun c185 => ?_) (fun c185 => ?_)
                  · replace h0 := ob_neg c185 h0
                    refine x_iload_n C 3 dX10_mark_146 rfl ?_
                    refine x_iconst (v := 5) C dX10_mark_147 rfl ?_
                    refine x_icmpne C 179 dX10_mark_148 (by decide) (fun c187 => ?_) (fun c187 => ?_)
                    · replace h0 := ob_neg c187 h0
                      refine x_aload_n C 1 dX10_mark_179 rfl ?_
                      refine x_iconst (v := 3) C dX10_mark_180 rfl ?_
                      obtain ⟨r188, s190, g189, h0⟩ := ob_bd h0
                      refine x_callV (ar := 1) (q := (RX10, TX10, 18)) (rest := []) C (c_X10_found C.2.2.2.2.2.2.1  g189) (iX 0 (by decide)) rfl rfl hy_X10_found ⟨tw298, tw300, tw1, tw63, tw301⟩ (by decide) (by decide) rfl rfl (Nat.le_of_ble_eq_true rfl) dX10_mark_181 ?_
                      show Wx LX K s190 184 [(3, .ref (kad K (104 + r8))), (0, .ref (kad K 0)), (1, .int a1), (2, .int a2)] [.int r188]
                      cases h0
                      exact x_iret C R dX10_mark_184
                    · replace h0 := ob_pos c187 h0
                      refine x_aload_n C 0 dX10_mark_151 rfl ?_
                      refine x_inst_X8 C (KB_X7_kindAt g9) tw479 dX10_mark_152 ?_
                      refine x_ifeq C 179 dX10_mark_155 (by decide) (fun c192 => ?_) (fun c192 => ?_)
                      · replace h0 := ob_pos c192 h0
                        refine x_aload_n C 1 dX10_mark_179 rfl ?_
                        refine x_iconst (v := 3) C dX10_mark_180 rfl ?_
                        obtain ⟨r193, s195, g194, h0⟩ := ob_bd h0
                        refine x_callV (ar := 1) (q := (RX10, TX10, 18)) (rest := []) C (c_X10_found C.2.2.2.2.2.2.1  g194) (iX 0 (by decide)) rfl rfl hy_X10_found ⟨tw298, tw300, tw1, tw63, tw301⟩ (by decide) (by decide) rfl rfl (Nat.le_of_ble_eq_true rfl) dX10_mark_181 ?_
                        show Wx LX K s195 184 [(3, .ref (kad K (104 + r8))), (0, .ref (kad K 0)), (1, .int a1), (2, .int a2)] [.int r193]
                        cases h0
                        exact x_iret C R dX10_mark_184
                      · replace h0 := ob_neg c192 h0
                        refine x_aload_n C 0 dX10_mark_158 rfl ?_
                        refine x_cast_X8 C (ki_X8_ne c192) tw479 dX10_mark_159 ?_
                        refine x_astore (lv' := [(4, .ref (kad K (104 + r8))), (3, .ref (kad K (104 + r8))), (0, .ref (kad K 0)), (1, .int a1), (2, .int a2)]) C dX10_mark_162 (by rw [e5]; decide) rfl ?_
                        refine x_aload C 0 dX10_mark_164 rfl ?_
                        refine x_aload_n C 2 dX10_mark_166 rfl ?_
                        refine x_getR (j := 5) (i := 36) (q := (RX10, TX10, 18)) C 88 (iX 0 (by decide)) rfl rfl inBX10 (by decide) tw240 rfl dX10_mark_167 ?_
                        refine x_getRN (j := 3) (i := 182) (q := (RX7, TX7, 5)) (host := "CalledNumbers") C 136 (iX 88 (by decide)) rfl rfl inBX7 (by decide) twN170 rfl dX10_mark_170 ?_
                        refine x_iload_n C 3 dX10_mark_173 rfl ?_
                        obtain ⟨c196, h0⟩ := ob_if h0
                        refine x_iald C (iX 136 (by decide)) rfl (vin_in c196) dX10_mark_174 ?_
                        obtain ⟨r197, g198, h0⟩ := ob_bind h0
                        refine x_K_X8_pairsOn C (ki_X8_ne c192) g198 tw480 (by decide) (Nat.le_of_ble_eq_true rfl) dX10_mark_175 ?_
                        cases h0
                        exact x_iret C R dX10_mark_178
                  · replace h0 := ob_pos c185 h0
                    refine x_aload_n C 0 dX10_mark_131 rfl ?_
                    refine x_inst_X4 C (KB_X7_kindAt g9) tw478 dX10_mark_132 ?_
                    refine x_ifeq C 146 dX10_mark_135 (by decide) (fun c200 => ?_) (fun c200 => ?_)
                    · replace h0 := ob_pos c200 h0
                      refine x_iload_n C 3 dX10_mark_146 rfl ?_
                      refine x_iconst (v := 5) C dX10_mark_147 rfl ?_
                      refine x_icmpne C 179 dX10_mark_148 (by decide) (fun c202 => ?_) (fun c202 => ?_)
                      · replace h0 := ob_neg c202 h0
                        refine x_aload_n C 1 dX10_mark_179 rfl ?_
                        refine x_iconst (v := 3) C dX10_mark_180 rfl ?_
                        obtain ⟨r203, s205, g204, h0⟩ := ob_bd h0
                        refine x_callV (ar := 1) (q := (RX10, TX10, 18)) (rest := []) C (c_X10_found C.2.2.2.2.2.2.1  g204) (iX 0 (by decide)) rfl rfl hy_X10_found ⟨tw298, tw300, tw1, tw63, tw301⟩ (by decide) (by decide) rfl rfl (Nat.le_of_ble_eq_true rfl) dX10_mark_181 ?_
                        show Wx LX K s205 184 [(3, .ref (kad K (104 + r8))), (0, .ref (kad K 0)), (1, .int a1), (2, .int a2)] [.int r203]
                        cases h0
                        exact x_iret C R dX10_mark_184
                      · replace h0 := ob_pos c202 h0
                        refine x_aload_n C 0 dX10_mark_151 rfl ?_
                        refine x_inst_X8 C (KB_X7_kindAt g9) tw479 dX10_mark_152 ?_
                        refine x_ifeq C 179 dX10_mark_155 (by decide) (fun c207 => ?_) (fun c207 => ?_)
                        · replace h0 := ob_pos c207 h0
                          refine x_aload_n C 1 dX10_mark_179 rfl ?_
                          refine x_iconst (v := 3) C dX10_mark_180 rfl ?_
                          obtain ⟨r208, s210, g209, h0⟩ := ob_bd h0
                          refine x_callV (ar := 1) (q := (RX10, TX10, 18)) (rest := []) C (c_X10_found C.2.2.2.2.2.2.1  g209) (iX 0 (by decide)) rfl rfl hy_X10_found ⟨tw298, tw300, tw1, tw63, tw301⟩ (by decide) (by decide) rfl rfl (Nat.le_of_ble_eq_true rfl) dX10_mark_181 ?_
                          show Wx LX K s210 184 [(3, .ref (kad K (104 + r8))), (0, .ref (kad K 0)), (1, .int a1), (2, .int a2)] [.int r208]
                          cases h0
                          exact x_iret C R dX10_mark_184
                        · replace h0 := ob_neg c207 h0
                          refine x_aload_n C 0 dX10_mark_158 rfl ?_
                          refine x_cast_X8 C (ki_X8_ne c207) tw479 dX10_mark_159 ?_
                          refine x_astore (lv' := [(4, .ref (kad K (104 + r8))), (3, .ref (kad K (104 + r8))), (0, .ref (kad K 0)), (1, .int a1), (2, .int a2)]) C dX10_mark_162 (by rw [e5]; decide) rfl ?_
                          refine x_aload C 0 dX10_mark_164 rfl ?_
                          refine x_aload_n C 2 dX10_mark_166 rfl ?_
                          refine x_getR (j := 5) (i := 36) (q := (RX10, TX10, 18)) C 88 (iX 0 (by decide)) rfl rfl inBX10 (by decide) tw240 rfl dX10_mark_167 ?_
                          refine x_getRN (j := 3) (i := 182) (q := (RX7, TX7, 5)) (host := "CalledNumbers") C 136 (iX 88 (by decide)) rfl rfl inBX7 (by decide) twN170 rfl dX10_mark_170 ?_
                          refine x_iload_n C 3 dX10_mark_173 rfl ?_
                          obtain ⟨c211, h0⟩ := ob_if h0
                          refine x_iald C (iX 136 (by decide)) rfl (vin_in c211) dX10_mark_174 ?_
                          obtain ⟨r212, g213, h0⟩ := ob_bind h0
                          refine x_K_X8_pairsOn C (ki_X8_ne c207) g213 tw480 (by decide) (Nat.le_of_ble_eq_true rfl) dX10_mark_175 ?_
                          cases h0
                          exact x_iret C R dX10_mark_178
                    · replace h0 := ob_neg c200 h0
                      refine x_aload_n C 1 dX10_mark_138 rfl ?_
                      refine x_getR (j := 6) (i := 45) (q := (RX10, TX10, 18)) C (144 + 5) (iX 0 (by decide)) rfl rfl inBX10 (by decide) tw241 rfl dX10_mark_139 ?_
                      refine x_getIN (j := 4) (i := 177) (q := (RX2, TX2, 6)) (host := "CalledNumbers") C (iX18 (by decide)) (lX18 (by decide)) rfl inBX2 (by decide) twN199 rfl dX10_mark_142 ?_
                      cases h0
                      exact x_iret C R dX10_mark_145
                · replace h0 := ob_neg c183 h0
                  refine x_aload_n C 0 dX10_mark_105 rfl ?_
                  refine x_cast_X3 C (ki_X3_ne c183) tw473 dX10_mark_106 ?_
                  refine x_astore (lv' := [(4, .ref (kad K (104 + r8))), (3, .ref (kad K (104 + r8))), (0, .ref (kad K 0)), (1, .int a1), (2, .int a2)]) C dX10_mark_109 (by rw [e5]; decide) rfl ?_
                  refine x_aload C 0 dX10_mark_111 rfl ?_
                  refine x_aload_n C 2 dX10_mark_113 rfl ?_
                  refine x_getR (j := 6) (i := 45) (q := (RX10, TX10, 18)) C (144 + 5) (iX 0 (by decide)) rfl rfl inBX10 (by decide) tw241 rfl dX10_mark_114 ?_
                  refine x_getRN (j := 1) (i := 156) (q := (RX2, TX2, 6)) (host := "CalledNumbers") C (152 + 5) (iX18 (by decide)) (lX18 (by decide)) rfl inBX2 (by decide) twN193 rfl dX10_mark_117 ?_
                  refine x_iload_n C 3 dX10_mark_120 rfl ?_
                  obtain ⟨c214, h0⟩ := ob_if h0
                  refine x_iald C (iX19 (by decide)) (lX19 (by decide)) (vin_in c214) dX10_mark_121 ?_
                  refine x_K_X3_linesOfTwo C (ki_X3_ne c183) tw474 (by decide) (Nat.le_of_ble_eq_true rfl) dX10_mark_122 ?_
                  cases h0
                  exact x_iret C R dX10_mark_125
            · replace h0 := ob_pos c149 h0
              refine x_aload_n C 0 dX10_mark_67 rfl ?_
              refine x_inst_X0 C (KB_X7_kindAt g9) tw466 dX10_mark_68 ?_
              refine x_ifeq C 93 dX10_mark_71 (by decide) (fun c216 => ?_) (fun c216 => ?_)
              · replace h0 := ob_pos c216 h0
                refine x_iload_n C 3 dX10_mark_93 rfl ?_
                refine x_iconst (v := 3) C dX10_mark_94 rfl ?_
                refine x_icmpne C 126 dX10_mark_95 (by decide) (fun c218 => ?_) (fun c218 => ?_)
                · replace h0 := ob_neg c218 h0
                  refine x_iload_n C 3 dX10_mark_126 rfl ?_
                  refine x_iconst (v := 4) C dX10_mark_127 rfl ?_
                  refine x_icmpne C 146 dX10_mark_128 (by decide) (fun c220 => ?_) (fun c220 => ?_)
                  · replace h0 := ob_neg c220 h0
                    refine x_iload_n C 3 dX10_mark_146 rfl ?_
                    refine x_iconst (v := 5) C dX10_mark_147 rfl ?_
                    refine x_icmpne C 179 dX10_mark_148 (by decide) (fun c222 => ?_) (fun c222 => ?_)
                    · replace h0 := ob_neg c222 h0
                      refine x_aload_n C 1 dX10_mark_179 rfl ?_
                      refine x_iconst (v := 3) C dX10_mark_180 rfl ?_
                      obtain ⟨r223, s225, g224, h0⟩ := ob_bd h0
                      refine x_callV (ar := 1) (q := (RX10, TX10, 18)) (rest := []) C (c_X10_found C.2.2.2.2.2.2.1  g224) (iX 0 (by decide)) rfl rfl hy_X10_found ⟨tw298, tw300, tw1, tw63, tw301⟩ (by decide) (by decide) rfl rfl (Nat.le_of_ble_eq_true rfl) dX10_mark_181 ?_
                      show Wx LX K s225 184 [(3, .ref (kad K (104 + r8))), (0, .ref (kad K 0)), (1, .int a1), (2, .int a2)] [.int r223]
                      cases h0
                      exact x_iret C R dX10_mark_184
                    · replace h0 := ob_pos c222 h0
                      refine x_aload_n C 0 dX10_mark_151 rfl ?_
                      refine x_inst_X8 C (KB_X7_kindAt g9) tw479 dX10_mark_152 ?_
                      refine x_ifeq C 179 dX10_mark_155 (by decide) (fun c227 => ?_) (fun c227 => ?_)
                      · replace h0 := ob_pos c227 h0
                        refine x_aload_n C 1 dX10_mark_179 rfl ?_
                        refine x_iconst (v := 3) C dX10_mark_180 rfl ?_
                        obtain ⟨r228, s230, g229, h0⟩ := ob_bd h0
                        refine x_callV (ar := 1) (q := (RX10, TX10, 18)) (rest := []) C (c_X10_found C.2.2.2.2.2.2.1  g229) (iX 0 (by decide)) rfl rfl hy_X10_found ⟨tw298, tw300, tw1, tw63, tw301⟩ (by decide) (by decide) rfl rfl (Nat.le_of_ble_eq_true rfl) dX10_mark_181 ?_
                        show Wx LX K s230 184 [(3, .ref (kad K (104 + r8))), (0, .ref (kad K 0)), (1, .int a1), (2, .int a2)] [.int r228]
                        cases h0
                        exact x_iret C R dX10_mark_184
                      · replace h0 := ob_neg c227 h0
                        refine x_aload_n C 0 dX10_mark_158 rfl ?_
                        refine x_cast_X8 C (ki_X8_ne c227) tw479 dX10_mark_159 ?_
                        refine x_astore (lv' := [(4, .ref (kad K (104 + r8))), (3, .ref (kad K (104 + r8))), (0, .ref (kad K 0)), (1, .int a1), (2, .int a2)]) C dX10_mark_162 (by rw [e5]; decide) rfl ?_
                        refine x_aload C 0 dX10_mark_164 rfl ?_
                        refine x_aload_n C 2 dX10_mark_166 rfl ?_
                        refine x_getR (j := 5) (i := 36) (q := (RX10, TX10, 18)) C 88 (iX 0 (by decide)) rfl rfl inBX10 (by decide) tw240 rfl dX10_mark_167 ?_
                        refine x_getRN (j := 3) (i := 182) (q := (RX7, TX7, 5)) (host := "CalledNumbers") C 136 (iX 88 (by decide)) rfl rfl inBX7 (by decide) twN170 rfl dX10_mark_170 ?_
                        refine x_iload_n C 3 dX10_mark_173 rfl ?_
                        obtain ⟨c231, h0⟩ := ob_if h0
                        refine x_iald C (iX 136 (by decide)) rfl (vin_in c231) dX10_mark_174 ?_
                        obtain ⟨r232, g233, h0⟩ := ob_bind h0
                        refine x_K_X8_pairsOn C (ki_X8_ne c227) g233 tw480 (by decide) (Nat.le_of_ble_eq_true rfl) dX10_mark_175 ?_
                        cases h0
                        exact x_iret C R dX10_mark_178
                  · replace h0 := ob_pos c220 h0
                    refine x_aload_n C 0 dX10_mark_131 rfl ?_
                    refine x_inst_X4 C (KB_X7_kindAt g9) tw478 dX10_mark_132 ?_
                    refine x_ifeq C 146 dX10_mark_135 (by decide) (fun c235 => ?_) (fun c235 => ?_)
                    · replace h0 := ob_pos c235 h0
                      refine x_iload_n C 3 dX10_mark_146 rfl ?_
                      refine x_iconst (v := 5) C dX10_mark_147 rfl ?_
                      refine x_icmpne C 179 dX10_mark_148 (by decide) (fun c237 => ?_) (fun c237 => ?_)
                      · replace h0 := ob_neg c237 h0
                        refine x_aload_n C 1 dX10_mark_179 rfl ?_
                        refine x_iconst (v := 3) C dX10_mark_180 rfl ?_
                        obtain ⟨r238, s240, g239, h0⟩ := ob_bd h0
                        refine x_callV (ar := 1) (q := (RX10, TX10, 18)) (rest := []) C (c_X10_found C.2.2.2.2.2.2.1  g239) (iX 0 (by decide)) rfl rfl hy_X10_found ⟨tw298, tw300, tw1, tw63, tw301⟩ (by decide) (by decide) rfl rfl (Nat.le_of_ble_eq_true rfl) dX10_mark_181 ?_
                        show Wx LX K s240 184 [(3, .ref (kad K (104 + r8))), (0, .ref (kad K 0)), (1, .int a1), (2, .int a2)] [.int r238]
                        cases h0
                        exact x_iret C R dX10_mark_184
                      · replace h0 := ob_pos c237 h0
                        refine x_aload_n C 0 dX10_mark_151 rfl ?_
                        refine x_inst_X8 C (KB_X7_kindAt g9) tw479 dX10_mark_152 ?_
                        refine x_ifeq C 179 dX10_mark_155 (by decide) (fun c242 => ?_) (fun c242 => ?_)
                        · replace h0 := ob_pos c242 h0
                          refine x_aload_n C 1 dX10_mark_179 rfl ?_
                          refine x_iconst (v := 3) C dX10_mark_180 rfl ?_
                          obtain ⟨r243, s245, g244, h0⟩ := ob_bd h0
                          refine x_callV (ar := 1) (q := (RX10, TX10, 18)) (rest := []) C (c_X10_found C.2.2.2.2.2.2.1  g244) (iX 0 (by decide)) rfl rfl hy_X10_found ⟨tw298, tw300, tw1, tw63, tw301⟩ (by decide) (by decide) rfl rfl (Nat.le_of_ble_eq_true rfl) dX10_mark_181 ?_
                          show Wx LX K s245 184 [(3, .ref (kad K (104 + r8))), (0, .ref (kad K 0)), (1, .int a1), (2, .int a2)] [.int r243]
                          cases h0
                          exact x_iret C R dX10_mark_184
                        · replace h0 := ob_neg c242 h0
                          refine x_aload_n C 0 dX10_mark_158 rfl ?_
                          refine x_cast_X8 C (ki_X8_ne c242) tw479 dX10_mark_159 ?_
                          refine x_astore (lv' := [(4, .ref (kad K (104 + r8))), (3, .ref (kad K (104 + r8))), (0, .ref (kad K 0)), (1, .int a1), (2, .int a2)]) C dX10_mark_162 (by rw [e5]; decide) rfl ?_
                          refine x_aload C 0 dX10_mark_164 rfl ?_
                          refine x_aload_n C 2 dX10_mark_166 rfl ?_
                          refine x_getR (j := 5) (i := 36) (q := (RX10, TX10, 18)) C 88 (iX 0 (by decide)) rfl rfl inBX10 (by decide) tw240 rfl dX10_mark_167 ?_
                          refine x_getRN (j := 3) (i := 182) (q := (RX7, TX7, 5)) (host := "CalledNumbers") C 136 (iX 88 (by decide)) rfl rfl inBX7 (by decide) twN170 rfl dX10_mark_170 ?_
                          refine x_iload_n C 3 dX10_mark_173 rfl ?_
                          obtain ⟨c246, h0⟩ := ob_if h0
                          refine x_iald C (iX 136 (by decide)) rfl (vin_in c246) dX10_mark_174 ?_
                          obtain ⟨r247, g248, h0⟩ := ob_bind h0
                          refine x_K_X8_pairsOn C (ki_X8_ne c242) g248 tw480 (by decide) (Nat.le_of_ble_eq_true rfl) dX10_mark_175 ?_
                          cases h0
                          exact x_iret C R dX10_mark_178
                    · replace h0 := ob_neg c235 h0
                      refine x_aload_n C 1 dX10_mark_138 rfl ?_
                      refine x_getR (j := 6) (i := 45) (q := (RX10, TX10, 18)) C (144 + 5) (iX 0 (by decide)) rfl rfl inBX10 (by decide) tw241 rfl dX10_mark_139 ?_
                      refine x_getIN (j := 4) (i := 177) (q := (RX2, TX2, 6)) (host := "CalledNumbers") C (iX18 (by decide)) (lX18 (by decide)) rfl inBX2 (by decide) twN199 rfl dX10_mark_142 ?_
                      cases h0
                      exact x_iret C R dX10_mark_145
                · replace h0 := ob_pos c218 h0
                  refine x_aload_n C 0 dX10_mark_98 rfl ?_
                  refine x_inst_X3 C (KB_X7_kindAt g9) tw473 dX10_mark_99 ?_
                  refine x_ifeq C 126 dX10_mark_102 (by decide) (fun c250 => ?_) (fun c250 => ?_)
                  · replace h0 := ob_pos c250 h0
                    refine x_iload_n C 3 dX10_mark_126 rfl ?_
                    refine x_iconst (v := 4) C dX10_mark_127 rfl ?_
                    refine x_icmpne C 146 dX10_mark_128 (by decide) (fun c252 => ?_) (fun c252 => ?_)
                    · replace h0 := ob_neg c252 h0
                      refine x_iload_n C 3 dX10_mark_146 rfl ?_
                      refine x_iconst (v := 5) C dX10_mark_147 rfl ?_
                      refine x_icmpne C 179 dX10_mark_148 (by decide) (fun c254 => ?_) (fun c254 => ?_)
                      · replace h0 := ob_neg c254 h0
                        refine x_aload_n C 1 dX10_mark_179 rfl ?_
                        refine x_iconst (v := 3) C dX10_mark_180 rfl ?_
                        obtain ⟨r255, s257, g256, h0⟩ := ob_bd h0
                        refine x_callV (ar := 1) (q := (RX10, TX10, 18)) (rest := []) C (c_X10_found C.2.2.2.2.2.2.1  g256) (iX 0 (by decide)) rfl rfl hy_X10_found ⟨tw298, tw300, tw1, tw63, tw301⟩ (by decide) (by decide) rfl rfl (Nat.le_of_ble_eq_true rfl) dX10_mark_181 ?_
                        show Wx LX K s257 184 [(3, .ref (kad K (104 + r8))), (0, .ref (kad K 0)), (1, .int a1), (2, .int a2)] [.int r255]
                        cases h0
                        exact x_iret C R dX10_mark_184
                      · replace h0 := ob_pos c254 h0
                        refine x_aload_n C 0 dX10_mark_151 rfl ?_
                        refine x_inst_X8 C (KB_X7_kindAt g9) tw479 dX10_mark_152 ?_
                        refine x_ifeq C 179 dX10_mark_155 (by decide) (fun c259 => ?_) (fun c259 => ?_)
                        · replace h0 := ob_pos c259 h0
                          refine x_aload_n C 1 dX10_mark_179 rfl ?_
                          refine x_iconst (v := 3) C dX10_mark_180 rfl ?_
                          obtain ⟨r260, s262, g261, h0⟩ := ob_bd h0
                          refine x_callV (ar := 1) (q := (RX10, TX10, 18)) (rest := []) C (c_X10_found C.2.2.2.2.2.2.1  g261) (iX 0 (by decide)) rfl rfl hy_X10_found ⟨tw298, tw300, tw1, tw63, tw301⟩ (by decide) (by decide) rfl rfl (Nat.le_of_ble_eq_true rfl) dX10_mark_181 ?_
                          show Wx LX K s262 184 [(3, .ref (kad K (104 + r8))), (0, .ref (kad K 0)), (1, .int a1), (2, .int a2)] [.int r260]
                          cases h0
                          exact x_iret C R dX10_mark_184
                        · replace h0 := ob_neg c259 h0
                          refine x_aload_n C 0 dX10_mark_158 rfl ?_
                          refine x_cast_X8 C (ki_X8_ne c259) tw479 dX10_mark_159 ?_
                          refine x_astore (lv' := [(4, .ref (kad K (104 + r8))), (3, .ref (kad K (104 + r8))), (0, .ref (kad K 0)), (1, .int a1), (2, .int a2)]) C dX10_mark_162 (by rw [e5]; decide) rfl ?_
                          refine x_aload C 0 dX10_mark_164 rfl ?_
                          refine x_aload_n C 2 dX10_mark_166 rfl ?_
                          refine x_getR (j := 5) (i := 36) (q := (RX10, TX10, 18)) C 88 (iX 0 (by decide)) rfl rfl inBX10 (by decide) tw240 rfl dX10_mark_167 ?_
                          refine x_getRN (j := 3) (i := 182) (q := (RX7, TX7, 5)) (host := "CalledNumbers") C 136 (iX 88 (by decide)) rfl rfl inBX7 (by decide) twN170 rfl dX10_mark_170 ?_
                          refine x_iload_n C 3 dX10_mark_173 rfl ?_
                          obtain ⟨c263, h0⟩ := ob_if h0
                          refine x_iald C (iX 136 (by decide)) rfl (vin_in c263) dX10_mark_174 ?_
                          obtain ⟨r264, g265, h0⟩ := ob_bind h0
                          refine x_K_X8_pairsOn C (ki_X8_ne c259) g265 tw480 (by decide) (Nat.le_of_ble_eq_true rfl) dX10_mark_175 ?_
                          cases h0
                          exact x_iret C R dX10_mark_178
                    · replace h0 := ob_pos c252 h0
                      refine x_aload_n C 0 dX10_mark_131 rfl ?_
                      refine x_inst_X4 C (KB_X7_kindAt g9) tw478 dX10_mark_132 ?_
                      refine x_ifeq C 146 dX10_mark_135 (by decide) (fun c267 => ?_) (fun c267 => ?_)
                      · replace h0 := ob_pos c267 h0
                        refine x_iload_n C 3 dX10_mark_146 rfl ?_
                        refine x_iconst (v := 5) C dX10_mark_147 rfl ?_
                        refine x_icmpne C 179 dX10_mark_148 (by decide) (fun c269 => ?_) (fun c269 => ?_)
                        · replace h0 := ob_neg c269 h0
                          refine x_aload_n C 1 dX10_mark_179 rfl ?_
                          refine x_iconst (v := 3) C dX10_mark_180 rfl ?_
                          obtain ⟨r270, s272, g271, h0⟩ := ob_bd h0
                          refine x_callV (ar := 1) (q := (RX10, TX10, 18)) (rest := []) C (c_X10_found C.2.2.2.2.2.2.1  g271) (iX 0 (by decide)) rfl rfl hy_X10_found ⟨tw298, tw300, tw1, tw63, tw301⟩ (by decide) (by decide) rfl rfl (Nat.le_of_ble_eq_true rfl) dX10_mark_181 ?_
                          show Wx LX K s272 184 [(3, .ref (kad K (104 + r8))), (0, .ref (kad K 0)), (1, .int a1), (2, .int a2)] [.int r270]
                          cases h0
                          exact x_iret C R dX10_mark_184
                        · replace h0 := ob_pos c269 h0
                          refine x_aload_n C 0 dX10_mark_151 rfl ?_
                          refine x_inst_X8 C (KB_X7_kindAt g9) tw479 dX10_mark_152 ?_
                          refine x_ifeq C 179 dX10_mark_155 (by decide) (fun c274 => ?_) (fun c274 => ?_)
                          · replace h0 := ob_pos c274 h0
                            refine x_aload_n C 1 dX10_mark_179 rfl ?_
                            refine x_iconst (v := 3) C dX10_mark_180 rfl ?_
                            obtain ⟨r275, s277, g276, h0⟩ := ob_bd h0
                            refine x_callV (ar := 1) (q := (RX10, TX10, 18)) (rest := []) C (c_X10_found C.2.2.2.2.2.2.1  g276) (iX 0 (by decide)) rfl rfl hy_X10_found ⟨tw298, tw300, tw1, tw63, tw301⟩ (by decide) (by decide) rfl rfl (Nat.le_of_ble_eq_true rfl) dX10_mark_181 ?_
                            show Wx LX K s277 184 [(3, .ref (kad K (104 + r8))), (0, .ref (kad K 0)), (1, .int a1), (2, .int a2)] [.int r275]
                            cases h0
                            exact x_iret C R dX10_mark_184
                          · replace h0 := ob_neg c274 h0
                            refine x_aload_n C 0 dX10_mark_158 rfl ?_
                            refine x_cast_X8 C (ki_X8_ne c274) tw479 dX10_mark_159 ?_
                            refine x_astore (lv' := [(4, .ref (kad K (104 + r8))), (3, .ref (kad K (104 + r8))), (0, .ref (kad K 0)), (1, .int a1), (2, .int a2)]) C dX10_mark_162 (by rw [e5]; decide) rfl ?_
                            refine x_aload C 0 dX10_mark_164 rfl ?_
                            refine x_aload_n C 2 dX10_mark_166 rfl ?_
                            refine x_getR (j := 5) (i := 36) (q := (RX10, TX10, 18)) C 88 (iX 0 (by decide)) rfl rfl inBX10 (by decide) tw240 rfl dX10_mark_167 ?_
                            refine x_getRN (j := 3) (i := 182) (q := (RX7, TX7, 5)) (host := "CalledNumbers") C 136 (iX 88 (by decide)) rfl rfl inBX7 (by decide) twN170 rfl dX10_mark_170 ?_
                            refine x_iload_n C 3 dX10_mark_173 rfl ?_
                            obtain ⟨c278, h0⟩ := ob_if h0
                            refine x_iald C (iX 136 (by decide)) rfl (vin_in c278) dX10_mark_174 ?_
                            obtain ⟨r279, g280, h0⟩ := ob_bind h0
                            refine x_K_X8_pairsOn C (ki_X8_ne c274) g280 tw480 (by decide) (Nat.le_of_ble_eq_true rfl) dX10_mark_175 ?_
                            cases h0
                            exact x_iret C R dX10_mark_178
                      · replace h0 := ob_neg c267 h0
                        refine x_aload_n C 1 dX10_mark_138 rfl ?_
                        refine x_getR (j := 6) (i := 45) (q := (RX10, TX10, 18)) C (144 + 5) (iX 0 (by decide)) rfl rfl inBX10 (by decide) tw241 rfl dX10_mark_139 ?_
                        refine x_getIN (j := 4) (i := 177) (q := (RX2, TX2, 6)) (host := "CalledNumbers") C (iX18 (by decide)) (lX18 (by decide)) rfl inBX2 (by decide) twN199 rfl dX10_mark_142 ?_
                        cases h0
                        exact x_iret C R dX10_mark_145
                  · replace h0 := ob_neg c250 h0
                    refine x_aload_n C 0 dX10_mark_105 rfl ?_
                    refine x_cast_X3 C (ki_X3_ne c250) tw473 dX10_mark_106 ?_
                    refine x_astore (lv' := [(4, .ref (kad K (104 + r8))), (3, .ref (kad K (104 + r8))), (0, .ref (kad K 0)), (1, .int a1), (2, .int a2)]) C dX10_mark_109 (by rw [e5]; decide) rfl ?_
                    refine x_aload C 0 dX10_mark_111 rfl ?_
                    refine x_aload_n C 2 dX10_mark_113 rfl ?_
                    refine x_getR (j := 6) (i := 45) (q := (RX10, TX10, 18)) C (144 + 5) (iX 0 (by decide)) rfl rfl inBX10 (by decide) tw241 rfl dX10_mark_114 ?_
                    refine x_getRN (j := 1) (i := 156) (q := (RX2, TX2, 6)) (host := "CalledNumbers") C (152 + 5) (iX18 (by decide)) (lX18 (by decide)) rfl inBX2 (by decide) twN193 rfl dX10_mark_117 ?_
                    refine x_iload_n C 3 dX10_mark_120 rfl ?_
                    obtain ⟨c281, h0⟩ := ob_if h0
                    refine x_iald C (iX19 (by decide)) (lX19 (by decide)) (vin_in c281) dX10_mark_121 ?_
                    refine x_K_X3_linesOfTwo C (ki_X3_ne c250) tw474 (by decide) (Nat.le_of_ble_eq_true rfl) dX10_mark_122 ?_
                    cases h0
                    exact x_iret C R dX10_mark_125
              · replace h0 := ob_neg c216 h0
                refine x_aload_n C 0 dX10_mark_74 rfl ?_
                refine x_cast_X0 C (ki_X0_ne c216) tw466 dX10_mark_75 ?_
                refine x_astore (lv' := [(4, .ref (kad K (104 + r8))), (3, .ref (kad K (104 + r8))), (0, .ref (kad K 0)), (1, .int a1), (2, .int a2)]) C dX10_mark_78 (by rw [e5]; decide) rfl ?_
                refine x_aload C 0 dX10_mark_80 rfl ?_
                refine x_aload_n C 2 dX10_mark_82 rfl ?_
                refine x_getR (j := 6) (i := 45) (q := (RX10, TX10, 18)) C (144 + 5) (iX 0 (by decide)) rfl rfl inBX10 (by decide) tw241 rfl dX10_mark_83 ?_
                refine x_getIN (j := 5) (i := 164) (q := (RX2, TX2, 6)) (host := "CalledNumbers") C (iX18 (by decide)) (lX18 (by decide)) rfl inBX2 (by decide) twN201 rfl dX10_mark_86 ?_
                refine x_K_X0_callsTillDeaf C (ki_X0_ne c216) tw467 (by decide) (Nat.le_of_ble_eq_true rfl) dX10_mark_89 ?_
                cases h0
                exact x_iret C R dX10_mark_92
          · replace h0 := ob_neg c147 h0
            refine x_aload_n C 0 dX10_mark_41 rfl ?_
            refine x_cast_X9 C (ki_X9_ne c147) tw464 dX10_mark_42 ?_
            refine x_astore (lv' := [(4, .ref (kad K (104 + r8))), (3, .ref (kad K (104 + r8))), (0, .ref (kad K 0)), (1, .int a1), (2, .int a2)]) C dX10_mark_45 (by rw [e5]; decide) rfl ?_
            refine x_aload C 0 dX10_mark_47 rfl ?_
            refine x_aload_n C 2 dX10_mark_49 rfl ?_
            refine x_getR (j := 6) (i := 45) (q := (RX10, TX10, 18)) C (144 + 5) (iX 0 (by decide)) rfl rfl inBX10 (by decide) tw241 rfl dX10_mark_50 ?_
            refine x_getRN (j := 1) (i := 156) (q := (RX2, TX2, 6)) (host := "CalledNumbers") C (152 + 5) (iX18 (by decide)) (lX18 (by decide)) rfl inBX2 (by decide) twN193 rfl dX10_mark_53 ?_
            refine x_iload_n C 3 dX10_mark_56 rfl ?_
            obtain ⟨c282, h0⟩ := ob_if h0
            refine x_iald C (iX19 (by decide)) (lX19 (by decide)) (vin_in c282) dX10_mark_57 ?_
            refine x_K_X9_lacks C (ki_X9_ne c147) tw465 (by decide) (Nat.le_of_ble_eq_true rfl) dX10_mark_58 ?_
            cases h0
            exact x_iret C R dX10_mark_61
      · replace h0 := ob_neg c7 h0
        refine x_iconst (v := (-1)) C dX10_mark_18 rfl ?_
        cases h0
        exact x_iret C R dX10_mark_19
