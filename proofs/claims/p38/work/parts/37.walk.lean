set_option maxHeartbeats 4000000 in
set_option maxRecDepth 100000 in
theorem c_X11_manyOf {l : Launch} {D : va_G} {ad : Nat → Nat} {cy : Nat → ClassId} (hJ : mJ LM ad) {σ : mS} {a1 : Int32} {r : Int32}  (h0 : X11_manyOf σ a1 = some r) : MetG l LM D ad cy yX11_manyOf cX11_manyOf 4 (some .int) 1 [.ref (ad 0), .int a1] σ (some (.int r)) σ := by
  refine MetG.of hJ (by decide +kernel) [(0, .ref (ad 0)), (1, .int a1)] rfl (Nat.le_of_ble_eq_true rfl) ?_
  intro K e1 e2 e3 e4 e5 C R
  subst e1
  subst e2
  subst e3
  subst e4
  unfold X11_manyOf at h0
  refine x_iconst (v := 0) C dX11_manyOf_0 rfl ?_
  refine x_istore_n (lv' := [(2, .int 0), (0, .ref (kad K 0)), (1, .int a1)]) C dX11_manyOf_1 (by rw [e5]; decide) rfl ?_
  refine x_iconst (v := 0) C dX11_manyOf_2 rfl ?_
  refine x_istore_n (lv' := [(3, .int 0), (2, .int 0), (0, .ref (kad K 0)), (1, .int a1)]) C dX11_manyOf_3 (by rw [e5]; decide) rfl ?_
  obtain ⟨e10, g11, h0⟩ := ob_bind h0
  have J1 : ∀ (y3 : Int32), y3 = e10 → Wx LM K σ 39 [(2, .int y3)] [] := by
    intro y3 e9
    subst e9
    replace h0 := un1_l h0
    refine x_iload_n C 0 dX11_manyOf_39 rfl ?_
    cases h0
    exact x_iret C R dX11_manyOf_40
  refine lp_G (G := fun q : Int32 × Int32 => Wx LM K σ 4 [(3, .int q.2), (2, .int q.1), (0, .ref (kad K 0)), (1, .int a1)] []) (fun q x h1 ihL1 ihR1 => ?_) big _ g11
  obtain ⟨x1, x2⟩ := q
  replace h1 : X11_manyOf_b4 σ a1 x1 x2 = some x := h1
  unfold X11_manyOf_b4 at h1
  show Wx LM K σ 4 [(3, .int x2), (2, .int x1), (0, .ref (kad K 0)), (1, .int a1)] []
  refine x_iload_n C 0 dX11_manyOf_4 rfl ?_
  refine x_aload_n C 2 dX11_manyOf_5 rfl ?_
  refine x_getI (j := 5) (i := 124) (q := (RX11, TX11, 22)) C (iM 0 (by decide)) rfl rfl inBX11 (by decide) tw768 rfl dX11_manyOf_6 ?_
  refine x_icmpge C 39 dX11_manyOf_9 (by decide) (fun c5 => ?_) (fun c5 => ?_)
  · replace h1 := ob_pos c5 h1
    refine x_lv (lv' := [(2, .int x1)]) [1] rfl ?_
    exact J1 _ (ihR1 _ (Option.some.inj h1).symm)
  · replace h1 := ob_neg c5 h1
    refine x_iload_n C 1 dX11_manyOf_12 rfl ?_
    refine x_aload_n C 2 dX11_manyOf_13 rfl ?_
    refine x_getR (j := 6) (i := 26) (q := (RX11, TX11, 22)) C 6 (iM 0 (by decide)) rfl rfl inBX11 (by decide) tw769 rfl dX11_manyOf_14 ?_
    refine x_iload_n C 0 dX11_manyOf_17 rfl ?_
    obtain ⟨c6, h1⟩ := ob_if h1
    refine x_iald C (iM 6 (by decide)) rfl (vin_in c6) dX11_manyOf_18 ?_
    refine x_iload_n C 3 dX11_manyOf_19 rfl ?_
    refine x_callS (ar := 2) (rest := [.int x1]) C (c_X11_isA C.2.2.2.2.2.2.1  rfl) hy_X11_isA ⟨tw942, tw943, tw75, tw944⟩ (by decide) (by decide) rfl rfl (Nat.le_of_ble_eq_true rfl) dX11_manyOf_20 ?_
    show Wx LM K σ 23 [(3, .int x2), (2, .int x1), (0, .ref (kad K 0)), (1, .int a1)] [.int (X11_isA (σ.1 6 x2.toNatClampNeg) a1), .int x1]
    refine x_ifeq C 30 dX11_manyOf_23 (by decide) (fun c9 => ?_) (fun c9 => ?_)
    · replace h1 := ob_pos c9 h1
      refine x_iconst (v := 0) C dX11_manyOf_30 rfl ?_
      refine x_iadd C dX11_manyOf_31 ?_
      refine x_istore_n (lv' := [(2, .int (x1 + 0)), (3, .int x2), (0, .ref (kad K 0)), (1, .int a1)]) C dX11_manyOf_32 (by rw [e5]; decide) rfl ?_
      refine x_iinc (v := (x2 + 1)) (lv' := [(3, .int (x2 + 1)), (2, .int (x1 + 0)), (0, .ref (kad K 0)), (1, .int a1)]) C 1 dX11_manyOf_33 rfl rfl (by rw [e5]; decide) rfl ?_
      refine x_goto C 4 dX11_manyOf_36 (by decide) ?_
      refine x_lv (lv' := [(3, .int (x2 + 1)), (2, .int (x1 + 0)), (0, .ref (kad K 0)), (1, .int a1)]) [0, 1, 2, 3] rfl ?_
      exact ihL1 _ (Option.some.inj h1).symm
    · replace h1 := ob_neg c9 h1
      refine x_iconst (v := 1) C dX11_manyOf_26 rfl ?_
      refine x_goto C 31 dX11_manyOf_27 (by decide) ?_
      refine x_iadd C dX11_manyOf_31 ?_
      refine x_istore_n (lv' := [(2, .int (x1 + 1)), (3, .int x2), (0, .ref (kad K 0)), (1, .int a1)]) C dX11_manyOf_32 (by rw [e5]; decide) rfl ?_
      refine x_iinc (v := (x2 + 1)) (lv' := [(3, .int (x2 + 1)), (2, .int (x1 + 1)), (0, .ref (kad K 0)), (1, .int a1)]) C 1 dX11_manyOf_33 rfl rfl (by rw [e5]; decide) rfl ?_
      refine x_goto C 4 dX11_manyOf_36 (by decide) ?_
      refine x_lv (lv' := [(3, .int (x2 + 1)), (2, .int (x1 + 1)), (0, .ref (kad K 0)), (1, .int a1)]) [0, 1, 2, 3] rfl ?_
      exact ihL1 _ (Option.some.inj h1).symm
set_option maxHeartbeats 4000000 in
set_option maxRecDepth 100000 in
theorem c_X11_allMarks {l : Launch} {D : va_G} {ad : Nat → Nat} {cy : Nat → ClassId} (hJ : mJ LM ad) {σ : mS}  {r : Int32}  (h0 : X11_allMarks σ = some r) : MetG l LM D ad cy yX11_allMarks cX11_allMarks 3 (some .int) 1 [.ref (ad 0)] σ (some (.int r)) σ := by
  refine MetG.of hJ (by decide +kernel) [(0, .ref (ad 0))] rfl (Nat.le_of_ble_eq_true rfl) ?_
  intro K e1 e2 e3 e4 e5 C R
  subst e1
  subst e2
  subst e3
  subst e4
  unfold X11_allMarks at h0
  refine x_iconst (v := 0) C dX11_allMarks_0 rfl ?_
  refine x_istore_n (lv' := [(1, .int 0), (0, .ref (kad K 0))]) C dX11_allMarks_1 (by rw [e5]; decide) rfl ?_
  refine x_iconst (v := 0) C dX11_allMarks_2 rfl ?_
  refine x_istore_n (lv' := [(2, .int 0), (1, .int 0), (0, .ref (kad K 0))]) C dX11_allMarks_3 (by rw [e5]; decide) rfl ?_
  obtain ⟨e9, g10, h0⟩ := ob_bind h0
  have J1 : ∀ (y3 : Int32), y3 = e9 → Wx LM K σ 30 [(1, .int y3)] [] := by
    intro y3 e9
    subst e9
    replace h0 := un1_l h0
    refine x_iload_n C 0 dX11_allMarks_30 rfl ?_
    cases h0
    exact x_iret C R dX11_allMarks_31
  refine lp_G (G := fun q : Int32 × Int32 => Wx LM K σ 4 [(2, .int q.2), (1, .int q.1), (0, .ref (kad K 0))] []) (fun q x h1 ihL1 ihR1 => ?_) big _ g10
  obtain ⟨x1, x2⟩ := q
  replace h1 : X11_allMarks_b4 σ x1 x2 = some x := h1
  unfold X11_allMarks_b4 at h1
  show Wx LM K σ 4 [(2, .int x2), (1, .int x1), (0, .ref (kad K 0))] []
  refine x_iload_n C 0 dX11_allMarks_4 rfl ?_
  refine x_aload_n C 2 dX11_allMarks_5 rfl ?_
  refine x_getI (j := 5) (i := 124) (q := (RX11, TX11, 22)) C (iM 0 (by decide)) rfl rfl inBX11 (by decide) tw768 rfl dX11_allMarks_6 ?_
  refine x_icmpge C 30 dX11_allMarks_9 (by decide) (fun c5 => ?_) (fun c5 => ?_)
  · replace h1 := ob_pos c5 h1
    refine x_lv (lv' := [(1, .int x1)]) [1] rfl ?_
    exact J1 _ (ihR1 _ (Option.some.inj h1).symm)
  · replace h1 := ob_neg c5 h1
    refine x_iload_n C 1 dX11_allMarks_12 rfl ?_
    refine x_aload_n C 2 dX11_allMarks_13 rfl ?_
    refine x_getR (j := 11) (i := 38) (q := (RX11, TX11, 22)) C 10 (iM 0 (by decide)) rfl rfl inBX11 (by decide) tw774 rfl dX11_allMarks_14 ?_
    refine x_iload_n C 0 dX11_allMarks_17 rfl ?_
    obtain ⟨c6, h1⟩ := ob_if h1
    refine x_iald C (iM 10 (by decide)) rfl (vin_in c6) dX11_allMarks_18 ?_
    obtain ⟨r7, g8, h1⟩ := ob_bind h1
    refine x_callS (ar := 1) (rest := [.int x1]) C (c_X11_bits C.2.2.2.2.2.2.1  g8) hy_X11_bits ⟨tw936, tw937, tw75, tw938⟩ (by decide) (by decide) rfl rfl (Nat.le_of_ble_eq_true rfl) dX11_allMarks_19 ?_
    show Wx LM K σ 22 [(2, .int x2), (1, .int x1), (0, .ref (kad K 0))] [.int r7, .int x1]
    refine x_iadd C dX11_allMarks_22 ?_
    refine x_istore_n (lv' := [(1, .int (x1 + r7)), (2, .int x2), (0, .ref (kad K 0))]) C dX11_allMarks_23 (by rw [e5]; decide) rfl ?_
    refine x_iinc (v := (x2 + 1)) (lv' := [(2, .int (x2 + 1)), (1, .int (x1 + r7)), (0, .ref (kad K 0))]) C 1 dX11_allMarks_24 rfl rfl (by rw [e5]; decide) rfl ?_
    refine x_goto C 4 dX11_allMarks_27 (by decide) ?_
    refine x_lv (lv' := [(2, .int (x2 + 1)), (1, .int (x1 + r7)), (0, .ref (kad K 0))]) [0, 1, 2] rfl ?_
    exact ihL1 _ (Option.some.inj h1).symm
set_option maxHeartbeats 4000000 in
set_option maxRecDepth 100000 in
theorem c_X11_thereAre {l : Launch} {D : va_G} {ad : Nat → Nat} {cy : Nat → ClassId} (hJ : mJ LM ad) {σ : mS} {a1 : Int32} {r : Int32}  (h0 : X11_thereAre σ a1 = some r) : MetG l LM D ad cy yX11_thereAre cX11_thereAre 4 (some .int) 0 [.ref (ad 0), .int a1] σ (some (.int r)) σ := by
  refine MetG.of hJ (by decide +kernel) [(0, .ref (ad 0)), (1, .int a1)] rfl (Nat.le_of_ble_eq_true rfl) ?_
  intro K e1 e2 e3 e4 e5 C R
  subst e1
  subst e2
  subst e3
  subst e4
  unfold X11_thereAre at h0
  refine x_iconst (v := 0) C dX11_thereAre_0 rfl ?_
  refine x_istore_n (lv' := [(2, .int 0), (0, .ref (kad K 0)), (1, .int a1)]) C dX11_thereAre_1 (by rw [e5]; decide) rfl ?_
  refine x_iconst (v := 0) C dX11_thereAre_2 rfl ?_
  refine x_istore_n (lv' := [(3, .int 0), (2, .int 0), (0, .ref (kad K 0)), (1, .int a1)]) C dX11_thereAre_3 (by rw [e5]; decide) rfl ?_
  obtain ⟨e34, g35, h0⟩ := ob_bind h0
  have J1 : ∀ (y3 : Int32), y3 = e34 → Wx LM K σ 83 [(2, .int y3)] [] := by
    intro y3 e9
    subst e9
    replace h0 := un1_l h0
    refine x_iload_n C 0 dX11_thereAre_83 rfl ?_
    cases h0
    exact x_iret C R dX11_thereAre_84
  refine lp_G (G := fun q : Int32 × Int32 => Wx LM K σ 4 [(3, .int q.2), (2, .int q.1), (0, .ref (kad K 0)), (1, .int a1)] []) (fun q x h1 ihL1 ihR1 => ?_) big _ g35
  obtain ⟨x1, x2⟩ := q
  replace h1 : X11_thereAre_b4 σ a1 x1 x2 = some x := h1
  unfold X11_thereAre_b4 at h1
  show Wx LM K σ 4 [(3, .int x2), (2, .int x1), (0, .ref (kad K 0)), (1, .int a1)] []
  refine x_iload_n C 0 dX11_thereAre_4 rfl ?_
  refine x_iload_n C 3 dX11_thereAre_5 rfl ?_
  refine x_bipush (v := 9) C dX11_thereAre_6 rfl ?_
  obtain ⟨e29, g28, h1⟩ := ob_un h1
  have J30 : ∀ (v8 : Int32), v8 = e29 → Wx LM K σ 27 [(3, .int x2), (2, .int x1), (0, .ref (kad K 0)), (1, .int a1)] [.int v8, .int x2] := by
    intro v8 e9
    subst e9
    replace h1 := un1_l h1
    refine x_icmpge C 83 dX11_thereAre_27 (by decide) (fun c10 => ?_) (fun c10 => ?_)
    · replace h1 := ob_pos c10 h1
      refine x_lv (lv' := [(2, .int x1)]) [1] rfl ?_
      exact J1 _ (ihR1 _ (Option.some.inj h1).symm)
    · replace h1 := ob_neg c10 h1
      refine x_iload_n C 1 dX11_thereAre_30 rfl ?_
      refine x_iload_n C 3 dX11_thereAre_31 rfl ?_
      refine x_bipush (v := 9) C dX11_thereAre_32 rfl ?_
      obtain ⟨e20, g19, h1⟩ := ob_bind h1
      have J21 : ∀ (v16 : Int32), v16 = e20 → Wx LM K σ 67 [(3, .int x2), (0, .ref (kad K 0)), (1, .int a1)] [.int v16, .int x1] := by
        intro v16 e9
        subst e9
        replace h1 := un1_l h1
        refine x_ifge C 74 dX11_thereAre_67 (by decide) (fun c18 => ?_) (fun c18 => ?_)
        · replace h1 := ob_pos c18 h1
          refine x_iconst (v := 1) C dX11_thereAre_74 rfl ?_
          refine x_iadd C dX11_thereAre_75 ?_
          refine x_istore_n (lv' := [(2, .int (x1 + 1)), (3, .int x2), (0, .ref (kad K 0)), (1, .int a1)]) C dX11_thereAre_76 (by rw [e5]; decide) rfl ?_
          refine x_iinc (v := (x2 + 1)) (lv' := [(3, .int (x2 + 1)), (2, .int (x1 + 1)), (0, .ref (kad K 0)), (1, .int a1)]) C 1 dX11_thereAre_77 rfl rfl (by rw [e5]; decide) rfl ?_
          refine x_goto C 4 dX11_thereAre_80 (by decide) ?_
          refine x_lv (lv' := [(3, .int (x2 + 1)), (2, .int (x1 + 1)), (0, .ref (kad K 0)), (1, .int a1)]) [0, 1, 2, 3] rfl ?_
          exact ihL1 _ (Option.some.inj h1).symm
        · replace h1 := ob_neg c18 h1
          refine x_iconst (v := 0) C dX11_thereAre_70 rfl ?_
          refine x_goto C 75 dX11_thereAre_71 (by decide) ?_
          refine x_iadd C dX11_thereAre_75 ?_
          refine x_istore_n (lv' := [(2, .int (x1 + 0)), (3, .int x2), (0, .ref (kad K 0)), (1, .int a1)]) C dX11_thereAre_76 (by rw [e5]; decide) rfl ?_
          refine x_iinc (v := (x2 + 1)) (lv' := [(3, .int (x2 + 1)), (2, .int (x1 + 0)), (0, .ref (kad K 0)), (1, .int a1)]) C 1 dX11_thereAre_77 rfl rfl (by rw [e5]; decide) rfl ?_
          refine x_goto C 4 dX11_thereAre_80 (by decide) ?_
          refine x_lv (lv' := [(3, .int (x2 + 1)), (2, .int (x1 + 0)), (0, .ref (kad K 0)), (1, .int a1)]) [0, 1, 2, 3] rfl ?_
          exact ihL1 _ (Option.some.inj h1).symm
      refine x_icmpne C 46 dX11_thereAre_34 (by decide) (fun c22 => ?_) (fun c22 => ?_)
      · replace g19 := ob_neg c22 g19
        refine x_iload_n C 3 dX11_thereAre_46 rfl ?_
        refine x_bipush (v := 10) C dX11_thereAre_47 rfl ?_
        refine x_icmpne C 61 dX11_thereAre_49 (by decide) (fun c24 => ?_) (fun c24 => ?_)
        · replace g19 := ob_neg c24 g19
          refine x_aload_n C 2 dX11_thereAre_61 rfl ?_
          refine x_getR (j := 13) (i := 41) (q := (RX11, TX11, 22)) C 11 (iM 0 (by decide)) rfl rfl inBX11 (by decide) tw776 rfl dX11_thereAre_62 ?_
          refine x_iload_n C 0 dX11_thereAre_65 rfl ?_
          obtain ⟨c25, g19⟩ := ob_if g19
          refine x_iald C (iM 11 (by decide)) rfl (vin_in c25) dX11_thereAre_66 ?_
          refine x_lv (lv' := [(3, .int x2), (0, .ref (kad K 0)), (1, .int a1)]) [0, 2, 3] rfl ?_
          exact J21 _ (Option.some.inj g19)
        · replace g19 := ob_pos c24 g19
          refine x_aload_n C 2 dX11_thereAre_52 rfl ?_
          refine x_getR (j := 3) (i := 19) (q := (RX11, TX11, 22)) C 4 (iM 0 (by decide)) rfl rfl inBX11 (by decide) tw766 rfl dX11_thereAre_53 ?_
          refine x_iload_n C 0 dX11_thereAre_56 rfl ?_
          obtain ⟨c26, g19⟩ := ob_if g19
          refine x_iald C (iM 4 (by decide)) rfl (vin_in c26) dX11_thereAre_57 ?_
          refine x_goto C 67 dX11_thereAre_58 (by decide) ?_
          refine x_lv (lv' := [(3, .int x2), (0, .ref (kad K 0)), (1, .int a1)]) [0, 2, 3] rfl ?_
          exact J21 _ (Option.some.inj g19)
      · replace g19 := ob_pos c22 g19
        refine x_aload_n C 2 dX11_thereAre_37 rfl ?_
        refine x_getR (j := 0) (i := 7) (q := (RX11, TX11, 22)) C 1 (iM 0 (by decide)) rfl rfl inBX11 (by decide) tw763 rfl dX11_thereAre_38 ?_
        refine x_iload_n C 0 dX11_thereAre_41 rfl ?_
        obtain ⟨c27, g19⟩ := ob_if g19
        refine x_iald C (iM 1 (by decide)) rfl (vin_in c27) dX11_thereAre_42 ?_
        refine x_goto C 67 dX11_thereAre_43 (by decide) ?_
        refine x_lv (lv' := [(3, .int x2), (0, .ref (kad K 0)), (1, .int a1)]) [0, 2, 3] rfl ?_
        exact J21 _ (Option.some.inj g19)
  refine x_icmpne C 16 dX11_thereAre_8 (by decide) (fun c31 => ?_) (fun c31 => ?_)
  · replace g28 := ob_neg c31 g28
    refine x_iload_n C 3 dX11_thereAre_16 rfl ?_
    refine x_bipush (v := 10) C dX11_thereAre_17 rfl ?_
    refine x_icmpne C 26 dX11_thereAre_19 (by decide) (fun c33 => ?_) (fun c33 => ?_)
    · replace g28 := ob_neg c33 g28
      refine x_iconst (v := 3) C dX11_thereAre_26 rfl ?_
      refine x_lv (lv' := [(3, .int x2), (2, .int x1), (0, .ref (kad K 0)), (1, .int a1)]) [0, 1, 2, 3] rfl ?_
      exact J30 _ g28
    · replace g28 := ob_pos c33 g28
      refine x_iconst (v := 4) C dX11_thereAre_22 rfl ?_
      refine x_goto C 27 dX11_thereAre_23 (by decide) ?_
      refine x_lv (lv' := [(3, .int x2), (2, .int x1), (0, .ref (kad K 0)), (1, .int a1)]) [0, 1, 2, 3] rfl ?_
      exact J30 _ g28
  · replace g28 := ob_pos c31 g28
    refine x_bipush (v := 6) C dX11_thereAre_11 rfl ?_
    refine x_goto C 27 dX11_thereAre_13 (by decide) ?_
    refine x_lv (lv' := [(3, .int x2), (2, .int x1), (0, .ref (kad K 0)), (1, .int a1)]) [0, 1, 2, 3] rfl ?_
    exact J30 _ g28
set_option maxHeartbeats 4000000 in
set_option maxRecDepth 100000 in
theorem c_X11_countOf {l : Launch} {D : va_G} {ad : Nat → Nat} {cy : Nat → ClassId} (hJ : mJ LM ad) {σ : mS} {a1 : Int32} {r : Int32}  (h0 : X11_countOf σ a1 = some r) : MetG l LM D ad cy yX11_countOf cX11_countOf 2 (some .int) 2 [.ref (ad 0), .int a1] σ (some (.int r)) σ := by
  refine MetG.of hJ (by decide +kernel) [(0, .ref (ad 0)), (1, .int a1)] rfl (Nat.le_of_ble_eq_true rfl) ?_
  intro K e1 e2 e3 e4 e5 C R
  subst e1
  subst e2
  subst e3
  subst e4
  unfold X11_countOf at h0
  refine x_iload_n C 1 dX11_countOf_0 rfl ?_
  refine x_bipush (v := 8) C dX11_countOf_1 rfl ?_
  refine x_icmple C 12 dX11_countOf_3 (by decide) (fun c2 => ?_) (fun c2 => ?_)
  · replace h0 := ob_pos c2 h0
    refine x_iload_n C 1 dX11_countOf_12 rfl ?_
    refine x_ifne C 23 dX11_countOf_13 (by decide) (fun c4 => ?_) (fun c4 => ?_)
    · replace h0 := ob_neg c4 h0
      refine x_iload_n C 1 dX11_countOf_23 rfl ?_
      refine x_iconst (v := 1) C dX11_countOf_24 rfl ?_
      refine x_icmpne C 38 dX11_countOf_25 (by decide) (fun c6 => ?_) (fun c6 => ?_)
      · replace h0 := ob_neg c6 h0
        refine x_iload_n C 1 dX11_countOf_38 rfl ?_
        refine x_iconst (v := 2) C dX11_countOf_39 rfl ?_
        refine x_icmpne C 50 dX11_countOf_40 (by decide) (fun c8 => ?_) (fun c8 => ?_)
        · replace h0 := ob_neg c8 h0
          refine x_iload_n C 1 dX11_countOf_50 rfl ?_
          refine x_iconst (v := 3) C dX11_countOf_51 rfl ?_
          refine x_icmpne C 64 dX11_countOf_52 (by decide) (fun c10 => ?_) (fun c10 => ?_)
          · replace h0 := ob_neg c10 h0
            refine x_iload_n C 1 dX11_countOf_64 rfl ?_
            refine x_iconst (v := 4) C dX11_countOf_65 rfl ?_
            refine x_icmpne C 79 dX11_countOf_66 (by decide) (fun c12 => ?_) (fun c12 => ?_)
            · replace h0 := ob_neg c12 h0
              refine x_iload_n C 1 dX11_countOf_79 rfl ?_
              refine x_iconst (v := 5) C dX11_countOf_80 rfl ?_
              refine x_icmpne C 93 dX11_countOf_81 (by decide) (fun c14 => ?_) (fun c14 => ?_)
              · replace h0 := ob_neg c14 h0
                refine x_iload_n C 1 dX11_countOf_93 rfl ?_
                refine x_bipush (v := 6) C dX11_countOf_94 rfl ?_
                refine x_icmpne C 106 dX11_countOf_96 (by decide) (fun c16 => ?_) (fun c16 => ?_)
                · replace h0 := ob_neg c16 h0
                  refine x_iload_n C 1 dX11_countOf_106 rfl ?_
                  refine x_bipush (v := 7) C dX11_countOf_107 rfl ?_
                  refine x_icmpne C 120 dX11_countOf_109 (by decide) (fun c18 => ?_) (fun c18 => ?_)
                  · replace h0 := ob_neg c18 h0
                    refine x_aload_n C 0 dX11_countOf_120 rfl ?_
                    refine x_iconst (v := 2) C dX11_countOf_121 rfl ?_
                    obtain ⟨r19, g20, h0⟩ := ob_bind h0
                    refine x_callV (ar := 1) (q := (RX11, TX11, 22)) (rest := []) C (c_X11_manyOf C.2.2.2.2.2.2.1  g20) (iM 0 (by decide)) rfl rfl hy_X11_manyOf ⟨tw1120, tw1122, tw61, tw75, tw1123⟩ (by decide) (by decide) rfl rfl (Nat.le_of_ble_eq_true rfl) dX11_countOf_122 ?_
                    show Wx LM K σ 125 [(0, .ref (kad K 0)), (1, .int a1)] [.int r19]
                    cases h0
                    exact x_iret C R dX11_countOf_125
                  · replace h0 := ob_pos c18 h0
                    refine x_aload_n C 0 dX11_countOf_112 rfl ?_
                    refine x_iconst (v := 1) C dX11_countOf_113 rfl ?_
                    obtain ⟨r21, g22, h0⟩ := ob_bind h0
                    refine x_callV (ar := 1) (q := (RX11, TX11, 22)) (rest := []) C (c_X11_manyOf C.2.2.2.2.2.2.1  g22) (iM 0 (by decide)) rfl rfl hy_X11_manyOf ⟨tw1120, tw1122, tw61, tw75, tw1123⟩ (by decide) (by decide) rfl rfl (Nat.le_of_ble_eq_true rfl) dX11_countOf_114 ?_
                    show Wx LM K σ 117 [(0, .ref (kad K 0)), (1, .int a1)] [.int r21]
                    refine x_goto C 125 dX11_countOf_117 (by decide) ?_
                    cases h0
                    exact x_iret C R dX11_countOf_125
                · replace h0 := ob_pos c16 h0
                  refine x_aload_n C 0 dX11_countOf_99 rfl ?_
                  obtain ⟨r23, g24, h0⟩ := ob_bind h0
                  refine x_callV (ar := 0) (q := (RX11, TX11, 22)) (rest := []) C (c_X11_allMarks C.2.2.2.2.2.2.1  g24) (iM 0 (by decide)) rfl rfl hy_X11_allMarks ⟨tw1116, tw1118, tw60, tw75, tw1119⟩ (by decide) (by decide) rfl rfl (Nat.le_of_ble_eq_true rfl) dX11_countOf_100 ?_
                  show Wx LM K σ 103 [(0, .ref (kad K 0)), (1, .int a1)] [.int r23]
                  refine x_goto C 125 dX11_countOf_103 (by decide) ?_
                  cases h0
                  exact x_iret C R dX11_countOf_125
              · replace h0 := ob_pos c14 h0
                refine x_aload_n C 0 dX11_countOf_84 rfl ?_
                refine x_getR (j := 11) (i := 38) (q := (RX11, TX11, 22)) C 10 (iM 0 (by decide)) rfl rfl inBX11 (by decide) tw774 rfl dX11_countOf_85 ?_
                refine x_iconst (v := 4) C dX11_countOf_88 rfl ?_
                obtain ⟨c25, h0⟩ := ob_if h0
                refine x_iald C (iM 10 (by decide)) rfl (vin_in c25) dX11_countOf_89 ?_
                refine x_goto C 125 dX11_countOf_90 (by decide) ?_
                cases h0
                exact x_iret C R dX11_countOf_125
            · replace h0 := ob_pos c12 h0
              refine x_aload_n C 0 dX11_countOf_69 rfl ?_
              refine x_getR (j := 11) (i := 38) (q := (RX11, TX11, 22)) C 10 (iM 0 (by decide)) rfl rfl inBX11 (by decide) tw774 rfl dX11_countOf_70 ?_
              refine x_bipush (v := 7) C dX11_countOf_73 rfl ?_
              obtain ⟨c26, h0⟩ := ob_if h0
              refine x_iald C (iM 10 (by decide)) rfl (vin_in c26) dX11_countOf_75 ?_
              refine x_goto C 125 dX11_countOf_76 (by decide) ?_
              cases h0
              exact x_iret C R dX11_countOf_125
          · replace h0 := ob_pos c10 h0
            refine x_aload_n C 0 dX11_countOf_55 rfl ?_
            refine x_getR (j := 11) (i := 38) (q := (RX11, TX11, 22)) C 10 (iM 0 (by decide)) rfl rfl inBX11 (by decide) tw774 rfl dX11_countOf_56 ?_
            refine x_iconst (v := 5) C dX11_countOf_59 rfl ?_
            obtain ⟨c27, h0⟩ := ob_if h0
            refine x_iald C (iM 10 (by decide)) rfl (vin_in c27) dX11_countOf_60 ?_
            refine x_goto C 125 dX11_countOf_61 (by decide) ?_
            cases h0
            exact x_iret C R dX11_countOf_125
        · replace h0 := ob_pos c8 h0
          refine x_aload_n C 0 dX11_countOf_43 rfl ?_
          refine x_getI (j := 12) (i := 127) (q := (RX11, TX11, 22)) C (iM 0 (by decide)) rfl rfl inBX11 (by decide) tw775 rfl dX11_countOf_44 ?_
          refine x_goto C 125 dX11_countOf_47 (by decide) ?_
          cases h0
          exact x_iret C R dX11_countOf_125
      · replace h0 := ob_pos c6 h0
        refine x_aload_n C 0 dX11_countOf_28 rfl ?_
        refine x_getR (j := 11) (i := 38) (q := (RX11, TX11, 22)) C 10 (iM 0 (by decide)) rfl rfl inBX11 (by decide) tw774 rfl dX11_countOf_29 ?_
        refine x_bipush (v := 6) C dX11_countOf_32 rfl ?_
        obtain ⟨c28, h0⟩ := ob_if h0
        refine x_iald C (iM 10 (by decide)) rfl (vin_in c28) dX11_countOf_34 ?_
        refine x_goto C 125 dX11_countOf_35 (by decide) ?_
        cases h0
        exact x_iret C R dX11_countOf_125
    · replace h0 := ob_pos c4 h0
      refine x_aload_n C 0 dX11_countOf_16 rfl ?_
      refine x_getI (j := 5) (i := 124) (q := (RX11, TX11, 22)) C (iM 0 (by decide)) rfl rfl inBX11 (by decide) tw768 rfl dX11_countOf_17 ?_
      refine x_goto C 125 dX11_countOf_20 (by decide) ?_
      cases h0
      exact x_iret C R dX11_countOf_125
  · replace h0 := ob_neg c2 h0
    refine x_aload_n C 0 dX11_countOf_6 rfl ?_
    refine x_iload_n C 1 dX11_countOf_7 rfl ?_
    obtain ⟨r29, g30, h0⟩ := ob_bind h0
    refine x_callV (ar := 1) (q := (RX11, TX11, 22)) (rest := []) C (c_X11_thereAre C.2.2.2.2.2.2.1  g30) (iM 0 (by decide)) rfl rfl hy_X11_thereAre ⟨tw1112, tw1114, tw59, tw75, tw1115⟩ (by decide) (by decide) rfl rfl (Nat.le_of_ble_eq_true rfl) dX11_countOf_8 ?_
    show Wx LM K σ 11 [(0, .ref (kad K 0)), (1, .int a1)] [.int r29]
    cases h0
    exact x_iret C R dX11_countOf_11
set_option maxHeartbeats 4000000 in
set_option maxRecDepth 100000 in
theorem c_X11_count {l : Launch} {D : va_G} {ad : Nat → Nat} {cy : Nat → ClassId} (hJ : mJ LM ad) {σ : mS} {a1 : Int32} {r : Int32}  (h0 : X11_count σ a1 = some r) : MetG l LM D ad cy yX11_count cX11_count 2 (some .int) 3 [.ref (ad 0), .int a1] σ (some (.int r)) σ := by
  refine MetG.of hJ (by decide +kernel) [(0, .ref (ad 0)), (1, .int a1)] rfl (Nat.le_of_ble_eq_true rfl) ?_
  intro K e1 e2 e3 e4 e5 C R
  subst e1
  subst e2
  subst e3
  subst e4
  unfold X11_count at h0
  refine x_iload_n C 1 dX11_count_0 rfl ?_
  refine x_i2l C dX11_count_1 ?_
  refine x_lconst (v := 0) C dX11_count_2 rfl ?_
  refine x_ldc2 C tw1107 dX11_count_3 ?_
  refine x_callS (ar := 3) (rest := []) C (c_X11_in C.2.2.2.2.2.2.1  rfl) hy_X11_in ⟨tw839, tw840, tw75, tw841⟩ (by decide) (by decide) rfl rfl (Nat.le_of_ble_eq_true rfl) dX11_count_6 ?_
  show Wx LM K σ 9 [(0, .ref (kad K 0)), (1, .int a1)] [.int (X11_in ((a1).toInt64) (0) (11))]
  refine x_ifeq C 20 dX11_count_9 (by decide) (fun c3 => ?_) (fun c3 => ?_)
  · replace h0 := ob_pos c3 h0
    refine x_iconst (v := (-1)) C dX11_count_20 rfl ?_
    cases h0
    exact x_iret C R dX11_count_21
  · replace h0 := ob_neg c3 h0
    refine x_aload_n C 0 dX11_count_12 rfl ?_
    refine x_iload_n C 1 dX11_count_13 rfl ?_
    obtain ⟨r4, g5, h0⟩ := ob_bind h0
    refine x_callV (ar := 1) (q := (RX11, TX11, 22)) (rest := []) C (c_X11_countOf C.2.2.2.2.2.2.1  g5) (iM 0 (by decide)) rfl rfl hy_X11_countOf ⟨tw1108, tw1110, tw58, tw75, tw1111⟩ (by decide) (by decide) rfl rfl (Nat.le_of_ble_eq_true rfl) dX11_count_14 ?_
    show Wx LM K σ 17 [(0, .ref (kad K 0)), (1, .int a1)] [.int r4]
    refine x_goto C 21 dX11_count_17 (by decide) ?_
    cases h0
    exact x_iret C R dX11_count_21
set_option maxHeartbeats 4000000 in
set_option maxRecDepth 100000 in
theorem c_X11_finding {l : Launch} {D : va_G} {ad : Nat → Nat} {cy : Nat → ClassId} (hJ : mJ LM ad) {σ : mS}  {r : Int32}  (h0 : X11_finding σ = r) : MetG l LM D ad cy yX11_finding cX11_finding 1 (some .int) 0 [.ref (ad 0)] σ (some (.int r)) σ := by
  refine MetG.of hJ (by decide +kernel) [(0, .ref (ad 0))] rfl (Nat.le_of_ble_eq_true rfl) ?_
  intro K e1 e2 e3 e4 e5 C R
  subst e1
  subst e2
  subst e3
  subst e4
  unfold X11_finding at h0
  refine x_aload_n C 0 dX11_finding_0 rfl ?_
  refine x_getI (j := 17) (i := 60) (q := (RX11, TX11, 22)) C (iM 0 (by decide)) rfl rfl inBX11 (by decide) tw780 rfl dX11_finding_1 ?_
  subst h0
  exact x_iret C R dX11_finding_4
set_option maxHeartbeats 4000000 in
set_option maxRecDepth 100000 in
theorem c_X11_findings {l : Launch} {D : va_G} {ad : Nat → Nat} {cy : Nat → ClassId} (hJ : mJ LM ad) {σ : mS} {a1 : Int32} {r : Int32}  (h0 : X11_findings σ a1 = some r) : MetG l LM D ad cy yX11_findings cX11_findings 2 (some .int) 1 [.ref (ad 0), .int a1] σ (some (.int r)) σ := by
  refine MetG.of hJ (by decide +kernel) [(0, .ref (ad 0)), (1, .int a1)] rfl (Nat.le_of_ble_eq_true rfl) ?_
  intro K e1 e2 e3 e4 e5 C R
  subst e1
  subst e2
  subst e3
  subst e4
  unfold X11_findings at h0
  refine x_iload_n C 1 dX11_findings_0 rfl ?_
  refine x_i2l C dX11_findings_1 ?_
  refine x_lconst (v := 1) C dX11_findings_2 rfl ?_
  refine x_ldc2 C tw838 dX11_findings_3 ?_
  refine x_callS (ar := 3) (rest := []) C (c_X11_in C.2.2.2.2.2.2.1  rfl) hy_X11_in ⟨tw839, tw840, tw75, tw841⟩ (by decide) (by decide) rfl rfl (Nat.le_of_ble_eq_true rfl) dX11_findings_6 ?_
  show Wx LM K σ 9 [(0, .ref (kad K 0)), (1, .int a1)] [.int (X11_in ((a1).toInt64) (1) (5))]
  refine x_ifeq C 21 dX11_findings_9 (by decide) (fun c3 => ?_) (fun c3 => ?_)
  · replace h0 := ob_pos c3 h0
    refine x_iconst (v := (-1)) C dX11_findings_21 rfl ?_
    cases h0
    exact x_iret C R dX11_findings_22
  · replace h0 := ob_neg c3 h0
    refine x_aload_n C 0 dX11_findings_12 rfl ?_
    refine x_getR (j := 18) (i := 48) (q := (RX11, TX11, 22)) C 12 (iM 0 (by decide)) rfl rfl inBX11 (by decide) tw781 rfl dX11_findings_13 ?_
    refine x_iload_n C 1 dX11_findings_16 rfl ?_
    obtain ⟨c4, h0⟩ := ob_if h0
    refine x_iald C (iM 12 (by decide)) rfl (vin_in c4) dX11_findings_17 ?_
    refine x_goto C 22 dX11_findings_18 (by decide) ?_
    cases h0
    exact x_iret C R dX11_findings_22
set_option maxHeartbeats 4000000 in
set_option maxRecDepth 100000 in
theorem c_X11_digest {l : Launch} {D : va_G} {ad : Nat → Nat} {cy : Nat → ClassId} (hJ : mJ LM ad) {σ : mS}  {r : Int64}  (h0 : X11_digest σ = some r) : MetG l LM D ad cy yX11_digest cX11_digest 5 (some .long) 3 [.ref (ad 0)] σ (some (.long r)) σ := by
  refine MetG.of hJ (by decide +kernel) [(0, .ref (ad 0))] rfl (Nat.le_of_ble_eq_true rfl) ?_
  intro K e1 e2 e3 e4 e5 C R
  subst e1
  subst e2
  subst e3
  subst e4
  unfold X11_digest at h0
  refine x_ldc2 C tw1136 dX11_digest_0 ?_
  refine x_lstore_n (lv' := [(1, .long 17), (0, .ref (kad K 0))]) C dX11_digest_3 (by rw [e5]; decide) rfl ?_
  refine x_iconst (v := 0) C dX11_digest_4 rfl ?_
  refine x_istore_n (lv' := [(3, .int 0), (1, .long 17), (0, .ref (kad K 0))]) C dX11_digest_5 (by rw [e5]; decide) rfl ?_
  obtain ⟨e74, g75, h0⟩ := ob_bind h0
  have J1 : ∀ (y3 : Int64), y3 = e74 → Wx LM K σ 31 [(1, .long y3), (0, .ref (kad K 0))] [] := by
    intro y3 e9
    subst e9
    replace h0 := un1_l h0
    refine x_iconst (v := 0) C dX11_digest_31 rfl ?_
    refine x_istore_n (lv' := [(3, .int 0), (1, .long y3), (0, .ref (kad K 0))]) C dX11_digest_32 (by rw [e5]; decide) rfl ?_
    obtain ⟨e68, g69, h0⟩ := ob_bind h0
    have J2 : ∀ (y6 : Int64), y6 = e68 → Wx LM K σ 113 [(1, .long y6), (0, .ref (kad K 0))] [] := by
      intro y6 e9
      subst e9
      replace h0 := un1_l h0
      refine x_iconst (v := 0) C dX11_digest_113 rfl ?_
      refine x_istore_n (lv' := [(3, .int 0), (1, .long y6), (0, .ref (kad K 0))]) C dX11_digest_114 (by rw [e5]; decide) rfl ?_
      obtain ⟨e47, g48, h0⟩ := ob_bind h0
      have J3 : ∀ (y9 : Int64), y9 = e47 → Wx LM K σ 140 [(1, .long y9), (0, .ref (kad K 0))] [] := by
        intro y9 e9
        subst e9
        replace h0 := un1_l h0
        refine x_iconst (v := 0) C dX11_digest_140 rfl ?_
        refine x_istore_n (lv' := [(3, .int 0), (1, .long y9), (0, .ref (kad K 0))]) C dX11_digest_141 (by rw [e5]; decide) rfl ?_
        obtain ⟨e42, g43, h0⟩ := ob_bind h0
        have J4 : ∀ (y12 : Int64), y12 = e42 → Wx LM K σ 208 [(1, .long y12), (0, .ref (kad K 0))] [] := by
          intro y12 e9
          subst e9
          replace h0 := un1_l h0
          refine x_iconst (v := 0) C dX11_digest_208 rfl ?_
          refine x_istore_n (lv' := [(3, .int 0), (1, .long y12), (0, .ref (kad K 0))]) C dX11_digest_209 (by rw [e5]; decide) rfl ?_
          obtain ⟨e28, g29, h0⟩ := ob_bind h0
          have J5 : ∀ (y15 : Int64), y15 = e28 → Wx LM K σ 275 [(1, .long y15)] [] := by
            intro y15 e9
            subst e9
            replace h0 := un1_l h0
            refine x_lload_n C 0 dX11_digest_275 rfl ?_
            cases h0
            exact x_lret C R dX11_digest_276
          refine lp_G (G := fun q : Int64 × Int32 => Wx LM K σ 210 [(3, .int q.2), (1, .long q.1), (0, .ref (kad K 0))] []) (fun q x h5 ihL5 ihR5 => ?_) big _ g29
          obtain ⟨x13, x14⟩ := q
          replace h5 : X11_digest_b210 σ x13 x14 = some x := h5
          unfold X11_digest_b210 at h5
          show Wx LM K σ 210 [(3, .int x14), (1, .long x13), (0, .ref (kad K 0))] []
          refine x_iload_n C 0 dX11_digest_210 rfl ?_
          refine x_iconst (v := 4) C dX11_digest_211 rfl ?_
          refine x_icmpge C 275 dX11_digest_212 (by decide) (fun c17 => ?_) (fun c17 => ?_)
          · replace h5 := ob_pos c17 h5
            refine x_lv (lv' := [(1, .long x13)]) [1] rfl ?_
            exact J5 _ (ihR5 _ (Option.some.inj h5).symm)
          · replace h5 := ob_neg c17 h5
            refine x_ldc2 C tw1137 dX11_digest_215 ?_
            refine x_lload_n C 1 dX11_digest_218 rfl ?_
            refine x_lmul C dX11_digest_219 ?_
            refine x_aload_n C 2 dX11_digest_220 rfl ?_
            refine x_getR (j := 3) (i := 19) (q := (RX11, TX11, 22)) C 4 (iM 0 (by decide)) rfl rfl inBX11 (by decide) tw766 rfl dX11_digest_221 ?_
            refine x_iload_n C 0 dX11_digest_224 rfl ?_
            obtain ⟨c18, h5⟩ := ob_if h5
            refine x_iald C (iM 4 (by decide)) rfl (vin_in c18) dX11_digest_225 ?_
            refine x_i2l C dX11_digest_226 ?_
            refine x_ladd C dX11_digest_227 ?_
            refine x_lstore_n (lv' := [(1, .long ((31 * x13) + ((σ.1 4 x14.toNatClampNeg)).toInt64)), (3, .int x14), (0, .ref (kad K 0))]) C dX11_digest_228 (by rw [e5]; decide) rfl ?_
            refine x_iconst (v := 0) C dX11_digest_229 rfl ?_
            refine x_istore (lv' := [(4, .int 0), (1, .long ((31 * x13) + ((σ.1 4 x14.toNatClampNeg)).toInt64)), (3, .int x14), (0, .ref (kad K 0))]) C dX11_digest_230 (by rw [e5]; decide) rfl ?_
            obtain ⟨e26, g27, h5⟩ := ob_bind h5
            have J6 : ∀ (y21 : Int64), y21 = e26 → Wx LM K σ 269 [(1, .long y21), (3, .int x14), (0, .ref (kad K 0))] [] := by
              intro y21 e9
              subst e9
              replace h5 := un1_l h5
              refine x_iinc (v := (x14 + 1)) (lv' := [(3, .int (x14 + 1)), (1, .long y21), (0, .ref (kad K 0))]) C 1 dX11_digest_269 rfl rfl (by rw [e5]; decide) rfl ?_
              refine x_goto C 210 dX11_digest_272 (by decide) ?_
              refine x_lv (lv' := [(3, .int (x14 + 1)), (1, .long y21), (0, .ref (kad K 0))]) [0, 1, 2] rfl ?_
              exact ihL5 _ (Option.some.inj h5).symm
            refine lp_G (G := fun q : Int64 × Int32 => Wx LM K σ 232 [(4, .int q.2), (1, .long q.1), (3, .int x14), (0, .ref (kad K 0))] []) (fun q x h6 ihL6 ihR6 => ?_) big _ g27
            obtain ⟨x19, x20⟩ := q
            replace h6 : X11_digest_b232 σ x14 x19 x20 = some x := h6
            unfold X11_digest_b232 at h6
            show Wx LM K σ 232 [(4, .int x20), (1, .long x19), (3, .int x14), (0, .ref (kad K 0))] []
            refine x_iload C 0 dX11_digest_232 rfl ?_
            refine x_aload_n C 3 dX11_digest_234 rfl ?_
            refine x_getR (j := 3) (i := 19) (q := (RX11, TX11, 22)) C 4 (iM 0 (by decide)) rfl rfl inBX11 (by decide) tw766 rfl dX11_digest_235 ?_
            refine x_iload_n C 2 dX11_digest_238 rfl ?_
            obtain ⟨c22, h6⟩ := ob_if h6
            refine x_iald C (iM 4 (by decide)) rfl (vin_in c22) dX11_digest_239 ?_
            refine x_icmpge C 269 dX11_digest_240 (by decide) (fun c24 => ?_) (fun c24 => ?_)
            · replace h6 := ob_pos c24 h6
              refine x_lv (lv' := [(1, .long x19), (3, .int x14), (0, .ref (kad K 0))]) [1, 2, 3] rfl ?_
              exact J6 _ (ihR6 _ (Option.some.inj h6).symm)
            · replace h6 := ob_neg c24 h6
              refine x_ldc2 C tw1137 dX11_digest_243 ?_
              refine x_lload_n C 1 dX11_digest_246 rfl ?_
              refine x_lmul C dX11_digest_247 ?_
              refine x_aload_n C 3 dX11_digest_248 rfl ?_
              refine x_getR (j := 4) (i := 22) (q := (RX11, TX11, 22)) C 5 (iM 0 (by decide)) rfl rfl inBX11 (by decide) tw767 rfl dX11_digest_249 ?_
              refine x_bipush (v := 60) C dX11_digest_252 rfl ?_
              refine x_iload_n C 2 dX11_digest_254 rfl ?_
              refine x_imul C dX11_digest_255 ?_
              refine x_iload C 0 dX11_digest_256 rfl ?_
              refine x_iadd C dX11_digest_258 ?_
              obtain ⟨c25, h6⟩ := ob_if h6
              refine x_bald C (iM 5 (by decide)) rfl (vin_in c25) dX11_digest_259 ?_
              refine x_i2l C dX11_digest_260 ?_
              refine x_ladd C dX11_digest_261 ?_
              refine x_lstore_n (lv' := [(1, .long ((31 * x19) + ((σ.1 5 (((60 : Int32) * x14) + x20).toNatClampNeg)).toInt64)), (4, .int x20), (3, .int x14), (0, .ref (kad K 0))]) C dX11_digest_262 (by rw [e5]; decide) rfl ?_
              refine x_iinc (v := (x20 + 1)) (lv' := [(4, .int (x20 + 1)), (1, .long ((31 * x19) + ((σ.1 5 (((60 : Int32) * x14) + x20).toNatClampNeg)).toInt64)), (3, .int x14), (0, .ref (kad K 0))]) C 1 dX11_digest_263 rfl rfl (by rw [e5]; decide) rfl ?_
              refine x_goto C 232 dX11_digest_266 (by decide) ?_
              refine x_lv (lv' := [(4, .int (x20 + 1)), (1, .long ((31 * x19) + ((σ.1 5 (((60 : Int32) * x14) + x20).toNatClampNeg)).toInt64)), (3, .int x14), (0, .ref (kad K 0))]) [0, 1, 2, 3] rfl ?_
              exact ihL6 _ (Option.some.inj h6).symm
        refine lp_G (G := fun q : Int64 × Int32 => Wx LM K σ 142 [(3, .int q.2), (1, .long q.1), (0, .ref (kad K 0))] []) (fun q x h4 ihL4 ihR4 => ?_) big _ g43
        obtain ⟨x10, x11⟩ := q
        replace h4 : X11_digest_b142 σ x10 x11 = some x := h4
        unfold X11_digest_b142 at h4
        show Wx LM K σ 142 [(3, .int x11), (1, .long x10), (0, .ref (kad K 0))] []
        refine x_iload_n C 0 dX11_digest_142 rfl ?_
        refine x_bipush (v := 6) C dX11_digest_143 rfl ?_
        refine x_icmpge C 208 dX11_digest_145 (by decide) (fun c31 => ?_) (fun c31 => ?_)
        · replace h4 := ob_pos c31 h4
          refine x_lv (lv' := [(1, .long x10), (0, .ref (kad K 0))]) [1, 2] rfl ?_
          exact J4 _ (ihR4 _ (Option.some.inj h4).symm)
        · replace h4 := ob_neg c31 h4
          refine x_ldc2 C tw1137 dX11_digest_148 ?_
          refine x_lload_n C 1 dX11_digest_151 rfl ?_
          refine x_lmul C dX11_digest_152 ?_
          refine x_aload_n C 2 dX11_digest_153 rfl ?_
          refine x_getR (j := 0) (i := 7) (q := (RX11, TX11, 22)) C 1 (iM 0 (by decide)) rfl rfl inBX11 (by decide) tw763 rfl dX11_digest_154 ?_
          refine x_iload_n C 0 dX11_digest_157 rfl ?_
          obtain ⟨c32, h4⟩ := ob_if h4
          refine x_iald C (iM 1 (by decide)) rfl (vin_in c32) dX11_digest_158 ?_
          refine x_i2l C dX11_digest_159 ?_
          refine x_ladd C dX11_digest_160 ?_
          refine x_lstore_n (lv' := [(1, .long ((31 * x10) + ((σ.1 1 x11.toNatClampNeg)).toInt64)), (3, .int x11), (0, .ref (kad K 0))]) C dX11_digest_161 (by rw [e5]; decide) rfl ?_
          refine x_iconst (v := 0) C dX11_digest_162 rfl ?_
          refine x_istore (lv' := [(4, .int 0), (1, .long ((31 * x10) + ((σ.1 1 x11.toNatClampNeg)).toInt64)), (3, .int x11), (0, .ref (kad K 0))]) C dX11_digest_163 (by rw [e5]; decide) rfl ?_
          obtain ⟨e40, g41, h4⟩ := ob_bind h4
          have J7 : ∀ (y35 : Int64), y35 = e40 → Wx LM K σ 202 [(1, .long y35), (3, .int x11), (0, .ref (kad K 0))] [] := by
            intro y35 e9
            subst e9
            replace h4 := un1_l h4
            refine x_iinc (v := (x11 + 1)) (lv' := [(3, .int (x11 + 1)), (1, .long y35), (0, .ref (kad K 0))]) C 1 dX11_digest_202 rfl rfl (by rw [e5]; decide) rfl ?_
            refine x_goto C 142 dX11_digest_205 (by decide) ?_
            refine x_lv (lv' := [(3, .int (x11 + 1)), (1, .long y35), (0, .ref (kad K 0))]) [0, 1, 2] rfl ?_
            exact ihL4 _ (Option.some.inj h4).symm
          refine lp_G (G := fun q : Int64 × Int32 => Wx LM K σ 165 [(4, .int q.2), (1, .long q.1), (3, .int x11), (0, .ref (kad K 0))] []) (fun q x h7 ihL7 ihR7 => ?_) big _ g41
          obtain ⟨x33, x34⟩ := q
          replace h7 : X11_digest_b165 σ x11 x33 x34 = some x := h7
          unfold X11_digest_b165 at h7
          show Wx LM K σ 165 [(4, .int x34), (1, .long x33), (3, .int x11), (0, .ref (kad K 0))] []
          refine x_iload C 0 dX11_digest_165 rfl ?_
          refine x_aload_n C 3 dX11_digest_167 rfl ?_
          refine x_getR (j := 0) (i := 7) (q := (RX11, TX11, 22)) C 1 (iM 0 (by decide)) rfl rfl inBX11 (by decide) tw763 rfl dX11_digest_168 ?_
          refine x_iload_n C 2 dX11_digest_171 rfl ?_
          obtain ⟨c36, h7⟩ := ob_if h7
          refine x_iald C (iM 1 (by decide)) rfl (vin_in c36) dX11_digest_172 ?_
          refine x_icmpge C 202 dX11_digest_173 (by decide) (fun c38 => ?_) (fun c38 => ?_)
          · replace h7 := ob_pos c38 h7
            refine x_lv (lv' := [(1, .long x33), (3, .int x11), (0, .ref (kad K 0))]) [1, 2, 3] rfl ?_
            exact J7 _ (ihR7 _ (Option.some.inj h7).symm)
          · replace h7 := ob_neg c38 h7
            refine x_ldc2 C tw1137 dX11_digest_176 ?_
            refine x_lload_n C 1 dX11_digest_179 rfl ?_
            refine x_lmul C dX11_digest_180 ?_
            refine x_aload_n C 3 dX11_digest_181 rfl ?_
            refine x_getR (j := 1) (i := 13) (q := (RX11, TX11, 22)) C 2 (iM 0 (by decide)) rfl rfl inBX11 (by decide) tw764 rfl dX11_digest_182 ?_
            refine x_bipush (v := 40) C dX11_digest_185 rfl ?_
            refine x_iload_n C 2 dX11_digest_187 rfl ?_
            refine x_imul C dX11_digest_188 ?_
            refine x_iload C 0 dX11_digest_189 rfl ?_
            refine x_iadd C dX11_digest_191 ?_
            obtain ⟨c39, h7⟩ := ob_if h7
            refine x_iald C (iM 2 (by decide)) rfl (vin_in c39) dX11_digest_192 ?_
            refine x_i2l C dX11_digest_193 ?_
            refine x_ladd C dX11_digest_194 ?_
            refine x_lstore_n (lv' := [(1, .long ((31 * x33) + ((σ.1 2 (((40 : Int32) * x11) + x34).toNatClampNeg)).toInt64)), (4, .int x34), (3, .int x11), (0, .ref (kad K 0))]) C dX11_digest_195 (by rw [e5]; decide) rfl ?_
            refine x_iinc (v := (x34 + 1)) (lv' := [(4, .int (x34 + 1)), (1, .long ((31 * x33) + ((σ.1 2 (((40 : Int32) * x11) + x34).toNatClampNeg)).toInt64)), (3, .int x11), (0, .ref (kad K 0))]) C 1 dX11_digest_196 rfl rfl (by rw [e5]; decide) rfl ?_
            refine x_goto C 165 dX11_digest_199 (by decide) ?_
            refine x_lv (lv' := [(4, .int (x34 + 1)), (1, .long ((31 * x33) + ((σ.1 2 (((40 : Int32) * x11) + x34).toNatClampNeg)).toInt64)), (3, .int x11), (0, .ref (kad K 0))]) [0, 1, 2, 3] rfl ?_
            exact ihL7 _ (Option.some.inj h7).symm
      refine lp_G (G := fun q : Int64 × Int32 => Wx LM K σ 115 [(3, .int q.2), (1, .long q.1), (0, .ref (kad K 0))] []) (fun q x h3 ihL3 ihR3 => ?_) big _ g48
      obtain ⟨x7, x8⟩ := q
      replace h3 : X11_digest_b115 σ x7 x8 = some x := h3
      unfold X11_digest_b115 at h3
      show Wx LM K σ 115 [(3, .int x8), (1, .long x7), (0, .ref (kad K 0))] []
      refine x_iload_n C 0 dX11_digest_115 rfl ?_
      refine x_iconst (v := 3) C dX11_digest_116 rfl ?_
      refine x_icmpge C 140 dX11_digest_117 (by decide) (fun c45 => ?_) (fun c45 => ?_)
      · replace h3 := ob_pos c45 h3
        refine x_lv (lv' := [(1, .long x7), (0, .ref (kad K 0))]) [1, 2] rfl ?_
        exact J3 _ (ihR3 _ (Option.some.inj h3).symm)
      · replace h3 := ob_neg c45 h3
        refine x_ldc2 C tw1137 dX11_digest_120 ?_
        refine x_lload_n C 1 dX11_digest_123 rfl ?_
        refine x_lmul C dX11_digest_124 ?_
        refine x_aload_n C 2 dX11_digest_125 rfl ?_
        refine x_getR (j := 13) (i := 41) (q := (RX11, TX11, 22)) C 11 (iM 0 (by decide)) rfl rfl inBX11 (by decide) tw776 rfl dX11_digest_126 ?_
        refine x_iload_n C 0 dX11_digest_129 rfl ?_
        obtain ⟨c46, h3⟩ := ob_if h3
        refine x_iald C (iM 11 (by decide)) rfl (vin_in c46) dX11_digest_130 ?_
        refine x_i2l C dX11_digest_131 ?_
        refine x_ladd C dX11_digest_132 ?_
        refine x_lstore_n (lv' := [(1, .long ((31 * x7) + ((σ.1 11 x8.toNatClampNeg)).toInt64)), (3, .int x8), (0, .ref (kad K 0))]) C dX11_digest_133 (by rw [e5]; decide) rfl ?_
        refine x_iinc (v := (x8 + 1)) (lv' := [(3, .int (x8 + 1)), (1, .long ((31 * x7) + ((σ.1 11 x8.toNatClampNeg)).toInt64)), (0, .ref (kad K 0))]) C 1 dX11_digest_134 rfl rfl (by rw [e5]; decide) rfl ?_
        refine x_goto C 115 dX11_digest_137 (by decide) ?_
        refine x_lv (lv' := [(3, .int (x8 + 1)), (1, .long ((31 * x7) + ((σ.1 11 x8.toNatClampNeg)).toInt64)), (0, .ref (kad K 0))]) [0, 1, 2] rfl ?_
        exact ihL3 _ (Option.some.inj h3).symm
    refine lp_G (G := fun q : Int64 × Int32 => Wx LM K σ 33 [(3, .int q.2), (1, .long q.1), (0, .ref (kad K 0))] []) (fun q x h2 ihL2 ihR2 => ?_) big _ g69
    obtain ⟨x4, x5⟩ := q
    replace h2 : X11_digest_b33 σ x4 x5 = some x := h2
    unfold X11_digest_b33 at h2
    show Wx LM K σ 33 [(3, .int x5), (1, .long x4), (0, .ref (kad K 0))] []
    refine x_iload_n C 0 dX11_digest_33 rfl ?_
    refine x_aload_n C 2 dX11_digest_34 rfl ?_
    refine x_getI (j := 5) (i := 124) (q := (RX11, TX11, 22)) C (iM 0 (by decide)) rfl rfl inBX11 (by decide) tw768 rfl dX11_digest_35 ?_
    refine x_icmpge C 113 dX11_digest_38 (by decide) (fun c50 => ?_) (fun c50 => ?_)
    · replace h2 := ob_pos c50 h2
      refine x_lv (lv' := [(1, .long x4), (0, .ref (kad K 0))]) [1, 2] rfl ?_
      exact J2 _ (ihR2 _ (Option.some.inj h2).symm)
    · replace h2 := ob_neg c50 h2
      refine x_iconst (v := 0) C dX11_digest_41 rfl ?_
      refine x_istore (lv' := [(4, .int 0), (3, .int x5), (1, .long x4), (0, .ref (kad K 0))]) C dX11_digest_42 (by rw [e5]; decide) rfl ?_
      obtain ⟨e66, g67, h2⟩ := ob_bind h2
      have J8 : ∀ (y53 : Int64), y53 = e66 → Wx LM K σ 71 [(3, .int x5), (1, .long y53), (0, .ref (kad K 0))] [] := by
        intro y53 e9
        subst e9
        replace h2 := un1_l h2
        refine x_iconst (v := 0) C dX11_digest_71 rfl ?_
        refine x_istore (lv' := [(4, .int 0), (3, .int x5), (1, .long y53), (0, .ref (kad K 0))]) C dX11_digest_72 (by rw [e5]; decide) rfl ?_
        obtain ⟨e60, g61, h2⟩ := ob_bind h2
        have J9 : ∀ (y56 : Int64), y56 = e60 → Wx LM K σ 107 [(3, .int x5), (1, .long y56), (0, .ref (kad K 0))] [] := by
          intro y56 e9
          subst e9
          replace h2 := un1_l h2
          refine x_iinc (v := (x5 + 1)) (lv' := [(3, .int (x5 + 1)), (1, .long y56), (0, .ref (kad K 0))]) C 0 dX11_digest_107 rfl rfl (by rw [e5]; decide) rfl ?_
          refine x_goto C 33 dX11_digest_110 (by decide) ?_
          refine x_lv (lv' := [(3, .int (x5 + 1)), (1, .long y56), (0, .ref (kad K 0))]) [0, 1, 2] rfl ?_
          exact ihL2 _ (Option.some.inj h2).symm
        refine lp_G (G := fun q : Int64 × Int32 => Wx LM K σ 74 [(4, .int q.2), (3, .int x5), (1, .long q.1), (0, .ref (kad K 0))] []) (fun q x h9 ihL9 ihR9 => ?_) big _ g61
        obtain ⟨x54, x55⟩ := q
        replace h9 : X11_digest_b74 σ x5 x54 x55 = some x := h9
        unfold X11_digest_b74 at h9
        show Wx LM K σ 74 [(4, .int x55), (3, .int x5), (1, .long x54), (0, .ref (kad K 0))] []
        refine x_iload C 0 dX11_digest_74 rfl ?_
        refine x_bipush (v := 6) C dX11_digest_76 rfl ?_
        refine x_icmpge C 107 dX11_digest_78 (by decide) (fun c58 => ?_) (fun c58 => ?_)
        · replace h9 := ob_pos c58 h9
          refine x_lv (lv' := [(3, .int x5), (1, .long x54), (0, .ref (kad K 0))]) [1, 2, 3] rfl ?_
          exact J9 _ (ihR9 _ (Option.some.inj h9).symm)
        · replace h9 := ob_neg c58 h9
          refine x_ldc2 C tw1137 dX11_digest_81 ?_
          refine x_lload_n C 2 dX11_digest_84 rfl ?_
          refine x_lmul C dX11_digest_85 ?_
          refine x_aload_n C 3 dX11_digest_86 rfl ?_
          refine x_getR (j := 7) (i := 29) (q := (RX11, TX11, 22)) C 7 (iM 0 (by decide)) rfl rfl inBX11 (by decide) tw770 rfl dX11_digest_87 ?_
          refine x_bipush (v := 6) C dX11_digest_90 rfl ?_
          refine x_iload_n C 1 dX11_digest_92 rfl ?_
          refine x_imul C dX11_digest_93 ?_
          refine x_iload C 0 dX11_digest_94 rfl ?_
          refine x_iadd C dX11_digest_96 ?_
          obtain ⟨c59, h9⟩ := ob_if h9
          refine x_iald C (iM 7 (by decide)) rfl (vin_in c59) dX11_digest_97 ?_
          refine x_i2l C dX11_digest_98 ?_
          refine x_ladd C dX11_digest_99 ?_
          refine x_lstore_n (lv' := [(1, .long ((31 * x54) + ((σ.1 7 (((6 : Int32) * x5) + x55).toNatClampNeg)).toInt64)), (4, .int x55), (3, .int x5), (0, .ref (kad K 0))]) C dX11_digest_100 (by rw [e5]; decide) rfl ?_
          refine x_iinc (v := (x55 + 1)) (lv' := [(4, .int (x55 + 1)), (1, .long ((31 * x54) + ((σ.1 7 (((6 : Int32) * x5) + x55).toNatClampNeg)).toInt64)), (3, .int x5), (0, .ref (kad K 0))]) C 1 dX11_digest_101 rfl rfl (by rw [e5]; decide) rfl ?_
          refine x_goto C 74 dX11_digest_104 (by decide) ?_
          refine x_lv (lv' := [(4, .int (x55 + 1)), (3, .int x5), (1, .long ((31 * x54) + ((σ.1 7 (((6 : Int32) * x5) + x55).toNatClampNeg)).toInt64)), (0, .ref (kad K 0))]) [0, 2, 1, 3] rfl ?_
          exact ihL9 _ (Option.some.inj h9).symm
      refine lp_G (G := fun q : Int64 × Int32 => Wx LM K σ 44 [(4, .int q.2), (3, .int x5), (1, .long q.1), (0, .ref (kad K 0))] []) (fun q x h8 ihL8 ihR8 => ?_) big _ g67
      obtain ⟨x51, x52⟩ := q
      replace h8 : X11_digest_b44 σ x5 x51 x52 = some x := h8
      unfold X11_digest_b44 at h8
      show Wx LM K σ 44 [(4, .int x52), (3, .int x5), (1, .long x51), (0, .ref (kad K 0))] []
      refine x_iload C 0 dX11_digest_44 rfl ?_
      refine x_iconst (v := 5) C dX11_digest_46 rfl ?_
      refine x_icmpge C 71 dX11_digest_47 (by decide) (fun c63 => ?_) (fun c63 => ?_)
      · replace h8 := ob_pos c63 h8
        refine x_lv (lv' := [(3, .int x5), (1, .long x51), (0, .ref (kad K 0))]) [1, 2, 3] rfl ?_
        exact J8 _ (ihR8 _ (Option.some.inj h8).symm)
      · replace h8 := ob_neg c63 h8
        refine x_ldc2 C tw1137 dX11_digest_50 ?_
        refine x_lload_n C 2 dX11_digest_53 rfl ?_
        refine x_lmul C dX11_digest_54 ?_
        refine x_aload_n C 3 dX11_digest_55 rfl ?_
        refine x_iload_n C 1 dX11_digest_56 rfl ?_
        refine x_iload C 0 dX11_digest_57 rfl ?_
        obtain ⟨r64, g65, h8⟩ := ob_bind h8
        refine x_callV (ar := 2) (q := (RX11, TX11, 22)) (rest := [.long (31 * x51)]) C (c_X11_told C.2.2.2.2.2.2.1  g65) (iM 0 (by decide)) rfl rfl hy_X11_told ⟨tw929, tw931, tw43, tw75, tw932⟩ (by decide) (by decide) rfl rfl (Nat.le_of_ble_eq_true rfl) dX11_digest_59 ?_
        show Wx LM K σ 62 [(4, .int x52), (3, .int x5), (1, .long x51), (0, .ref (kad K 0))] [.int r64, .long (31 * x51)]
        refine x_i2l C dX11_digest_62 ?_
        refine x_ladd C dX11_digest_63 ?_
        refine x_lstore_n (lv' := [(1, .long ((31 * x51) + (r64).toInt64)), (4, .int x52), (3, .int x5), (0, .ref (kad K 0))]) C dX11_digest_64 (by rw [e5]; decide) rfl ?_
        refine x_iinc (v := (x52 + 1)) (lv' := [(4, .int (x52 + 1)), (1, .long ((31 * x51) + (r64).toInt64)), (3, .int x5), (0, .ref (kad K 0))]) C 1 dX11_digest_65 rfl rfl (by rw [e5]; decide) rfl ?_
        refine x_goto C 44 dX11_digest_68 (by decide) ?_
        refine x_lv (lv' := [(4, .int (x52 + 1)), (3, .int x5), (1, .long ((31 * x51) + (r64).toInt64)), (0, .ref (kad K 0))]) [0, 2, 1, 3] rfl ?_
        exact ihL8 _ (Option.some.inj h8).symm
  refine lp_G (G := fun q : Int64 × Int32 => Wx LM K σ 6 [(3, .int q.2), (1, .long q.1), (0, .ref (kad K 0))] []) (fun q x h1 ihL1 ihR1 => ?_) big _ g75
  obtain ⟨x1, x2⟩ := q
  replace h1 : X11_digest_b6 σ x1 x2 = some x := h1
  unfold X11_digest_b6 at h1
  show Wx LM K σ 6 [(3, .int x2), (1, .long x1), (0, .ref (kad K 0))] []
  refine x_iload_n C 0 dX11_digest_6 rfl ?_
  refine x_bipush (v := 12) C dX11_digest_7 rfl ?_
  refine x_icmpge C 31 dX11_digest_9 (by decide) (fun c71 => ?_) (fun c71 => ?_)
  · replace h1 := ob_pos c71 h1
    refine x_lv (lv' := [(1, .long x1), (0, .ref (kad K 0))]) [1, 2] rfl ?_
    exact J1 _ (ihR1 _ (Option.some.inj h1).symm)
  · replace h1 := ob_neg c71 h1
    refine x_ldc2 C tw1137 dX11_digest_12 ?_
    refine x_lload_n C 1 dX11_digest_15 rfl ?_
    refine x_lmul C dX11_digest_16 ?_
    refine x_aload_n C 2 dX11_digest_17 rfl ?_
    refine x_iload_n C 0 dX11_digest_18 rfl ?_
    obtain ⟨r72, g73, h1⟩ := ob_bind h1
    refine x_callV (ar := 1) (q := (RX11, TX11, 22)) (rest := [.long (31 * x1)]) C (c_X11_countOf C.2.2.2.2.2.2.1  g73) (iM 0 (by decide)) rfl rfl hy_X11_countOf ⟨tw1108, tw1110, tw58, tw75, tw1111⟩ (by decide) (by decide) rfl rfl (Nat.le_of_ble_eq_true rfl) dX11_digest_19 ?_
    show Wx LM K σ 22 [(3, .int x2), (1, .long x1), (0, .ref (kad K 0))] [.int r72, .long (31 * x1)]
    refine x_i2l C dX11_digest_22 ?_
    refine x_ladd C dX11_digest_23 ?_
    refine x_lstore_n (lv' := [(1, .long ((31 * x1) + (r72).toInt64)), (3, .int x2), (0, .ref (kad K 0))]) C dX11_digest_24 (by rw [e5]; decide) rfl ?_
    refine x_iinc (v := (x2 + 1)) (lv' := [(3, .int (x2 + 1)), (1, .long ((31 * x1) + (r72).toInt64)), (0, .ref (kad K 0))]) C 1 dX11_digest_25 rfl rfl (by rw [e5]; decide) rfl ?_
    refine x_goto C 6 dX11_digest_28 (by decide) ?_
    refine x_lv (lv' := [(3, .int (x2 + 1)), (1, .long ((31 * x1) + (r72).toInt64)), (0, .ref (kad K 0))]) [0, 1, 2] rfl ?_
    exact ihL1 _ (Option.some.inj h1).symm
