set_option maxHeartbeats 4000000 in
set_option maxRecDepth 100000 in
theorem c_X10_isNumber {l : Launch} {D : va_G} {ad : Nat → Nat} {cy : Nat → ClassId} (hJ : mJ LX ad) {σ : mS} {a1 : Int32} {r : Int32}  (h0 : X10_isNumber a1 = r) : MetG l LX D ad cy yX10_isNumber cX10_isNumber 2 (some .boolean) 0 [.ref (ad 0), .int a1] σ (some (.int r)) σ := by
  refine MetG.of hJ (by decide +kernel) [(0, .ref (ad 0)), (1, .int a1)] rfl (Nat.le_of_ble_eq_true rfl) ?_
  intro K e1 e2 e3 e4 e5 C R
  subst e1
  subst e2
  subst e3
  subst e4
  unfold X10_isNumber at h0
  refine x_iload_n C 1 dX10_isNumber_0 rfl ?_
  refine x_iconst (v := 1) C dX10_isNumber_1 rfl ?_
  refine x_icmplt C 15 dX10_isNumber_2 (by decide) (fun c2 => ?_) (fun c2 => ?_)
  · replace h0 := ob_pos c2 h0
    refine x_iconst (v := 0) C dX10_isNumber_15 rfl ?_
    subst h0
    exact x_zret C (Or.inl rfl) R dX10_isNumber_16
  · replace h0 := ob_neg c2 h0
    refine x_iload_n C 1 dX10_isNumber_5 rfl ?_
    refine x_bipush (v := 12) C dX10_isNumber_6 rfl ?_
    refine x_icmpgt C 15 dX10_isNumber_8 (by decide) (fun c4 => ?_) (fun c4 => ?_)
    · replace h0 := ob_pos c4 h0
      refine x_iconst (v := 0) C dX10_isNumber_15 rfl ?_
      subst h0
      exact x_zret C (Or.inl rfl) R dX10_isNumber_16
    · replace h0 := ob_neg c4 h0
      refine x_iconst (v := 1) C dX10_isNumber_11 rfl ?_
      refine x_goto C 16 dX10_isNumber_12 (by decide) ?_
      subst h0
      exact x_zret C (Or.inr rfl) R dX10_isNumber_16
set_option maxHeartbeats 4000000 in
set_option maxRecDepth 100000 in
theorem c_X10_doCall {l : Launch} {D : va_G} {ad : Nat → Nat} {cy : Nat → ClassId} (hJ : mJ LX ad) {σ τ : mS} {a1 : Int32} {r : Int32}  (h0 : X10_doCall σ a1 = some (r, τ)) : MetG l LX D ad cy yX10_doCall cX10_doCall 2 (some .int) 5 [.ref (ad 0), .int a1] σ (some (.int r)) τ := by
  refine MetG.of hJ (by decide +kernel) [(0, .ref (ad 0)), (1, .int a1)] rfl (Nat.le_of_ble_eq_true rfl) ?_
  intro K e1 e2 e3 e4 e5 C R
  subst e1
  subst e2
  subst e3
  subst e4
  unfold X10_doCall at h0
  refine x_aload_n C 0 dX10_doCall_0 rfl ?_
  refine x_getR (j := 7) (i := 52) (q := (RX10, TX10, 18)) C (160 + 3) (iX 0 (by decide)) rfl rfl inBX10 (by decide) tw242 rfl dX10_doCall_1 ?_
  refine x_iload_n C 1 dX10_doCall_4 rfl ?_
  obtain ⟨r1, s3, g2, h0⟩ := ob_bd h0
  refine x_callV (ar := 1) (q := (RX1, TX1, 2)) (rest := []) C (c_X1_add C.2.2.2.2.2.2.1 (by decide) g2) (iX20 (by decide)) (lX20 (by decide)) rfl hy_X1_add ⟨tw503, tw504, tw505, tw73, tw506⟩ (by decide) (by decide) rfl rfl (Nat.le_of_ble_eq_true rfl) dX10_doCall_5 ?_
  show Wx LX K s3 8 [(0, .ref (kad K 0)), (1, .int a1)] []
  refine x_aload_n C 0 dX10_doCall_8 rfl ?_
  refine x_getR (j := 6) (i := 45) (q := (RX10, TX10, 18)) C (144 + 5) (iX 0 (by decide)) rfl rfl inBX10 (by decide) tw241 rfl dX10_doCall_9 ?_
  refine x_iload_n C 1 dX10_doCall_12 rfl ?_
  refine x_bipush (v := 15) C dX10_doCall_13 rfl ?_
  obtain ⟨r4, s6, g5, h0⟩ := ob_bd h0
  refine x_callV (ar := 2) (q := (RX2, TX2, 6)) (rest := []) C (c_X2_ring C.2.2.2.2.2.2.1 (by decide) g5) (iX18 (by decide)) (lX18 (by decide)) rfl hy_X2_ring ⟨tw507, tw508, tw509, tw72, tw510⟩ (by decide) (by decide) rfl rfl (Nat.le_of_ble_eq_true rfl) dX10_doCall_15 ?_
  show Wx LX K s6 18 [(0, .ref (kad K 0)), (1, .int a1)] [.int r4]
  cases h0
  exact x_iret C R dX10_doCall_18
set_option maxHeartbeats 4000000 in
set_option maxRecDepth 100000 in
theorem c_X10_call {l : Launch} {D : va_G} {ad : Nat → Nat} {cy : Nat → ClassId} (hJ : mJ LX ad) {σ τ : mS} {a1 : Int32} {r : Int32}  (h0 : X10_call σ a1 = some (r, τ)) : MetG l LX D ad cy yX10_call cX10_call 2 (some .int) 6 [.ref (ad 0), .int a1] σ (some (.int r)) τ := by
  refine MetG.of hJ (by decide +kernel) [(0, .ref (ad 0)), (1, .int a1)] rfl (Nat.le_of_ble_eq_true rfl) ?_
  intro K e1 e2 e3 e4 e5 C R
  subst e1
  subst e2
  subst e3
  subst e4
  unfold X10_call at h0
  refine x_aload_n C 0 dX10_call_0 rfl ?_
  refine x_iload_n C 1 dX10_call_1 rfl ?_
  refine x_callV (ar := 1) (q := (RX10, TX10, 18)) (rest := []) C (c_X10_isNumber C.2.2.2.2.2.2.1  rfl) (iX 0 (by decide)) rfl rfl hy_X10_isNumber ⟨tw491, tw493, tw11, tw63, tw494⟩ (by decide) (by decide) rfl rfl (Nat.le_of_ble_eq_true rfl) dX10_call_2 ?_
  show Wx LX K σ 5 [(0, .ref (kad K 0)), (1, .int a1)] [.int (X10_isNumber a1)]
  refine x_ifne C 10 dX10_call_5 (by decide) (fun c3 => ?_) (fun c3 => ?_)
  · replace h0 := ob_neg c3 h0
    refine x_aload_n C 0 dX10_call_10 rfl ?_
    refine x_getR (j := 5) (i := 36) (q := (RX10, TX10, 18)) C 88 (iX 0 (by decide)) rfl rfl inBX10 (by decide) tw240 rfl dX10_call_11 ?_
    refine x_getIN (j := 4) (i := 135) (q := (RX7, TX7, 5)) (host := "CalledNumbers") C (iX 88 (by decide)) rfl rfl inBX7 (by decide) twN173 rfl dX10_call_14 ?_
    refine x_ifeq C 31 dX10_call_17 (by decide) (fun c5 => ?_) (fun c5 => ?_)
    · replace h0 := ob_pos c5 h0
      refine x_bipush (v := (-4)) C dX10_call_31 rfl ?_
      cases h0
      exact x_iret C R dX10_call_33
    · replace h0 := ob_neg c5 h0
      refine x_aload_n C 0 dX10_call_20 rfl ?_
      refine x_getR (j := 6) (i := 45) (q := (RX10, TX10, 18)) C (144 + 5) (iX 0 (by decide)) rfl rfl inBX10 (by decide) tw241 rfl dX10_call_21 ?_
      refine x_iload_n C 1 dX10_call_24 rfl ?_
      refine x_callV (ar := 1) (q := (RX2, TX2, 6)) (rest := []) C (c_X2_holds C.2.2.2.2.2.2.1 (by decide) rfl) (iX18 (by decide)) (lX18 (by decide)) rfl hy_X2_holds ⟨tw495, tw496, tw497, tw72, tw498⟩ (by decide) (by decide) rfl rfl (Nat.le_of_ble_eq_true rfl) dX10_call_25 ?_
      show Wx LX K σ 28 [(0, .ref (kad K 0)), (1, .int a1)] [.int (X2_holds σ 5 a1)]
      refine x_ifne C 34 dX10_call_28 (by decide) (fun c8 => ?_) (fun c8 => ?_)
      · replace h0 := ob_neg c8 h0
        refine x_aload_n C 0 dX10_call_34 rfl ?_
        refine x_getR (j := 7) (i := 52) (q := (RX10, TX10, 18)) C (160 + 3) (iX 0 (by decide)) rfl rfl inBX10 (by decide) tw242 rfl dX10_call_35 ?_
        refine x_getIN (j := 1) (i := 83) (q := (RX1, TX1, 2)) (host := "CalledNumbers") C (iX20 (by decide)) (lX20 (by decide)) rfl inBX1 (by decide) twN223 rfl dX10_call_38 ?_
        refine x_bipush (v := 40) C dX10_call_41 rfl ?_
        refine x_icmplt C 49 dX10_call_43 (by decide) (fun c10 => ?_) (fun c10 => ?_)
        · replace h0 := ob_pos c10 h0
          refine x_aload_n C 0 dX10_call_49 rfl ?_
          refine x_iload_n C 1 dX10_call_50 rfl ?_
          obtain ⟨r11, s13, g12, h0⟩ := ob_bd h0
          refine x_callV (ar := 1) (q := (RX10, TX10, 18)) (rest := []) C (c_X10_doCall C.2.2.2.2.2.2.1  g12) (iX 0 (by decide)) rfl rfl hy_X10_doCall ⟨tw499, tw501, tw12, tw63, tw502⟩ (by decide) (by decide) rfl rfl (Nat.le_of_ble_eq_true rfl) dX10_call_51 ?_
          show Wx LX K s13 54 [(0, .ref (kad K 0)), (1, .int a1)] [.int r11]
          cases h0
          exact x_iret C R dX10_call_54
        · replace h0 := ob_neg c10 h0
          refine x_bipush (v := (-2)) C dX10_call_46 rfl ?_
          cases h0
          exact x_iret C R dX10_call_48
      · replace h0 := ob_pos c8 h0
        refine x_bipush (v := (-4)) C dX10_call_31 rfl ?_
        cases h0
        exact x_iret C R dX10_call_33
  · replace h0 := ob_pos c3 h0
    refine x_iconst (v := (-1)) C dX10_call_8 rfl ?_
    cases h0
    exact x_iret C R dX10_call_9
set_option maxHeartbeats 4000000 in
set_option maxRecDepth 100000 in
theorem c_X10_doRub {l : Launch} {D : va_G} {ad : Nat → Nat} {cy : Nat → ClassId} (hJ : mJ LX ad) {σ τ : mS} {a1 : Int32} {a2 : Int32} {r : Unit}  (h0 : X10_doRub σ a1 a2 = some (r, τ)) : MetG l LX D ad cy yX10_doRub cX10_doRub 3 none 1 [.ref (ad 0), .int a1, .int a2] σ (none) τ := by
  refine MetG.of hJ (by decide +kernel) [(0, .ref (ad 0)), (1, .int a1), (2, .int a2)] rfl (Nat.le_of_ble_eq_true rfl) ?_
  intro K e1 e2 e3 e4 e5 C R
  subst e1
  subst e2
  subst e3
  subst e4
  unfold X10_doRub at h0
  refine x_aload_n C 0 dX10_doRub_0 rfl ?_
  refine x_getR (j := 7) (i := 52) (q := (RX10, TX10, 18)) C (160 + 3) (iX 0 (by decide)) rfl rfl inBX10 (by decide) tw242 rfl dX10_doRub_1 ?_
  refine x_bipush (v := 16) C dX10_doRub_4 rfl ?_
  refine x_iload_n C 1 dX10_doRub_6 rfl ?_
  refine x_bipush (v := 6) C dX10_doRub_7 rfl ?_
  refine x_imul C dX10_doRub_9 ?_
  refine x_iadd C dX10_doRub_10 ?_
  refine x_iload_n C 2 dX10_doRub_11 rfl ?_
  refine x_iadd C dX10_doRub_12 ?_
  obtain ⟨r1, s3, g2, h0⟩ := ob_bd h0
  refine x_callV (ar := 1) (q := (RX1, TX1, 2)) (rest := []) C (c_X1_add C.2.2.2.2.2.2.1 (by decide) g2) (iX20 (by decide)) (lX20 (by decide)) rfl hy_X1_add ⟨tw503, tw504, tw505, tw73, tw506⟩ (by decide) (by decide) rfl rfl (Nat.le_of_ble_eq_true rfl) dX10_doRub_13 ?_
  show Wx LX K s3 16 [(0, .ref (kad K 0)), (1, .int a1), (2, .int a2)] []
  refine x_aload_n C 0 dX10_doRub_16 rfl ?_
  refine x_getR (j := 6) (i := 45) (q := (RX10, TX10, 18)) C (144 + 5) (iX 0 (by decide)) rfl rfl inBX10 (by decide) tw241 rfl dX10_doRub_17 ?_
  refine x_iload_n C 1 dX10_doRub_20 rfl ?_
  refine x_iload_n C 2 dX10_doRub_21 rfl ?_
  obtain ⟨r4, s6, g5, h0⟩ := ob_bd h0
  refine x_callV (ar := 2) (q := (RX2, TX2, 6)) (rest := []) C (c_X2_turn C.2.2.2.2.2.2.1 (by decide) g5) (iX18 (by decide)) (lX18 (by decide)) rfl hy_X2_turn ⟨tw542, tw543, tw544, tw72, tw545⟩ (by decide) (by decide) rfl rfl (Nat.le_of_ble_eq_true rfl) dX10_doRub_22 ?_
  show Wx LX K s6 25 [(0, .ref (kad K 0)), (1, .int a1), (2, .int a2)] []
  cases h0
  exact x_vret C R dX10_doRub_25
set_option maxHeartbeats 4000000 in
set_option maxRecDepth 100000 in
theorem c_X10_rub {l : Launch} {D : va_G} {ad : Nat → Nat} {cy : Nat → ClassId} (hJ : mJ LX ad) {σ τ : mS} {a1 : Int32} {a2 : Int32} {r : Int32}  (h0 : X10_rub σ a1 a2 = some (r, τ)) : MetG l LX D ad cy yX10_rub cX10_rub 3 (some .int) 2 [.ref (ad 0), .int a1, .int a2] σ (some (.int r)) τ := by
  refine MetG.of hJ (by decide +kernel) [(0, .ref (ad 0)), (1, .int a1), (2, .int a2)] rfl (Nat.le_of_ble_eq_true rfl) ?_
  intro K e1 e2 e3 e4 e5 C R
  subst e1
  subst e2
  subst e3
  subst e4
  unfold X10_rub at h0
  refine x_aload_n C 0 dX10_rub_0 rfl ?_
  refine x_iload_n C 1 dX10_rub_1 rfl ?_
  refine x_callV (ar := 1) (q := (RX10, TX10, 18)) (rest := []) C (c_X10_isPlayer C.2.2.2.2.2.2.1  rfl) (iX 0 (by decide)) rfl rfl hy_X10_isPlayer ⟨tw390, tw392, tw8, tw63, tw393⟩ (by decide) (by decide) rfl rfl (Nat.le_of_ble_eq_true rfl) dX10_rub_2 ?_
  show Wx LX K σ 5 [(0, .ref (kad K 0)), (1, .int a1), (2, .int a2)] [.int (X10_isPlayer σ a1)]
  refine x_ifeq C 16 dX10_rub_5 (by decide) (fun c3 => ?_) (fun c3 => ?_)
  · replace h0 := ob_pos c3 h0
    refine x_iconst (v := (-1)) C dX10_rub_16 rfl ?_
    cases h0
    exact x_iret C R dX10_rub_17
  · replace h0 := ob_neg c3 h0
    refine x_aload_n C 0 dX10_rub_8 rfl ?_
    refine x_iload_n C 2 dX10_rub_9 rfl ?_
    refine x_callV (ar := 1) (q := (RX10, TX10, 18)) (rest := []) C (c_X10_isPlace C.2.2.2.2.2.2.1  rfl) (iX 0 (by decide)) rfl rfl hy_X10_isPlace ⟨tw456, tw458, tw10, tw63, tw459⟩ (by decide) (by decide) rfl rfl (Nat.le_of_ble_eq_true rfl) dX10_rub_10 ?_
    show Wx LX K σ 13 [(0, .ref (kad K 0)), (1, .int a1), (2, .int a2)] [.int (X10_isPlace a2)]
    refine x_ifne C 18 dX10_rub_13 (by decide) (fun c6 => ?_) (fun c6 => ?_)
    · replace h0 := ob_neg c6 h0
      refine x_aload_n C 0 dX10_rub_18 rfl ?_
      refine x_getR (j := 7) (i := 52) (q := (RX10, TX10, 18)) C (160 + 3) (iX 0 (by decide)) rfl rfl inBX10 (by decide) tw242 rfl dX10_rub_19 ?_
      refine x_getIN (j := 1) (i := 83) (q := (RX1, TX1, 2)) (host := "CalledNumbers") C (iX20 (by decide)) (lX20 (by decide)) rfl inBX1 (by decide) twN223 rfl dX10_rub_22 ?_
      refine x_bipush (v := 40) C dX10_rub_25 rfl ?_
      refine x_icmplt C 33 dX10_rub_27 (by decide) (fun c8 => ?_) (fun c8 => ?_)
      · replace h0 := ob_pos c8 h0
        refine x_aload_n C 0 dX10_rub_33 rfl ?_
        refine x_iload_n C 1 dX10_rub_34 rfl ?_
        refine x_iload_n C 2 dX10_rub_35 rfl ?_
        obtain ⟨r9, s11, g10, h0⟩ := ob_bd h0
        refine x_callV (ar := 2) (q := (RX10, TX10, 18)) (rest := []) C (c_X10_doRub C.2.2.2.2.2.2.1  g10) (iX 0 (by decide)) rfl rfl hy_X10_doRub ⟨tw538, tw540, tw13, tw63, tw541⟩ (by decide) (by decide) rfl rfl (Nat.le_of_ble_eq_true rfl) dX10_rub_36 ?_
        show Wx LX K s11 39 [(0, .ref (kad K 0)), (1, .int a1), (2, .int a2)] []
        refine x_aload_n C 0 dX10_rub_39 rfl ?_
        refine x_getR (j := 6) (i := 45) (q := (RX10, TX10, 18)) C (144 + 5) (iX 0 (by decide)) rfl rfl inBX10 (by decide) tw241 rfl dX10_rub_40 ?_
        refine x_getRN (j := 1) (i := 156) (q := (RX2, TX2, 6)) (host := "CalledNumbers") C (152 + 5) (iX18 (by decide)) (lX18 (by decide)) rfl inBX2 (by decide) twN193 rfl dX10_rub_43 ?_
        refine x_iload_n C 1 dX10_rub_46 rfl ?_
        obtain ⟨c12, h0⟩ := ob_if h0
        refine x_iald C (iX19 (by decide)) (lX19 (by decide)) (vin_in c12) dX10_rub_47 ?_
        cases h0
        exact x_iret C R dX10_rub_48
      · replace h0 := ob_neg c8 h0
        refine x_bipush (v := (-2)) C dX10_rub_30 rfl ?_
        cases h0
        exact x_iret C R dX10_rub_32
    · replace h0 := ob_pos c6 h0
      refine x_iconst (v := (-1)) C dX10_rub_16 rfl ?_
      cases h0
      exact x_iret C R dX10_rub_17
set_option maxHeartbeats 4000000 in
set_option maxRecDepth 100000 in
theorem c_X10_doAgain {l : Launch} {D : va_G} {ad : Nat → Nat} {cy : Nat → ClassId} (hJ : mJ LX ad) {σ τ : mS}  {r : Unit}  (h0 : X10_doAgain σ = some (r, τ)) : MetG l LX D ad cy yX10_doAgain cX10_doAgain 3 none 5 [.ref (ad 0)] σ (none) τ := by
  refine MetG.of hJ (by decide +kernel) [(0, .ref (ad 0))] rfl (Nat.le_of_ble_eq_true rfl) ?_
  intro K e1 e2 e3 e4 e5 C R
  subst e1
  subst e2
  subst e3
  subst e4
  unfold X10_doAgain at h0
  refine x_aload_n C 0 dX10_doAgain_0 rfl ?_
  refine x_getR (j := 6) (i := 45) (q := (RX10, TX10, 18)) C (144 + 5) (iX 0 (by decide)) rfl rfl inBX10 (by decide) tw241 rfl dX10_doAgain_1 ?_
  obtain ⟨r1, s3, g2, h0⟩ := ob_bd h0
  refine x_callV (ar := 0) (q := (RX2, TX2, 6)) (rest := []) C (c_X2_begin C.2.2.2.2.2.2.1 (by decide) g2) (iX18 (by decide)) (lX18 (by decide)) rfl hy_X2_begin ⟨tw381, tw382, tw383, tw72, tw384⟩ (by decide) (by decide) rfl rfl (Nat.le_of_ble_eq_true rfl) dX10_doAgain_4 ?_
  show Wx LX K s3 7 [(0, .ref (kad K 0))] []
  refine x_iconst (v := 0) C dX10_doAgain_7 rfl ?_
  refine x_istore_n (lv' := [(1, .int 0), (0, .ref (kad K 0))]) C dX10_doAgain_8 (by rw [e5]; decide) rfl ?_
  obtain ⟨e18, g19, h0⟩ := ob_bind h0
  have J1 : ∀ (s6 : mS), s6 = e18 → Wx LX K s6 77 [] [] := by
    intro s6 e9
    subst e9
    replace h0 := un1_l h0
    cases h0
    exact x_vret C R dX10_doAgain_77
  refine lp_G (G := fun q : mS × Int32 => Wx LX K q.1 9 [(1, .int q.2), (0, .ref (kad K 0))] []) (fun q x h1 ihL1 ihR1 => ?_) big _ g19
  obtain ⟨s4, x5⟩ := q
  replace h1 : X10_doAgain_b9 s4 x5 = some x := h1
  unfold X10_doAgain_b9 at h1
  show Wx LX K s4 9 [(1, .int x5), (0, .ref (kad K 0))] []
  refine x_iload_n C 0 dX10_doAgain_9 rfl ?_
  refine x_aload_n C 1 dX10_doAgain_10 rfl ?_
  refine x_getR (j := 7) (i := 52) (q := (RX10, TX10, 18)) C (160 + 3) (iX 0 (by decide)) rfl rfl inBX10 (by decide) tw242 rfl dX10_doAgain_11 ?_
  refine x_getIN (j := 1) (i := 83) (q := (RX1, TX1, 2)) (host := "CalledNumbers") C (iX20 (by decide)) (lX20 (by decide)) rfl inBX1 (by decide) twN223 rfl dX10_doAgain_14 ?_
  refine x_icmpge C 77 dX10_doAgain_17 (by decide) (fun c8 => ?_) (fun c8 => ?_)
  · replace h1 := ob_pos c8 h1
    refine x_lv (lv' := []) [] rfl ?_
    exact J1 _ (ihR1 _ (Option.some.inj h1).symm)
  · replace h1 := ob_neg c8 h1
    refine x_aload_n C 1 dX10_doAgain_20 rfl ?_
    refine x_getR (j := 7) (i := 52) (q := (RX10, TX10, 18)) C (160 + 3) (iX 0 (by decide)) rfl rfl inBX10 (by decide) tw242 rfl dX10_doAgain_21 ?_
    refine x_getRN (j := 0) (i := 321) (q := (RX1, TX1, 2)) (host := "CalledNumbers") C (168 + 3) (iX20 (by decide)) (lX20 (by decide)) rfl inBX1 (by decide) twN222 rfl dX10_doAgain_24 ?_
    refine x_iload_n C 0 dX10_doAgain_27 rfl ?_
    obtain ⟨c9, h1⟩ := ob_if h1
    refine x_iald C (iX21 (by decide)) (lX21 (by decide)) (vin_in c9) dX10_doAgain_28 ?_
    refine x_istore_n (lv' := [(2, .int (s4.1 (168 + 3) x5.toNatClampNeg)), (1, .int x5), (0, .ref (kad K 0))]) C dX10_doAgain_29 (by rw [e5]; decide) rfl ?_
    refine x_iload_n C 0 dX10_doAgain_30 rfl ?_
    refine x_bipush (v := 16) C dX10_doAgain_31 rfl ?_
    refine x_icmpge C 50 dX10_doAgain_33 (by decide) (fun c11 => ?_) (fun c11 => ?_)
    · replace h1 := ob_pos c11 h1
      refine x_aload_n C 2 dX10_doAgain_50 rfl ?_
      refine x_getR (j := 6) (i := 45) (q := (RX10, TX10, 18)) C (144 + 5) (iX 0 (by decide)) rfl rfl inBX10 (by decide) tw241 rfl dX10_doAgain_51 ?_
      refine x_iload_n C 0 dX10_doAgain_54 rfl ?_
      refine x_bipush (v := 16) C dX10_doAgain_55 rfl ?_
      refine x_isub C dX10_doAgain_57 ?_
      refine x_bipush (v := 6) C dX10_doAgain_58 rfl ?_
      refine x_idiv C dX10_doAgain_60 (by decide) ?_
      refine x_iload_n C 0 dX10_doAgain_61 rfl ?_
      refine x_bipush (v := 16) C dX10_doAgain_62 rfl ?_
      refine x_isub C dX10_doAgain_64 ?_
      refine x_bipush (v := 6) C dX10_doAgain_65 rfl ?_
      refine x_irem C dX10_doAgain_67 (by decide) ?_
      obtain ⟨r12, s14, g13, h1⟩ := ob_bd h1
      refine x_callV (ar := 2) (q := (RX2, TX2, 6)) (rest := []) C (c_X2_turn C.2.2.2.2.2.2.1 (by decide) g13) (iX18 (by decide)) (lX18 (by decide)) rfl hy_X2_turn ⟨tw542, tw543, tw544, tw72, tw545⟩ (by decide) (by decide) rfl rfl (Nat.le_of_ble_eq_true rfl) dX10_doAgain_68 ?_
      show Wx LX K s14 71 [(2, .int (s4.1 (168 + 3) x5.toNatClampNeg)), (1, .int x5), (0, .ref (kad K 0))] []
      refine x_iinc (v := (x5 + 1)) (lv' := [(1, .int (x5 + 1)), (2, .int (s4.1 (168 + 3) x5.toNatClampNeg)), (0, .ref (kad K 0))]) C 1 dX10_doAgain_71 rfl rfl (by rw [e5]; decide) rfl ?_
      refine x_goto C 9 dX10_doAgain_74 (by decide) ?_
      refine x_lv (lv' := [(1, .int (x5 + 1)), (0, .ref (kad K 0))]) [0, 2] rfl ?_
      exact ihL1 _ (Option.some.inj h1).symm
    · replace h1 := ob_neg c11 h1
      refine x_aload_n C 2 dX10_doAgain_36 rfl ?_
      refine x_getR (j := 6) (i := 45) (q := (RX10, TX10, 18)) C (144 + 5) (iX 0 (by decide)) rfl rfl inBX10 (by decide) tw241 rfl dX10_doAgain_37 ?_
      refine x_iload_n C 0 dX10_doAgain_40 rfl ?_
      refine x_bipush (v := 15) C dX10_doAgain_41 rfl ?_
      obtain ⟨r15, s17, g16, h1⟩ := ob_bd h1
      refine x_callV (ar := 2) (q := (RX2, TX2, 6)) (rest := []) C (c_X2_ring C.2.2.2.2.2.2.1 (by decide) g16) (iX18 (by decide)) (lX18 (by decide)) rfl hy_X2_ring ⟨tw507, tw508, tw509, tw72, tw510⟩ (by decide) (by decide) rfl rfl (Nat.le_of_ble_eq_true rfl) dX10_doAgain_43 ?_
      show Wx LX K s17 46 [(2, .int (s4.1 (168 + 3) x5.toNatClampNeg)), (1, .int x5), (0, .ref (kad K 0))] [.int r15]
      refine x_pop C dX10_doAgain_46 rfl ?_
      refine x_goto C 71 dX10_doAgain_47 (by decide) ?_
      refine x_iinc (v := (x5 + 1)) (lv' := [(1, .int (x5 + 1)), (2, .int (s4.1 (168 + 3) x5.toNatClampNeg)), (0, .ref (kad K 0))]) C 1 dX10_doAgain_71 rfl rfl (by rw [e5]; decide) rfl ?_
      refine x_goto C 9 dX10_doAgain_74 (by decide) ?_
      refine x_lv (lv' := [(1, .int (x5 + 1)), (0, .ref (kad K 0))]) [0, 2] rfl ?_
      exact ihL1 _ (Option.some.inj h1).symm
set_option maxHeartbeats 4000000 in
set_option maxRecDepth 100000 in
theorem c_X10_undo {l : Launch} {D : va_G} {ad : Nat → Nat} {cy : Nat → ClassId} (hJ : mJ LX ad) {σ τ : mS} {a1 : Int32} {r : Int32}  (h0 : X10_undo σ a1 = some (r, τ)) : MetG l LX D ad cy yX10_undo cX10_undo 3 (some .int) 6 [.ref (ad 0), .int a1] σ (some (.int r)) τ := by
  refine MetG.of hJ (by decide +kernel) [(0, .ref (ad 0)), (1, .int a1)] rfl (Nat.le_of_ble_eq_true rfl) ?_
  intro K e1 e2 e3 e4 e5 C R
  subst e1
  subst e2
  subst e3
  subst e4
  unfold X10_undo at h0
  refine x_iload_n C 1 dX10_undo_0 rfl ?_
  refine x_iflt C 15 dX10_undo_1 (by decide) (fun c2 => ?_) (fun c2 => ?_)
  · replace h0 := ob_pos c2 h0
    refine x_iconst (v := (-1)) C dX10_undo_15 rfl ?_
    cases h0
    exact x_iret C R dX10_undo_16
  · replace h0 := ob_neg c2 h0
    refine x_iload_n C 1 dX10_undo_4 rfl ?_
    refine x_aload_n C 0 dX10_undo_5 rfl ?_
    refine x_getR (j := 7) (i := 52) (q := (RX10, TX10, 18)) C (160 + 3) (iX 0 (by decide)) rfl rfl inBX10 (by decide) tw242 rfl dX10_undo_6 ?_
    refine x_getIN (j := 1) (i := 83) (q := (RX1, TX1, 2)) (host := "CalledNumbers") C (iX20 (by decide)) (lX20 (by decide)) rfl inBX1 (by decide) twN223 rfl dX10_undo_9 ?_
    refine x_icmple C 17 dX10_undo_12 (by decide) (fun c4 => ?_) (fun c4 => ?_)
    · replace h0 := ob_pos c4 h0
      refine x_aload_n C 0 dX10_undo_17 rfl ?_
      refine x_getR (j := 7) (i := 52) (q := (RX10, TX10, 18)) C (160 + 3) (iX 0 (by decide)) rfl rfl inBX10 (by decide) tw242 rfl dX10_undo_18 ?_
      refine x_getIN (j := 1) (i := 83) (q := (RX1, TX1, 2)) (host := "CalledNumbers") C (iX20 (by decide)) (lX20 (by decide)) rfl inBX1 (by decide) twN223 rfl dX10_undo_21 ?_
      refine x_iload_n C 1 dX10_undo_24 rfl ?_
      refine x_isub C dX10_undo_25 ?_
      refine x_istore_n (lv' := [(2, .int ((σ.1 (160 + 3) 1) - a1)), (0, .ref (kad K 0)), (1, .int a1)]) C dX10_undo_26 (by rw [e5]; decide) rfl ?_
      refine x_aload_n C 1 dX10_undo_27 rfl ?_
      refine x_getR (j := 7) (i := 52) (q := (RX10, TX10, 18)) C (160 + 3) (iX 0 (by decide)) rfl rfl inBX10 (by decide) tw242 rfl dX10_undo_28 ?_
      refine x_iload_n C 2 dX10_undo_31 rfl ?_
      refine x_putIN (j := 1) (i := 83) (q := (RX1, TX1, 2)) (host := "CalledNumbers") C tyX1 tyX1_ok nmX1 (iX20 (by decide)) (lX20 (by decide)) rfl inBX1 (by decide) twN223 rfl (by decide +kernel) rfl dX10_undo_32 ?_
      refine x_aload_n C 1 dX10_undo_35 rfl ?_
      obtain ⟨r5, s7, g6, h0⟩ := ob_bd h0
      refine x_callV (ar := 0) (q := (RX10, TX10, 18)) (rest := []) C (c_X10_doAgain C.2.2.2.2.2.2.1  g6) (iX 0 (by decide)) rfl rfl hy_X10_doAgain ⟨tw550, tw552, tw14, tw63, tw553⟩ (by decide) (by decide) rfl rfl (Nat.le_of_ble_eq_true rfl) dX10_undo_36 ?_
      show Wx LX K s7 39 [(2, .int ((σ.1 (160 + 3) 1) - a1)), (0, .ref (kad K 0)), (1, .int a1)] []
      refine x_iload_n C 0 dX10_undo_39 rfl ?_
      cases h0
      exact x_iret C R dX10_undo_40
    · replace h0 := ob_neg c4 h0
      refine x_iconst (v := (-1)) C dX10_undo_15 rfl ?_
      cases h0
      exact x_iret C R dX10_undo_16
set_option maxHeartbeats 4000000 in
set_option maxRecDepth 100000 in
theorem c_X10_isKeptPlace {l : Launch} {D : va_G} {ad : Nat → Nat} {cy : Nat → ClassId} (hJ : mJ LX ad) {σ : mS} {a1 : Int32} {r : Int32}  (h0 : X10_isKeptPlace a1 = r) : MetG l LX D ad cy yX10_isKeptPlace cX10_isKeptPlace 2 (some .boolean) 0 [.ref (ad 0), .int a1] σ (some (.int r)) σ := by
  refine MetG.of hJ (by decide +kernel) [(0, .ref (ad 0)), (1, .int a1)] rfl (Nat.le_of_ble_eq_true rfl) ?_
  intro K e1 e2 e3 e4 e5 C R
  subst e1
  subst e2
  subst e3
  subst e4
  unfold X10_isKeptPlace at h0
  refine x_iload_n C 1 dX10_isKeptPlace_0 rfl ?_
  refine x_iflt C 13 dX10_isKeptPlace_1 (by decide) (fun c2 => ?_) (fun c2 => ?_)
  · replace h0 := ob_pos c2 h0
    refine x_iconst (v := 0) C dX10_isKeptPlace_13 rfl ?_
    subst h0
    exact x_zret C (Or.inl rfl) R dX10_isKeptPlace_14
  · replace h0 := ob_neg c2 h0
    refine x_iload_n C 1 dX10_isKeptPlace_4 rfl ?_
    refine x_iconst (v := 3) C dX10_isKeptPlace_5 rfl ?_
    refine x_icmpge C 13 dX10_isKeptPlace_6 (by decide) (fun c4 => ?_) (fun c4 => ?_)
    · replace h0 := ob_pos c4 h0
      refine x_iconst (v := 0) C dX10_isKeptPlace_13 rfl ?_
      subst h0
      exact x_zret C (Or.inl rfl) R dX10_isKeptPlace_14
    · replace h0 := ob_neg c4 h0
      refine x_iconst (v := 1) C dX10_isKeptPlace_9 rfl ?_
      refine x_goto C 14 dX10_isKeptPlace_10 (by decide) ?_
      subst h0
      exact x_zret C (Or.inr rfl) R dX10_isKeptPlace_14
set_option maxHeartbeats 4000000 in
set_option maxRecDepth 100000 in
theorem c_X10_keep {l : Launch} {D : va_G} {ad : Nat → Nat} {cy : Nat → ClassId} (hJ : mJ LX ad) {σ τ : mS} {a1 : Int32} {r : Int32}  (h0 : X10_keep σ a1 = some (r, τ)) : MetG l LX D ad cy yX10_keep cX10_keep 2 (some .int) 1 [.ref (ad 0), .int a1] σ (some (.int r)) τ := by
  refine MetG.of hJ (by decide +kernel) [(0, .ref (ad 0)), (1, .int a1)] rfl (Nat.le_of_ble_eq_true rfl) ?_
  intro K e1 e2 e3 e4 e5 C R
  subst e1
  subst e2
  subst e3
  subst e4
  unfold X10_keep at h0
  refine x_aload_n C 0 dX10_keep_0 rfl ?_
  refine x_iload_n C 1 dX10_keep_1 rfl ?_
  refine x_callV (ar := 1) (q := (RX10, TX10, 18)) (rest := []) C (c_X10_isKeptPlace C.2.2.2.2.2.2.1  rfl) (iX 0 (by decide)) rfl rfl hy_X10_isKeptPlace ⟨tw558, tw560, tw15, tw63, tw561⟩ (by decide) (by decide) rfl rfl (Nat.le_of_ble_eq_true rfl) dX10_keep_2 ?_
  show Wx LX K σ 5 [(0, .ref (kad K 0)), (1, .int a1)] [.int (X10_isKeptPlace a1)]
  refine x_ifne C 10 dX10_keep_5 (by decide) (fun c3 => ?_) (fun c3 => ?_)
  · replace h0 := ob_neg c3 h0
    refine x_aload_n C 0 dX10_keep_10 rfl ?_
    refine x_getR (j := 5) (i := 36) (q := (RX10, TX10, 18)) C 88 (iX 0 (by decide)) rfl rfl inBX10 (by decide) tw240 rfl dX10_keep_11 ?_
    refine x_getIN (j := 4) (i := 135) (q := (RX7, TX7, 5)) (host := "CalledNumbers") C (iX 88 (by decide)) rfl rfl inBX7 (by decide) twN173 rfl dX10_keep_14 ?_
    refine x_ifne C 23 dX10_keep_17 (by decide) (fun c5 => ?_) (fun c5 => ?_)
    · replace h0 := ob_neg c5 h0
      refine x_aload_n C 0 dX10_keep_23 rfl ?_
      refine x_getR (j := 8) (i := 56) (q := (RX10, TX10, 18)) C 176 (iX 0 (by decide)) rfl rfl inBX10 (by decide) tw243 rfl dX10_keep_24 ?_
      refine x_iload_n C 1 dX10_keep_27 rfl ?_
      obtain ⟨c6, h0⟩ := ob_if h0
      refine x_aald C (iX 176 (by decide)) rfl rfl rfl (vin_in c6) dX10_keep_28 ?_
      refine x_aload_n C 0 dX10_keep_29 rfl ?_
      refine x_getR (j := 7) (i := 52) (q := (RX10, TX10, 18)) C (160 + 3) (iX 0 (by decide)) rfl rfl inBX10 (by decide) tw242 rfl dX10_keep_30 ?_
      obtain ⟨r7, s9, g8, h0⟩ := ob_bd h0
      refine x_callV (ar := 1) (q := (RX1, TX1, 2)) (rest := []) C (c_X1_take C.2.2.2.2.2.2.1 (Nat.lt_of_lt_of_le (vin_lt c6) (by decide)) (by decide) g8) (iX20 (Nat.lt_of_lt_of_le (vin_lt c6) (by decide))) (lX20 (Nat.lt_of_lt_of_le (vin_lt c6) (by decide))) rfl hy_X1_take ⟨tw562, tw563, tw564, tw73, tw565⟩ (by decide) (by decide) rfl rfl (Nat.le_of_ble_eq_true rfl) dX10_keep_33 ?_
      show Wx LX K s9 36 [(0, .ref (kad K 0)), (1, .int a1)] []
      refine x_aload_n C 0 dX10_keep_36 rfl ?_
      refine x_getR (j := 7) (i := 52) (q := (RX10, TX10, 18)) C (160 + 3) (iX 0 (by decide)) rfl rfl inBX10 (by decide) tw242 rfl dX10_keep_37 ?_
      refine x_getIN (j := 1) (i := 83) (q := (RX1, TX1, 2)) (host := "CalledNumbers") C (iX20 (by decide)) (lX20 (by decide)) rfl inBX1 (by decide) twN223 rfl dX10_keep_40 ?_
      cases h0
      exact x_iret C R dX10_keep_43
    · replace h0 := ob_pos c5 h0
      refine x_bipush (v := (-4)) C dX10_keep_20 rfl ?_
      cases h0
      exact x_iret C R dX10_keep_22
  · replace h0 := ob_pos c3 h0
    refine x_iconst (v := (-1)) C dX10_keep_8 rfl ?_
    cases h0
    exact x_iret C R dX10_keep_9
set_option maxHeartbeats 4000000 in
set_option maxRecDepth 100000 in
theorem c_X10_on {l : Launch} {D : va_G} {ad : Nat → Nat} {cy : Nat → ClassId} (hJ : mJ LX ad) {σ τ : mS} {a1 : Int32} {r : Int32}  (h0 : X10_on σ a1 = some (r, τ)) : MetG l LX D ad cy yX10_on cX10_on 2 (some .int) 6 [.ref (ad 0), .int a1] σ (some (.int r)) τ := by
  refine MetG.of hJ (by decide +kernel) [(0, .ref (ad 0)), (1, .int a1)] rfl (Nat.le_of_ble_eq_true rfl) ?_
  intro K e1 e2 e3 e4 e5 C R
  subst e1
  subst e2
  subst e3
  subst e4
  unfold X10_on at h0
  refine x_aload_n C 0 dX10_on_0 rfl ?_
  refine x_iload_n C 1 dX10_on_1 rfl ?_
  refine x_callV (ar := 1) (q := (RX10, TX10, 18)) (rest := []) C (c_X10_isKeptPlace C.2.2.2.2.2.2.1  rfl) (iX 0 (by decide)) rfl rfl hy_X10_isKeptPlace ⟨tw558, tw560, tw15, tw63, tw561⟩ (by decide) (by decide) rfl rfl (Nat.le_of_ble_eq_true rfl) dX10_on_2 ?_
  show Wx LX K σ 5 [(0, .ref (kad K 0)), (1, .int a1)] [.int (X10_isKeptPlace a1)]
  refine x_ifne C 10 dX10_on_5 (by decide) (fun c3 => ?_) (fun c3 => ?_)
  · replace h0 := ob_neg c3 h0
    refine x_aload_n C 0 dX10_on_10 rfl ?_
    refine x_getR (j := 8) (i := 56) (q := (RX10, TX10, 18)) C 176 (iX 0 (by decide)) rfl rfl inBX10 (by decide) tw243 rfl dX10_on_11 ?_
    refine x_iload_n C 1 dX10_on_14 rfl ?_
    obtain ⟨c4, h0⟩ := ob_if h0
    refine x_aald C (iX 176 (by decide)) rfl rfl rfl (vin_in c4) dX10_on_15 ?_
    refine x_getIN (j := 1) (i := 83) (q := (RX1, TX1, 2)) (host := "CalledNumbers") C (iX20 (Nat.lt_of_lt_of_le (vin_lt c4) (by decide))) (lX20 (Nat.lt_of_lt_of_le (vin_lt c4) (by decide))) rfl inBX1 (by decide) twN223 rfl dX10_on_16 ?_
    refine x_ifge C 28 dX10_on_19 (by decide) (fun c6 => ?_) (fun c6 => ?_)
    · replace h0 := ob_pos c6 h0
      refine x_aload_n C 0 dX10_on_28 rfl ?_
      refine x_getR (j := 7) (i := 52) (q := (RX10, TX10, 18)) C (160 + 3) (iX 0 (by decide)) rfl rfl inBX10 (by decide) tw242 rfl dX10_on_29 ?_
      refine x_aload_n C 0 dX10_on_32 rfl ?_
      refine x_getR (j := 8) (i := 56) (q := (RX10, TX10, 18)) C 176 (iX 0 (by decide)) rfl rfl inBX10 (by decide) tw243 rfl dX10_on_33 ?_
      refine x_iload_n C 1 dX10_on_36 rfl ?_
      obtain ⟨c7, h0⟩ := ob_if h0
      refine x_aald C (iX 176 (by decide)) rfl rfl rfl (vin_in c7) dX10_on_37 ?_
      obtain ⟨r8, s10, g9, h0⟩ := ob_bd h0
      refine x_callV (ar := 1) (q := (RX1, TX1, 2)) (rest := []) C (c_X1_take C.2.2.2.2.2.2.1 (by decide) (Nat.lt_of_lt_of_le (vin_lt c7) (by decide)) g9) (iX20 (by decide)) (lX20 (by decide)) rfl hy_X1_take ⟨tw562, tw563, tw564, tw73, tw565⟩ (by decide) (by decide) rfl rfl (Nat.le_of_ble_eq_true rfl) dX10_on_38 ?_
      show Wx LX K s10 41 [(0, .ref (kad K 0)), (1, .int a1)] []
      refine x_aload_n C 0 dX10_on_41 rfl ?_
      obtain ⟨r11, s13, g12, h0⟩ := ob_bd h0
      refine x_callV (ar := 0) (q := (RX10, TX10, 18)) (rest := []) C (c_X10_doAgain C.2.2.2.2.2.2.1  g12) (iX 0 (by decide)) rfl rfl hy_X10_doAgain ⟨tw550, tw552, tw14, tw63, tw553⟩ (by decide) (by decide) rfl rfl (Nat.le_of_ble_eq_true rfl) dX10_on_42 ?_
      show Wx LX K s13 45 [(0, .ref (kad K 0)), (1, .int a1)] []
      refine x_aload_n C 0 dX10_on_45 rfl ?_
      refine x_getR (j := 7) (i := 52) (q := (RX10, TX10, 18)) C (160 + 3) (iX 0 (by decide)) rfl rfl inBX10 (by decide) tw242 rfl dX10_on_46 ?_
      refine x_getIN (j := 1) (i := 83) (q := (RX1, TX1, 2)) (host := "CalledNumbers") C (iX20 (by decide)) (lX20 (by decide)) rfl inBX1 (by decide) twN223 rfl dX10_on_49 ?_
      cases h0
      exact x_iret C R dX10_on_52
    · replace h0 := ob_neg c6 h0
      refine x_aload_n C 0 dX10_on_22 rfl ?_
      refine x_iconst (v := 1) C dX10_on_23 rfl ?_
      obtain ⟨r14, s16, g15, h0⟩ := ob_bd h0
      refine x_callV (ar := 1) (q := (RX10, TX10, 18)) (rest := []) C (c_X10_found C.2.2.2.2.2.2.1  g15) (iX 0 (by decide)) rfl rfl hy_X10_found ⟨tw298, tw300, tw1, tw63, tw301⟩ (by decide) (by decide) rfl rfl (Nat.le_of_ble_eq_true rfl) dX10_on_24 ?_
      show Wx LX K s16 27 [(0, .ref (kad K 0)), (1, .int a1)] [.int r14]
      cases h0
      exact x_iret C R dX10_on_27
  · replace h0 := ob_pos c3 h0
    refine x_iconst (v := (-1)) C dX10_on_8 rfl ?_
    cases h0
    exact x_iret C R dX10_on_9
set_option maxHeartbeats 4000000 in
set_option maxRecDepth 100000 in
theorem c_X10_hears {l : Launch} {D : va_G} {ad : Nat → Nat} {cy : Nat → ClassId} (hJ : mJ LX ad) {σ : mS} {a1 : Int32} {a2 : Int32} {a3 : Int32} {a4 : Int32} {r : Int32}  (h0 : X10_hears σ a1 a2 a3 a4 = some r) : MetG l LX D ad cy yX10_hears cX10_hears 5 (some .int) 2 [.ref (ad 0), .int a1, .int a2, .int a3, .int a4] σ (some (.int r)) σ := by
  refine MetG.of hJ (by decide +kernel) [(0, .ref (ad 0)), (1, .int a1), (2, .int a2), (3, .int a3), (4, .int a4)] rfl (Nat.le_of_ble_eq_true rfl) ?_
  intro K e1 e2 e3 e4 e5 C R
  subst e1
  subst e2
  subst e3
  subst e4
  unfold X10_hears at h0
  refine x_aload_n C 0 dX10_hears_0 rfl ?_
  refine x_iload_n C 1 dX10_hears_1 rfl ?_
  refine x_callV (ar := 1) (q := (RX10, TX10, 18)) (rest := []) C (c_X10_isPlayer C.2.2.2.2.2.2.1  rfl) (iX 0 (by decide)) rfl rfl hy_X10_isPlayer ⟨tw390, tw392, tw8, tw63, tw393⟩ (by decide) (by decide) rfl rfl (Nat.le_of_ble_eq_true rfl) dX10_hears_2 ?_
  show Wx LX K σ 5 [(0, .ref (kad K 0)), (1, .int a1), (2, .int a2), (3, .int a3), (4, .int a4)] [.int (X10_isPlayer σ a1)]
  refine x_ifeq C 26 dX10_hears_5 (by decide) (fun c3 => ?_) (fun c3 => ?_)
  · replace h0 := ob_pos c3 h0
    refine x_iconst (v := (-1)) C dX10_hears_26 rfl ?_
    cases h0
    exact x_iret C R dX10_hears_27
  · replace h0 := ob_neg c3 h0
    refine x_aload_n C 0 dX10_hears_8 rfl ?_
    refine x_iload_n C 2 dX10_hears_9 rfl ?_
    refine x_callV (ar := 1) (q := (RX10, TX10, 18)) (rest := []) C (c_X10_isNumber C.2.2.2.2.2.2.1  rfl) (iX 0 (by decide)) rfl rfl hy_X10_isNumber ⟨tw491, tw493, tw11, tw63, tw494⟩ (by decide) (by decide) rfl rfl (Nat.le_of_ble_eq_true rfl) dX10_hears_10 ?_
    show Wx LX K σ 13 [(0, .ref (kad K 0)), (1, .int a1), (2, .int a2), (3, .int a3), (4, .int a4)] [.int (X10_isNumber a2)]
    refine x_ifeq C 26 dX10_hears_13 (by decide) (fun c6 => ?_) (fun c6 => ?_)
    · replace h0 := ob_pos c6 h0
      refine x_iconst (v := (-1)) C dX10_hears_26 rfl ?_
      cases h0
      exact x_iret C R dX10_hears_27
    · replace h0 := ob_neg c6 h0
      refine x_iload_n C 3 dX10_hears_16 rfl ?_
      refine x_iflt C 26 dX10_hears_17 (by decide) (fun c8 => ?_) (fun c8 => ?_)
      · replace h0 := ob_pos c8 h0
        refine x_iconst (v := (-1)) C dX10_hears_26 rfl ?_
        cases h0
        exact x_iret C R dX10_hears_27
      · replace h0 := ob_neg c8 h0
        refine x_iload_n C 3 dX10_hears_20 rfl ?_
        refine x_bipush (v := 12) C dX10_hears_21 rfl ?_
        refine x_icmple C 28 dX10_hears_23 (by decide) (fun c10 => ?_) (fun c10 => ?_)
        · replace h0 := ob_pos c10 h0
          refine x_iload_n C 3 dX10_hears_28 rfl ?_
          refine x_iload_n C 2 dX10_hears_29 rfl ?_
          refine x_icmpeq C 45 dX10_hears_30 (by decide) (fun c12 => ?_) (fun c12 => ?_)
          · replace h0 := ob_pos c12 h0
            refine x_iconst (v := (-1)) C dX10_hears_45 rfl ?_
            cases h0
            exact x_iret C R dX10_hears_46
          · replace h0 := ob_neg c12 h0
            refine x_iload C 4 dX10_hears_33 rfl ?_
            refine x_iflt C 45 dX10_hears_35 (by decide) (fun c14 => ?_) (fun c14 => ?_)
            · replace h0 := ob_pos c14 h0
              refine x_iconst (v := (-1)) C dX10_hears_45 rfl ?_
              cases h0
              exact x_iret C R dX10_hears_46
            · replace h0 := ob_neg c14 h0
              refine x_iload C 4 dX10_hears_38 rfl ?_
              refine x_bipush (v := 99) C dX10_hears_40 rfl ?_
              refine x_icmple C 47 dX10_hears_42 (by decide) (fun c16 => ?_) (fun c16 => ?_)
              · replace h0 := ob_pos c16 h0
                refine x_aload_n C 0 dX10_hears_47 rfl ?_
                refine x_getR (j := 5) (i := 36) (q := (RX10, TX10, 18)) C 88 (iX 0 (by decide)) rfl rfl inBX10 (by decide) tw240 rfl dX10_hears_48 ?_
                refine x_iload_n C 1 dX10_hears_51 rfl ?_
                obtain ⟨r17, g18, h0⟩ := ob_bind h0
                refine x_callV (ar := 1) (q := (RX7, TX7, 5)) (rest := []) C (c_X7_kindAt C.2.2.2.2.2.2.1  g18) (iX 88 (by decide)) rfl rfl hy_X7_kindAt ⟨tw398, tw399, tw400, tw65, tw401⟩ (by decide) (by decide) rfl rfl (Nat.le_of_ble_eq_true rfl) dX10_hears_52 ?_
                show Wx LX K σ 55 [(0, .ref (kad K 0)), (1, .int a1), (2, .int a2), (3, .int a3), (4, .int a4)] [.ref (kad K (104 + r17))]
                refine x_iload_n C 2 dX10_hears_55 rfl ?_
                refine x_iload_n C 3 dX10_hears_56 rfl ?_
                refine x_iload C 4 dX10_hears_57 rfl ?_
                refine x_K_X5_heard C (KB_X7_kindAt g18) tw574 (by decide) (Nat.le_of_ble_eq_true rfl) dX10_hears_59 ?_
                cases h0
                exact x_iret C R dX10_hears_62
              · replace h0 := ob_neg c16 h0
                refine x_iconst (v := (-1)) C dX10_hears_45 rfl ?_
                cases h0
                exact x_iret C R dX10_hears_46
        · replace h0 := ob_neg c10 h0
          refine x_iconst (v := (-1)) C dX10_hears_26 rfl ?_
          cases h0
          exact x_iret C R dX10_hears_27
set_option maxHeartbeats 4000000 in
set_option maxRecDepth 100000 in
theorem c_X10_run {l : Launch} {D : va_G} {ad : Nat → Nat} {cy : Nat → ClassId} (hJ : mJ LX ad) {σ τ : mS} {a1 : Int32} {r : Int32}  (h0 : X10_run σ a1 = some (r, τ)) : MetG l LX D ad cy yX10_run cX10_run 6 (some .int) 5 [.ref (ad 0), .int a1] σ (some (.int r)) τ := by
  refine MetG.of hJ (by decide +kernel) [(0, .ref (ad 0)), (1, .int a1)] rfl (Nat.le_of_ble_eq_true rfl) ?_
  intro K e1 e2 e3 e4 e5 C R
  subst e1
  subst e2
  subst e3
  subst e4
  unfold X10_run at h0
  refine x_aload_n C 0 dX10_run_0 rfl ?_
  refine x_getR (j := 5) (i := 36) (q := (RX10, TX10, 18)) C 88 (iX 0 (by decide)) rfl rfl inBX10 (by decide) tw240 rfl dX10_run_1 ?_
  refine x_getIN (j := 4) (i := 135) (q := (RX7, TX7, 5)) (host := "CalledNumbers") C (iX 88 (by decide)) rfl rfl inBX7 (by decide) twN173 rfl dX10_run_4 ?_
  refine x_ifne C 13 dX10_run_7 (by decide) (fun c2 => ?_) (fun c2 => ?_)
  · replace h0 := ob_neg c2 h0
    refine x_aload_n C 0 dX10_run_13 rfl ?_
    refine x_iload_n C 1 dX10_run_14 rfl ?_
    obtain ⟨r3, s5, g4, h0⟩ := ob_bd h0
    refine x_callV (ar := 1) (q := (RX10, TX10, 18)) (rest := []) C (c_X10_refusedRow C.2.2.2.2.2.2.1  g4) (iX 0 (by decide)) rfl rfl hy_X10_refusedRow ⟨tw310, tw312, tw3, tw63, tw313⟩ (by decide) (by decide) rfl rfl (Nat.le_of_ble_eq_true rfl) dX10_run_15 ?_
    show Wx LX K s5 18 [(0, .ref (kad K 0)), (1, .int a1)] [.int r3]
    refine x_istore_n (lv' := [(2, .int r3), (0, .ref (kad K 0)), (1, .int a1)]) C dX10_run_18 (by rw [e5]; decide) rfl ?_
    refine x_iload_n C 0 dX10_run_19 rfl ?_
    refine x_ifeq C 25 dX10_run_20 (by decide) (fun c7 => ?_) (fun c7 => ?_)
    · replace h0 := ob_pos c7 h0
      refine x_aload_n C 1 dX10_run_25 rfl ?_
      refine x_getR (j := 1) (i := 14) (q := (RX10, TX10, 18)) C 24 (iX 0 (by decide)) rfl rfl inBX10 (by decide) tw236 rfl dX10_run_26 ?_
      refine x_iload_n C 2 dX10_run_29 rfl ?_
      obtain ⟨c8, h0⟩ := ob_if h0
      refine x_iald C (iX 24 (by decide)) rfl (vin_in c8) dX10_run_30 ?_
      refine x_istore_n (lv' := [(3, .int (s5.1 24 a1.toNatClampNeg)), (2, .int r3), (0, .ref (kad K 0)), (1, .int a1)]) C dX10_run_31 (by rw [e5]; decide) rfl ?_
      refine x_iload_n C 0 dX10_run_32 rfl ?_
      refine x_bipush (v := 12) C dX10_run_33 rfl ?_
      refine x_icmple C 44 dX10_run_35 (by decide) (fun c10 => ?_) (fun c10 => ?_)
      · replace h0 := ob_pos c10 h0
        refine x_iconst (v := 0) C dX10_run_44 rfl ?_
        refine x_istore (lv' := [(4, .int 0), (3, .int (s5.1 24 a1.toNatClampNeg)), (2, .int r3), (0, .ref (kad K 0)), (1, .int a1)]) C dX10_run_45 (by rw [e5]; decide) rfl ?_
        obtain ⟨e44, g45, h0⟩ := ob_bind h0
        have J1 : ∀ (u9 : Unit), .inl u9 = e44 → Wx LX K s5 81 [(3, .int (s5.1 24 a1.toNatClampNeg)), (0, .ref (kad K 0)), (1, .int a1)] [] := by
          intro u9 e9
          subst e9
          replace h0 := sm1_l h0
          refine x_aload_n C 1 dX10_run_81 rfl ?_
          refine x_getR (j := 9) (i := 60) (q := (RX10, TX10, 18)) C 184 (iX 0 (by decide)) rfl rfl inBX10 (by decide) tw244 rfl dX10_run_82 ?_
          refine x_iconst (v := 0) C dX10_run_85 rfl ?_
          obtain ⟨c12, h0⟩ := ob_if h0
          refine x_aald C (iX 184 (by decide)) rfl rfl rfl (vin_in c12) dX10_run_86 ?_
          refine x_astore (lv' := [(4, .ref (kad K (144 + (0 : Int32).toNatClampNeg))), (3, .int (s5.1 24 a1.toNatClampNeg)), (0, .ref (kad K 0)), (1, .int a1)]) C dX10_run_87 (by rw [e5]; decide) rfl ?_
          refine x_aload C 0 dX10_run_89 rfl ?_
          refine x_aload_n C 2 dX10_run_91 rfl ?_
          refine x_getR (j := 6) (i := 45) (q := (RX10, TX10, 18)) C (144 + 5) (iX 0 (by decide)) rfl rfl inBX10 (by decide) tw241 rfl dX10_run_92 ?_
          obtain ⟨r13, s15, g14, h0⟩ := ob_bd h0
          refine x_callV (ar := 1) (q := (RX2, TX2, 6)) (rest := []) C (c_X2_take C.2.2.2.2.2.2.1 (Nat.lt_of_lt_of_le (vin_lt c12) (by decide)) (by decide) g14) (iX18 (Nat.lt_of_lt_of_le (vin_lt c12) (by decide))) (lX18 (Nat.lt_of_lt_of_le (vin_lt c12) (by decide))) rfl hy_X2_take ⟨tw579, tw580, tw581, tw72, tw582⟩ (by decide) (by decide) rfl rfl (Nat.le_of_ble_eq_true rfl) dX10_run_95 ?_
          show Wx LX K s15 98 [(4, .ref (kad K (144 + (0 : Int32).toNatClampNeg))), (3, .int (s5.1 24 a1.toNatClampNeg)), (0, .ref (kad K 0)), (1, .int a1)] []
          refine x_iconst (v := 0) C dX10_run_98 rfl ?_
          refine x_istore (lv' := [(5, .int 0), (4, .ref (kad K (144 + (0 : Int32).toNatClampNeg))), (3, .int (s5.1 24 a1.toNatClampNeg)), (0, .ref (kad K 0)), (1, .int a1)]) C dX10_run_99 (by rw [e5]; decide) rfl ?_
          obtain ⟨e32, g33, h0⟩ := ob_bind h0
          have J2 : ∀ (s18 : mS) (y19 : Int32), (s18, y19) = e32 → Wx LX K s18 147 [(5, .int y19), (4, .ref (kad K (144 + (0 : Int32).toNatClampNeg))), (0, .ref (kad K 0))] [] := by
            intro s18 y19 e9
            subst e9
            replace h0 := un2_l h0
            refine x_aload_n C 2 dX10_run_147 rfl ?_
            refine x_iload C 0 dX10_run_148 rfl ?_
            refine x_putI (j := 13) (i := 99) (q := (RX10, TX10, 18)) C tyX10 tyX10_ok nmX10 (iX 0 (by decide)) rfl rfl inBX10 (by decide) tw248 rfl (by decide +kernel) rfl dX10_run_150 ?_
            refine x_aload C 1 dX10_run_153 rfl ?_
            refine x_getIN (j := 2) (i := 223) (q := (RX2, TX2, 6)) (host := "CalledNumbers") C (iX18 (Nat.lt_of_lt_of_le (vin_lt c12) (by decide))) (lX18 (Nat.lt_of_lt_of_le (vin_lt c12) (by decide))) rfl inBX2 (by decide) twN195 rfl dX10_run_155 ?_
            cases h0
            exact x_iret C R dX10_run_158
          refine lp_G (G := fun q : mS × Int32 => Wx LX K q.1 101 [(5, .int q.2), (4, .ref (kad K (144 + (0 : Int32).toNatClampNeg))), (3, .int (s5.1 24 a1.toNatClampNeg)), (0, .ref (kad K 0)), (1, .int a1)] []) (fun q x h2 ihL2 ihR2 => ?_) big _ g33
          obtain ⟨s16, x17⟩ := q
          replace h2 : X10_run_b101 a1 s5 s16 x17 = some x := h2
          unfold X10_run_b101 at h2
          show Wx LX K s16 101 [(5, .int x17), (4, .ref (kad K (144 + (0 : Int32).toNatClampNeg))), (3, .int (s5.1 24 a1.toNatClampNeg)), (0, .ref (kad K 0)), (1, .int a1)] []
          refine x_iload C 0 dX10_run_101 rfl ?_
          refine x_iload_n C 2 dX10_run_103 rfl ?_
          refine x_icmpge C 147 dX10_run_104 (by decide) (fun c21 => ?_) (fun c21 => ?_)
          · replace h2 := ob_pos c21 h2
            refine x_lv (lv' := [(5, .int x17), (4, .ref (kad K (144 + (0 : Int32).toNatClampNeg))), (0, .ref (kad K 0))]) [0, 1, 3] rfl ?_
            exact J2 _ _ (ihR2 _ (Option.some.inj h2).symm)
          · replace h2 := ob_neg c21 h2
            refine x_aload C 1 dX10_run_107 rfl ?_
            refine x_aload_n C 3 dX10_run_109 rfl ?_
            refine x_getR (j := 0) (i := 11) (q := (RX10, TX10, 18)) C 8 (iX 0 (by decide)) rfl rfl inBX10 (by decide) tw235 rfl dX10_run_110 ?_
            refine x_iload_n C 4 dX10_run_113 rfl ?_
            obtain ⟨c22, h2⟩ := ob_if h2
            refine x_aald C (iX 8 (by decide)) rfl rfl rfl (vin_in c22) dX10_run_114 ?_
            refine x_iload C 0 dX10_run_115 rfl ?_
            obtain ⟨c23, h2⟩ := ob_if h2
            refine x_iald C (iX2 (vin_lt c22)) (lX2 (vin_lt c22)) (vin_in c23) dX10_run_117 ?_
            refine x_callV (ar := 1) (q := (RX2, TX2, 6)) (rest := []) C (c_X2_holds C.2.2.2.2.2.2.1 (Nat.lt_of_lt_of_le (vin_lt c12) (by decide)) rfl) (iX18 (Nat.lt_of_lt_of_le (vin_lt c12) (by decide))) (lX18 (Nat.lt_of_lt_of_le (vin_lt c12) (by decide))) rfl hy_X2_holds ⟨tw495, tw496, tw497, tw72, tw498⟩ (by decide) (by decide) rfl rfl (Nat.le_of_ble_eq_true rfl) dX10_run_118 ?_
            show Wx LX K s16 121 [(5, .int x17), (4, .ref (kad K (144 + (0 : Int32).toNatClampNeg))), (3, .int (s5.1 24 a1.toNatClampNeg)), (0, .ref (kad K 0)), (1, .int a1)] [.int (X2_holds s16 ((0 : Int32).toNatClampNeg) (s16.1 (16 + a1.toNatClampNeg) x17.toNatClampNeg))]
            refine x_ifeq C 147 dX10_run_121 (by decide) (fun c26 => ?_) (fun c26 => ?_)
            · replace h2 := ob_pos c26 h2
              refine x_lv (lv' := [(5, .int x17), (4, .ref (kad K (144 + (0 : Int32).toNatClampNeg))), (0, .ref (kad K 0))]) [0, 1, 3] rfl ?_
              exact J2 _ _ (ihR2 _ (Option.some.inj h2).symm)
            · replace h2 := ob_neg c26 h2
              refine x_aload C 1 dX10_run_124 rfl ?_
              refine x_aload_n C 3 dX10_run_126 rfl ?_
              refine x_getR (j := 0) (i := 11) (q := (RX10, TX10, 18)) C 8 (iX 0 (by decide)) rfl rfl inBX10 (by decide) tw235 rfl dX10_run_127 ?_
              refine x_iload_n C 4 dX10_run_130 rfl ?_
              obtain ⟨c27, h2⟩ := ob_if h2
              refine x_aald C (iX 8 (by decide)) rfl rfl rfl (vin_in c27) dX10_run_131 ?_
              refine x_iload C 0 dX10_run_132 rfl ?_
              obtain ⟨c28, h2⟩ := ob_if h2
              refine x_iald C (iX2 (vin_lt c27)) (lX2 (vin_lt c27)) (vin_in c28) dX10_run_134 ?_
              refine x_bipush (v := 15) C dX10_run_135 rfl ?_
              obtain ⟨r29, s31, g30, h2⟩ := ob_bd h2
              refine x_callV (ar := 2) (q := (RX2, TX2, 6)) (rest := []) C (c_X2_ring C.2.2.2.2.2.2.1 (Nat.lt_of_lt_of_le (vin_lt c12) (by decide)) g30) (iX18 (Nat.lt_of_lt_of_le (vin_lt c12) (by decide))) (lX18 (Nat.lt_of_lt_of_le (vin_lt c12) (by decide))) rfl hy_X2_ring ⟨tw507, tw508, tw509, tw72, tw510⟩ (by decide) (by decide) rfl rfl (Nat.le_of_ble_eq_true rfl) dX10_run_137 ?_
              show Wx LX K s31 140 [(5, .int x17), (4, .ref (kad K (144 + (0 : Int32).toNatClampNeg))), (3, .int (s5.1 24 a1.toNatClampNeg)), (0, .ref (kad K 0)), (1, .int a1)] [.int r29]
              refine x_pop C dX10_run_140 rfl ?_
              refine x_iinc (v := (x17 + 1)) (lv' := [(5, .int (x17 + 1)), (4, .ref (kad K (144 + (0 : Int32).toNatClampNeg))), (3, .int (s5.1 24 a1.toNatClampNeg)), (0, .ref (kad K 0)), (1, .int a1)]) C 0 dX10_run_141 rfl rfl (by rw [e5]; decide) rfl ?_
              refine x_goto C 101 dX10_run_144 (by decide) ?_
              refine x_lv (lv' := [(5, .int (x17 + 1)), (4, .ref (kad K (144 + (0 : Int32).toNatClampNeg))), (3, .int (s5.1 24 a1.toNatClampNeg)), (0, .ref (kad K 0)), (1, .int a1)]) [0, 1, 2, 3, 4] rfl ?_
              exact ihL2 _ (Option.some.inj h2).symm
        refine x_lv (lv' := [(4, .int 0), (3, .int (s5.1 24 a1.toNatClampNeg)), (0, .ref (kad K 0)), (1, .int a1)]) [0, 1, 3, 4] rfl ?_
        refine lp_G (G := fun q : Int32 => Wx LX K s5 47 [(4, .int q), (3, .int (s5.1 24 a1.toNatClampNeg)), (0, .ref (kad K 0)), (1, .int a1)] []) (fun q x h1 ihL1 ihR1 => ?_) big _ g45
        obtain ⟨x11, rfl⟩ : ∃ z, z = q := ⟨_, rfl⟩
        replace h1 : X10_run_b47 a1 s5 x11 = some x := h1
        unfold X10_run_b47 at h1
        show Wx LX K s5 47 [(4, .int x11), (3, .int (s5.1 24 a1.toNatClampNeg)), (0, .ref (kad K 0)), (1, .int a1)] []
        refine x_iload C 0 dX10_run_47 rfl ?_
        refine x_iload_n C 1 dX10_run_49 rfl ?_
        refine x_icmpge C 81 dX10_run_50 (by decide) (fun c35 => ?_) (fun c35 => ?_)
        · replace h1 := ob_pos c35 h1
          refine x_lv (lv' := [(3, .int (s5.1 24 a1.toNatClampNeg)), (0, .ref (kad K 0)), (1, .int a1)]) [1, 2, 3] rfl ?_
          exact J1 _ (ihR1 _ (Option.some.inj h1).symm)
        · replace h1 := ob_neg c35 h1
          refine x_aload_n C 2 dX10_run_53 rfl ?_
          refine x_aload_n C 2 dX10_run_54 rfl ?_
          refine x_getR (j := 0) (i := 11) (q := (RX10, TX10, 18)) C 8 (iX 0 (by decide)) rfl rfl inBX10 (by decide) tw235 rfl dX10_run_55 ?_
          refine x_iload_n C 3 dX10_run_58 rfl ?_
          obtain ⟨c36, h1⟩ := ob_if h1
          refine x_aald C (iX 8 (by decide)) rfl rfl rfl (vin_in c36) dX10_run_59 ?_
          refine x_iload C 0 dX10_run_60 rfl ?_
          obtain ⟨c37, h1⟩ := ob_if h1
          refine x_iald C (iX2 (vin_lt c36)) (lX2 (vin_lt c36)) (vin_in c37) dX10_run_62 ?_
          refine x_callV (ar := 1) (q := (RX10, TX10, 18)) (rest := []) C (c_X10_isNumber C.2.2.2.2.2.2.1  rfl) (iX 0 (by decide)) rfl rfl hy_X10_isNumber ⟨tw491, tw493, tw11, tw63, tw494⟩ (by decide) (by decide) rfl rfl (Nat.le_of_ble_eq_true rfl) dX10_run_63 ?_
          show Wx LX K s5 66 [(4, .int x11), (3, .int (s5.1 24 a1.toNatClampNeg)), (0, .ref (kad K 0)), (1, .int a1)] [.int (X10_isNumber (s5.1 (16 + a1.toNatClampNeg) x11.toNatClampNeg))]
          refine x_ifne C 75 dX10_run_66 (by decide) (fun c40 => ?_) (fun c40 => ?_)
          · replace h1 := ob_neg c40 h1
            refine x_iinc (v := (x11 + 1)) (lv' := [(4, .int (x11 + 1)), (3, .int (s5.1 24 a1.toNatClampNeg)), (0, .ref (kad K 0)), (1, .int a1)]) C 0 dX10_run_75 rfl rfl (by rw [e5]; decide) rfl ?_
            refine x_goto C 47 dX10_run_78 (by decide) ?_
            refine x_lv (lv' := [(4, .int (x11 + 1)), (3, .int (s5.1 24 a1.toNatClampNeg)), (0, .ref (kad K 0)), (1, .int a1)]) [0, 1, 2, 3] rfl ?_
            exact ihL1 _ (Option.some.inj h1).symm
          · replace h1 := ob_pos c40 h1
            refine x_aload_n C 2 dX10_run_69 rfl ?_
            refine x_iconst (v := 3) C dX10_run_70 rfl ?_
            obtain ⟨r41, s43, g42, h1⟩ := ob_bd h1
            refine x_callV (ar := 1) (q := (RX10, TX10, 18)) (rest := []) C (c_X10_found C.2.2.2.2.2.2.1  g42) (iX 0 (by decide)) rfl rfl hy_X10_found ⟨tw298, tw300, tw1, tw63, tw301⟩ (by decide) (by decide) rfl rfl (Nat.le_of_ble_eq_true rfl) dX10_run_71 ?_
            show Wx LX K s43 74 [(4, .int x11), (3, .int (s5.1 24 a1.toNatClampNeg)), (0, .ref (kad K 0)), (1, .int a1)] [.int r41]
            have e19 := ihR1 _ (Option.some.inj h1).symm
            subst e19
            replace h0 := sm1_r h0
            cases h0
            exact x_iret C R dX10_run_74
      · replace h0 := ob_neg c10 h0
        refine x_aload_n C 2 dX10_run_38 rfl ?_
        refine x_iconst (v := 5) C dX10_run_39 rfl ?_
        obtain ⟨r46, s48, g47, h0⟩ := ob_bd h0
        refine x_callV (ar := 1) (q := (RX10, TX10, 18)) (rest := []) C (c_X10_found C.2.2.2.2.2.2.1  g47) (iX 0 (by decide)) rfl rfl hy_X10_found ⟨tw298, tw300, tw1, tw63, tw301⟩ (by decide) (by decide) rfl rfl (Nat.le_of_ble_eq_true rfl) dX10_run_40 ?_
        show Wx LX K s48 43 [(3, .int (s5.1 24 a1.toNatClampNeg)), (2, .int r3), (0, .ref (kad K 0)), (1, .int a1)] [.int r46]
        cases h0
        exact x_iret C R dX10_run_43
    · replace h0 := ob_neg c7 h0
      refine x_iload_n C 0 dX10_run_23 rfl ?_
      cases h0
      exact x_iret C R dX10_run_24
  · replace h0 := ob_pos c2 h0
    refine x_bipush (v := (-4)) C dX10_run_10 rfl ?_
    cases h0
    exact x_iret C R dX10_run_12
set_option maxHeartbeats 4000000 in
set_option maxRecDepth 100000 in
theorem c_X10_stepAhead {l : Launch} {D : va_G} {ad : Nat → Nat} {cy : Nat → ClassId} (hJ : mJ LX ad) {σ τ : mS} {a1 : Int32} {a2 : Int32} {a3 : Int32} {r : Int32}  (h0 : X10_stepAhead σ a1 a2 a3 = some (r, τ)) : MetG l LX D ad cy yX10_stepAhead cX10_stepAhead 4 (some .int) 5 [.ref (ad 0), .int a1, .int a2, .int a3] σ (some (.int r)) τ := by
  refine MetG.of hJ (by decide +kernel) [(0, .ref (ad 0)), (1, .int a1), (2, .int a2), (3, .int a3)] rfl (Nat.le_of_ble_eq_true rfl) ?_
  intro K e1 e2 e3 e4 e5 C R
  subst e1
  subst e2
  subst e3
  subst e4
  unfold X10_stepAhead at h0
  refine x_aload_n C 0 dX10_stepAhead_0 rfl ?_
  refine x_getR (j := 10) (i := 64) (q := (RX10, TX10, 18)) C 192 (iX 0 (by decide)) rfl rfl inBX10 (by decide) tw245 rfl dX10_stepAhead_1 ?_
  refine x_iload_n C 1 dX10_stepAhead_4 rfl ?_
  refine x_iload_n C 2 dX10_stepAhead_5 rfl ?_
  obtain ⟨c1, h0⟩ := ob_if h0
  refine x_iast C (iX 192 (by decide)) rfl (vin_in c1) dX10_stepAhead_6 ?_
  refine x_aload_n C 0 dX10_stepAhead_7 rfl ?_
  refine x_getR (j := 9) (i := 60) (q := (RX10, TX10, 18)) C 184 (iX 0 (by decide)) rfl rfl inBX10 (by decide) tw244 rfl dX10_stepAhead_8 ?_
  refine x_iload_n C 1 dX10_stepAhead_11 rfl ?_
  refine x_iconst (v := 1) C dX10_stepAhead_12 rfl ?_
  refine x_iadd C dX10_stepAhead_13 ?_
  obtain ⟨c2, h0⟩ := ob_if h0
  refine x_aald C (iX 184 (by decide)) rfl rfl rfl (vin_in c2) dX10_stepAhead_14 ?_
  refine x_aload_n C 0 dX10_stepAhead_15 rfl ?_
  refine x_getR (j := 9) (i := 60) (q := (RX10, TX10, 18)) C 184 (iX 0 (by decide)) rfl rfl inBX10 (by decide) tw244 rfl dX10_stepAhead_16 ?_
  refine x_iload_n C 1 dX10_stepAhead_19 rfl ?_
  obtain ⟨c3, h0⟩ := ob_if h0
  refine x_aald C (iX 184 (by decide)) rfl rfl rfl (vin_in c3) dX10_stepAhead_20 ?_
  obtain ⟨r4, s6, g5, h0⟩ := ob_bd h0
  refine x_callV (ar := 1) (q := (RX2, TX2, 6)) (rest := []) C (c_X2_take C.2.2.2.2.2.2.1 (Nat.lt_of_lt_of_le (vin_lt c2) (by decide)) (Nat.lt_of_lt_of_le (vin_lt c3) (by decide)) g5) (iX18 (Nat.lt_of_lt_of_le (vin_lt c2) (by decide))) (lX18 (Nat.lt_of_lt_of_le (vin_lt c2) (by decide))) rfl hy_X2_take ⟨tw579, tw580, tw581, tw72, tw582⟩ (by decide) (by decide) rfl rfl (Nat.le_of_ble_eq_true rfl) dX10_stepAhead_21 ?_
  show Wx LX K s6 24 [(0, .ref (kad K 0)), (1, .int a1), (2, .int a2), (3, .int a3)] []
  refine x_aload_n C 0 dX10_stepAhead_24 rfl ?_
  refine x_getR (j := 9) (i := 60) (q := (RX10, TX10, 18)) C 184 (iX 0 (by decide)) rfl rfl inBX10 (by decide) tw244 rfl dX10_stepAhead_25 ?_
  refine x_iload_n C 1 dX10_stepAhead_28 rfl ?_
  refine x_iconst (v := 1) C dX10_stepAhead_29 rfl ?_
  refine x_iadd C dX10_stepAhead_30 ?_
  obtain ⟨c7, h0⟩ := ob_if h0
  refine x_aald C (iX 184 (by decide)) rfl rfl rfl (vin_in c7) dX10_stepAhead_31 ?_
  refine x_iload_n C 2 dX10_stepAhead_32 rfl ?_
  refine x_iload_n C 3 dX10_stepAhead_33 rfl ?_
  obtain ⟨r8, s10, g9, h0⟩ := ob_bd h0
  refine x_callV (ar := 2) (q := (RX2, TX2, 6)) (rest := []) C (c_X2_ring C.2.2.2.2.2.2.1 (Nat.lt_of_lt_of_le (vin_lt c7) (by decide)) g9) (iX18 (Nat.lt_of_lt_of_le (vin_lt c7) (by decide))) (lX18 (Nat.lt_of_lt_of_le (vin_lt c7) (by decide))) rfl hy_X2_ring ⟨tw507, tw508, tw509, tw72, tw510⟩ (by decide) (by decide) rfl rfl (Nat.le_of_ble_eq_true rfl) dX10_stepAhead_34 ?_
  show Wx LX K s10 37 [(0, .ref (kad K 0)), (1, .int a1), (2, .int a2), (3, .int a3)] [.int r8]
  cases h0
  exact x_iret C R dX10_stepAhead_37
set_option maxHeartbeats 4000000 in
set_option maxRecDepth 100000 in
theorem c_X10_safe {l : Launch} {D : va_G} {ad : Nat → Nat} {cy : Nat → ClassId} (hJ : mJ LX ad) {σ τ : mS}  {r : Int32}  (h0 : X10_safe σ = some (r, τ)) : MetG l LX D ad cy yX10_safe cX10_safe 6 (some .int) 6 [.ref (ad 0)] σ (some (.int r)) τ := by
  refine MetG.of hJ (by decide +kernel) [(0, .ref (ad 0))] rfl (Nat.le_of_ble_eq_true rfl) ?_
  intro K e1 e2 e3 e4 e5 C R
  subst e1
  subst e2
  subst e3
  subst e4
  unfold X10_safe at h0
  refine x_aload_n C 0 dX10_safe_0 rfl ?_
  refine x_getR (j := 5) (i := 36) (q := (RX10, TX10, 18)) C 88 (iX 0 (by decide)) rfl rfl inBX10 (by decide) tw240 rfl dX10_safe_1 ?_
  refine x_getIN (j := 4) (i := 135) (q := (RX7, TX7, 5)) (host := "CalledNumbers") C (iX 88 (by decide)) rfl rfl inBX7 (by decide) twN173 rfl dX10_safe_4 ?_
  refine x_ifne C 13 dX10_safe_7 (by decide) (fun c2 => ?_) (fun c2 => ?_)
  · replace h0 := ob_neg c2 h0
    refine x_iconst (v := 0) C dX10_safe_13 rfl ?_
    refine x_istore_n (lv' := [(1, .int 0), (0, .ref (kad K 0))]) C dX10_safe_14 (by rw [e5]; decide) rfl ?_
    refine x_iconst (v := 0) C dX10_safe_15 rfl ?_
    refine x_istore_n (lv' := [(2, .int 0), (1, .int 0), (0, .ref (kad K 0))]) C dX10_safe_16 (by rw [e5]; decide) rfl ?_
    refine x_iconst (v := 0) C dX10_safe_17 rfl ?_
    refine x_istore_n (lv' := [(3, .int 0), (2, .int 0), (1, .int 0), (0, .ref (kad K 0))]) C dX10_safe_18 (by rw [e5]; decide) rfl ?_
    refine x_aload_n C 3 dX10_safe_19 rfl ?_
    refine x_getR (j := 9) (i := 60) (q := (RX10, TX10, 18)) C 184 (iX 0 (by decide)) rfl rfl inBX10 (by decide) tw244 rfl dX10_safe_20 ?_
    refine x_iconst (v := 0) C dX10_safe_23 rfl ?_
    obtain ⟨c3, h0⟩ := ob_if h0
    refine x_aald C (iX 184 (by decide)) rfl rfl rfl (vin_in c3) dX10_safe_24 ?_
    refine x_aload_n C 3 dX10_safe_25 rfl ?_
    refine x_getR (j := 6) (i := 45) (q := (RX10, TX10, 18)) C (144 + 5) (iX 0 (by decide)) rfl rfl inBX10 (by decide) tw241 rfl dX10_safe_26 ?_
    obtain ⟨r4, s6, g5, h0⟩ := ob_bd h0
    refine x_callV (ar := 1) (q := (RX2, TX2, 6)) (rest := []) C (c_X2_take C.2.2.2.2.2.2.1 (Nat.lt_of_lt_of_le (vin_lt c3) (by decide)) (by decide) g5) (iX18 (Nat.lt_of_lt_of_le (vin_lt c3) (by decide))) (lX18 (Nat.lt_of_lt_of_le (vin_lt c3) (by decide))) rfl hy_X2_take ⟨tw579, tw580, tw581, tw72, tw582⟩ (by decide) (by decide) rfl rfl (Nat.le_of_ble_eq_true rfl) dX10_safe_29 ?_
    show Wx LX K s6 32 [(3, .int 0), (2, .int 0), (1, .int 0), (0, .ref (kad K 0))] []
    refine x_iconst (v := 1) C dX10_safe_32 rfl ?_
    refine x_istore (lv' := [(4, .int 1), (3, .int 0), (2, .int 0), (1, .int 0), (0, .ref (kad K 0))]) C dX10_safe_33 (by rw [e5]; decide) rfl ?_
    obtain ⟨e41, g42, h0⟩ := ob_bind h0
    have J1 : ∀ (s12 : mS) (y13 : Int32) (y14 : Int32), (s12, y13, y14) = e41 → Wx LX K s12 110 [(3, .int y14), (1, .int y13), (0, .ref (kad K 0))] [] := by
      intro s12 y13 y14 e9
      subst e9
      replace h0 := un3_l h0
      refine x_aload_n C 2 dX10_safe_110 rfl ?_
      refine x_iload_n C 0 dX10_safe_111 rfl ?_
      refine x_putI (j := 13) (i := 99) (q := (RX10, TX10, 18)) C tyX10 tyX10_ok nmX10 (iX 0 (by decide)) rfl rfl inBX10 (by decide) tw248 rfl (by decide +kernel) rfl dX10_safe_112 ?_
      refine x_iload_n C 1 dX10_safe_115 rfl ?_
      cases h0
      exact x_iret C R dX10_safe_116
    refine lp_G (G := fun q : mS × Int32 × Int32 × Int32 × Int32 => Wx LX K q.1 35 [(4, .int q.2.2.2.2), (3, .int q.2.2.2.1), (2, .int q.2.2.1), (1, .int q.2.1), (0, .ref (kad K 0))] []) (fun q x h1 ihL1 ihR1 => ?_) big _ g42
    obtain ⟨s7, x8, x9, x10, x11⟩ := q
    replace h1 : X10_safe_b35 s7 x8 x9 x10 x11 = some x := h1
    unfold X10_safe_b35 at h1
    show Wx LX K s7 35 [(4, .int x11), (3, .int x10), (2, .int x9), (1, .int x8), (0, .ref (kad K 0))] []
    refine x_iload C 0 dX10_safe_35 rfl ?_
    refine x_bipush (v := 12) C dX10_safe_37 rfl ?_
    refine x_icmpgt C 110 dX10_safe_39 (by decide) (fun c16 => ?_) (fun c16 => ?_)
    · replace h1 := ob_pos c16 h1
      refine x_lv (lv' := [(3, .int x10), (1, .int x8), (0, .ref (kad K 0))]) [1, 3, 4] rfl ?_
      exact J1 _ _ _ (ihR1 _ (Option.some.inj h1).symm)
    · replace h1 := ob_neg c16 h1
      refine x_aload_n C 4 dX10_safe_42 rfl ?_
      refine x_getR (j := 6) (i := 45) (q := (RX10, TX10, 18)) C (144 + 5) (iX 0 (by decide)) rfl rfl inBX10 (by decide) tw241 rfl dX10_safe_43 ?_
      refine x_iload C 0 dX10_safe_46 rfl ?_
      refine x_callV (ar := 1) (q := (RX2, TX2, 6)) (rest := []) C (c_X2_holds C.2.2.2.2.2.2.1 (by decide) rfl) (iX18 (by decide)) (lX18 (by decide)) rfl hy_X2_holds ⟨tw495, tw496, tw497, tw72, tw498⟩ (by decide) (by decide) rfl rfl (Nat.le_of_ble_eq_true rfl) dX10_safe_48 ?_
      show Wx LX K s7 51 [(4, .int x11), (3, .int x10), (2, .int x9), (1, .int x8), (0, .ref (kad K 0))] [.int (X2_holds s7 5 x11)]
      refine x_ifeq C 104 dX10_safe_51 (by decide) (fun c19 => ?_) (fun c19 => ?_)
      · replace h1 := ob_pos c19 h1
        refine x_iinc (v := (x11 + 1)) (lv' := [(4, .int (x11 + 1)), (3, .int x10), (2, .int x9), (1, .int x8), (0, .ref (kad K 0))]) C 0 dX10_safe_104 rfl rfl (by rw [e5]; decide) rfl ?_
        refine x_goto C 35 dX10_safe_107 (by decide) ?_
        refine x_lv (lv' := [(4, .int (x11 + 1)), (3, .int x10), (2, .int x9), (1, .int x8), (0, .ref (kad K 0))]) [0, 1, 2, 3, 4] rfl ?_
        exact ihL1 _ (Option.some.inj h1).symm
      · replace h1 := ob_neg c19 h1
        refine x_aload_n C 4 dX10_safe_54 rfl ?_
        refine x_iconst (v := 0) C dX10_safe_55 rfl ?_
        refine x_iload C 0 dX10_safe_56 rfl ?_
        refine x_bipush (v := 15) C dX10_safe_58 rfl ?_
        obtain ⟨r20, s22, g21, h1⟩ := ob_bd h1
        refine x_callV (ar := 3) (q := (RX10, TX10, 18)) (rest := []) C (c_X10_stepAhead C.2.2.2.2.2.2.1  g21) (iX 0 (by decide)) rfl rfl hy_X10_stepAhead ⟨tw587, tw589, tw16, tw63, tw590⟩ (by decide) (by decide) rfl rfl (Nat.le_of_ble_eq_true rfl) dX10_safe_60 ?_
        show Wx LX K s22 63 [(4, .int x11), (3, .int x10), (2, .int x9), (1, .int x8), (0, .ref (kad K 0))] [.int r20]
        refine x_callS (ar := 1) (rest := []) C (c_J6_bitCount_0f7a4 C.2.2.2.2.2.2.1  rfl) hy_J6_bitCount_0f7a4 ⟨tw591, tw417, tw77, tw418⟩ (by decide) (by decide) rfl rfl (Nat.le_of_ble_eq_true rfl) dX10_safe_63 ?_
        show Wx LX K s22 66 [(4, .int x11), (3, .int x10), (2, .int x9), (1, .int x8), (0, .ref (kad K 0))] [.int (J6_bitCount_0f7a4 r20)]
        refine x_istore (lv' := [(5, .int (J6_bitCount_0f7a4 r20)), (4, .int x11), (3, .int x10), (2, .int x9), (1, .int x8), (0, .ref (kad K 0))]) C dX10_safe_66 (by rw [e5]; decide) rfl ?_
        refine x_iload C 0 dX10_safe_68 rfl ?_
        obtain ⟨e38, g37, h1⟩ := ob_un h1
        have J39 : ∀ (y26 : Int32), y26 = e38 → Wx LX K s22 80 [(5, .int (J6_bitCount_0f7a4 r20)), (4, .int x11), (3, .int x10), (2, .int x9), (1, .int y26), (0, .ref (kad K 0))] [] := by
          intro y26 e9
          subst e9
          replace h1 := un1_l h1
          refine x_iload C 0 dX10_safe_80 rfl ?_
          refine x_iload_n C 3 dX10_safe_82 rfl ?_
          obtain ⟨e34, g33, h1⟩ := ob_un h1
          have J35 : ∀ (y29 : Int32) (y30 : Int32), (y29, y30) = e34 → Wx LX K s22 91 [(5, .int (J6_bitCount_0f7a4 r20)), (4, .int x11), (3, .int y30), (2, .int y29), (1, .int y26), (0, .ref (kad K 0))] [] := by
            intro y29 y30 e9
            subst e9
            replace h1 := un2_l h1
            refine x_iload C 0 dX10_safe_91 rfl ?_
            refine x_iload_n C 3 dX10_safe_93 rfl ?_
            refine x_icmpne C 104 dX10_safe_94 (by decide) (fun c32 => ?_) (fun c32 => ?_)
            · replace h1 := ob_neg c32 h1
              refine x_iinc (v := (x11 + 1)) (lv' := [(4, .int (x11 + 1)), (5, .int (J6_bitCount_0f7a4 r20)), (3, .int y30), (2, .int y29), (1, .int y26), (0, .ref (kad K 0))]) C 1 dX10_safe_104 rfl rfl (by rw [e5]; decide) rfl ?_
              refine x_goto C 35 dX10_safe_107 (by decide) ?_
              refine x_lv (lv' := [(4, .int (x11 + 1)), (3, .int y30), (2, .int y29), (1, .int y26), (0, .ref (kad K 0))]) [0, 2, 3, 4, 5] rfl ?_
              exact ihL1 _ (Option.some.inj h1).symm
            · replace h1 := ob_pos c32 h1
              refine x_iload_n C 2 dX10_safe_97 rfl ?_
              refine x_iconst (v := 1) C dX10_safe_98 rfl ?_
              refine x_iload C 1 dX10_safe_99 rfl ?_
              refine x_ishl C dX10_safe_101 ?_
              refine x_ior C dX10_safe_102 ?_
              refine x_istore_n (lv' := [(3, .int (y30 ||| ((1 : Int32) <<< (x11 &&& 31)))), (5, .int (J6_bitCount_0f7a4 r20)), (4, .int x11), (2, .int y29), (1, .int y26), (0, .ref (kad K 0))]) C dX10_safe_103 (by rw [e5]; decide) rfl ?_
              refine x_iinc (v := (x11 + 1)) (lv' := [(4, .int (x11 + 1)), (3, .int (y30 ||| ((1 : Int32) <<< (x11 &&& 31)))), (5, .int (J6_bitCount_0f7a4 r20)), (2, .int y29), (1, .int y26), (0, .ref (kad K 0))]) C 2 dX10_safe_104 rfl rfl (by rw [e5]; decide) rfl ?_
              refine x_goto C 35 dX10_safe_107 (by decide) ?_
              refine x_lv (lv' := [(4, .int (x11 + 1)), (3, .int (y30 ||| ((1 : Int32) <<< (x11 &&& 31)))), (2, .int y29), (1, .int y26), (0, .ref (kad K 0))]) [0, 1, 3, 4, 5] rfl ?_
              exact ihL1 _ (Option.some.inj h1).symm
          refine x_icmple C 91 dX10_safe_83 (by decide) (fun c36 => ?_) (fun c36 => ?_)
          · replace g33 := ob_pos c36 g33
            refine x_lv (lv' := [(5, .int (J6_bitCount_0f7a4 r20)), (4, .int x11), (3, .int x10), (2, .int x9), (1, .int y26), (0, .ref (kad K 0))]) [0, 1, 2, 3, 4, 5] rfl ?_
            exact J35 _ _ g33
          · replace g33 := ob_neg c36 g33
            refine x_iload C 0 dX10_safe_86 rfl ?_
            refine x_istore_n (lv' := [(2, .int (J6_bitCount_0f7a4 r20)), (5, .int (J6_bitCount_0f7a4 r20)), (4, .int x11), (3, .int x10), (1, .int y26), (0, .ref (kad K 0))]) C dX10_safe_88 (by rw [e5]; decide) rfl ?_
            refine x_iconst (v := 0) C dX10_safe_89 rfl ?_
            refine x_istore_n (lv' := [(3, .int 0), (2, .int (J6_bitCount_0f7a4 r20)), (5, .int (J6_bitCount_0f7a4 r20)), (4, .int x11), (1, .int y26), (0, .ref (kad K 0))]) C dX10_safe_90 (by rw [e5]; decide) rfl ?_
            refine x_lv (lv' := [(5, .int (J6_bitCount_0f7a4 r20)), (4, .int x11), (3, .int 0), (2, .int (J6_bitCount_0f7a4 r20)), (1, .int y26), (0, .ref (kad K 0))]) [2, 3, 0, 1, 4, 5] rfl ?_
            exact J35 _ _ g33
        refine x_ifne C 80 dX10_safe_70 (by decide) (fun c40 => ?_) (fun c40 => ?_)
        · replace g37 := ob_neg c40 g37
          refine x_lv (lv' := [(5, .int (J6_bitCount_0f7a4 r20)), (4, .int x11), (3, .int x10), (2, .int x9), (1, .int x8), (0, .ref (kad K 0))]) [0, 1, 2, 3, 4, 5] rfl ?_
          exact J39 _ g37
        · replace g37 := ob_pos c40 g37
          refine x_iload_n C 4 dX10_safe_73 rfl ?_
          refine x_iconst (v := 1) C dX10_safe_74 rfl ?_
          refine x_iload C 1 dX10_safe_75 rfl ?_
          refine x_ishl C dX10_safe_77 ?_
          refine x_ior C dX10_safe_78 ?_
          refine x_istore_n (lv' := [(1, .int (x8 ||| ((1 : Int32) <<< (x11 &&& 31)))), (5, .int (J6_bitCount_0f7a4 r20)), (4, .int x11), (3, .int x10), (2, .int x9), (0, .ref (kad K 0))]) C dX10_safe_79 (by rw [e5]; decide) rfl ?_
          refine x_lv (lv' := [(5, .int (J6_bitCount_0f7a4 r20)), (4, .int x11), (3, .int x10), (2, .int x9), (1, .int (x8 ||| ((1 : Int32) <<< (x11 &&& 31)))), (0, .ref (kad K 0))]) [1, 2, 3, 4, 0, 5] rfl ?_
          exact J39 _ g37
  · replace h0 := ob_pos c2 h0
    refine x_bipush (v := (-4)) C dX10_safe_10 rfl ?_
    cases h0
    exact x_iret C R dX10_safe_12
set_option maxHeartbeats 4000000 in
set_option maxRecDepth 100000 in
theorem c_X10_callsAhead {l : Launch} {D : va_G} {ad : Nat → Nat} {cy : Nat → ClassId} (hJ : mJ LX ad) {σ τ : mS} {a1 : Int32} {r : Int32}  (h0 : X10_callsAhead σ a1 = some (r, τ)) : MetG l LX D ad cy yX10_callsAhead cX10_callsAhead 2 (some .int) 1 [.ref (ad 0), .int a1] σ (some (.int r)) τ := by
  refine MetG.of hJ (by decide +kernel) [(0, .ref (ad 0)), (1, .int a1)] rfl (Nat.le_of_ble_eq_true rfl) ?_
  intro K e1 e2 e3 e4 e5 C R
  subst e1
  subst e2
  subst e3
  subst e4
  unfold X10_callsAhead at h0
  refine x_aload_n C 0 dX10_callsAhead_0 rfl ?_
  refine x_getR (j := 9) (i := 60) (q := (RX10, TX10, 18)) C 184 (iX 0 (by decide)) rfl rfl inBX10 (by decide) tw244 rfl dX10_callsAhead_1 ?_
  refine x_iconst (v := 0) C dX10_callsAhead_4 rfl ?_
  obtain ⟨c1, h0⟩ := ob_if h0
  refine x_aald C (iX 184 (by decide)) rfl rfl rfl (vin_in c1) dX10_callsAhead_5 ?_
  refine x_aload_n C 0 dX10_callsAhead_6 rfl ?_
  refine x_getR (j := 6) (i := 45) (q := (RX10, TX10, 18)) C (144 + 5) (iX 0 (by decide)) rfl rfl inBX10 (by decide) tw241 rfl dX10_callsAhead_7 ?_
  obtain ⟨r2, s4, g3, h0⟩ := ob_bd h0
  refine x_callV (ar := 1) (q := (RX2, TX2, 6)) (rest := []) C (c_X2_take C.2.2.2.2.2.2.1 (Nat.lt_of_lt_of_le (vin_lt c1) (by decide)) (by decide) g3) (iX18 (Nat.lt_of_lt_of_le (vin_lt c1) (by decide))) (lX18 (Nat.lt_of_lt_of_le (vin_lt c1) (by decide))) rfl hy_X2_take ⟨tw579, tw580, tw581, tw72, tw582⟩ (by decide) (by decide) rfl rfl (Nat.le_of_ble_eq_true rfl) dX10_callsAhead_10 ?_
  show Wx LX K s4 13 [(0, .ref (kad K 0)), (1, .int a1)] []
  refine x_iload_n C 1 dX10_callsAhead_13 rfl ?_
  refine x_iconst (v := 4) C dX10_callsAhead_14 rfl ?_
  refine x_mmin C (by decide) tw600 tw433 tw78 tw434 (Nat.le_of_ble_eq_true rfl) dX10_callsAhead_15 ?_
  refine x_aload_n C 0 dX10_callsAhead_18 rfl ?_
  refine x_getR (j := 6) (i := 45) (q := (RX10, TX10, 18)) C (144 + 5) (iX 0 (by decide)) rfl rfl inBX10 (by decide) tw241 rfl dX10_callsAhead_19 ?_
  refine x_getIN (j := 3) (i := 262) (q := (RX2, TX2, 6)) (host := "CalledNumbers") C (iX18 (by decide)) (lX18 (by decide)) rfl inBX2 (by decide) twN197 rfl dX10_callsAhead_22 ?_
  refine x_callS (ar := 1) (rest := [.int (jmin a1 4)]) C (c_J6_bitCount_0f7a4 C.2.2.2.2.2.2.1  rfl) hy_J6_bitCount_0f7a4 ⟨tw591, tw417, tw77, tw418⟩ (by decide) (by decide) rfl rfl (Nat.le_of_ble_eq_true rfl) dX10_callsAhead_25 ?_
  show Wx LX K s4 28 [(0, .ref (kad K 0)), (1, .int a1)] [.int (J6_bitCount_0f7a4 (s4.1 (144 + 5) 3)), .int (jmin a1 4)]
  refine x_mmin C (by decide) tw600 tw433 tw78 tw434 (Nat.le_of_ble_eq_true rfl) dX10_callsAhead_28 ?_
  cases h0
  exact x_iret C R dX10_callsAhead_31
set_option maxHeartbeats 4000000 in
set_option maxRecDepth 100000 in
theorem c_X10_winsAhead_F {l : Launch} {D : va_G} {ad : Nat → Nat} {cy : Nat → ClassId} (hJ : mJ LX ad) {rc : mS → Int32 → Int32 → Int32 → Option (Int32 × mS)} {n0 : Nat} (hn0 : 6 ≤ n0) (hrc : ∀ {σ τ : mS} {a1 : Int32} {a2 : Int32} {a3 : Int32} {r : Int32}, rc σ a1 a2 a3 = some (r, τ) → MetG l LX D ad cy yX10_winsAhead cX10_winsAhead 6 (some .boolean) n0 [.ref (ad 0), .int a1, .int a2, .int a3] σ (some (.int r)) τ) {σ τ : mS} {a1 : Int32} {a2 : Int32} {a3 : Int32} {r : Int32}  (h0 : X10_winsAhead_F rc σ a1 a2 a3 = some (r, τ)) : MetG l LX D ad cy yX10_winsAhead cX10_winsAhead 6 (some .boolean) (n0 + 1) [.ref (ad 0), .int a1, .int a2, .int a3] σ (some (.int r)) τ := by
  refine MetG.of hJ (by decide +kernel) [(0, .ref (ad 0)), (1, .int a1), (2, .int a2), (3, .int a3)] rfl (Nat.le_of_ble_eq_true rfl) ?_
  intro K e1 e2 e3 e4 e5 C R
  subst e1
  subst e2
  subst e3
  subst e4
  unfold X10_winsAhead_F at h0
  refine x_aload_n C 0 dX10_winsAhead_0 rfl ?_
  refine x_getR (j := 9) (i := 60) (q := (RX10, TX10, 18)) C 184 (iX 0 (by decide)) rfl rfl inBX10 (by decide) tw244 rfl dX10_winsAhead_1 ?_
  refine x_iload_n C 2 dX10_winsAhead_4 rfl ?_
  obtain ⟨c1, h0⟩ := ob_if h0
  refine x_aald C (iX 184 (by decide)) rfl rfl rfl (vin_in c1) dX10_winsAhead_5 ?_
  refine x_astore (lv' := [(4, .ref (kad K (144 + a2.toNatClampNeg))), (0, .ref (kad K 0)), (1, .int a1), (2, .int a2), (3, .int a3)]) C dX10_winsAhead_6 (by rw [e5]; decide) rfl ?_
  refine x_iload_n C 3 dX10_winsAhead_8 rfl ?_
  refine x_iload_n C 4 dX10_winsAhead_9 rfl ?_
  refine x_icmpge C 18 dX10_winsAhead_10 (by decide) (fun c3 => ?_) (fun c3 => ?_)
  · replace h0 := ob_pos c3 h0
    refine x_aload C 0 dX10_winsAhead_18 rfl ?_
    refine x_iload_n C 2 dX10_winsAhead_20 rfl ?_
    refine x_callV (ar := 1) (q := (RX2, TX2, 6)) (rest := []) C (c_X2_hasWon C.2.2.2.2.2.2.1 (Nat.lt_of_lt_of_le (vin_lt c1) (by decide)) rfl) (iX18 (Nat.lt_of_lt_of_le (vin_lt c1) (by decide))) (lX18 (Nat.lt_of_lt_of_le (vin_lt c1) (by decide))) rfl hy_X2_hasWon ⟨tw605, tw606, tw607, tw72, tw608⟩ (Nat.lt_succ_of_lt (Nat.lt_of_lt_of_le (by decide) hn0)) (by decide) rfl rfl (Nat.le_of_ble_eq_true rfl) dX10_winsAhead_21 ?_
    show Wx LX K σ 24 [(4, .ref (kad K (144 + a2.toNatClampNeg))), (0, .ref (kad K 0)), (1, .int a1), (2, .int a2), (3, .int a3)] [.int (X2_hasWon σ a2.toNatClampNeg a1)]
    cases h0
    exact x_zret C (zb_X2_hasWon ..) R dX10_winsAhead_24
  · replace h0 := ob_neg c3 h0
    refine x_iload_n C 3 dX10_winsAhead_13 rfl ?_
    refine x_iconst (v := 4) C dX10_winsAhead_14 rfl ?_
    refine x_icmplt C 25 dX10_winsAhead_15 (by decide) (fun c6 => ?_) (fun c6 => ?_)
    · replace h0 := ob_pos c6 h0
      refine x_iconst (v := 1) C dX10_winsAhead_25 rfl ?_
      refine x_istore (lv' := [(5, .int 1), (4, .ref (kad K (144 + a2.toNatClampNeg))), (0, .ref (kad K 0)), (1, .int a1), (2, .int a2), (3, .int a3)]) C dX10_winsAhead_26 (by rw [e5]; decide) rfl ?_
      obtain ⟨e23, g24, h0⟩ := ob_bind h0
      have J1 : ∀ (s9 : mS), .inl s9 = e23 → Wx LX K s9 76 [] [] := by
        intro s9 e9
        subst e9
        replace h0 := sm1_l h0
        refine x_iconst (v := 0) C dX10_winsAhead_76 rfl ?_
        cases h0
        exact x_zret C (Or.inl rfl) R dX10_winsAhead_77
      refine lp_G (G := fun q : mS × Int32 => Wx LX K q.1 28 [(5, .int q.2), (4, .ref (kad K (144 + a2.toNatClampNeg))), (0, .ref (kad K 0)), (1, .int a1), (2, .int a2), (3, .int a3)] []) (fun q x h1 ihL1 ihR1 => ?_) big _ g24
      obtain ⟨s7, x8⟩ := q
      replace h1 : X10_winsAhead_b28 rc a1 a2 a3 s7 x8 = some x := h1
      unfold X10_winsAhead_b28 at h1
      show Wx LX K s7 28 [(5, .int x8), (4, .ref (kad K (144 + a2.toNatClampNeg))), (0, .ref (kad K 0)), (1, .int a1), (2, .int a2), (3, .int a3)] []
      refine x_iload C 0 dX10_winsAhead_28 rfl ?_
      refine x_bipush (v := 12) C dX10_winsAhead_30 rfl ?_
      refine x_icmpgt C 76 dX10_winsAhead_32 (by decide) (fun c11 => ?_) (fun c11 => ?_)
      · replace h1 := ob_pos c11 h1
        refine x_lv (lv' := []) [] rfl ?_
        exact J1 _ (ihR1 _ (Option.some.inj h1).symm)
      · replace h1 := ob_neg c11 h1
        refine x_aload C 1 dX10_winsAhead_35 rfl ?_
        refine x_iload C 0 dX10_winsAhead_37 rfl ?_
        refine x_callV (ar := 1) (q := (RX2, TX2, 6)) (rest := []) C (c_X2_holds C.2.2.2.2.2.2.1 (Nat.lt_of_lt_of_le (vin_lt c1) (by decide)) rfl) (iX18 (Nat.lt_of_lt_of_le (vin_lt c1) (by decide))) (lX18 (Nat.lt_of_lt_of_le (vin_lt c1) (by decide))) rfl hy_X2_holds ⟨tw495, tw496, tw497, tw72, tw498⟩ (Nat.lt_succ_of_lt (Nat.lt_of_lt_of_le (by decide) hn0)) (by decide) rfl rfl (Nat.le_of_ble_eq_true rfl) dX10_winsAhead_39 ?_
        show Wx LX K s7 42 [(5, .int x8), (4, .ref (kad K (144 + a2.toNatClampNeg))), (0, .ref (kad K 0)), (1, .int a1), (2, .int a2), (3, .int a3)] [.int (X2_holds s7 a2.toNatClampNeg x8)]
        refine x_ifeq C 70 dX10_winsAhead_42 (by decide) (fun c14 => ?_) (fun c14 => ?_)
        · replace h1 := ob_pos c14 h1
          refine x_iinc (v := (x8 + 1)) (lv' := [(5, .int (x8 + 1)), (4, .ref (kad K (144 + a2.toNatClampNeg))), (0, .ref (kad K 0)), (1, .int a1), (2, .int a2), (3, .int a3)]) C 0 dX10_winsAhead_70 rfl rfl (by rw [e5]; decide) rfl ?_
          refine x_goto C 28 dX10_winsAhead_73 (by decide) ?_
          refine x_lv (lv' := [(5, .int (x8 + 1)), (4, .ref (kad K (144 + a2.toNatClampNeg))), (0, .ref (kad K 0)), (1, .int a1), (2, .int a2), (3, .int a3)]) [0, 1, 2, 3, 4, 5] rfl ?_
          exact ihL1 _ (Option.some.inj h1).symm
        · replace h1 := ob_neg c14 h1
          refine x_aload_n C 2 dX10_winsAhead_45 rfl ?_
          refine x_iload_n C 4 dX10_winsAhead_46 rfl ?_
          refine x_iload C 0 dX10_winsAhead_47 rfl ?_
          refine x_iconst (v := 1) C dX10_winsAhead_49 rfl ?_
          refine x_iload_n C 3 dX10_winsAhead_50 rfl ?_
          refine x_ishl C dX10_winsAhead_51 ?_
          obtain ⟨r15, s17, g16, h1⟩ := ob_bd h1
          refine x_callV (ar := 3) (q := (RX10, TX10, 18)) (rest := []) C (c_X10_stepAhead C.2.2.2.2.2.2.1  g16) (iX 0 (by decide)) rfl rfl hy_X10_stepAhead ⟨tw587, tw589, tw16, tw63, tw590⟩ (Nat.lt_succ_of_lt (Nat.lt_of_lt_of_le (by decide) hn0)) (by decide) rfl rfl (Nat.le_of_ble_eq_true rfl) dX10_winsAhead_52 ?_
          show Wx LX K s17 55 [(5, .int x8), (4, .ref (kad K (144 + a2.toNatClampNeg))), (0, .ref (kad K 0)), (1, .int a1), (2, .int a2), (3, .int a3)] [.int r15]
          refine x_pop C dX10_winsAhead_55 rfl ?_
          refine x_aload_n C 2 dX10_winsAhead_56 rfl ?_
          refine x_iload_n C 3 dX10_winsAhead_57 rfl ?_
          refine x_iload_n C 4 dX10_winsAhead_58 rfl ?_
          refine x_iconst (v := 1) C dX10_winsAhead_59 rfl ?_
          refine x_iadd C dX10_winsAhead_60 ?_
          refine x_iload_n C 5 dX10_winsAhead_61 rfl ?_
          obtain ⟨r18, s20, g19, h1⟩ := ob_bd h1
          refine x_callV (ar := 3) (q := (RX10, TX10, 18)) (rest := []) C (hrc g19) (iX 0 (by decide)) rfl rfl hy_X10_winsAhead ⟨tw601, tw603, tw18, tw63, tw604⟩ (Nat.lt_succ_self _) (by decide) rfl rfl (Nat.le_of_ble_eq_true rfl) dX10_winsAhead_62 ?_
          show Wx LX K s20 65 [(5, .int x8), (4, .ref (kad K (144 + a2.toNatClampNeg))), (0, .ref (kad K 0)), (1, .int a1), (2, .int a2), (3, .int a3)] [.int r18]
          refine x_ifeq C 70 dX10_winsAhead_65 (by decide) (fun c22 => ?_) (fun c22 => ?_)
          · replace h1 := ob_pos c22 h1
            refine x_iinc (v := (x8 + 1)) (lv' := [(5, .int (x8 + 1)), (4, .ref (kad K (144 + a2.toNatClampNeg))), (0, .ref (kad K 0)), (1, .int a1), (2, .int a2), (3, .int a3)]) C 0 dX10_winsAhead_70 rfl rfl (by rw [e5]; decide) rfl ?_
            refine x_goto C 28 dX10_winsAhead_73 (by decide) ?_
            refine x_lv (lv' := [(5, .int (x8 + 1)), (4, .ref (kad K (144 + a2.toNatClampNeg))), (0, .ref (kad K 0)), (1, .int a1), (2, .int a2), (3, .int a3)]) [0, 1, 2, 3, 4, 5] rfl ?_
            exact ihL1 _ (Option.some.inj h1).symm
          · replace h1 := ob_neg c22 h1
            refine x_iconst (v := 1) C dX10_winsAhead_68 rfl ?_
            have e19 := ihR1 _ (Option.some.inj h1).symm
            subst e19
            replace h0 := sm1_r h0
            cases h0
            exact x_zret C (Or.inr rfl) R dX10_winsAhead_69
    · replace h0 := ob_neg c6 h0
      refine x_aload C 0 dX10_winsAhead_18 rfl ?_
      refine x_iload_n C 2 dX10_winsAhead_20 rfl ?_
      refine x_callV (ar := 1) (q := (RX2, TX2, 6)) (rest := []) C (c_X2_hasWon C.2.2.2.2.2.2.1 (Nat.lt_of_lt_of_le (vin_lt c1) (by decide)) rfl) (iX18 (Nat.lt_of_lt_of_le (vin_lt c1) (by decide))) (lX18 (Nat.lt_of_lt_of_le (vin_lt c1) (by decide))) rfl hy_X2_hasWon ⟨tw605, tw606, tw607, tw72, tw608⟩ (Nat.lt_succ_of_lt (Nat.lt_of_lt_of_le (by decide) hn0)) (by decide) rfl rfl (Nat.le_of_ble_eq_true rfl) dX10_winsAhead_21 ?_
      show Wx LX K σ 24 [(4, .ref (kad K (144 + a2.toNatClampNeg))), (0, .ref (kad K 0)), (1, .int a1), (2, .int a2), (3, .int a3)] [.int (X2_hasWon σ a2.toNatClampNeg a1)]
      cases h0
      exact x_zret C (zb_X2_hasWon ..) R dX10_winsAhead_24
theorem c_X10_winsAhead {l : Launch} {D : va_G} {ad : Nat → Nat} {cy : Nat → ClassId} (hJ : mJ LX ad) : ∀ (f : Nat) {σ τ : mS} {a1 : Int32} {a2 : Int32} {a3 : Int32} {r : Int32}, X10_winsAhead f σ a1 a2 a3 = some (r, τ) → MetG l LX D ad cy yX10_winsAhead cX10_winsAhead 6 (some .boolean) (6 + f) [.ref (ad 0), .int a1, .int a2, .int a3] σ (some (.int r)) τ
  | 0, _, _, _, _, _, _, h => by cases h
  | f + 1, _, _, _, _, _, _, h => c_X10_winsAhead_F hJ (Nat.le_add_right 6 f) (fun {_ _} {_ _ _} {_} h => c_X10_winsAhead hJ f h) h
set_option maxHeartbeats 4000000 in
set_option maxRecDepth 100000 in
theorem c_X10_layTrail {l : Launch} {D : va_G} {ad : Nat → Nat} {cy : Nat → ClassId} (hJ : mJ LX ad) {σ τ : mS} {a1 : Int32} {a2 : Int32} {r : Unit}  (h0 : X10_layTrail σ a1 a2 = some (r, τ)) : MetG l LX D ad cy yX10_layTrail cX10_layTrail 3 none 1 [.ref (ad 0), .int a1, .int a2] σ (none) τ := by
  refine MetG.of hJ (by decide +kernel) [(0, .ref (ad 0)), (1, .int a1), (2, .int a2)] rfl (Nat.le_of_ble_eq_true rfl) ?_
  intro K e1 e2 e3 e4 e5 C R
  subst e1
  subst e2
  subst e3
  subst e4
  unfold X10_layTrail at h0
  refine x_aload_n C 0 dX10_layTrail_0 rfl ?_
  refine x_getR (j := 10) (i := 64) (q := (RX10, TX10, 18)) C 192 (iX 0 (by decide)) rfl rfl inBX10 (by decide) tw245 rfl dX10_layTrail_1 ?_
  refine x_iconst (v := 0) C dX10_layTrail_4 rfl ?_
  refine x_aload_n C 0 dX10_layTrail_5 rfl ?_
  refine x_getR (j := 0) (i := 11) (q := (RX10, TX10, 18)) C 8 (iX 0 (by decide)) rfl rfl inBX10 (by decide) tw235 rfl dX10_layTrail_6 ?_
  refine x_iload_n C 1 dX10_layTrail_9 rfl ?_
  obtain ⟨c1, h0⟩ := ob_if h0
  refine x_aald C (iX 8 (by decide)) rfl rfl rfl (vin_in c1) dX10_layTrail_10 ?_
  refine x_iconst (v := 0) C dX10_layTrail_11 rfl ?_
  refine x_iload_n C 2 dX10_layTrail_12 rfl ?_
  obtain ⟨c3, h0⟩ := ob_if h0
  refine x_acopy C (iX 192 (by decide)) rfl (iX2 (vin_lt c1)) (lX2 (vin_lt c1)) (by decide) tw330 tw332 tw331 tw76 c3.1.1.1 c3.1.1.2 c3.1.2 c3.2.1 c3.2.2 (Nat.le_of_ble_eq_true rfl) dX10_layTrail_13 ?_
  refine x_aload_n C 0 dX10_layTrail_16 rfl ?_
  refine x_getR (j := 1) (i := 14) (q := (RX10, TX10, 18)) C 24 (iX 0 (by decide)) rfl rfl inBX10 (by decide) tw236 rfl dX10_layTrail_17 ?_
  refine x_iload_n C 1 dX10_layTrail_20 rfl ?_
  refine x_iload_n C 2 dX10_layTrail_21 rfl ?_
  obtain ⟨c2, h0⟩ := ob_if h0
  refine x_iast C (iX 24 (by decide)) rfl (vin_in c2) dX10_layTrail_22 ?_
  cases h0
  exact x_vret C R dX10_layTrail_23
set_option maxHeartbeats 4000000 in
set_option maxRecDepth 100000 in
theorem c_X10_fewest {l : Launch} {D : va_G} {ad : Nat → Nat} {cy : Nat → ClassId} (hJ : mJ LX ad) {σ τ : mS} {a1 : Int32} {a2 : Int32} {r : Int32}  (h0 : X10_fewest σ a1 a2 = some (r, τ)) : MetG l LX D ad cy yX10_fewest cX10_fewest 5 (some .int) 13 [.ref (ad 0), .int a1, .int a2] σ (some (.int r)) τ := by
  refine MetG.of hJ (by decide +kernel) [(0, .ref (ad 0)), (1, .int a1), (2, .int a2)] rfl (Nat.le_of_ble_eq_true rfl) ?_
  intro K e1 e2 e3 e4 e5 C R
  subst e1
  subst e2
  subst e3
  subst e4
  unfold X10_fewest at h0
  refine x_aload_n C 0 dX10_fewest_0 rfl ?_
  refine x_iload_n C 1 dX10_fewest_1 rfl ?_
  refine x_callV (ar := 1) (q := (RX10, TX10, 18)) (rest := []) C (c_X10_isPlayer C.2.2.2.2.2.2.1  rfl) (iX 0 (by decide)) rfl rfl hy_X10_isPlayer ⟨tw390, tw392, tw8, tw63, tw393⟩ (by decide) (by decide) rfl rfl (Nat.le_of_ble_eq_true rfl) dX10_fewest_2 ?_
  show Wx LX K σ 5 [(0, .ref (kad K 0)), (1, .int a1), (2, .int a2)] [.int (X10_isPlayer σ a1)]
  refine x_ifeq C 16 dX10_fewest_5 (by decide) (fun c3 => ?_) (fun c3 => ?_)
  · replace h0 := ob_pos c3 h0
    refine x_iconst (v := (-1)) C dX10_fewest_16 rfl ?_
    cases h0
    exact x_iret C R dX10_fewest_17
  · replace h0 := ob_neg c3 h0
    refine x_aload_n C 0 dX10_fewest_8 rfl ?_
    refine x_iload_n C 2 dX10_fewest_9 rfl ?_
    refine x_callV (ar := 1) (q := (RX10, TX10, 18)) (rest := []) C (c_X10_isRow C.2.2.2.2.2.2.1  rfl) (iX 0 (by decide)) rfl rfl hy_X10_isRow ⟨tw294, tw296, tw0, tw63, tw297⟩ (by decide) (by decide) rfl rfl (Nat.le_of_ble_eq_true rfl) dX10_fewest_10 ?_
    show Wx LX K σ 13 [(0, .ref (kad K 0)), (1, .int a1), (2, .int a2)] [.int (X10_isRow a2)]
    refine x_ifne C 18 dX10_fewest_13 (by decide) (fun c6 => ?_) (fun c6 => ?_)
    · replace h0 := ob_neg c6 h0
      refine x_aload_n C 0 dX10_fewest_18 rfl ?_
      refine x_iconst (v := 4) C dX10_fewest_19 rfl ?_
      obtain ⟨r7, s9, g8, h0⟩ := ob_bd h0
      refine x_callV (ar := 1) (q := (RX10, TX10, 18)) (rest := []) C (c_X10_callsAhead C.2.2.2.2.2.2.1  g8) (iX 0 (by decide)) rfl rfl hy_X10_callsAhead ⟨tw596, tw598, tw17, tw63, tw599⟩ (by decide) (by decide) rfl rfl (Nat.le_of_ble_eq_true rfl) dX10_fewest_20 ?_
      show Wx LX K s9 23 [(0, .ref (kad K 0)), (1, .int a1), (2, .int a2)] [.int r7]
      refine x_istore_n (lv' := [(3, .int r7), (0, .ref (kad K 0)), (1, .int a1), (2, .int a2)]) C dX10_fewest_23 (by rw [e5]; decide) rfl ?_
      refine x_iconst (v := 0) C dX10_fewest_24 rfl ?_
      refine x_istore (lv' := [(4, .int 0), (3, .int r7), (0, .ref (kad K 0)), (1, .int a1), (2, .int a2)]) C dX10_fewest_25 (by rw [e5]; decide) rfl ?_
      obtain ⟨e23, g24, h0⟩ := ob_bind h0
      have J1 : ∀ (s12 : mS), .inl s12 = e23 → Wx LX K s12 60 [] [] := by
        intro s12 e9
        subst e9
        replace h0 := sm1_l h0
        refine x_bipush (v := (-9)) C dX10_fewest_60 rfl ?_
        cases h0
        exact x_iret C R dX10_fewest_62
      refine lp_G (G := fun q : mS × Int32 => Wx LX K q.1 27 [(4, .int q.2), (3, .int r7), (0, .ref (kad K 0)), (1, .int a1), (2, .int a2)] []) (fun q x h1 ihL1 ihR1 => ?_) big _ g24
      obtain ⟨s10, x11⟩ := q
      replace h1 : X10_fewest_b27 a1 a2 r7 s10 x11 = some x := h1
      unfold X10_fewest_b27 at h1
      show Wx LX K s10 27 [(4, .int x11), (3, .int r7), (0, .ref (kad K 0)), (1, .int a1), (2, .int a2)] []
      refine x_iload C 0 dX10_fewest_27 rfl ?_
      refine x_iload_n C 1 dX10_fewest_29 rfl ?_
      refine x_icmpgt C 60 dX10_fewest_30 (by decide) (fun c14 => ?_) (fun c14 => ?_)
      · replace h1 := ob_pos c14 h1
        refine x_lv (lv' := []) [] rfl ?_
        exact J1 _ (ihR1 _ (Option.some.inj h1).symm)
      · replace h1 := ob_neg c14 h1
        refine x_aload_n C 2 dX10_fewest_33 rfl ?_
        refine x_iload_n C 3 dX10_fewest_34 rfl ?_
        refine x_iconst (v := 0) C dX10_fewest_35 rfl ?_
        refine x_iload C 0 dX10_fewest_36 rfl ?_
        obtain ⟨r15, s17, g16, h1⟩ := ob_bd h1
        refine x_callV (ar := 3) (q := (RX10, TX10, 18)) (rest := []) C (c_X10_winsAhead C.2.2.2.2.2.2.1 6  g16) (iX 0 (by decide)) rfl rfl hy_X10_winsAhead ⟨tw601, tw603, tw18, tw63, tw604⟩ (by decide) (by decide) rfl rfl (Nat.le_of_ble_eq_true rfl) dX10_fewest_38 ?_
        show Wx LX K s17 41 [(4, .int x11), (3, .int r7), (0, .ref (kad K 0)), (1, .int a1), (2, .int a2)] [.int r15]
        refine x_ifeq C 54 dX10_fewest_41 (by decide) (fun c19 => ?_) (fun c19 => ?_)
        · replace h1 := ob_pos c19 h1
          refine x_iinc (v := (x11 + 1)) (lv' := [(4, .int (x11 + 1)), (3, .int r7), (0, .ref (kad K 0)), (1, .int a1), (2, .int a2)]) C 0 dX10_fewest_54 rfl rfl (by rw [e5]; decide) rfl ?_
          refine x_goto C 27 dX10_fewest_57 (by decide) ?_
          refine x_lv (lv' := [(4, .int (x11 + 1)), (3, .int r7), (0, .ref (kad K 0)), (1, .int a1), (2, .int a2)]) [0, 1, 2, 3, 4] rfl ?_
          exact ihL1 _ (Option.some.inj h1).symm
        · replace h1 := ob_neg c19 h1
          refine x_aload_n C 2 dX10_fewest_44 rfl ?_
          refine x_iload_n C 4 dX10_fewest_45 rfl ?_
          refine x_iload C 0 dX10_fewest_46 rfl ?_
          obtain ⟨r20, s22, g21, h1⟩ := ob_bd h1
          refine x_callV (ar := 2) (q := (RX10, TX10, 18)) (rest := []) C (c_X10_layTrail C.2.2.2.2.2.2.1  g21) (iX 0 (by decide)) rfl rfl hy_X10_layTrail ⟨tw609, tw611, tw19, tw63, tw612⟩ (by decide) (by decide) rfl rfl (Nat.le_of_ble_eq_true rfl) dX10_fewest_48 ?_
          show Wx LX K s22 51 [(4, .int x11), (3, .int r7), (0, .ref (kad K 0)), (1, .int a1), (2, .int a2)] []
          refine x_iload C 0 dX10_fewest_51 rfl ?_
          have e19 := ihR1 _ (Option.some.inj h1).symm
          subst e19
          replace h0 := sm1_r h0
          cases h0
          exact x_iret C R dX10_fewest_53
    · replace h0 := ob_pos c6 h0
      refine x_iconst (v := (-1)) C dX10_fewest_16 rfl ?_
      cases h0
      exact x_iret C R dX10_fewest_17
set_option maxHeartbeats 4000000 in
set_option maxRecDepth 100000 in
theorem c_X10_gatherMost_F {l : Launch} {D : va_G} {ad : Nat → Nat} {cy : Nat → ClassId} (hJ : mJ LX ad) {rc : mS → Int32 → Int32 → Int32 → Option (Unit × mS)} {n0 : Nat} (hn0 : 6 ≤ n0) (hrc : ∀ {σ τ : mS} {a1 : Int32} {a2 : Int32} {a3 : Int32} {r : Unit}, rc σ a1 a2 a3 = some (r, τ) → MetG l LX D ad cy yX10_gatherMost cX10_gatherMost 6 none n0 [.ref (ad 0), .int a1, .int a2, .int a3] σ (none) τ) {σ τ : mS} {a1 : Int32} {a2 : Int32} {a3 : Int32} {r : Unit}  (h0 : X10_gatherMost_F rc σ a1 a2 a3 = some (r, τ)) : MetG l LX D ad cy yX10_gatherMost cX10_gatherMost 6 none (n0 + 1) [.ref (ad 0), .int a1, .int a2, .int a3] σ (none) τ := by
  refine MetG.of hJ (by decide +kernel) [(0, .ref (ad 0)), (1, .int a1), (2, .int a2), (3, .int a3)] rfl (Nat.le_of_ble_eq_true rfl) ?_
  intro K e1 e2 e3 e4 e5 C R
  subst e1
  subst e2
  subst e3
  subst e4
  unfold X10_gatherMost_F at h0
  refine x_aload_n C 0 dX10_gatherMost_0 rfl ?_
  refine x_getR (j := 9) (i := 60) (q := (RX10, TX10, 18)) C 184 (iX 0 (by decide)) rfl rfl inBX10 (by decide) tw244 rfl dX10_gatherMost_1 ?_
  refine x_iload_n C 2 dX10_gatherMost_4 rfl ?_
  obtain ⟨c1, h0⟩ := ob_if h0
  refine x_aald C (iX 184 (by decide)) rfl rfl rfl (vin_in c1) dX10_gatherMost_5 ?_
  refine x_astore (lv' := [(4, .ref (kad K (144 + a2.toNatClampNeg))), (0, .ref (kad K 0)), (1, .int a1), (2, .int a2), (3, .int a3)]) C dX10_gatherMost_6 (by rw [e5]; decide) rfl ?_
  refine x_iload_n C 3 dX10_gatherMost_8 rfl ?_
  refine x_iload_n C 4 dX10_gatherMost_9 rfl ?_
  refine x_icmpge C 18 dX10_gatherMost_10 (by decide) (fun c3 => ?_) (fun c3 => ?_)
  · replace h0 := ob_pos c3 h0
    refine x_aload C 0 dX10_gatherMost_18 rfl ?_
    refine x_getIN (j := 2) (i := 223) (q := (RX2, TX2, 6)) (host := "CalledNumbers") C (iX18 (Nat.lt_of_lt_of_le (vin_lt c1) (by decide))) (lX18 (Nat.lt_of_lt_of_le (vin_lt c1) (by decide))) rfl inBX2 (by decide) twN195 rfl dX10_gatherMost_20 ?_
    refine x_callS (ar := 1) (rest := []) C (c_J6_bitCount_0f7a4 C.2.2.2.2.2.2.1  rfl) hy_J6_bitCount_0f7a4 ⟨tw591, tw417, tw77, tw418⟩ (Nat.lt_succ_of_lt (Nat.lt_of_lt_of_le (by decide) hn0)) (by decide) rfl rfl (Nat.le_of_ble_eq_true rfl) dX10_gatherMost_23 ?_
    show Wx LX K σ 26 [(4, .ref (kad K (144 + a2.toNatClampNeg))), (0, .ref (kad K 0)), (1, .int a1), (2, .int a2), (3, .int a3)] [.int (J6_bitCount_0f7a4 (σ.1 (144 + a2.toNatClampNeg) 2))]
    refine x_istore (lv' := [(5, .int (J6_bitCount_0f7a4 (σ.1 (144 + a2.toNatClampNeg) 2))), (4, .ref (kad K (144 + a2.toNatClampNeg))), (0, .ref (kad K 0)), (1, .int a1), (2, .int a2), (3, .int a3)]) C dX10_gatherMost_26 (by rw [e5]; decide) rfl ?_
    refine x_iload C 0 dX10_gatherMost_28 rfl ?_
    refine x_aload_n C 2 dX10_gatherMost_30 rfl ?_
    refine x_getI (j := 11) (i := 243) (q := (RX10, TX10, 18)) C (iX 0 (by decide)) rfl rfl inBX10 (by decide) tw246 rfl dX10_gatherMost_31 ?_
    refine x_icmple C 49 dX10_gatherMost_34 (by decide) (fun c6 => ?_) (fun c6 => ?_)
    · replace h0 := ob_pos c6 h0
      cases h0
      exact x_vret C R dX10_gatherMost_49
    · replace h0 := ob_neg c6 h0
      refine x_aload_n C 2 dX10_gatherMost_37 rfl ?_
      refine x_iload C 0 dX10_gatherMost_38 rfl ?_
      refine x_putI (j := 11) (i := 243) (q := (RX10, TX10, 18)) C tyX10 tyX10_ok nmX10 (iX 0 (by decide)) rfl rfl inBX10 (by decide) tw246 rfl (by decide +kernel) rfl dX10_gatherMost_40 ?_
      refine x_aload_n C 2 dX10_gatherMost_43 rfl ?_
      refine x_iload_n C 3 dX10_gatherMost_44 rfl ?_
      refine x_iload_n C 4 dX10_gatherMost_45 rfl ?_
      obtain ⟨r7, s9, g8, h0⟩ := ob_bd h0
      refine x_callV (ar := 2) (q := (RX10, TX10, 18)) (rest := []) C (c_X10_layTrail C.2.2.2.2.2.2.1  g8) (iX 0 (by decide)) rfl rfl hy_X10_layTrail ⟨tw609, tw611, tw19, tw63, tw612⟩ (Nat.lt_succ_of_lt (Nat.lt_of_lt_of_le (by decide) hn0)) (by decide) rfl rfl (Nat.le_of_ble_eq_true rfl) dX10_gatherMost_46 ?_
      show Wx LX K s9 49 [(5, .int (J6_bitCount_0f7a4 (σ.1 (144 + a2.toNatClampNeg) 2))), (4, .ref (kad K (144 + a2.toNatClampNeg))), (0, .ref (kad K 0)), (1, .int a1), (2, .int a2), (3, .int a3)] []
      cases h0
      exact x_vret C R dX10_gatherMost_49
  · replace h0 := ob_neg c3 h0
    refine x_iload_n C 3 dX10_gatherMost_13 rfl ?_
    refine x_iconst (v := 4) C dX10_gatherMost_14 rfl ?_
    refine x_icmplt C 50 dX10_gatherMost_15 (by decide) (fun c11 => ?_) (fun c11 => ?_)
    · replace h0 := ob_pos c11 h0
      refine x_iconst (v := 1) C dX10_gatherMost_50 rfl ?_
      refine x_istore (lv' := [(5, .int 1), (4, .ref (kad K (144 + a2.toNatClampNeg))), (0, .ref (kad K 0)), (1, .int a1), (2, .int a2), (3, .int a3)]) C dX10_gatherMost_51 (by rw [e5]; decide) rfl ?_
      obtain ⟨e28, g29, h0⟩ := ob_bind h0
      have J1 : ∀ (s14 : mS), s14 = e28 → Wx LX K s14 109 [] [] := by
        intro s14 e9
        subst e9
        replace h0 := un1_l h0
        cases h0
        exact x_vret C R dX10_gatherMost_109
      refine lp_G (G := fun q : mS × Int32 => Wx LX K q.1 53 [(5, .int q.2), (4, .ref (kad K (144 + a2.toNatClampNeg))), (0, .ref (kad K 0)), (1, .int a1), (2, .int a2), (3, .int a3)] []) (fun q x h1 ihL1 ihR1 => ?_) big _ g29
      obtain ⟨s12, x13⟩ := q
      replace h1 : X10_gatherMost_b53 rc a1 a2 a3 s12 x13 = some x := h1
      unfold X10_gatherMost_b53 at h1
      show Wx LX K s12 53 [(5, .int x13), (4, .ref (kad K (144 + a2.toNatClampNeg))), (0, .ref (kad K 0)), (1, .int a1), (2, .int a2), (3, .int a3)] []
      refine x_iload C 0 dX10_gatherMost_53 rfl ?_
      refine x_bipush (v := 12) C dX10_gatherMost_55 rfl ?_
      refine x_icmpgt C 109 dX10_gatherMost_57 (by decide) (fun c16 => ?_) (fun c16 => ?_)
      · replace h1 := ob_pos c16 h1
        refine x_lv (lv' := []) [] rfl ?_
        exact J1 _ (ihR1 _ (Option.some.inj h1).symm)
      · replace h1 := ob_neg c16 h1
        refine x_aload_n C 2 dX10_gatherMost_60 rfl ?_
        refine x_getI (j := 11) (i := 243) (q := (RX10, TX10, 18)) C (iX 0 (by decide)) rfl rfl inBX10 (by decide) tw246 rfl dX10_gatherMost_61 ?_
        refine x_aload_n C 2 dX10_gatherMost_64 rfl ?_
        refine x_getR (j := 5) (i := 36) (q := (RX10, TX10, 18)) C 88 (iX 0 (by decide)) rfl rfl inBX10 (by decide) tw240 rfl dX10_gatherMost_65 ?_
        refine x_getIN (j := 4) (i := 135) (q := (RX7, TX7, 5)) (host := "CalledNumbers") C (iX 88 (by decide)) rfl rfl inBX7 (by decide) twN173 rfl dX10_gatherMost_68 ?_
        refine x_icmpge C 109 dX10_gatherMost_71 (by decide) (fun c18 => ?_) (fun c18 => ?_)
        · replace h1 := ob_pos c18 h1
          refine x_lv (lv' := []) [] rfl ?_
          exact J1 _ (ihR1 _ (Option.some.inj h1).symm)
        · replace h1 := ob_neg c18 h1
          refine x_aload C 1 dX10_gatherMost_74 rfl ?_
          refine x_iload C 0 dX10_gatherMost_76 rfl ?_
          refine x_callV (ar := 1) (q := (RX2, TX2, 6)) (rest := []) C (c_X2_holds C.2.2.2.2.2.2.1 (Nat.lt_of_lt_of_le (vin_lt c1) (by decide)) rfl) (iX18 (Nat.lt_of_lt_of_le (vin_lt c1) (by decide))) (lX18 (Nat.lt_of_lt_of_le (vin_lt c1) (by decide))) rfl hy_X2_holds ⟨tw495, tw496, tw497, tw72, tw498⟩ (Nat.lt_succ_of_lt (Nat.lt_of_lt_of_le (by decide) hn0)) (by decide) rfl rfl (Nat.le_of_ble_eq_true rfl) dX10_gatherMost_78 ?_
          show Wx LX K s12 81 [(5, .int x13), (4, .ref (kad K (144 + a2.toNatClampNeg))), (0, .ref (kad K 0)), (1, .int a1), (2, .int a2), (3, .int a3)] [.int (X2_holds s12 a2.toNatClampNeg x13)]
          refine x_ifeq C 103 dX10_gatherMost_81 (by decide) (fun c21 => ?_) (fun c21 => ?_)
          · replace h1 := ob_pos c21 h1
            refine x_iinc (v := (x13 + 1)) (lv' := [(5, .int (x13 + 1)), (4, .ref (kad K (144 + a2.toNatClampNeg))), (0, .ref (kad K 0)), (1, .int a1), (2, .int a2), (3, .int a3)]) C 0 dX10_gatherMost_103 rfl rfl (by rw [e5]; decide) rfl ?_
            refine x_goto C 53 dX10_gatherMost_106 (by decide) ?_
            refine x_lv (lv' := [(5, .int (x13 + 1)), (4, .ref (kad K (144 + a2.toNatClampNeg))), (0, .ref (kad K 0)), (1, .int a1), (2, .int a2), (3, .int a3)]) [0, 1, 2, 3, 4, 5] rfl ?_
            exact ihL1 _ (Option.some.inj h1).symm
          · replace h1 := ob_neg c21 h1
            refine x_aload_n C 2 dX10_gatherMost_84 rfl ?_
            refine x_iload_n C 4 dX10_gatherMost_85 rfl ?_
            refine x_iload C 0 dX10_gatherMost_86 rfl ?_
            refine x_bipush (v := 15) C dX10_gatherMost_88 rfl ?_
            obtain ⟨r22, s24, g23, h1⟩ := ob_bd h1
            refine x_callV (ar := 3) (q := (RX10, TX10, 18)) (rest := []) C (c_X10_stepAhead C.2.2.2.2.2.2.1  g23) (iX 0 (by decide)) rfl rfl hy_X10_stepAhead ⟨tw587, tw589, tw16, tw63, tw590⟩ (Nat.lt_succ_of_lt (Nat.lt_of_lt_of_le (by decide) hn0)) (by decide) rfl rfl (Nat.le_of_ble_eq_true rfl) dX10_gatherMost_90 ?_
            show Wx LX K s24 93 [(5, .int x13), (4, .ref (kad K (144 + a2.toNatClampNeg))), (0, .ref (kad K 0)), (1, .int a1), (2, .int a2), (3, .int a3)] [.int r22]
            refine x_pop C dX10_gatherMost_93 rfl ?_
            refine x_aload_n C 2 dX10_gatherMost_94 rfl ?_
            refine x_iload_n C 3 dX10_gatherMost_95 rfl ?_
            refine x_iload_n C 4 dX10_gatherMost_96 rfl ?_
            refine x_iconst (v := 1) C dX10_gatherMost_97 rfl ?_
            refine x_iadd C dX10_gatherMost_98 ?_
            refine x_iload_n C 5 dX10_gatherMost_99 rfl ?_
            obtain ⟨r25, s27, g26, h1⟩ := ob_bd h1
            refine x_callV (ar := 3) (q := (RX10, TX10, 18)) (rest := []) C (hrc g26) (iX 0 (by decide)) rfl rfl hy_X10_gatherMost ⟨tw617, tw619, tw20, tw63, tw620⟩ (Nat.lt_succ_self _) (by decide) rfl rfl (Nat.le_of_ble_eq_true rfl) dX10_gatherMost_100 ?_
            show Wx LX K s27 103 [(5, .int x13), (4, .ref (kad K (144 + a2.toNatClampNeg))), (0, .ref (kad K 0)), (1, .int a1), (2, .int a2), (3, .int a3)] []
            refine x_iinc (v := (x13 + 1)) (lv' := [(5, .int (x13 + 1)), (4, .ref (kad K (144 + a2.toNatClampNeg))), (0, .ref (kad K 0)), (1, .int a1), (2, .int a2), (3, .int a3)]) C 0 dX10_gatherMost_103 rfl rfl (by rw [e5]; decide) rfl ?_
            refine x_goto C 53 dX10_gatherMost_106 (by decide) ?_
            refine x_lv (lv' := [(5, .int (x13 + 1)), (4, .ref (kad K (144 + a2.toNatClampNeg))), (0, .ref (kad K 0)), (1, .int a1), (2, .int a2), (3, .int a3)]) [0, 1, 2, 3, 4, 5] rfl ?_
            exact ihL1 _ (Option.some.inj h1).symm
    · replace h0 := ob_neg c11 h0
      refine x_aload C 0 dX10_gatherMost_18 rfl ?_
      refine x_getIN (j := 2) (i := 223) (q := (RX2, TX2, 6)) (host := "CalledNumbers") C (iX18 (Nat.lt_of_lt_of_le (vin_lt c1) (by decide))) (lX18 (Nat.lt_of_lt_of_le (vin_lt c1) (by decide))) rfl inBX2 (by decide) twN195 rfl dX10_gatherMost_20 ?_
      refine x_callS (ar := 1) (rest := []) C (c_J6_bitCount_0f7a4 C.2.2.2.2.2.2.1  rfl) hy_J6_bitCount_0f7a4 ⟨tw591, tw417, tw77, tw418⟩ (Nat.lt_succ_of_lt (Nat.lt_of_lt_of_le (by decide) hn0)) (by decide) rfl rfl (Nat.le_of_ble_eq_true rfl) dX10_gatherMost_23 ?_
      show Wx LX K σ 26 [(4, .ref (kad K (144 + a2.toNatClampNeg))), (0, .ref (kad K 0)), (1, .int a1), (2, .int a2), (3, .int a3)] [.int (J6_bitCount_0f7a4 (σ.1 (144 + a2.toNatClampNeg) 2))]
      refine x_istore (lv' := [(5, .int (J6_bitCount_0f7a4 (σ.1 (144 + a2.toNatClampNeg) 2))), (4, .ref (kad K (144 + a2.toNatClampNeg))), (0, .ref (kad K 0)), (1, .int a1), (2, .int a2), (3, .int a3)]) C dX10_gatherMost_26 (by rw [e5]; decide) rfl ?_
      refine x_iload C 0 dX10_gatherMost_28 rfl ?_
      refine x_aload_n C 2 dX10_gatherMost_30 rfl ?_
      refine x_getI (j := 11) (i := 243) (q := (RX10, TX10, 18)) C (iX 0 (by decide)) rfl rfl inBX10 (by decide) tw246 rfl dX10_gatherMost_31 ?_
      refine x_icmple C 49 dX10_gatherMost_34 (by decide) (fun c32 => ?_) (fun c32 => ?_)
      · replace h0 := ob_pos c32 h0
        cases h0
        exact x_vret C R dX10_gatherMost_49
      · replace h0 := ob_neg c32 h0
        refine x_aload_n C 2 dX10_gatherMost_37 rfl ?_
        refine x_iload C 0 dX10_gatherMost_38 rfl ?_
        refine x_putI (j := 11) (i := 243) (q := (RX10, TX10, 18)) C tyX10 tyX10_ok nmX10 (iX 0 (by decide)) rfl rfl inBX10 (by decide) tw246 rfl (by decide +kernel) rfl dX10_gatherMost_40 ?_
        refine x_aload_n C 2 dX10_gatherMost_43 rfl ?_
        refine x_iload_n C 3 dX10_gatherMost_44 rfl ?_
        refine x_iload_n C 4 dX10_gatherMost_45 rfl ?_
        obtain ⟨r33, s35, g34, h0⟩ := ob_bd h0
        refine x_callV (ar := 2) (q := (RX10, TX10, 18)) (rest := []) C (c_X10_layTrail C.2.2.2.2.2.2.1  g34) (iX 0 (by decide)) rfl rfl hy_X10_layTrail ⟨tw609, tw611, tw19, tw63, tw612⟩ (Nat.lt_succ_of_lt (Nat.lt_of_lt_of_le (by decide) hn0)) (by decide) rfl rfl (Nat.le_of_ble_eq_true rfl) dX10_gatherMost_46 ?_
        show Wx LX K s35 49 [(5, .int (J6_bitCount_0f7a4 (σ.1 (144 + a2.toNatClampNeg) 2))), (4, .ref (kad K (144 + a2.toNatClampNeg))), (0, .ref (kad K 0)), (1, .int a1), (2, .int a2), (3, .int a3)] []
        cases h0
        exact x_vret C R dX10_gatherMost_49
theorem c_X10_gatherMost {l : Launch} {D : va_G} {ad : Nat → Nat} {cy : Nat → ClassId} (hJ : mJ LX ad) : ∀ (f : Nat) {σ τ : mS} {a1 : Int32} {a2 : Int32} {a3 : Int32} {r : Unit}, X10_gatherMost f σ a1 a2 a3 = some (r, τ) → MetG l LX D ad cy yX10_gatherMost cX10_gatherMost 6 none (6 + f) [.ref (ad 0), .int a1, .int a2, .int a3] σ (none) τ
  | 0, _, _, _, _, _, _, h => by cases h
  | f + 1, _, _, _, _, _, _, h => c_X10_gatherMost_F hJ (Nat.le_add_right 6 f) (fun {_ _} {_ _ _} {_} h => c_X10_gatherMost hJ f h) h
set_option maxHeartbeats 4000000 in
set_option maxRecDepth 100000 in
theorem c_X10_most {l : Launch} {D : va_G} {ad : Nat → Nat} {cy : Nat → ClassId} (hJ : mJ LX ad) {σ τ : mS} {a1 : Int32} {a2 : Int32} {r : Int32}  (h0 : X10_most σ a1 a2 = some (r, τ)) : MetG l LX D ad cy yX10_most cX10_most 3 (some .int) 13 [.ref (ad 0), .int a1, .int a2] σ (some (.int r)) τ := by
  refine MetG.of hJ (by decide +kernel) [(0, .ref (ad 0)), (1, .int a1), (2, .int a2)] rfl (Nat.le_of_ble_eq_true rfl) ?_
  intro K e1 e2 e3 e4 e5 C R
  subst e1
  subst e2
  subst e3
  subst e4
  unfold X10_most at h0
  refine x_iload_n C 1 dX10_most_0 rfl ?_
  refine x_iflt C 17 dX10_most_1 (by decide) (fun c2 => ?_) (fun c2 => ?_)
  · replace h0 := ob_pos c2 h0
    refine x_iconst (v := (-1)) C dX10_most_17 rfl ?_
    cases h0
    exact x_iret C R dX10_most_18
  · replace h0 := ob_neg c2 h0
    refine x_iload_n C 1 dX10_most_4 rfl ?_
    refine x_iconst (v := 4) C dX10_most_5 rfl ?_
    refine x_icmpgt C 17 dX10_most_6 (by decide) (fun c4 => ?_) (fun c4 => ?_)
    · replace h0 := ob_pos c4 h0
      refine x_iconst (v := (-1)) C dX10_most_17 rfl ?_
      cases h0
      exact x_iret C R dX10_most_18
    · replace h0 := ob_neg c4 h0
      refine x_aload_n C 0 dX10_most_9 rfl ?_
      refine x_iload_n C 2 dX10_most_10 rfl ?_
      refine x_callV (ar := 1) (q := (RX10, TX10, 18)) (rest := []) C (c_X10_isRow C.2.2.2.2.2.2.1  rfl) (iX 0 (by decide)) rfl rfl hy_X10_isRow ⟨tw294, tw296, tw0, tw63, tw297⟩ (by decide) (by decide) rfl rfl (Nat.le_of_ble_eq_true rfl) dX10_most_11 ?_
      show Wx LX K σ 14 [(0, .ref (kad K 0)), (1, .int a1), (2, .int a2)] [.int (X10_isRow a2)]
      refine x_ifne C 19 dX10_most_14 (by decide) (fun c7 => ?_) (fun c7 => ?_)
      · replace h0 := ob_neg c7 h0
        refine x_aload_n C 0 dX10_most_19 rfl ?_
        refine x_getR (j := 5) (i := 36) (q := (RX10, TX10, 18)) C 88 (iX 0 (by decide)) rfl rfl inBX10 (by decide) tw240 rfl dX10_most_20 ?_
        refine x_getIN (j := 4) (i := 135) (q := (RX7, TX7, 5)) (host := "CalledNumbers") C (iX 88 (by decide)) rfl rfl inBX7 (by decide) twN173 rfl dX10_most_23 ?_
        refine x_ifne C 32 dX10_most_26 (by decide) (fun c9 => ?_) (fun c9 => ?_)
        · replace h0 := ob_neg c9 h0
          refine x_aload_n C 0 dX10_most_32 rfl ?_
          refine x_iconst (v := (-1)) C dX10_most_33 rfl ?_
          refine x_putI (j := 11) (i := 243) (q := (RX10, TX10, 18)) C tyX10 tyX10_ok nmX10 (iX 0 (by decide)) rfl rfl inBX10 (by decide) tw246 rfl (by decide +kernel) rfl dX10_most_34 ?_
          refine x_aload_n C 0 dX10_most_37 rfl ?_
          refine x_iload_n C 2 dX10_most_38 rfl ?_
          refine x_iconst (v := 0) C dX10_most_39 rfl ?_
          refine x_aload_n C 0 dX10_most_40 rfl ?_
          refine x_iload_n C 1 dX10_most_41 rfl ?_
          obtain ⟨r10, s12, g11, h0⟩ := ob_bd h0
          refine x_callV (ar := 1) (q := (RX10, TX10, 18)) (rest := [.int 0, .int a2, .ref (kad K 0)]) C (c_X10_callsAhead C.2.2.2.2.2.2.1  g11) (iX 0 (by decide)) rfl rfl hy_X10_callsAhead ⟨tw596, tw598, tw17, tw63, tw599⟩ (by decide) (by decide) rfl rfl (Nat.le_of_ble_eq_true rfl) dX10_most_42 ?_
          show Wx LX K s12 45 [(0, .ref (kad K 0)), (1, .int a1), (2, .int a2)] [.int r10, .int 0, .int a2, .ref (kad K 0)]
          obtain ⟨r13, s15, g14, h0⟩ := ob_bd h0
          refine x_callV (ar := 3) (q := (RX10, TX10, 18)) (rest := []) C (c_X10_gatherMost C.2.2.2.2.2.2.1 6  g14) (iX 0 (by decide)) rfl rfl hy_X10_gatherMost ⟨tw617, tw619, tw20, tw63, tw620⟩ (by decide) (by decide) rfl rfl (Nat.le_of_ble_eq_true rfl) dX10_most_45 ?_
          show Wx LX K s15 48 [(0, .ref (kad K 0)), (1, .int a1), (2, .int a2)] []
          refine x_aload_n C 0 dX10_most_48 rfl ?_
          refine x_getI (j := 11) (i := 243) (q := (RX10, TX10, 18)) C (iX 0 (by decide)) rfl rfl inBX10 (by decide) tw246 rfl dX10_most_49 ?_
          cases h0
          exact x_iret C R dX10_most_52
        · replace h0 := ob_pos c9 h0
          refine x_bipush (v := (-4)) C dX10_most_29 rfl ?_
          cases h0
          exact x_iret C R dX10_most_31
      · replace h0 := ob_pos c7 h0
        refine x_iconst (v := (-1)) C dX10_most_17 rfl ?_
        cases h0
        exact x_iret C R dX10_most_18
set_option maxHeartbeats 4000000 in
set_option maxRecDepth 100000 in
theorem c_X10_marksBy {l : Launch} {D : va_G} {ad : Nat → Nat} {cy : Nat → ClassId} (hJ : mJ LX ad) {σ : mS} {a1 : Int32} {a2 : Int32} {a3 : Int32} {r : Int32}  (h0 : X10_marksBy σ a1 a2 a3 = some r) : MetG l LX D ad cy yX10_marksBy cX10_marksBy 5 (some .int) 2 [.ref (ad 0), .int a1, .int a2, .int a3] σ (some (.int r)) σ := by
  refine MetG.of hJ (by decide +kernel) [(0, .ref (ad 0)), (1, .int a1), (2, .int a2), (3, .int a3)] rfl (Nat.le_of_ble_eq_true rfl) ?_
  intro K e1 e2 e3 e4 e5 C R
  subst e1
  subst e2
  subst e3
  subst e4
  unfold X10_marksBy at h0
  refine x_aload_n C 0 dX10_marksBy_0 rfl ?_
  refine x_getR (j := 5) (i := 36) (q := (RX10, TX10, 18)) C 88 (iX 0 (by decide)) rfl rfl inBX10 (by decide) tw240 rfl dX10_marksBy_1 ?_
  refine x_getRN (j := 0) (i := 338) (q := (RX7, TX7, 5)) (host := "CalledNumbers") C 96 (iX 88 (by decide)) rfl rfl inBX7 (by decide) twN164 rfl dX10_marksBy_4 ?_
  refine x_iload_n C 1 dX10_marksBy_7 rfl ?_
  obtain ⟨c1, h0⟩ := ob_if h0
  refine x_aald C (iX 96 (by decide)) rfl rfl rfl (vin_in c1) dX10_marksBy_8 ?_
  refine x_iload_n C 3 dX10_marksBy_9 rfl ?_
  refine x_aload_n C 0 dX10_marksBy_10 rfl ?_
  refine x_getR (j := 6) (i := 45) (q := (RX10, TX10, 18)) C (144 + 5) (iX 0 (by decide)) rfl rfl inBX10 (by decide) tw241 rfl dX10_marksBy_11 ?_
  refine x_getIN (j := 4) (i := 177) (q := (RX2, TX2, 6)) (host := "CalledNumbers") C (iX18 (by decide)) (lX18 (by decide)) rfl inBX2 (by decide) twN199 rfl dX10_marksBy_14 ?_
  refine x_aload_n C 0 dX10_marksBy_17 rfl ?_
  refine x_getR (j := 6) (i := 45) (q := (RX10, TX10, 18)) C (144 + 5) (iX 0 (by decide)) rfl rfl inBX10 (by decide) tw241 rfl dX10_marksBy_18 ?_
  refine x_getIN (j := 5) (i := 164) (q := (RX2, TX2, 6)) (host := "CalledNumbers") C (iX18 (by decide)) (lX18 (by decide)) rfl inBX2 (by decide) twN201 rfl dX10_marksBy_21 ?_
  refine x_K_X5_heard C (vin_lt c1) tw574 (by decide) (Nat.le_of_ble_eq_true rfl) dX10_marksBy_24 ?_
  refine x_istore (lv' := [(4, .int (kd_X5_heard a1.toNatClampNeg a3 (σ.1 (144 + 5) 4) (σ.1 (144 + 5) 5))), (0, .ref (kad K 0)), (1, .int a1), (2, .int a2), (3, .int a3)]) C dX10_marksBy_27 (by rw [e5]; decide) rfl ?_
  refine x_aload_n C 1 dX10_marksBy_29 rfl ?_
  refine x_getR (j := 5) (i := 36) (q := (RX10, TX10, 18)) C 88 (iX 0 (by decide)) rfl rfl inBX10 (by decide) tw240 rfl dX10_marksBy_30 ?_
  refine x_iload_n C 3 dX10_marksBy_33 rfl ?_
  refine x_aload_n C 1 dX10_marksBy_34 rfl ?_
  refine x_getR (j := 6) (i := 45) (q := (RX10, TX10, 18)) C (144 + 5) (iX 0 (by decide)) rfl rfl inBX10 (by decide) tw241 rfl dX10_marksBy_35 ?_
  refine x_getRN (j := 1) (i := 156) (q := (RX2, TX2, 6)) (host := "CalledNumbers") C (152 + 5) (iX18 (by decide)) (lX18 (by decide)) rfl inBX2 (by decide) twN193 rfl dX10_marksBy_38 ?_
  refine x_iload_n C 3 dX10_marksBy_41 rfl ?_
  obtain ⟨c2, h0⟩ := ob_if h0
  refine x_iald C (iX19 (by decide)) (lX19 (by decide)) (vin_in c2) dX10_marksBy_42 ?_
  refine x_iload C 0 dX10_marksBy_43 rfl ?_
  obtain ⟨r3, g4, h0⟩ := ob_bind h0
  refine x_callV (ar := 3) (q := (RX7, TX7, 5)) (rest := []) C (c_X7_marked C.2.2.2.2.2.2.1  g4) (iX 88 (by decide)) rfl rfl hy_X7_marked ⟨tw629, tw530, tw531, tw65, tw532⟩ (by decide) (by decide) rfl rfl (Nat.le_of_ble_eq_true rfl) dX10_marksBy_45 ?_
  show Wx LX K σ 48 [(4, .int (kd_X5_heard a1.toNatClampNeg a3 (σ.1 (144 + 5) 4) (σ.1 (144 + 5) 5))), (0, .ref (kad K 0)), (1, .int a1), (2, .int a2), (3, .int a3)] [.int r3]
  cases h0
  exact x_iret C R dX10_marksBy_48
set_option maxHeartbeats 4000000 in
set_option maxRecDepth 100000 in
theorem c_X10_which {l : Launch} {D : va_G} {ad : Nat → Nat} {cy : Nat → ClassId} (hJ : mJ LX ad) {σ : mS} {a1 : Int32} {a2 : Int32} {r : Int32}  (h0 : X10_which σ a1 a2 = some r) : MetG l LX D ad cy yX10_which cX10_which 5 (some .int) 3 [.ref (ad 0), .int a1, .int a2] σ (some (.int r)) σ := by
  refine MetG.of hJ (by decide +kernel) [(0, .ref (ad 0)), (1, .int a1), (2, .int a2)] rfl (Nat.le_of_ble_eq_true rfl) ?_
  intro K e1 e2 e3 e4 e5 C R
  subst e1
  subst e2
  subst e3
  subst e4
  unfold X10_which at h0
  refine x_aload_n C 0 dX10_which_0 rfl ?_
  refine x_iload_n C 1 dX10_which_1 rfl ?_
  refine x_callV (ar := 1) (q := (RX10, TX10, 18)) (rest := []) C (c_X10_isPlayer C.2.2.2.2.2.2.1  rfl) (iX 0 (by decide)) rfl rfl hy_X10_isPlayer ⟨tw390, tw392, tw8, tw63, tw393⟩ (by decide) (by decide) rfl rfl (Nat.le_of_ble_eq_true rfl) dX10_which_2 ?_
  show Wx LX K σ 5 [(0, .ref (kad K 0)), (1, .int a1), (2, .int a2)] [.int (X10_isPlayer σ a1)]
  refine x_ifeq C 18 dX10_which_5 (by decide) (fun c3 => ?_) (fun c3 => ?_)
  · replace h0 := ob_pos c3 h0
    refine x_iconst (v := (-1)) C dX10_which_18 rfl ?_
    cases h0
    exact x_iret C R dX10_which_19
  · replace h0 := ob_neg c3 h0
    refine x_iload_n C 2 dX10_which_8 rfl ?_
    refine x_iflt C 18 dX10_which_9 (by decide) (fun c5 => ?_) (fun c5 => ?_)
    · replace h0 := ob_pos c5 h0
      refine x_iconst (v := (-1)) C dX10_which_18 rfl ?_
      cases h0
      exact x_iret C R dX10_which_19
    · replace h0 := ob_neg c5 h0
      refine x_iload_n C 2 dX10_which_12 rfl ?_
      refine x_bipush (v := 63) C dX10_which_13 rfl ?_
      refine x_icmple C 20 dX10_which_15 (by decide) (fun c7 => ?_) (fun c7 => ?_)
      · replace h0 := ob_pos c7 h0
        refine x_iconst (v := 0) C dX10_which_20 rfl ?_
        refine x_istore_n (lv' := [(3, .int 0), (0, .ref (kad K 0)), (1, .int a1), (2, .int a2)]) C dX10_which_21 (by rw [e5]; decide) rfl ?_
        refine x_iconst (v := 1) C dX10_which_22 rfl ?_
        refine x_istore (lv' := [(4, .int 1), (3, .int 0), (0, .ref (kad K 0)), (1, .int a1), (2, .int a2)]) C dX10_which_23 (by rw [e5]; decide) rfl ?_
        obtain ⟨e21, g22, h0⟩ := ob_bind h0
        have J1 : ∀ (y10 : Int32), y10 = e21 → Wx LX K σ 77 [(3, .int y10)] [] := by
          intro y10 e9
          subst e9
          replace h0 := un1_l h0
          refine x_iload_n C 0 dX10_which_77 rfl ?_
          cases h0
          exact x_iret C R dX10_which_78
        refine lp_G (G := fun q : Int32 × Int32 => Wx LX K σ 25 [(4, .int q.2), (3, .int q.1), (0, .ref (kad K 0)), (1, .int a1), (2, .int a2)] []) (fun q x h1 ihL1 ihR1 => ?_) big _ g22
        obtain ⟨x8, x9⟩ := q
        replace h1 : X10_which_b25 σ a1 a2 x8 x9 = some x := h1
        unfold X10_which_b25 at h1
        show Wx LX K σ 25 [(4, .int x9), (3, .int x8), (0, .ref (kad K 0)), (1, .int a1), (2, .int a2)] []
        refine x_iload C 0 dX10_which_25 rfl ?_
        refine x_bipush (v := 12) C dX10_which_27 rfl ?_
        refine x_icmpgt C 77 dX10_which_29 (by decide) (fun c12 => ?_) (fun c12 => ?_)
        · replace h1 := ob_pos c12 h1
          refine x_lv (lv' := [(3, .int x8)]) [1] rfl ?_
          exact J1 _ (ihR1 _ (Option.some.inj h1).symm)
        · replace h1 := ob_neg c12 h1
          refine x_aload_n C 2 dX10_which_32 rfl ?_
          refine x_getR (j := 6) (i := 45) (q := (RX10, TX10, 18)) C (144 + 5) (iX 0 (by decide)) rfl rfl inBX10 (by decide) tw241 rfl dX10_which_33 ?_
          refine x_iload C 0 dX10_which_36 rfl ?_
          refine x_callV (ar := 1) (q := (RX2, TX2, 6)) (rest := []) C (c_X2_holds C.2.2.2.2.2.2.1 (by decide) rfl) (iX18 (by decide)) (lX18 (by decide)) rfl hy_X2_holds ⟨tw495, tw496, tw497, tw72, tw498⟩ (by decide) (by decide) rfl rfl (Nat.le_of_ble_eq_true rfl) dX10_which_38 ?_
          show Wx LX K σ 41 [(4, .int x9), (3, .int x8), (0, .ref (kad K 0)), (1, .int a1), (2, .int a2)] [.int (X2_holds σ 5 x9)]
          refine x_ifeq C 71 dX10_which_41 (by decide) (fun c15 => ?_) (fun c15 => ?_)
          · replace h1 := ob_pos c15 h1
            refine x_iinc (v := (x9 + 1)) (lv' := [(4, .int (x9 + 1)), (3, .int x8), (0, .ref (kad K 0)), (1, .int a1), (2, .int a2)]) C 0 dX10_which_71 rfl rfl (by rw [e5]; decide) rfl ?_
            refine x_goto C 25 dX10_which_74 (by decide) ?_
            refine x_lv (lv' := [(4, .int (x9 + 1)), (3, .int x8), (0, .ref (kad K 0)), (1, .int a1), (2, .int a2)]) [0, 1, 2, 3, 4] rfl ?_
            exact ihL1 _ (Option.some.inj h1).symm
          · replace h1 := ob_neg c15 h1
            refine x_aload_n C 2 dX10_which_44 rfl ?_
            refine x_aload_n C 2 dX10_which_45 rfl ?_
            refine x_getR (j := 5) (i := 36) (q := (RX10, TX10, 18)) C 88 (iX 0 (by decide)) rfl rfl inBX10 (by decide) tw240 rfl dX10_which_46 ?_
            refine x_getRN (j := 1) (i := 250) (q := (RX7, TX7, 5)) (host := "CalledNumbers") C 112 (iX 88 (by decide)) rfl rfl inBX7 (by decide) twN166 rfl dX10_which_49 ?_
            refine x_iload_n C 3 dX10_which_52 rfl ?_
            obtain ⟨c16, h1⟩ := ob_if h1
            refine x_iald C (iX 112 (by decide)) rfl (vin_in c16) dX10_which_53 ?_
            refine x_iload_n C 3 dX10_which_54 rfl ?_
            refine x_iload C 0 dX10_which_55 rfl ?_
            obtain ⟨r17, g18, h1⟩ := ob_bind h1
            refine x_callV (ar := 3) (q := (RX10, TX10, 18)) (rest := []) C (c_X10_marksBy C.2.2.2.2.2.2.1  g18) (iX 0 (by decide)) rfl rfl hy_X10_marksBy ⟨tw625, tw627, tw21, tw63, tw628⟩ (by decide) (by decide) rfl rfl (Nat.le_of_ble_eq_true rfl) dX10_which_57 ?_
            show Wx LX K σ 60 [(4, .int x9), (3, .int x8), (0, .ref (kad K 0)), (1, .int a1), (2, .int a2)] [.int r17]
            refine x_iload_n C 4 dX10_which_60 rfl ?_
            refine x_icmpne C 71 dX10_which_61 (by decide) (fun c20 => ?_) (fun c20 => ?_)
            · replace h1 := ob_neg c20 h1
              refine x_iinc (v := (x9 + 1)) (lv' := [(4, .int (x9 + 1)), (3, .int x8), (0, .ref (kad K 0)), (1, .int a1), (2, .int a2)]) C 0 dX10_which_71 rfl rfl (by rw [e5]; decide) rfl ?_
              refine x_goto C 25 dX10_which_74 (by decide) ?_
              refine x_lv (lv' := [(4, .int (x9 + 1)), (3, .int x8), (0, .ref (kad K 0)), (1, .int a1), (2, .int a2)]) [0, 1, 2, 3, 4] rfl ?_
              exact ihL1 _ (Option.some.inj h1).symm
            · replace h1 := ob_pos c20 h1
              refine x_iload_n C 1 dX10_which_64 rfl ?_
              refine x_iconst (v := 1) C dX10_which_65 rfl ?_
              refine x_iload C 0 dX10_which_66 rfl ?_
              refine x_ishl C dX10_which_68 ?_
              refine x_ior C dX10_which_69 ?_
              refine x_istore_n (lv' := [(3, .int (x8 ||| ((1 : Int32) <<< (x9 &&& 31)))), (4, .int x9), (0, .ref (kad K 0)), (1, .int a1), (2, .int a2)]) C dX10_which_70 (by rw [e5]; decide) rfl ?_
              refine x_iinc (v := (x9 + 1)) (lv' := [(4, .int (x9 + 1)), (3, .int (x8 ||| ((1 : Int32) <<< (x9 &&& 31)))), (0, .ref (kad K 0)), (1, .int a1), (2, .int a2)]) C 1 dX10_which_71 rfl rfl (by rw [e5]; decide) rfl ?_
              refine x_goto C 25 dX10_which_74 (by decide) ?_
              refine x_lv (lv' := [(4, .int (x9 + 1)), (3, .int (x8 ||| ((1 : Int32) <<< (x9 &&& 31)))), (0, .ref (kad K 0)), (1, .int a1), (2, .int a2)]) [0, 1, 2, 3, 4] rfl ?_
              exact ihL1 _ (Option.some.inj h1).symm
      · replace h0 := ob_neg c7 h0
        refine x_iconst (v := (-1)) C dX10_which_18 rfl ?_
        cases h0
        exact x_iret C R dX10_which_19
set_option maxHeartbeats 4000000 in
set_option maxRecDepth 100000 in
theorem c_X10_refusedPairs {l : Launch} {D : va_G} {ad : Nat → Nat} {cy : Nat → ClassId} (hJ : mJ LX ad) {σ τ : mS} {a1 : Int32} {a2 : Int32} {r : Int32}  (h0 : X10_refusedPairs σ a1 a2 = some (r, τ)) : MetG l LX D ad cy yX10_refusedPairs cX10_refusedPairs 7 (some .int) 2 [.ref (ad 0), .int a1, .int a2] σ (some (.int r)) τ := by
  refine MetG.of hJ (by decide +kernel) [(0, .ref (ad 0)), (1, .int a1), (2, .int a2)] rfl (Nat.le_of_ble_eq_true rfl) ?_
  intro K e1 e2 e3 e4 e5 C R
  subst e1
  subst e2
  subst e3
  subst e4
  unfold X10_refusedPairs at h0
  refine x_aload_n C 0 dX10_refusedPairs_0 rfl ?_
  refine x_iload_n C 1 dX10_refusedPairs_1 rfl ?_
  refine x_callV (ar := 1) (q := (RX10, TX10, 18)) (rest := []) C (c_X10_isPlayer C.2.2.2.2.2.2.1  rfl) (iX 0 (by decide)) rfl rfl hy_X10_isPlayer ⟨tw390, tw392, tw8, tw63, tw393⟩ (by decide) (by decide) rfl rfl (Nat.le_of_ble_eq_true rfl) dX10_refusedPairs_2 ?_
  show Wx LX K σ 5 [(0, .ref (kad K 0)), (1, .int a1), (2, .int a2)] [.int (X10_isPlayer σ a1)]
  refine x_ifne C 10 dX10_refusedPairs_5 (by decide) (fun c3 => ?_) (fun c3 => ?_)
  · replace h0 := ob_neg c3 h0
    refine x_aload_n C 0 dX10_refusedPairs_10 rfl ?_
    refine x_iload_n C 2 dX10_refusedPairs_11 rfl ?_
    obtain ⟨r4, s6, g5, h0⟩ := ob_bd h0
    refine x_callV (ar := 1) (q := (RX10, TX10, 18)) (rest := []) C (c_X10_refusedRow C.2.2.2.2.2.2.1  g5) (iX 0 (by decide)) rfl rfl hy_X10_refusedRow ⟨tw310, tw312, tw3, tw63, tw313⟩ (by decide) (by decide) rfl rfl (Nat.le_of_ble_eq_true rfl) dX10_refusedPairs_12 ?_
    show Wx LX K s6 15 [(0, .ref (kad K 0)), (1, .int a1), (2, .int a2)] [.int r4]
    refine x_istore_n (lv' := [(3, .int r4), (0, .ref (kad K 0)), (1, .int a1), (2, .int a2)]) C dX10_refusedPairs_15 (by rw [e5]; decide) rfl ?_
    refine x_iload_n C 0 dX10_refusedPairs_16 rfl ?_
    refine x_ifeq C 22 dX10_refusedPairs_17 (by decide) (fun c8 => ?_) (fun c8 => ?_)
    · replace h0 := ob_pos c8 h0
      refine x_aload_n C 1 dX10_refusedPairs_22 rfl ?_
      refine x_getR (j := 1) (i := 14) (q := (RX10, TX10, 18)) C 24 (iX 0 (by decide)) rfl rfl inBX10 (by decide) tw236 rfl dX10_refusedPairs_23 ?_
      refine x_iload_n C 3 dX10_refusedPairs_26 rfl ?_
      obtain ⟨c9, h0⟩ := ob_if h0
      refine x_iald C (iX 24 (by decide)) rfl (vin_in c9) dX10_refusedPairs_27 ?_
      refine x_istore (lv' := [(4, .int (s6.1 24 a2.toNatClampNeg)), (3, .int r4), (0, .ref (kad K 0)), (1, .int a1), (2, .int a2)]) C dX10_refusedPairs_28 (by rw [e5]; decide) rfl ?_
      refine x_iload C 0 dX10_refusedPairs_30 rfl ?_
      refine x_iconst (v := 2) C dX10_refusedPairs_32 rfl ?_
      refine x_irem C dX10_refusedPairs_33 (by decide) ?_
      refine x_ifne C 44 dX10_refusedPairs_34 (by decide) (fun c11 => ?_) (fun c11 => ?_)
      · replace h0 := ob_neg c11 h0
        refine x_aload_n C 2 dX10_refusedPairs_44 rfl ?_
        refine x_iconst (v := 5) C dX10_refusedPairs_45 rfl ?_
        obtain ⟨r12, s14, g13, h0⟩ := ob_bd h0
        refine x_callV (ar := 1) (q := (RX10, TX10, 18)) (rest := []) C (c_X10_found C.2.2.2.2.2.2.1  g13) (iX 0 (by decide)) rfl rfl hy_X10_found ⟨tw298, tw300, tw1, tw63, tw301⟩ (by decide) (by decide) rfl rfl (Nat.le_of_ble_eq_true rfl) dX10_refusedPairs_46 ?_
        show Wx LX K s14 49 [(4, .int (s6.1 24 a2.toNatClampNeg)), (3, .int r4), (0, .ref (kad K 0)), (1, .int a1), (2, .int a2)] [.int r12]
        cases h0
        exact x_iret C R dX10_refusedPairs_49
      · replace h0 := ob_pos c11 h0
        refine x_iload C 0 dX10_refusedPairs_37 rfl ?_
        refine x_bipush (v := 16) C dX10_refusedPairs_39 rfl ?_
        refine x_icmple C 50 dX10_refusedPairs_41 (by decide) (fun c16 => ?_) (fun c16 => ?_)
        · replace h0 := ob_pos c16 h0
          refine x_iconst (v := 0) C dX10_refusedPairs_50 rfl ?_
          refine x_istore (lv' := [(5, .int 0), (4, .int (s6.1 24 a2.toNatClampNeg)), (3, .int r4), (0, .ref (kad K 0)), (1, .int a1), (2, .int a2)]) C dX10_refusedPairs_51 (by rw [e5]; decide) rfl ?_
          obtain ⟨e40, g41, h0⟩ := ob_bind h0
          have J1 : ∀ (u9 : Unit), .inl u9 = e40 → Wx LX K s6 115 [] [] := by
            intro u9 e9
            subst e9
            replace h0 := sm1_l h0
            refine x_iconst (v := 0) C dX10_refusedPairs_115 rfl ?_
            cases h0
            exact x_iret C R dX10_refusedPairs_116
          refine x_lv (lv' := [(5, .int 0), (4, .int (s6.1 24 a2.toNatClampNeg)), (0, .ref (kad K 0)), (2, .int a2)]) [0, 1, 3, 5] rfl ?_
          refine lp_G (G := fun q : Int32 => Wx LX K s6 53 [(5, .int q), (4, .int (s6.1 24 a2.toNatClampNeg)), (0, .ref (kad K 0)), (2, .int a2)] []) (fun q x h1 ihL1 ihR1 => ?_) big _ g41
          obtain ⟨x17, rfl⟩ : ∃ z, z = q := ⟨_, rfl⟩
          replace h1 : X10_refusedPairs_b53 a2 s6 x17 = some x := h1
          unfold X10_refusedPairs_b53 at h1
          show Wx LX K s6 53 [(5, .int x17), (4, .int (s6.1 24 a2.toNatClampNeg)), (0, .ref (kad K 0)), (2, .int a2)] []
          refine x_iload C 0 dX10_refusedPairs_53 rfl ?_
          refine x_iconst (v := 1) C dX10_refusedPairs_55 rfl ?_
          refine x_iadd C dX10_refusedPairs_56 ?_
          refine x_iload C 1 dX10_refusedPairs_57 rfl ?_
          refine x_icmpge C 115 dX10_refusedPairs_59 (by decide) (fun c19 => ?_) (fun c19 => ?_)
          · replace h1 := ob_pos c19 h1
            refine x_lv (lv' := []) [] rfl ?_
            exact J1 _ (ihR1 _ (Option.some.inj h1).symm)
          · replace h1 := ob_neg c19 h1
            refine x_aload_n C 2 dX10_refusedPairs_62 rfl ?_
            refine x_getR (j := 0) (i := 11) (q := (RX10, TX10, 18)) C 8 (iX 0 (by decide)) rfl rfl inBX10 (by decide) tw235 rfl dX10_refusedPairs_63 ?_
            refine x_iload_n C 3 dX10_refusedPairs_66 rfl ?_
            obtain ⟨c20, h1⟩ := ob_if h1
            refine x_aald C (iX 8 (by decide)) rfl rfl rfl (vin_in c20) dX10_refusedPairs_67 ?_
            refine x_iload C 0 dX10_refusedPairs_68 rfl ?_
            refine x_iconst (v := 1) C dX10_refusedPairs_70 rfl ?_
            refine x_iadd C dX10_refusedPairs_71 ?_
            obtain ⟨c21, h1⟩ := ob_if h1
            refine x_iald C (iX2 (vin_lt c20)) (lX2 (vin_lt c20)) (vin_in c21) dX10_refusedPairs_72 ?_
            refine x_istore (lv' := [(6, .int (s6.1 (16 + a2.toNatClampNeg) (x17 + 1).toNatClampNeg)), (5, .int x17), (4, .int (s6.1 24 a2.toNatClampNeg)), (0, .ref (kad K 0)), (2, .int a2)]) C dX10_refusedPairs_73 (by rw [e5]; decide) rfl ?_
            refine x_aload_n C 3 dX10_refusedPairs_75 rfl ?_
            refine x_aload_n C 3 dX10_refusedPairs_76 rfl ?_
            refine x_getR (j := 0) (i := 11) (q := (RX10, TX10, 18)) C 8 (iX 0 (by decide)) rfl rfl inBX10 (by decide) tw235 rfl dX10_refusedPairs_77 ?_
            refine x_iload_n C 4 dX10_refusedPairs_80 rfl ?_
            obtain ⟨c22, h1⟩ := ob_if h1
            refine x_aald C (iX 8 (by decide)) rfl rfl rfl (vin_in c22) dX10_refusedPairs_81 ?_
            refine x_iload C 1 dX10_refusedPairs_82 rfl ?_
            obtain ⟨c23, h1⟩ := ob_if h1
            refine x_iald C (iX2 (vin_lt c22)) (lX2 (vin_lt c22)) (vin_in c23) dX10_refusedPairs_84 ?_
            refine x_callV (ar := 1) (q := (RX10, TX10, 18)) (rest := []) C (c_X10_isNumber C.2.2.2.2.2.2.1  rfl) (iX 0 (by decide)) rfl rfl hy_X10_isNumber ⟨tw491, tw493, tw11, tw63, tw494⟩ (by decide) (by decide) rfl rfl (Nat.le_of_ble_eq_true rfl) dX10_refusedPairs_85 ?_
            show Wx LX K s6 88 [(6, .int (s6.1 (16 + a2.toNatClampNeg) (x17 + 1).toNatClampNeg)), (5, .int x17), (4, .int (s6.1 24 a2.toNatClampNeg)), (0, .ref (kad K 0)), (2, .int a2)] [.int (X10_isNumber (s6.1 (16 + a2.toNatClampNeg) x17.toNatClampNeg))]
            refine x_ifeq C 103 dX10_refusedPairs_88 (by decide) (fun c26 => ?_) (fun c26 => ?_)
            · replace h1 := ob_pos c26 h1
              refine x_aload_n C 3 dX10_refusedPairs_103 rfl ?_
              refine x_iconst (v := 3) C dX10_refusedPairs_104 rfl ?_
              obtain ⟨r27, s29, g28, h1⟩ := ob_bd h1
              refine x_callV (ar := 1) (q := (RX10, TX10, 18)) (rest := []) C (c_X10_found C.2.2.2.2.2.2.1  g28) (iX 0 (by decide)) rfl rfl hy_X10_found ⟨tw298, tw300, tw1, tw63, tw301⟩ (by decide) (by decide) rfl rfl (Nat.le_of_ble_eq_true rfl) dX10_refusedPairs_105 ?_
              show Wx LX K s29 108 [(6, .int (s6.1 (16 + a2.toNatClampNeg) (x17 + 1).toNatClampNeg)), (5, .int x17), (4, .int (s6.1 24 a2.toNatClampNeg)), (0, .ref (kad K 0)), (2, .int a2)] [.int r27]
              have e19 := ihR1 _ (Option.some.inj h1).symm
              subst e19
              replace h0 := sm1_r h0
              cases h0
              exact x_iret C R dX10_refusedPairs_108
            · replace h1 := ob_neg c26 h1
              refine x_iload C 0 dX10_refusedPairs_91 rfl ?_
              refine x_iflt C 103 dX10_refusedPairs_93 (by decide) (fun c31 => ?_) (fun c31 => ?_)
              · replace h1 := ob_pos c31 h1
                refine x_aload_n C 3 dX10_refusedPairs_103 rfl ?_
                refine x_iconst (v := 3) C dX10_refusedPairs_104 rfl ?_
                obtain ⟨r32, s34, g33, h1⟩ := ob_bd h1
                refine x_callV (ar := 1) (q := (RX10, TX10, 18)) (rest := []) C (c_X10_found C.2.2.2.2.2.2.1  g33) (iX 0 (by decide)) rfl rfl hy_X10_found ⟨tw298, tw300, tw1, tw63, tw301⟩ (by decide) (by decide) rfl rfl (Nat.le_of_ble_eq_true rfl) dX10_refusedPairs_105 ?_
                show Wx LX K s34 108 [(6, .int (s6.1 (16 + a2.toNatClampNeg) (x17 + 1).toNatClampNeg)), (5, .int x17), (4, .int (s6.1 24 a2.toNatClampNeg)), (0, .ref (kad K 0)), (2, .int a2)] [.int r32]
                have e19 := ihR1 _ (Option.some.inj h1).symm
                subst e19
                replace h0 := sm1_r h0
                cases h0
                exact x_iret C R dX10_refusedPairs_108
              · replace h1 := ob_neg c31 h1
                refine x_iload C 0 dX10_refusedPairs_96 rfl ?_
                refine x_bipush (v := 6) C dX10_refusedPairs_98 rfl ?_
                refine x_icmple C 109 dX10_refusedPairs_100 (by decide) (fun c36 => ?_) (fun c36 => ?_)
                · replace h1 := ob_pos c36 h1
                  refine x_iinc (v := (x17 + 2)) (lv' := [(5, .int (x17 + 2)), (6, .int (s6.1 (16 + a2.toNatClampNeg) (x17 + 1).toNatClampNeg)), (4, .int (s6.1 24 a2.toNatClampNeg)), (0, .ref (kad K 0)), (2, .int a2)]) C 1 dX10_refusedPairs_109 rfl rfl (by rw [e5]; decide) rfl ?_
                  refine x_goto C 53 dX10_refusedPairs_112 (by decide) ?_
                  refine x_lv (lv' := [(5, .int (x17 + 2)), (4, .int (s6.1 24 a2.toNatClampNeg)), (0, .ref (kad K 0)), (2, .int a2)]) [0, 2, 3, 4] rfl ?_
                  exact ihL1 _ (Option.some.inj h1).symm
                · replace h1 := ob_neg c36 h1
                  refine x_aload_n C 3 dX10_refusedPairs_103 rfl ?_
                  refine x_iconst (v := 3) C dX10_refusedPairs_104 rfl ?_
                  obtain ⟨r37, s39, g38, h1⟩ := ob_bd h1
                  refine x_callV (ar := 1) (q := (RX10, TX10, 18)) (rest := []) C (c_X10_found C.2.2.2.2.2.2.1  g38) (iX 0 (by decide)) rfl rfl hy_X10_found ⟨tw298, tw300, tw1, tw63, tw301⟩ (by decide) (by decide) rfl rfl (Nat.le_of_ble_eq_true rfl) dX10_refusedPairs_105 ?_
                  show Wx LX K s39 108 [(6, .int (s6.1 (16 + a2.toNatClampNeg) (x17 + 1).toNatClampNeg)), (5, .int x17), (4, .int (s6.1 24 a2.toNatClampNeg)), (0, .ref (kad K 0)), (2, .int a2)] [.int r37]
                  have e19 := ihR1 _ (Option.some.inj h1).symm
                  subst e19
                  replace h0 := sm1_r h0
                  cases h0
                  exact x_iret C R dX10_refusedPairs_108
        · replace h0 := ob_neg c16 h0
          refine x_aload_n C 2 dX10_refusedPairs_44 rfl ?_
          refine x_iconst (v := 5) C dX10_refusedPairs_45 rfl ?_
          obtain ⟨r42, s44, g43, h0⟩ := ob_bd h0
          refine x_callV (ar := 1) (q := (RX10, TX10, 18)) (rest := []) C (c_X10_found C.2.2.2.2.2.2.1  g43) (iX 0 (by decide)) rfl rfl hy_X10_found ⟨tw298, tw300, tw1, tw63, tw301⟩ (by decide) (by decide) rfl rfl (Nat.le_of_ble_eq_true rfl) dX10_refusedPairs_46 ?_
          show Wx LX K s44 49 [(4, .int (s6.1 24 a2.toNatClampNeg)), (3, .int r4), (0, .ref (kad K 0)), (1, .int a1), (2, .int a2)] [.int r42]
          cases h0
          exact x_iret C R dX10_refusedPairs_49
    · replace h0 := ob_neg c8 h0
      refine x_iload_n C 0 dX10_refusedPairs_20 rfl ?_
      cases h0
      exact x_iret C R dX10_refusedPairs_21
  · replace h0 := ob_pos c3 h0
    refine x_iconst (v := (-1)) C dX10_refusedPairs_8 rfl ?_
    cases h0
    exact x_iret C R dX10_refusedPairs_9
set_option maxHeartbeats 4000000 in
set_option maxRecDepth 100000 in
theorem c_X10_fitsPairs {l : Launch} {D : va_G} {ad : Nat → Nat} {cy : Nat → ClassId} (hJ : mJ LX ad) {σ : mS} {a1 : Int32} {a2 : Int32} {a3 : Int32} {r : Int32}  (h0 : X10_fitsPairs σ a1 a2 a3 = some r) : MetG l LX D ad cy yX10_fitsPairs cX10_fitsPairs 10 (some .boolean) 2 [.ref (ad 0), .int a1, .int a2, .int a3] σ (some (.int r)) σ := by
  refine MetG.of hJ (by decide +kernel) [(0, .ref (ad 0)), (1, .int a1), (2, .int a2), (3, .int a3)] rfl (Nat.le_of_ble_eq_true rfl) ?_
  intro K e1 e2 e3 e4 e5 C R
  subst e1
  subst e2
  subst e3
  subst e4
  unfold X10_fitsPairs at h0
  refine x_aload_n C 0 dX10_fitsPairs_0 rfl ?_
  refine x_getR (j := 6) (i := 45) (q := (RX10, TX10, 18)) C (144 + 5) (iX 0 (by decide)) rfl rfl inBX10 (by decide) tw241 rfl dX10_fitsPairs_1 ?_
  refine x_getRN (j := 1) (i := 156) (q := (RX2, TX2, 6)) (host := "CalledNumbers") C (152 + 5) (iX18 (by decide)) (lX18 (by decide)) rfl inBX2 (by decide) twN193 rfl dX10_fitsPairs_4 ?_
  refine x_iload_n C 2 dX10_fitsPairs_7 rfl ?_
  obtain ⟨c1, h0⟩ := ob_if h0
  refine x_iald C (iX19 (by decide)) (lX19 (by decide)) (vin_in c1) dX10_fitsPairs_8 ?_
  refine x_istore (lv' := [(4, .int (σ.1 (152 + 5) a2.toNatClampNeg)), (0, .ref (kad K 0)), (1, .int a1), (2, .int a2), (3, .int a3)]) C dX10_fitsPairs_9 (by rw [e5]; decide) rfl ?_
  refine x_aload_n C 1 dX10_fitsPairs_11 rfl ?_
  refine x_getR (j := 6) (i := 45) (q := (RX10, TX10, 18)) C (144 + 5) (iX 0 (by decide)) rfl rfl inBX10 (by decide) tw241 rfl dX10_fitsPairs_12 ?_
  refine x_getIN (j := 3) (i := 262) (q := (RX2, TX2, 6)) (host := "CalledNumbers") C (iX18 (by decide)) (lX18 (by decide)) rfl inBX2 (by decide) twN197 rfl dX10_fitsPairs_15 ?_
  refine x_istore (lv' := [(5, .int (σ.1 (144 + 5) 3)), (4, .int (σ.1 (152 + 5) a2.toNatClampNeg)), (0, .ref (kad K 0)), (1, .int a1), (2, .int a2), (3, .int a3)]) C dX10_fitsPairs_18 (by rw [e5]; decide) rfl ?_
  refine x_aload_n C 2 dX10_fitsPairs_20 rfl ?_
  refine x_getR (j := 6) (i := 45) (q := (RX10, TX10, 18)) C (144 + 5) (iX 0 (by decide)) rfl rfl inBX10 (by decide) tw241 rfl dX10_fitsPairs_21 ?_
  refine x_getIN (j := 4) (i := 177) (q := (RX2, TX2, 6)) (host := "CalledNumbers") C (iX18 (by decide)) (lX18 (by decide)) rfl inBX2 (by decide) twN199 rfl dX10_fitsPairs_24 ?_
  refine x_istore (lv' := [(6, .int (σ.1 (144 + 5) 4)), (5, .int (σ.1 (144 + 5) 3)), (4, .int (σ.1 (152 + 5) a2.toNatClampNeg)), (0, .ref (kad K 0)), (1, .int a1), (2, .int a2), (3, .int a3)]) C dX10_fitsPairs_27 (by rw [e5]; decide) rfl ?_
  refine x_aload_n C 3 dX10_fitsPairs_29 rfl ?_
  refine x_getR (j := 6) (i := 45) (q := (RX10, TX10, 18)) C (144 + 5) (iX 0 (by decide)) rfl rfl inBX10 (by decide) tw241 rfl dX10_fitsPairs_30 ?_
  refine x_getIN (j := 5) (i := 164) (q := (RX2, TX2, 6)) (host := "CalledNumbers") C (iX18 (by decide)) (lX18 (by decide)) rfl inBX2 (by decide) twN201 rfl dX10_fitsPairs_33 ?_
  refine x_istore (lv' := [(7, .int (σ.1 (144 + 5) 5)), (6, .int (σ.1 (144 + 5) 4)), (5, .int (σ.1 (144 + 5) 3)), (4, .int (σ.1 (152 + 5) a2.toNatClampNeg)), (0, .ref (kad K 0)), (1, .int a1), (2, .int a2), (3, .int a3)]) C dX10_fitsPairs_36 (by rw [e5]; decide) rfl ?_
  refine x_iconst (v := 0) C dX10_fitsPairs_38 rfl ?_
  refine x_istore (lv' := [(8, .int 0), (7, .int (σ.1 (144 + 5) 5)), (6, .int (σ.1 (144 + 5) 4)), (5, .int (σ.1 (144 + 5) 3)), (4, .int (σ.1 (152 + 5) a2.toNatClampNeg)), (0, .ref (kad K 0)), (1, .int a1), (2, .int a2), (3, .int a3)]) C dX10_fitsPairs_39 (by rw [e5]; decide) rfl ?_
  obtain ⟨e22, g23, h0⟩ := ob_bind h0
  have J1 : ∀ (u9 : Unit), .inl u9 = e22 → Wx LX K σ 152 [] [] := by
    intro u9 e9
    subst e9
    replace h0 := sm1_l h0
    refine x_iconst (v := 1) C dX10_fitsPairs_152 rfl ?_
    cases h0
    exact x_zret C (Or.inr rfl) R dX10_fitsPairs_153
  refine lp_G (G := fun q : Int32 × Int32 × Int32 × Int32 × Int32 => Wx LX K σ 41 [(8, .int q.2.2.2.2), (7, .int q.2.2.2.1), (6, .int q.2.2.1), (5, .int q.2.1), (4, .int q.1), (0, .ref (kad K 0)), (1, .int a1), (2, .int a2), (3, .int a3)] []) (fun q x h1 ihL1 ihR1 => ?_) big _ g23
  obtain ⟨x2, x3, x4, x5, x6⟩ := q
  replace h1 : X10_fitsPairs_b41 σ a1 a2 a3 x2 x3 x4 x5 x6 = some x := h1
  unfold X10_fitsPairs_b41 at h1
  show Wx LX K σ 41 [(8, .int x6), (7, .int x5), (6, .int x4), (5, .int x3), (4, .int x2), (0, .ref (kad K 0)), (1, .int a1), (2, .int a2), (3, .int a3)] []
  refine x_iload C 0 dX10_fitsPairs_41 rfl ?_
  refine x_iconst (v := 1) C dX10_fitsPairs_43 rfl ?_
  refine x_iadd C dX10_fitsPairs_44 ?_
  refine x_aload_n C 5 dX10_fitsPairs_45 rfl ?_
  refine x_getR (j := 1) (i := 14) (q := (RX10, TX10, 18)) C 24 (iX 0 (by decide)) rfl rfl inBX10 (by decide) tw236 rfl dX10_fitsPairs_46 ?_
  refine x_iload_n C 8 dX10_fitsPairs_49 rfl ?_
  obtain ⟨c7, h1⟩ := ob_if h1
  refine x_iald C (iX 24 (by decide)) rfl (vin_in c7) dX10_fitsPairs_50 ?_
  refine x_icmpge C 152 dX10_fitsPairs_51 (by decide) (fun c9 => ?_) (fun c9 => ?_)
  · replace h1 := ob_pos c9 h1
    refine x_lv (lv' := []) [] rfl ?_
    exact J1 _ (ihR1 _ (Option.some.inj h1).symm)
  · replace h1 := ob_neg c9 h1
    refine x_aload_n C 5 dX10_fitsPairs_54 rfl ?_
    refine x_getR (j := 0) (i := 11) (q := (RX10, TX10, 18)) C 8 (iX 0 (by decide)) rfl rfl inBX10 (by decide) tw235 rfl dX10_fitsPairs_55 ?_
    refine x_iload_n C 8 dX10_fitsPairs_58 rfl ?_
    obtain ⟨c10, h1⟩ := ob_if h1
    refine x_aald C (iX 8 (by decide)) rfl rfl rfl (vin_in c10) dX10_fitsPairs_59 ?_
    refine x_iload C 0 dX10_fitsPairs_60 rfl ?_
    obtain ⟨c11, h1⟩ := ob_if h1
    refine x_iald C (iX2 (vin_lt c10)) (lX2 (vin_lt c10)) (vin_in c11) dX10_fitsPairs_62 ?_
    refine x_istore (lv' := [(9, .int (σ.1 (16 + a3.toNatClampNeg) x6.toNatClampNeg)), (8, .int x6), (7, .int x5), (6, .int x4), (5, .int x3), (4, .int x2), (0, .ref (kad K 0)), (1, .int a1), (2, .int a2), (3, .int a3)]) C dX10_fitsPairs_63 (by rw [e5]; decide) rfl ?_
    refine x_iload C 4 dX10_fitsPairs_65 rfl ?_
    refine x_iload C 0 dX10_fitsPairs_67 rfl ?_
    refine x_ishr C dX10_fitsPairs_69 ?_
    refine x_iconst (v := 1) C dX10_fitsPairs_70 rfl ?_
    refine x_iand C dX10_fitsPairs_71 ?_
    refine x_ifne C 77 dX10_fitsPairs_72 (by decide) (fun c13 => ?_) (fun c13 => ?_)
    · replace h1 := ob_neg c13 h1
      refine x_aload_n C 6 dX10_fitsPairs_77 rfl ?_
      refine x_getR (j := 5) (i := 36) (q := (RX10, TX10, 18)) C 88 (iX 0 (by decide)) rfl rfl inBX10 (by decide) tw240 rfl dX10_fitsPairs_78 ?_
      refine x_iload_n C 8 dX10_fitsPairs_81 rfl ?_
      refine x_iload C 5 dX10_fitsPairs_82 rfl ?_
      refine x_aload_n C 6 dX10_fitsPairs_84 rfl ?_
      refine x_getR (j := 5) (i := 36) (q := (RX10, TX10, 18)) C 88 (iX 0 (by decide)) rfl rfl inBX10 (by decide) tw240 rfl dX10_fitsPairs_85 ?_
      refine x_getRN (j := 0) (i := 338) (q := (RX7, TX7, 5)) (host := "CalledNumbers") C 96 (iX 88 (by decide)) rfl rfl inBX7 (by decide) twN164 rfl dX10_fitsPairs_88 ?_
      refine x_iload_n C 7 dX10_fitsPairs_91 rfl ?_
      obtain ⟨c14, h1⟩ := ob_if h1
      refine x_aald C (iX 96 (by decide)) rfl rfl rfl (vin_in c14) dX10_fitsPairs_92 ?_
      refine x_iload C 0 dX10_fitsPairs_93 rfl ?_
      refine x_iload C 3 dX10_fitsPairs_95 rfl ?_
      refine x_iload C 2 dX10_fitsPairs_97 rfl ?_
      refine x_K_X5_heard C (vin_lt c14) tw574 (by decide) (Nat.le_of_ble_eq_true rfl) dX10_fitsPairs_99 ?_
      obtain ⟨r15, g16, h1⟩ := ob_bind h1
      refine x_callV (ar := 3) (q := (RX7, TX7, 5)) (rest := []) C (c_X7_marked C.2.2.2.2.2.2.1  g16) (iX 88 (by decide)) rfl rfl hy_X7_marked ⟨tw629, tw530, tw531, tw65, tw532⟩ (by decide) (by decide) rfl rfl (Nat.le_of_ble_eq_true rfl) dX10_fitsPairs_102 ?_
      show Wx LX K σ 105 [(9, .int (σ.1 (16 + a3.toNatClampNeg) x6.toNatClampNeg)), (8, .int x6), (7, .int x5), (6, .int x4), (5, .int x3), (4, .int x2), (0, .ref (kad K 0)), (1, .int a1), (2, .int a2), (3, .int a3)] [.int r15]
      refine x_istore (lv' := [(4, .int r15), (9, .int (σ.1 (16 + a3.toNatClampNeg) x6.toNatClampNeg)), (8, .int x6), (7, .int x5), (6, .int x4), (5, .int x3), (0, .ref (kad K 0)), (1, .int a1), (2, .int a2), (3, .int a3)]) C dX10_fitsPairs_105 (by rw [e5]; decide) rfl ?_
      refine x_iload C 0 dX10_fitsPairs_107 rfl ?_
      refine x_callS (ar := 1) (rest := []) C (c_J6_bitCount_0f7a4 C.2.2.2.2.2.2.1  rfl) hy_J6_bitCount_0f7a4 ⟨tw591, tw417, tw77, tw418⟩ (by decide) (by decide) rfl rfl (Nat.le_of_ble_eq_true rfl) dX10_fitsPairs_109 ?_
      show Wx LX K σ 112 [(4, .int r15), (9, .int (σ.1 (16 + a3.toNatClampNeg) x6.toNatClampNeg)), (8, .int x6), (7, .int x5), (6, .int x4), (5, .int x3), (0, .ref (kad K 0)), (1, .int a1), (2, .int a2), (3, .int a3)] [.int (J6_bitCount_0f7a4 r15)]
      refine x_aload_n C 6 dX10_fitsPairs_112 rfl ?_
      refine x_getR (j := 0) (i := 11) (q := (RX10, TX10, 18)) C 8 (iX 0 (by decide)) rfl rfl inBX10 (by decide) tw235 rfl dX10_fitsPairs_113 ?_
      refine x_iload_n C 9 dX10_fitsPairs_116 rfl ?_
      obtain ⟨c18, h1⟩ := ob_if h1
      refine x_aald C (iX 8 (by decide)) rfl rfl rfl (vin_in c18) dX10_fitsPairs_117 ?_
      refine x_iload C 2 dX10_fitsPairs_118 rfl ?_
      refine x_iconst (v := 1) C dX10_fitsPairs_120 rfl ?_
      refine x_iadd C dX10_fitsPairs_121 ?_
      obtain ⟨c19, h1⟩ := ob_if h1
      refine x_iald C (iX2 (vin_lt c18)) (lX2 (vin_lt c18)) (vin_in c19) dX10_fitsPairs_122 ?_
      refine x_icmpeq C 128 dX10_fitsPairs_123 (by decide) (fun c21 => ?_) (fun c21 => ?_)
      · replace h1 := ob_pos c21 h1
        refine x_iload C 5 dX10_fitsPairs_128 rfl ?_
        refine x_iconst (v := 1) C dX10_fitsPairs_130 rfl ?_
        refine x_iload C 1 dX10_fitsPairs_131 rfl ?_
        refine x_ishl C dX10_fitsPairs_133 ?_
        refine x_iconst (v := (-1)) C dX10_fitsPairs_134 rfl ?_
        refine x_ixor C dX10_fitsPairs_135 ?_
        refine x_iand C dX10_fitsPairs_136 ?_
        refine x_istore (lv' := [(5, .int (x3 &&& (((1 : Int32) <<< ((σ.1 (16 + a3.toNatClampNeg) x6.toNatClampNeg) &&& 31)) ^^^ (-1)))), (4, .int r15), (9, .int (σ.1 (16 + a3.toNatClampNeg) x6.toNatClampNeg)), (8, .int x6), (7, .int x5), (6, .int x4), (0, .ref (kad K 0)), (1, .int a1), (2, .int a2), (3, .int a3)]) C dX10_fitsPairs_137 (by rw [e5]; decide) rfl ?_
        refine x_iload C 2 dX10_fitsPairs_139 rfl ?_
        refine x_istore (lv' := [(6, .int (σ.1 (16 + a3.toNatClampNeg) x6.toNatClampNeg)), (5, .int (x3 &&& (((1 : Int32) <<< ((σ.1 (16 + a3.toNatClampNeg) x6.toNatClampNeg) &&& 31)) ^^^ (-1)))), (4, .int r15), (9, .int (σ.1 (16 + a3.toNatClampNeg) x6.toNatClampNeg)), (8, .int x6), (7, .int x5), (0, .ref (kad K 0)), (1, .int a1), (2, .int a2), (3, .int a3)]) C dX10_fitsPairs_141 (by rw [e5]; decide) rfl ?_
        refine x_iinc (v := (x5 + 1)) (lv' := [(7, .int (x5 + 1)), (6, .int (σ.1 (16 + a3.toNatClampNeg) x6.toNatClampNeg)), (5, .int (x3 &&& (((1 : Int32) <<< ((σ.1 (16 + a3.toNatClampNeg) x6.toNatClampNeg) &&& 31)) ^^^ (-1)))), (4, .int r15), (9, .int (σ.1 (16 + a3.toNatClampNeg) x6.toNatClampNeg)), (8, .int x6), (0, .ref (kad K 0)), (1, .int a1), (2, .int a2), (3, .int a3)]) C 5 dX10_fitsPairs_143 rfl rfl (by rw [e5]; decide) rfl ?_
        refine x_iinc (v := (x6 + 2)) (lv' := [(8, .int (x6 + 2)), (7, .int (x5 + 1)), (6, .int (σ.1 (16 + a3.toNatClampNeg) x6.toNatClampNeg)), (5, .int (x3 &&& (((1 : Int32) <<< ((σ.1 (16 + a3.toNatClampNeg) x6.toNatClampNeg) &&& 31)) ^^^ (-1)))), (4, .int r15), (9, .int (σ.1 (16 + a3.toNatClampNeg) x6.toNatClampNeg)), (0, .ref (kad K 0)), (1, .int a1), (2, .int a2), (3, .int a3)]) C 5 dX10_fitsPairs_146 rfl rfl (by rw [e5]; decide) rfl ?_
        refine x_goto C 41 dX10_fitsPairs_149 (by decide) ?_
        refine x_lv (lv' := [(8, .int (x6 + 2)), (7, .int (x5 + 1)), (6, .int (σ.1 (16 + a3.toNatClampNeg) x6.toNatClampNeg)), (5, .int (x3 &&& (((1 : Int32) <<< ((σ.1 (16 + a3.toNatClampNeg) x6.toNatClampNeg) &&& 31)) ^^^ (-1)))), (4, .int r15), (0, .ref (kad K 0)), (1, .int a1), (2, .int a2), (3, .int a3)]) [0, 1, 2, 3, 4, 6, 7, 8, 9] rfl ?_
        exact ihL1 _ (Option.some.inj h1).symm
      · replace h1 := ob_neg c21 h1
        refine x_iconst (v := 0) C dX10_fitsPairs_126 rfl ?_
        have e19 := ihR1 _ (Option.some.inj h1).symm
        subst e19
        replace h0 := sm1_r h0
        cases h0
        exact x_zret C (Or.inl rfl) R dX10_fitsPairs_127
    · replace h1 := ob_pos c13 h1
      refine x_iconst (v := 0) C dX10_fitsPairs_75 rfl ?_
      have e19 := ihR1 _ (Option.some.inj h1).symm
      subst e19
      replace h0 := sm1_r h0
      cases h0
      exact x_zret C (Or.inl rfl) R dX10_fitsPairs_76
set_option maxHeartbeats 4000000 in
set_option maxRecDepth 100000 in
theorem c_X10_fittingKinds {l : Launch} {D : va_G} {ad : Nat → Nat} {cy : Nat → ClassId} (hJ : mJ LX ad) {σ : mS} {a1 : Int32} {a2 : Int32} {r : Int32}  (h0 : X10_fittingKinds σ a1 a2 = some r) : MetG l LX D ad cy yX10_fittingKinds cX10_fittingKinds 5 (some .int) 3 [.ref (ad 0), .int a1, .int a2] σ (some (.int r)) σ := by
  refine MetG.of hJ (by decide +kernel) [(0, .ref (ad 0)), (1, .int a1), (2, .int a2)] rfl (Nat.le_of_ble_eq_true rfl) ?_
  intro K e1 e2 e3 e4 e5 C R
  subst e1
  subst e2
  subst e3
  subst e4
  unfold X10_fittingKinds at h0
  refine x_iconst (v := 0) C dX10_fittingKinds_0 rfl ?_
  refine x_istore_n (lv' := [(3, .int 0), (0, .ref (kad K 0)), (1, .int a1), (2, .int a2)]) C dX10_fittingKinds_1 (by rw [e5]; decide) rfl ?_
  refine x_iconst (v := 0) C dX10_fittingKinds_2 rfl ?_
  refine x_istore (lv' := [(4, .int 0), (3, .int 0), (0, .ref (kad K 0)), (1, .int a1), (2, .int a2)]) C dX10_fittingKinds_3 (by rw [e5]; decide) rfl ?_
  obtain ⟨e10, g11, h0⟩ := ob_bind h0
  have J1 : ∀ (y3 : Int32), y3 = e10 → Wx LX K σ 36 [(3, .int y3)] [] := by
    intro y3 e9
    subst e9
    replace h0 := un1_l h0
    refine x_iload_n C 0 dX10_fittingKinds_36 rfl ?_
    cases h0
    exact x_iret C R dX10_fittingKinds_37
  refine lp_G (G := fun q : Int32 × Int32 => Wx LX K σ 5 [(4, .int q.2), (3, .int q.1), (0, .ref (kad K 0)), (1, .int a1), (2, .int a2)] []) (fun q x h1 ihL1 ihR1 => ?_) big _ g11
  obtain ⟨x1, x2⟩ := q
  replace h1 : X10_fittingKinds_b5 σ a1 a2 x1 x2 = some x := h1
  unfold X10_fittingKinds_b5 at h1
  show Wx LX K σ 5 [(4, .int x2), (3, .int x1), (0, .ref (kad K 0)), (1, .int a1), (2, .int a2)] []
  refine x_iload C 0 dX10_fittingKinds_5 rfl ?_
  refine x_bipush (v := 6) C dX10_fittingKinds_7 rfl ?_
  refine x_icmpge C 36 dX10_fittingKinds_9 (by decide) (fun c5 => ?_) (fun c5 => ?_)
  · replace h1 := ob_pos c5 h1
    refine x_lv (lv' := [(3, .int x1)]) [1] rfl ?_
    exact J1 _ (ihR1 _ (Option.some.inj h1).symm)
  · replace h1 := ob_neg c5 h1
    refine x_aload_n C 2 dX10_fittingKinds_12 rfl ?_
    refine x_iload C 0 dX10_fittingKinds_13 rfl ?_
    refine x_iload_n C 3 dX10_fittingKinds_15 rfl ?_
    refine x_iload_n C 4 dX10_fittingKinds_16 rfl ?_
    obtain ⟨r6, g7, h1⟩ := ob_bind h1
    refine x_callV (ar := 3) (q := (RX10, TX10, 18)) (rest := []) C (c_X10_fitsPairs C.2.2.2.2.2.2.1  g7) (iX 0 (by decide)) rfl rfl hy_X10_fitsPairs ⟨tw642, tw644, tw24, tw63, tw645⟩ (by decide) (by decide) rfl rfl (Nat.le_of_ble_eq_true rfl) dX10_fittingKinds_17 ?_
    show Wx LX K σ 20 [(4, .int x2), (3, .int x1), (0, .ref (kad K 0)), (1, .int a1), (2, .int a2)] [.int r6]
    refine x_ifeq C 30 dX10_fittingKinds_20 (by decide) (fun c9 => ?_) (fun c9 => ?_)
    · replace h1 := ob_pos c9 h1
      refine x_iinc (v := (x2 + 1)) (lv' := [(4, .int (x2 + 1)), (3, .int x1), (0, .ref (kad K 0)), (1, .int a1), (2, .int a2)]) C 0 dX10_fittingKinds_30 rfl rfl (by rw [e5]; decide) rfl ?_
      refine x_goto C 5 dX10_fittingKinds_33 (by decide) ?_
      refine x_lv (lv' := [(4, .int (x2 + 1)), (3, .int x1), (0, .ref (kad K 0)), (1, .int a1), (2, .int a2)]) [0, 1, 2, 3, 4] rfl ?_
      exact ihL1 _ (Option.some.inj h1).symm
    · replace h1 := ob_neg c9 h1
      refine x_iload_n C 1 dX10_fittingKinds_23 rfl ?_
      refine x_iconst (v := 1) C dX10_fittingKinds_24 rfl ?_
      refine x_iload C 0 dX10_fittingKinds_25 rfl ?_
      refine x_ishl C dX10_fittingKinds_27 ?_
      refine x_ior C dX10_fittingKinds_28 ?_
      refine x_istore_n (lv' := [(3, .int (x1 ||| ((1 : Int32) <<< (x2 &&& 31)))), (4, .int x2), (0, .ref (kad K 0)), (1, .int a1), (2, .int a2)]) C dX10_fittingKinds_29 (by rw [e5]; decide) rfl ?_
      refine x_iinc (v := (x2 + 1)) (lv' := [(4, .int (x2 + 1)), (3, .int (x1 ||| ((1 : Int32) <<< (x2 &&& 31)))), (0, .ref (kad K 0)), (1, .int a1), (2, .int a2)]) C 1 dX10_fittingKinds_30 rfl rfl (by rw [e5]; decide) rfl ?_
      refine x_goto C 5 dX10_fittingKinds_33 (by decide) ?_
      refine x_lv (lv' := [(4, .int (x2 + 1)), (3, .int (x1 ||| ((1 : Int32) <<< (x2 &&& 31)))), (0, .ref (kad K 0)), (1, .int a1), (2, .int a2)]) [0, 1, 2, 3, 4] rfl ?_
      exact ihL1 _ (Option.some.inj h1).symm
set_option maxHeartbeats 4000000 in
set_option maxRecDepth 100000 in
theorem c_X10_kinds {l : Launch} {D : va_G} {ad : Nat → Nat} {cy : Nat → ClassId} (hJ : mJ LX ad) {σ τ : mS} {a1 : Int32} {a2 : Int32} {r : Int32}  (h0 : X10_kinds σ a1 a2 = some (r, τ)) : MetG l LX D ad cy yX10_kinds cX10_kinds 4 (some .int) 4 [.ref (ad 0), .int a1, .int a2] σ (some (.int r)) τ := by
  refine MetG.of hJ (by decide +kernel) [(0, .ref (ad 0)), (1, .int a1), (2, .int a2)] rfl (Nat.le_of_ble_eq_true rfl) ?_
  intro K e1 e2 e3 e4 e5 C R
  subst e1
  subst e2
  subst e3
  subst e4
  unfold X10_kinds at h0
  refine x_aload_n C 0 dX10_kinds_0 rfl ?_
  refine x_iload_n C 1 dX10_kinds_1 rfl ?_
  refine x_iload_n C 2 dX10_kinds_2 rfl ?_
  obtain ⟨r1, s3, g2, h0⟩ := ob_bd h0
  refine x_callV (ar := 2) (q := (RX10, TX10, 18)) (rest := []) C (c_X10_refusedPairs C.2.2.2.2.2.2.1  g2) (iX 0 (by decide)) rfl rfl hy_X10_refusedPairs ⟨tw634, tw636, tw22, tw63, tw637⟩ (by decide) (by decide) rfl rfl (Nat.le_of_ble_eq_true rfl) dX10_kinds_3 ?_
  show Wx LX K s3 6 [(0, .ref (kad K 0)), (1, .int a1), (2, .int a2)] [.int r1]
  refine x_istore_n (lv' := [(3, .int r1), (0, .ref (kad K 0)), (1, .int a1), (2, .int a2)]) C dX10_kinds_6 (by rw [e5]; decide) rfl ?_
  refine x_iload_n C 0 dX10_kinds_7 rfl ?_
  refine x_ifeq C 13 dX10_kinds_8 (by decide) (fun c5 => ?_) (fun c5 => ?_)
  · replace h0 := ob_pos c5 h0
    refine x_aload_n C 1 dX10_kinds_13 rfl ?_
    refine x_iload_n C 2 dX10_kinds_14 rfl ?_
    refine x_iload_n C 3 dX10_kinds_15 rfl ?_
    obtain ⟨r6, g7, h0⟩ := ob_bind h0
    refine x_callV (ar := 2) (q := (RX10, TX10, 18)) (rest := []) C (c_X10_fittingKinds C.2.2.2.2.2.2.1  g7) (iX 0 (by decide)) rfl rfl hy_X10_fittingKinds ⟨tw638, tw640, tw23, tw63, tw641⟩ (by decide) (by decide) rfl rfl (Nat.le_of_ble_eq_true rfl) dX10_kinds_16 ?_
    show Wx LX K s3 19 [(3, .int r1), (0, .ref (kad K 0)), (1, .int a1), (2, .int a2)] [.int r6]
    cases h0
    exact x_iret C R dX10_kinds_19
  · replace h0 := ob_neg c5 h0
    refine x_iload_n C 0 dX10_kinds_11 rfl ?_
    cases h0
    exact x_iret C R dX10_kinds_12
set_option maxHeartbeats 4000000 in
set_option maxRecDepth 100000 in
theorem c_X10_greatestPart {l : Launch} {D : va_G} {ad : Nat → Nat} {cy : Nat → ClassId} (hJ : mJ LX ad) {σ τ : mS} {a1 : Int32} {a2 : Int32} {a3 : Int32} {r : Int32}  (h0 : X10_greatestPart σ a1 a2 a3 = some (r, τ)) : MetG l LX D ad cy yX10_greatestPart cX10_greatestPart 7 (some .int) 3 [.ref (ad 0), .int a1, .int a2, .int a3] σ (some (.int r)) τ := by
  refine MetG.of hJ (by decide +kernel) [(0, .ref (ad 0)), (1, .int a1), (2, .int a2), (3, .int a3)] rfl (Nat.le_of_ble_eq_true rfl) ?_
  intro K e1 e2 e3 e4 e5 C R
  subst e1
  subst e2
  subst e3
  subst e4
  unfold X10_greatestPart at h0
  refine x_aload_n C 0 dX10_greatestPart_0 rfl ?_
  refine x_getR (j := 12) (i := 67) (q := (RX10, TX10, 18)) C 200 (iX 0 (by decide)) rfl rfl inBX10 (by decide) tw247 rfl dX10_greatestPart_1 ?_
  refine x_iconst (v := 0) C dX10_greatestPart_4 rfl ?_
  obtain ⟨r1, s3, g2, h0⟩ := ob_bd h0
  refine x_callS (ar := 2) (rest := []) C (c_J7_fill_53178 C.2.2.2.2.2.2.1 (iX 200 (by decide)) rfl g2) hy_J7_fill_53178 ⟨tw232, tw233, tw74, tw234⟩ (by decide) (by decide) rfl rfl (Nat.le_of_ble_eq_true rfl) dX10_greatestPart_5 ?_
  show Wx LX K s3 8 [(0, .ref (kad K 0)), (1, .int a1), (2, .int a2), (3, .int a3)] []
  refine x_iconst (v := 0) C dX10_greatestPart_8 rfl ?_
  refine x_istore (lv' := [(4, .int 0), (0, .ref (kad K 0)), (1, .int a1), (2, .int a2), (3, .int a3)]) C dX10_greatestPart_9 (by rw [e5]; decide) rfl ?_
  refine x_iconst (v := 0) C dX10_greatestPart_11 rfl ?_
  refine x_istore (lv' := [(5, .int 0), (4, .int 0), (0, .ref (kad K 0)), (1, .int a1), (2, .int a2), (3, .int a3)]) C dX10_greatestPart_12 (by rw [e5]; decide) rfl ?_
  obtain ⟨e19, g20, h0⟩ := ob_bind h0
  have J1 : ∀ (s7 : mS) (y8 : Int32), (s7, y8) = e19 → Wx LX K s7 78 [(4, .int y8)] [] := by
    intro s7 y8 e9
    subst e9
    replace h0 := un2_l h0
    refine x_iload C 0 dX10_greatestPart_78 rfl ?_
    cases h0
    exact x_iret C R dX10_greatestPart_80
  refine lp_G (G := fun q : mS × Int32 × Int32 => Wx LX K q.1 14 [(5, .int q.2.2), (4, .int q.2.1), (0, .ref (kad K 0)), (1, .int a1), (2, .int a2), (3, .int a3)] []) (fun q x h1 ihL1 ihR1 => ?_) big _ g20
  obtain ⟨s4, x5, x6⟩ := q
  replace h1 : X10_greatestPart_b14 a1 a2 a3 s4 x5 x6 = some x := h1
  unfold X10_greatestPart_b14 at h1
  show Wx LX K s4 14 [(5, .int x6), (4, .int x5), (0, .ref (kad K 0)), (1, .int a1), (2, .int a2), (3, .int a3)] []
  refine x_iload C 0 dX10_greatestPart_14 rfl ?_
  refine x_bipush (v := 6) C dX10_greatestPart_16 rfl ?_
  refine x_icmpge C 78 dX10_greatestPart_18 (by decide) (fun c10 => ?_) (fun c10 => ?_)
  · replace h1 := ob_pos c10 h1
    refine x_lv (lv' := [(4, .int x5)]) [1] rfl ?_
    exact J1 _ _ (ihR1 _ (Option.some.inj h1).symm)
  · replace h1 := ob_neg c10 h1
    refine x_iload_n C 3 dX10_greatestPart_21 rfl ?_
    refine x_iload C 0 dX10_greatestPart_22 rfl ?_
    refine x_ishr C dX10_greatestPart_24 ?_
    refine x_iconst (v := 1) C dX10_greatestPart_25 rfl ?_
    refine x_iand C dX10_greatestPart_26 ?_
    refine x_iconst (v := 1) C dX10_greatestPart_27 rfl ?_
    refine x_icmpne C 72 dX10_greatestPart_28 (by decide) (fun c12 => ?_) (fun c12 => ?_)
    · replace h1 := ob_neg c12 h1
      refine x_iinc (v := (x6 + 1)) (lv' := [(5, .int (x6 + 1)), (4, .int x5), (0, .ref (kad K 0)), (1, .int a1), (2, .int a2), (3, .int a3)]) C 0 dX10_greatestPart_72 rfl rfl (by rw [e5]; decide) rfl ?_
      refine x_goto C 14 dX10_greatestPart_75 (by decide) ?_
      refine x_lv (lv' := [(5, .int (x6 + 1)), (4, .int x5), (0, .ref (kad K 0)), (1, .int a1), (2, .int a2), (3, .int a3)]) [0, 1, 2, 3, 4, 5] rfl ?_
      exact ihL1 _ (Option.some.inj h1).symm
    · replace h1 := ob_pos c12 h1
      refine x_aload_n C 2 dX10_greatestPart_31 rfl ?_
      refine x_iload C 0 dX10_greatestPart_32 rfl ?_
      refine x_iload_n C 4 dX10_greatestPart_34 rfl ?_
      refine x_iload_n C 5 dX10_greatestPart_35 rfl ?_
      obtain ⟨r13, g14, h1⟩ := ob_bind h1
      refine x_callV (ar := 3) (q := (RX10, TX10, 18)) (rest := []) C (c_X10_marksBy C.2.2.2.2.2.2.1  g14) (iX 0 (by decide)) rfl rfl hy_X10_marksBy ⟨tw625, tw627, tw21, tw63, tw628⟩ (by decide) (by decide) rfl rfl (Nat.le_of_ble_eq_true rfl) dX10_greatestPart_36 ?_
      show Wx LX K s4 39 [(5, .int x6), (4, .int x5), (0, .ref (kad K 0)), (1, .int a1), (2, .int a2), (3, .int a3)] [.int r13]
      refine x_bipush (v := 63) C dX10_greatestPart_39 rfl ?_
      refine x_iand C dX10_greatestPart_41 ?_
      refine x_callS (ar := 1) (rest := []) C (c_J6_bitCount_0f7a4 C.2.2.2.2.2.2.1  rfl) hy_J6_bitCount_0f7a4 ⟨tw591, tw417, tw77, tw418⟩ (by decide) (by decide) rfl rfl (Nat.le_of_ble_eq_true rfl) dX10_greatestPart_42 ?_
      show Wx LX K s4 45 [(5, .int x6), (4, .int x5), (0, .ref (kad K 0)), (1, .int a1), (2, .int a2), (3, .int a3)] [.int (J6_bitCount_0f7a4 (r13 &&& 63))]
      refine x_istore (lv' := [(6, .int (J6_bitCount_0f7a4 (r13 &&& 63))), (5, .int x6), (4, .int x5), (0, .ref (kad K 0)), (1, .int a1), (2, .int a2), (3, .int a3)]) C dX10_greatestPart_45 (by rw [e5]; decide) rfl ?_
      refine x_aload_n C 3 dX10_greatestPart_47 rfl ?_
      refine x_getR (j := 12) (i := 67) (q := (RX10, TX10, 18)) C 200 (iX 0 (by decide)) rfl rfl inBX10 (by decide) tw247 rfl dX10_greatestPart_48 ?_
      refine x_iload C 0 dX10_greatestPart_51 rfl ?_
      refine x_dup2 C dX10_greatestPart_53 rfl rfl ?_
      obtain ⟨c16, h1⟩ := ob_if h1
      refine x_iald C (iX 200 (by decide)) rfl (vin_in c16) dX10_greatestPart_54 ?_
      refine x_iconst (v := 1) C dX10_greatestPart_55 rfl ?_
      refine x_iadd C dX10_greatestPart_56 ?_
      obtain ⟨c17, h1⟩ := ob_if h1
      refine x_iast C (iX 200 (by decide)) rfl (vin_in c17) dX10_greatestPart_57 ?_
      refine x_iload C 2 dX10_greatestPart_58 rfl ?_
      refine x_aload_n C 3 dX10_greatestPart_60 rfl ?_
      refine x_getR (j := 12) (i := 67) (q := (RX10, TX10, 18)) C 200 (iX 0 (by decide)) rfl rfl inBX10 (by decide) tw247 rfl dX10_greatestPart_61 ?_
      refine x_iload C 0 dX10_greatestPart_64 rfl ?_
      obtain ⟨c18, h1⟩ := ob_if h1
      refine x_iald C (iX 200 (by decide)) rfl (vin_in c18) dX10_greatestPart_66 ?_
      refine x_mmax C (by decide) tw654 tw423 tw78 tw424 (Nat.le_of_ble_eq_true rfl) dX10_greatestPart_67 ?_
      refine x_istore (lv' := [(4, .int (jmax x5 ((mwI s4 200 (J6_bitCount_0f7a4 (r13 &&& 63)).toNatClampNeg ((s4.1 200 (J6_bitCount_0f7a4 (r13 &&& 63)).toNatClampNeg) + 1)).1 200 (J6_bitCount_0f7a4 (r13 &&& 63)).toNatClampNeg))), (6, .int (J6_bitCount_0f7a4 (r13 &&& 63))), (5, .int x6), (0, .ref (kad K 0)), (1, .int a1), (2, .int a2), (3, .int a3)]) C dX10_greatestPart_70 (by rw [e5]; decide) rfl ?_
      refine x_iinc (v := (x6 + 1)) (lv' := [(5, .int (x6 + 1)), (4, .int (jmax x5 ((mwI s4 200 (J6_bitCount_0f7a4 (r13 &&& 63)).toNatClampNeg ((s4.1 200 (J6_bitCount_0f7a4 (r13 &&& 63)).toNatClampNeg) + 1)).1 200 (J6_bitCount_0f7a4 (r13 &&& 63)).toNatClampNeg))), (6, .int (J6_bitCount_0f7a4 (r13 &&& 63))), (0, .ref (kad K 0)), (1, .int a1), (2, .int a2), (3, .int a3)]) C 2 dX10_greatestPart_72 rfl rfl (by rw [e5]; decide) rfl ?_
      refine x_goto C 14 dX10_greatestPart_75 (by decide) ?_
      refine x_lv (lv' := [(5, .int (x6 + 1)), (4, .int (jmax x5 ((mwI s4 200 (J6_bitCount_0f7a4 (r13 &&& 63)).toNatClampNeg ((s4.1 200 (J6_bitCount_0f7a4 (r13 &&& 63)).toNatClampNeg) + 1)).1 200 (J6_bitCount_0f7a4 (r13 &&& 63)).toNatClampNeg))), (0, .ref (kad K 0)), (1, .int a1), (2, .int a2), (3, .int a3)]) [0, 1, 3, 4, 5, 6] rfl ?_
      exact ihL1 _ (Option.some.inj h1).symm
