set_option maxHeartbeats 4000000 in
set_option maxRecDepth 100000 in
theorem c_X11_at {l : Launch} {D : va_G} {ad : Nat → Nat} {cy : Nat → ClassId} (hJ : mJ LM ad) {σ τ : mS} {a1 : Int32} {a2 : Int32} {r : Int32}  (h0 : X11_at σ a1 a2 = some (r, τ)) : MetG l LM D ad cy yX11_at cX11_at 3 (some .int) 2 [.ref (ad 0), .int a1, .int a2] σ (some (.int r)) τ := by
  refine MetG.of hJ (by decide +kernel) [(0, .ref (ad 0)), (1, .int a1), (2, .int a2)] rfl (Nat.le_of_ble_eq_true rfl) ?_
  intro K e1 e2 e3 e4 e5 C R
  subst e1
  subst e2
  subst e3
  subst e4
  unfold X11_at at h0
  refine x_aload_n C 0 dX11_at_0 rfl ?_
  refine x_iload_n C 1 dX11_at_1 rfl ?_
  refine x_callV (ar := 1) (q := (RX11, TX11, 22)) (rest := []) C (c_X11_isRow C.2.2.2.2.2.2.1  rfl) (iM 0 (by decide)) rfl rfl hy_X11_isRow ⟨tw834, tw836, tw33, tw75, tw837⟩ (by decide) (by decide) rfl rfl (Nat.le_of_ble_eq_true rfl) dX11_at_2 ?_
  show Wx LM K σ 5 [(0, .ref (kad K 0)), (1, .int a1), (2, .int a2)] [.int (X11_isRow a1)]
  refine x_ifne C 10 dX11_at_5 (by decide) (fun c3 => ?_) (fun c3 => ?_)
  · replace h0 := ob_neg c3 h0
    refine x_aload_n C 0 dX11_at_10 rfl ?_
    refine x_getR (j := 0) (i := 7) (q := (RX11, TX11, 22)) C 1 (iM 0 (by decide)) rfl rfl inBX11 (by decide) tw763 rfl dX11_at_11 ?_
    refine x_iload_n C 1 dX11_at_14 rfl ?_
    obtain ⟨c4, h0⟩ := ob_if h0
    refine x_iald C (iM 1 (by decide)) rfl (vin_in c4) dX11_at_15 ?_
    refine x_ifge C 25 dX11_at_16 (by decide) (fun c6 => ?_) (fun c6 => ?_)
    · replace h0 := ob_pos c6 h0
      refine x_iload_n C 2 dX11_at_25 rfl ?_
      refine x_i2l C dX11_at_26 ?_
      refine x_lconst (v := 0) C dX11_at_27 rfl ?_
      refine x_aload_n C 0 dX11_at_28 rfl ?_
      refine x_getR (j := 0) (i := 7) (q := (RX11, TX11, 22)) C 1 (iM 0 (by decide)) rfl rfl inBX11 (by decide) tw763 rfl dX11_at_29 ?_
      refine x_iload_n C 1 dX11_at_32 rfl ?_
      obtain ⟨c7, h0⟩ := ob_if h0
      refine x_iald C (iM 1 (by decide)) rfl (vin_in c7) dX11_at_33 ?_
      refine x_iconst (v := 1) C dX11_at_34 rfl ?_
      refine x_isub C dX11_at_35 ?_
      refine x_i2l C dX11_at_36 ?_
      refine x_callS (ar := 3) (rest := []) C (c_X11_in C.2.2.2.2.2.2.1  rfl) hy_X11_in ⟨tw839, tw840, tw75, tw841⟩ (by decide) (by decide) rfl rfl (Nat.le_of_ble_eq_true rfl) dX11_at_37 ?_
      show Wx LM K σ 40 [(0, .ref (kad K 0)), (1, .int a1), (2, .int a2)] [.int (X11_in ((a2).toInt64) (0) ((((σ.1 1 a1.toNatClampNeg) - 1)).toInt64))]
      refine x_ifeq C 61 dX11_at_40 (by decide) (fun c10 => ?_) (fun c10 => ?_)
      · replace h0 := ob_pos c10 h0
        refine x_aload_n C 0 dX11_at_61 rfl ?_
        refine x_iconst (v := 2) C dX11_at_62 rfl ?_
        obtain ⟨r11, s13, g12, h0⟩ := ob_bd h0
        refine x_callV (ar := 1) (q := (RX11, TX11, 22)) (rest := []) C (c_X11_finds C.2.2.2.2.2.2.1  g12) (iM 0 (by decide)) rfl rfl hy_X11_finds ⟨tw842, tw844, tw34, tw75, tw845⟩ (by decide) (by decide) rfl rfl (Nat.le_of_ble_eq_true rfl) dX11_at_63 ?_
        show Wx LM K s13 66 [(0, .ref (kad K 0)), (1, .int a1), (2, .int a2)] [.int r11]
        cases h0
        exact x_iret C R dX11_at_66
      · replace h0 := ob_neg c10 h0
        refine x_aload_n C 0 dX11_at_43 rfl ?_
        refine x_aload_n C 0 dX11_at_44 rfl ?_
        refine x_getR (j := 1) (i := 13) (q := (RX11, TX11, 22)) C 2 (iM 0 (by decide)) rfl rfl inBX11 (by decide) tw764 rfl dX11_at_45 ?_
        refine x_bipush (v := 40) C dX11_at_48 rfl ?_
        refine x_iload_n C 1 dX11_at_50 rfl ?_
        refine x_imul C dX11_at_51 ?_
        refine x_iload_n C 2 dX11_at_52 rfl ?_
        refine x_iadd C dX11_at_53 ?_
        obtain ⟨c14, h0⟩ := ob_if h0
        refine x_iald C (iM 2 (by decide)) rfl (vin_in c14) dX11_at_54 ?_
        obtain ⟨r15, s17, g16, h0⟩ := ob_bd h0
        refine x_callV (ar := 1) (q := (RX11, TX11, 22)) (rest := []) C (c_X11_tells C.2.2.2.2.2.2.1  g16) (iM 0 (by decide)) rfl rfl hy_X11_tells ⟨tw854, tw856, tw36, tw75, tw857⟩ (by decide) (by decide) rfl rfl (Nat.le_of_ble_eq_true rfl) dX11_at_55 ?_
        show Wx LM K s17 58 [(0, .ref (kad K 0)), (1, .int a1), (2, .int a2)] [.int r15]
        refine x_goto C 66 dX11_at_58 (by decide) ?_
        cases h0
        exact x_iret C R dX11_at_66
    · replace h0 := ob_neg c6 h0
      refine x_aload_n C 0 dX11_at_19 rfl ?_
      refine x_iconst (v := 1) C dX11_at_20 rfl ?_
      obtain ⟨r18, s20, g19, h0⟩ := ob_bd h0
      refine x_callV (ar := 1) (q := (RX11, TX11, 22)) (rest := []) C (c_X11_finds C.2.2.2.2.2.2.1  g19) (iM 0 (by decide)) rfl rfl hy_X11_finds ⟨tw842, tw844, tw34, tw75, tw845⟩ (by decide) (by decide) rfl rfl (Nat.le_of_ble_eq_true rfl) dX11_at_21 ?_
      show Wx LM K s20 24 [(0, .ref (kad K 0)), (1, .int a1), (2, .int a2)] [.int r18]
      cases h0
      exact x_iret C R dX11_at_24
  · replace h0 := ob_pos c3 h0
    refine x_iconst (v := (-1)) C dX11_at_8 rfl ?_
    cases h0
    exact x_iret C R dX11_at_9
set_option maxHeartbeats 4000000 in
set_option maxRecDepth 100000 in
theorem c_X11_tear {l : Launch} {D : va_G} {ad : Nat → Nat} {cy : Nat → ClassId} (hJ : mJ LM ad) {σ τ : mS} {a1 : Int32} {r : Int32}  (h0 : X11_tear σ a1 = some (r, τ)) : MetG l LM D ad cy yX11_tear cX11_tear 2 (some .int) 2 [.ref (ad 0), .int a1] σ (some (.int r)) τ := by
  refine MetG.of hJ (by decide +kernel) [(0, .ref (ad 0)), (1, .int a1)] rfl (Nat.le_of_ble_eq_true rfl) ?_
  intro K e1 e2 e3 e4 e5 C R
  subst e1
  subst e2
  subst e3
  subst e4
  unfold X11_tear at h0
  refine x_aload_n C 0 dX11_tear_0 rfl ?_
  refine x_iload_n C 1 dX11_tear_1 rfl ?_
  refine x_callV (ar := 1) (q := (RX11, TX11, 22)) (rest := []) C (c_X11_isRow C.2.2.2.2.2.2.1  rfl) (iM 0 (by decide)) rfl rfl hy_X11_isRow ⟨tw834, tw836, tw33, tw75, tw837⟩ (by decide) (by decide) rfl rfl (Nat.le_of_ble_eq_true rfl) dX11_tear_2 ?_
  show Wx LM K σ 5 [(0, .ref (kad K 0)), (1, .int a1)] [.int (X11_isRow a1)]
  refine x_ifne C 10 dX11_tear_5 (by decide) (fun c3 => ?_) (fun c3 => ?_)
  · replace h0 := ob_neg c3 h0
    refine x_aload_n C 0 dX11_tear_10 rfl ?_
    refine x_getR (j := 0) (i := 7) (q := (RX11, TX11, 22)) C 1 (iM 0 (by decide)) rfl rfl inBX11 (by decide) tw763 rfl dX11_tear_11 ?_
    refine x_iload_n C 1 dX11_tear_14 rfl ?_
    obtain ⟨c4, h0⟩ := ob_if h0
    refine x_iald C (iM 1 (by decide)) rfl (vin_in c4) dX11_tear_15 ?_
    refine x_ifge C 25 dX11_tear_16 (by decide) (fun c6 => ?_) (fun c6 => ?_)
    · replace h0 := ob_pos c6 h0
      refine x_aload_n C 0 dX11_tear_25 rfl ?_
      refine x_getR (j := 0) (i := 7) (q := (RX11, TX11, 22)) C 1 (iM 0 (by decide)) rfl rfl inBX11 (by decide) tw763 rfl dX11_tear_26 ?_
      refine x_iload_n C 1 dX11_tear_29 rfl ?_
      refine x_iconst (v := (-1)) C dX11_tear_30 rfl ?_
      obtain ⟨c7, h0⟩ := ob_if h0
      refine x_iast C (iM 1 (by decide)) rfl (vin_in c7) dX11_tear_31 ?_
      refine x_iconst (v := 1) C dX11_tear_32 rfl ?_
      cases h0
      exact x_iret C R dX11_tear_33
    · replace h0 := ob_neg c6 h0
      refine x_aload_n C 0 dX11_tear_19 rfl ?_
      refine x_iconst (v := 1) C dX11_tear_20 rfl ?_
      obtain ⟨r8, s10, g9, h0⟩ := ob_bd h0
      refine x_callV (ar := 1) (q := (RX11, TX11, 22)) (rest := []) C (c_X11_finds C.2.2.2.2.2.2.1  g9) (iM 0 (by decide)) rfl rfl hy_X11_finds ⟨tw842, tw844, tw34, tw75, tw845⟩ (by decide) (by decide) rfl rfl (Nat.le_of_ble_eq_true rfl) dX11_tear_21 ?_
      show Wx LM K s10 24 [(0, .ref (kad K 0)), (1, .int a1)] [.int r8]
      cases h0
      exact x_iret C R dX11_tear_24
  · replace h0 := ob_pos c3 h0
    refine x_iconst (v := (-1)) C dX11_tear_8 rfl ?_
    cases h0
    exact x_iret C R dX11_tear_9
set_option maxHeartbeats 4000000 in
set_option maxRecDepth 100000 in
theorem c_X11_copy {l : Launch} {D : va_G} {ad : Nat → Nat} {cy : Nat → ClassId} (hJ : mJ LM ad) {σ τ : mS} {a1 : Int32} {a2 : Int32} {a3 : Int32} {a4 : Int32} {a5 : Int32} {r : Int32}  (h0 : X11_copy σ a1 a2 a3 a4 a5 = some (r, τ)) : MetG l LM D ad cy yX11_copy cX11_copy 7 (some .int) 2 [.ref (ad 0), .int a1, .int a2, .int a3, .int a4, .int a5] σ (some (.int r)) τ := by
  refine MetG.of hJ (by decide +kernel) [(0, .ref (ad 0)), (1, .int a1), (2, .int a2), (3, .int a3), (4, .int a4), (5, .int a5)] rfl (Nat.le_of_ble_eq_true rfl) ?_
  intro K e1 e2 e3 e4 e5 C R
  subst e1
  subst e2
  subst e3
  subst e4
  unfold X11_copy at h0
  refine x_aload_n C 0 dX11_copy_0 rfl ?_
  refine x_iload_n C 1 dX11_copy_1 rfl ?_
  refine x_callV (ar := 1) (q := (RX11, TX11, 22)) (rest := []) C (c_X11_isRow C.2.2.2.2.2.2.1  rfl) (iM 0 (by decide)) rfl rfl hy_X11_isRow ⟨tw834, tw836, tw33, tw75, tw837⟩ (by decide) (by decide) rfl rfl (Nat.le_of_ble_eq_true rfl) dX11_copy_2 ?_
  show Wx LM K σ 5 [(0, .ref (kad K 0)), (1, .int a1), (2, .int a2), (3, .int a3), (4, .int a4), (5, .int a5)] [.int (X11_isRow a1)]
  refine x_ifeq C 16 dX11_copy_5 (by decide) (fun c3 => ?_) (fun c3 => ?_)
  · replace h0 := ob_pos c3 h0
    refine x_iconst (v := (-1)) C dX11_copy_16 rfl ?_
    cases h0
    exact x_iret C R dX11_copy_17
  · replace h0 := ob_neg c3 h0
    refine x_aload_n C 0 dX11_copy_8 rfl ?_
    refine x_iload_n C 3 dX11_copy_9 rfl ?_
    refine x_callV (ar := 1) (q := (RX11, TX11, 22)) (rest := []) C (c_X11_isRow C.2.2.2.2.2.2.1  rfl) (iM 0 (by decide)) rfl rfl hy_X11_isRow ⟨tw834, tw836, tw33, tw75, tw837⟩ (by decide) (by decide) rfl rfl (Nat.le_of_ble_eq_true rfl) dX11_copy_10 ?_
    show Wx LM K σ 13 [(0, .ref (kad K 0)), (1, .int a1), (2, .int a2), (3, .int a3), (4, .int a4), (5, .int a5)] [.int (X11_isRow a3)]
    refine x_ifne C 18 dX11_copy_13 (by decide) (fun c6 => ?_) (fun c6 => ?_)
    · replace h0 := ob_neg c6 h0
      refine x_iload C 5 dX11_copy_18 rfl ?_
      refine x_ifge C 29 dX11_copy_20 (by decide) (fun c8 => ?_) (fun c8 => ?_)
      · replace h0 := ob_pos c8 h0
        refine x_aload_n C 0 dX11_copy_29 rfl ?_
        refine x_getR (j := 0) (i := 7) (q := (RX11, TX11, 22)) C 1 (iM 0 (by decide)) rfl rfl inBX11 (by decide) tw763 rfl dX11_copy_30 ?_
        refine x_iload_n C 1 dX11_copy_33 rfl ?_
        obtain ⟨c9, h0⟩ := ob_if h0
        refine x_iald C (iM 1 (by decide)) rfl (vin_in c9) dX11_copy_34 ?_
        refine x_iflt C 47 dX11_copy_35 (by decide) (fun c11 => ?_) (fun c11 => ?_)
        · replace h0 := ob_pos c11 h0
          refine x_aload_n C 0 dX11_copy_47 rfl ?_
          refine x_iconst (v := 1) C dX11_copy_48 rfl ?_
          obtain ⟨r12, s14, g13, h0⟩ := ob_bd h0
          refine x_callV (ar := 1) (q := (RX11, TX11, 22)) (rest := []) C (c_X11_finds C.2.2.2.2.2.2.1  g13) (iM 0 (by decide)) rfl rfl hy_X11_finds ⟨tw842, tw844, tw34, tw75, tw845⟩ (by decide) (by decide) rfl rfl (Nat.le_of_ble_eq_true rfl) dX11_copy_49 ?_
          show Wx LM K s14 52 [(0, .ref (kad K 0)), (1, .int a1), (2, .int a2), (3, .int a3), (4, .int a4), (5, .int a5)] [.int r12]
          cases h0
          exact x_iret C R dX11_copy_52
        · replace h0 := ob_neg c11 h0
          refine x_aload_n C 0 dX11_copy_38 rfl ?_
          refine x_getR (j := 0) (i := 7) (q := (RX11, TX11, 22)) C 1 (iM 0 (by decide)) rfl rfl inBX11 (by decide) tw763 rfl dX11_copy_39 ?_
          refine x_iload_n C 3 dX11_copy_42 rfl ?_
          obtain ⟨c15, h0⟩ := ob_if h0
          refine x_iald C (iM 1 (by decide)) rfl (vin_in c15) dX11_copy_43 ?_
          refine x_ifge C 53 dX11_copy_44 (by decide) (fun c17 => ?_) (fun c17 => ?_)
          · replace h0 := ob_pos c17 h0
            refine x_iload_n C 2 dX11_copy_53 rfl ?_
            refine x_iflt C 97 dX11_copy_54 (by decide) (fun c19 => ?_) (fun c19 => ?_)
            · replace h0 := ob_pos c19 h0
              refine x_aload_n C 0 dX11_copy_97 rfl ?_
              refine x_iconst (v := 2) C dX11_copy_98 rfl ?_
              obtain ⟨r20, s22, g21, h0⟩ := ob_bd h0
              refine x_callV (ar := 1) (q := (RX11, TX11, 22)) (rest := []) C (c_X11_finds C.2.2.2.2.2.2.1  g21) (iM 0 (by decide)) rfl rfl hy_X11_finds ⟨tw842, tw844, tw34, tw75, tw845⟩ (by decide) (by decide) rfl rfl (Nat.le_of_ble_eq_true rfl) dX11_copy_99 ?_
              show Wx LM K s22 102 [(0, .ref (kad K 0)), (1, .int a1), (2, .int a2), (3, .int a3), (4, .int a4), (5, .int a5)] [.int r20]
              cases h0
              exact x_iret C R dX11_copy_102
            · replace h0 := ob_neg c19 h0
              refine x_iload C 4 dX11_copy_57 rfl ?_
              refine x_iflt C 97 dX11_copy_59 (by decide) (fun c24 => ?_) (fun c24 => ?_)
              · replace h0 := ob_pos c24 h0
                refine x_aload_n C 0 dX11_copy_97 rfl ?_
                refine x_iconst (v := 2) C dX11_copy_98 rfl ?_
                obtain ⟨r25, s27, g26, h0⟩ := ob_bd h0
                refine x_callV (ar := 1) (q := (RX11, TX11, 22)) (rest := []) C (c_X11_finds C.2.2.2.2.2.2.1  g26) (iM 0 (by decide)) rfl rfl hy_X11_finds ⟨tw842, tw844, tw34, tw75, tw845⟩ (by decide) (by decide) rfl rfl (Nat.le_of_ble_eq_true rfl) dX11_copy_99 ?_
                show Wx LM K s27 102 [(0, .ref (kad K 0)), (1, .int a1), (2, .int a2), (3, .int a3), (4, .int a4), (5, .int a5)] [.int r25]
                cases h0
                exact x_iret C R dX11_copy_102
              · replace h0 := ob_neg c24 h0
                refine x_iload_n C 2 dX11_copy_62 rfl ?_
                refine x_i2l C dX11_copy_63 ?_
                refine x_iload C 5 dX11_copy_64 rfl ?_
                refine x_i2l C dX11_copy_66 ?_
                refine x_ladd C dX11_copy_67 ?_
                refine x_aload_n C 0 dX11_copy_68 rfl ?_
                refine x_getR (j := 0) (i := 7) (q := (RX11, TX11, 22)) C 1 (iM 0 (by decide)) rfl rfl inBX11 (by decide) tw763 rfl dX11_copy_69 ?_
                refine x_iload_n C 1 dX11_copy_72 rfl ?_
                obtain ⟨c28, h0⟩ := ob_if h0
                refine x_iald C (iM 1 (by decide)) rfl (vin_in c28) dX11_copy_73 ?_
                refine x_i2l C dX11_copy_74 ?_
                refine x_lcmpgt C 97 dX11_copy_75 dX11_copy_76 (by decide) (fun c30 => ?_) (fun c30 => ?_)
                · replace h0 := ob_pos c30 h0
                  refine x_aload_n C 0 dX11_copy_97 rfl ?_
                  refine x_iconst (v := 2) C dX11_copy_98 rfl ?_
                  obtain ⟨r31, s33, g32, h0⟩ := ob_bd h0
                  refine x_callV (ar := 1) (q := (RX11, TX11, 22)) (rest := []) C (c_X11_finds C.2.2.2.2.2.2.1  g32) (iM 0 (by decide)) rfl rfl hy_X11_finds ⟨tw842, tw844, tw34, tw75, tw845⟩ (by decide) (by decide) rfl rfl (Nat.le_of_ble_eq_true rfl) dX11_copy_99 ?_
                  show Wx LM K s33 102 [(0, .ref (kad K 0)), (1, .int a1), (2, .int a2), (3, .int a3), (4, .int a4), (5, .int a5)] [.int r31]
                  cases h0
                  exact x_iret C R dX11_copy_102
                · replace h0 := ob_neg c30 h0
                  refine x_iload C 4 dX11_copy_79 rfl ?_
                  refine x_i2l C dX11_copy_81 ?_
                  refine x_iload C 5 dX11_copy_82 rfl ?_
                  refine x_i2l C dX11_copy_84 ?_
                  refine x_ladd C dX11_copy_85 ?_
                  refine x_aload_n C 0 dX11_copy_86 rfl ?_
                  refine x_getR (j := 0) (i := 7) (q := (RX11, TX11, 22)) C 1 (iM 0 (by decide)) rfl rfl inBX11 (by decide) tw763 rfl dX11_copy_87 ?_
                  refine x_iload_n C 3 dX11_copy_90 rfl ?_
                  obtain ⟨c34, h0⟩ := ob_if h0
                  refine x_iald C (iM 1 (by decide)) rfl (vin_in c34) dX11_copy_91 ?_
                  refine x_i2l C dX11_copy_92 ?_
                  refine x_lcmple C 103 dX11_copy_93 dX11_copy_94 (by decide) (fun c36 => ?_) (fun c36 => ?_)
                  · replace h0 := ob_pos c36 h0
                    refine x_iconst (v := 0) C dX11_copy_103 rfl ?_
                    refine x_istore (lv' := [(6, .int 0), (0, .ref (kad K 0)), (1, .int a1), (2, .int a2), (3, .int a3), (4, .int a4), (5, .int a5)]) C dX11_copy_104 (by rw [e5]; decide) rfl ?_
                    obtain ⟨e53, g54, h0⟩ := ob_bind h0
                    have J1 : ∀ (s39 : mS), s39 = e53 → Wx LM K s39 140 [(0, .ref (kad K 0)), (3, .int a3), (4, .int a4), (5, .int a5)] [] := by
                      intro s39 e9
                      subst e9
                      replace h0 := un1_l h0
                      refine x_iconst (v := 0) C dX11_copy_140 rfl ?_
                      refine x_istore (lv' := [(6, .int 0), (0, .ref (kad K 0)), (3, .int a3), (4, .int a4), (5, .int a5)]) C dX11_copy_141 (by rw [e5]; decide) rfl ?_
                      obtain ⟨e47, g48, h0⟩ := ob_bind h0
                      have J2 : ∀ (s42 : mS), s42 = e47 → Wx LM K s42 178 [] [] := by
                        intro s42 e9
                        subst e9
                        replace h0 := un1_l h0
                        refine x_iconst (v := 1) C dX11_copy_178 rfl ?_
                        cases h0
                        exact x_iret C R dX11_copy_179
                      refine lp_G (G := fun q : mS × Int32 => Wx LM K q.1 143 [(6, .int q.2), (0, .ref (kad K 0)), (3, .int a3), (4, .int a4), (5, .int a5)] []) (fun q x h2 ihL2 ihR2 => ?_) big _ g48
                      obtain ⟨s40, x41⟩ := q
                      replace h2 : X11_copy_b143 a3 a4 a5 s40 x41 = some x := h2
                      unfold X11_copy_b143 at h2
                      show Wx LM K s40 143 [(6, .int x41), (0, .ref (kad K 0)), (3, .int a3), (4, .int a4), (5, .int a5)] []
                      refine x_iload C 0 dX11_copy_143 rfl ?_
                      refine x_iload C 4 dX11_copy_145 rfl ?_
                      refine x_icmpge C 178 dX11_copy_147 (by decide) (fun c44 => ?_) (fun c44 => ?_)
                      · replace h2 := ob_pos c44 h2
                        refine x_lv (lv' := []) [] rfl ?_
                        exact J2 _ (ihR2 _ (Option.some.inj h2).symm)
                      · replace h2 := ob_neg c44 h2
                        refine x_aload_n C 1 dX11_copy_150 rfl ?_
                        refine x_getR (j := 1) (i := 13) (q := (RX11, TX11, 22)) C 2 (iM 0 (by decide)) rfl rfl inBX11 (by decide) tw764 rfl dX11_copy_151 ?_
                        refine x_bipush (v := 40) C dX11_copy_154 rfl ?_
                        refine x_iload_n C 2 dX11_copy_156 rfl ?_
                        refine x_imul C dX11_copy_157 ?_
                        refine x_iload C 3 dX11_copy_158 rfl ?_
                        refine x_iadd C dX11_copy_160 ?_
                        refine x_iload C 0 dX11_copy_161 rfl ?_
                        refine x_iadd C dX11_copy_163 ?_
                        refine x_aload_n C 1 dX11_copy_164 rfl ?_
                        refine x_getR (j := 2) (i := 16) (q := (RX11, TX11, 22)) C 3 (iM 0 (by decide)) rfl rfl inBX11 (by decide) tw765 rfl dX11_copy_165 ?_
                        refine x_iload C 0 dX11_copy_168 rfl ?_
                        obtain ⟨c45, h2⟩ := ob_if h2
                        refine x_iald C (iM 3 (by decide)) rfl (vin_in c45) dX11_copy_170 ?_
                        obtain ⟨c46, h2⟩ := ob_if h2
                        refine x_iast C (iM 2 (by decide)) rfl (vin_in c46) dX11_copy_171 ?_
                        refine x_iinc (v := (x41 + 1)) (lv' := [(6, .int (x41 + 1)), (0, .ref (kad K 0)), (3, .int a3), (4, .int a4), (5, .int a5)]) C 0 dX11_copy_172 rfl rfl (by rw [e5]; decide) rfl ?_
                        refine x_goto C 143 dX11_copy_175 (by decide) ?_
                        refine x_lv (lv' := [(6, .int (x41 + 1)), (0, .ref (kad K 0)), (3, .int a3), (4, .int a4), (5, .int a5)]) [0, 1, 2, 3, 4] rfl ?_
                        exact ihL2 _ (Option.some.inj h2).symm
                    refine lp_G (G := fun q : mS × Int32 => Wx LM K q.1 106 [(6, .int q.2), (0, .ref (kad K 0)), (1, .int a1), (2, .int a2), (3, .int a3), (4, .int a4), (5, .int a5)] []) (fun q x h1 ihL1 ihR1 => ?_) big _ g54
                    obtain ⟨s37, x38⟩ := q
                    replace h1 : X11_copy_b106 a1 a2 a5 s37 x38 = some x := h1
                    unfold X11_copy_b106 at h1
                    show Wx LM K s37 106 [(6, .int x38), (0, .ref (kad K 0)), (1, .int a1), (2, .int a2), (3, .int a3), (4, .int a4), (5, .int a5)] []
                    refine x_iload C 0 dX11_copy_106 rfl ?_
                    refine x_iload C 6 dX11_copy_108 rfl ?_
                    refine x_icmpge C 140 dX11_copy_110 (by decide) (fun c50 => ?_) (fun c50 => ?_)
                    · replace h1 := ob_pos c50 h1
                      refine x_lv (lv' := [(0, .ref (kad K 0)), (3, .int a3), (4, .int a4), (5, .int a5)]) [1, 4, 5, 6] rfl ?_
                      exact J1 _ (ihR1 _ (Option.some.inj h1).symm)
                    · replace h1 := ob_neg c50 h1
                      refine x_aload_n C 1 dX11_copy_113 rfl ?_
                      refine x_getR (j := 2) (i := 16) (q := (RX11, TX11, 22)) C 3 (iM 0 (by decide)) rfl rfl inBX11 (by decide) tw765 rfl dX11_copy_114 ?_
                      refine x_iload C 0 dX11_copy_117 rfl ?_
                      refine x_aload_n C 1 dX11_copy_119 rfl ?_
                      refine x_getR (j := 1) (i := 13) (q := (RX11, TX11, 22)) C 2 (iM 0 (by decide)) rfl rfl inBX11 (by decide) tw764 rfl dX11_copy_120 ?_
                      refine x_bipush (v := 40) C dX11_copy_123 rfl ?_
                      refine x_iload_n C 2 dX11_copy_125 rfl ?_
                      refine x_imul C dX11_copy_126 ?_
                      refine x_iload_n C 3 dX11_copy_127 rfl ?_
                      refine x_iadd C dX11_copy_128 ?_
                      refine x_iload C 0 dX11_copy_129 rfl ?_
                      refine x_iadd C dX11_copy_131 ?_
                      obtain ⟨c51, h1⟩ := ob_if h1
                      refine x_iald C (iM 2 (by decide)) rfl (vin_in c51) dX11_copy_132 ?_
                      obtain ⟨c52, h1⟩ := ob_if h1
                      refine x_iast C (iM 3 (by decide)) rfl (vin_in c52) dX11_copy_133 ?_
                      refine x_iinc (v := (x38 + 1)) (lv' := [(6, .int (x38 + 1)), (0, .ref (kad K 0)), (1, .int a1), (2, .int a2), (3, .int a3), (4, .int a4), (5, .int a5)]) C 0 dX11_copy_134 rfl rfl (by rw [e5]; decide) rfl ?_
                      refine x_goto C 106 dX11_copy_137 (by decide) ?_
                      refine x_lv (lv' := [(6, .int (x38 + 1)), (0, .ref (kad K 0)), (1, .int a1), (2, .int a2), (3, .int a3), (4, .int a4), (5, .int a5)]) [0, 1, 2, 3, 4, 5, 6] rfl ?_
                      exact ihL1 _ (Option.some.inj h1).symm
                  · replace h0 := ob_neg c36 h0
                    refine x_aload_n C 0 dX11_copy_97 rfl ?_
                    refine x_iconst (v := 2) C dX11_copy_98 rfl ?_
                    obtain ⟨r55, s57, g56, h0⟩ := ob_bd h0
                    refine x_callV (ar := 1) (q := (RX11, TX11, 22)) (rest := []) C (c_X11_finds C.2.2.2.2.2.2.1  g56) (iM 0 (by decide)) rfl rfl hy_X11_finds ⟨tw842, tw844, tw34, tw75, tw845⟩ (by decide) (by decide) rfl rfl (Nat.le_of_ble_eq_true rfl) dX11_copy_99 ?_
                    show Wx LM K s57 102 [(0, .ref (kad K 0)), (1, .int a1), (2, .int a2), (3, .int a3), (4, .int a4), (5, .int a5)] [.int r55]
                    cases h0
                    exact x_iret C R dX11_copy_102
          · replace h0 := ob_neg c17 h0
            refine x_aload_n C 0 dX11_copy_47 rfl ?_
            refine x_iconst (v := 1) C dX11_copy_48 rfl ?_
            obtain ⟨r58, s60, g59, h0⟩ := ob_bd h0
            refine x_callV (ar := 1) (q := (RX11, TX11, 22)) (rest := []) C (c_X11_finds C.2.2.2.2.2.2.1  g59) (iM 0 (by decide)) rfl rfl hy_X11_finds ⟨tw842, tw844, tw34, tw75, tw845⟩ (by decide) (by decide) rfl rfl (Nat.le_of_ble_eq_true rfl) dX11_copy_49 ?_
            show Wx LM K s60 52 [(0, .ref (kad K 0)), (1, .int a1), (2, .int a2), (3, .int a3), (4, .int a4), (5, .int a5)] [.int r58]
            cases h0
            exact x_iret C R dX11_copy_52
      · replace h0 := ob_neg c8 h0
        refine x_aload_n C 0 dX11_copy_23 rfl ?_
        refine x_iconst (v := 5) C dX11_copy_24 rfl ?_
        obtain ⟨r61, s63, g62, h0⟩ := ob_bd h0
        refine x_callV (ar := 1) (q := (RX11, TX11, 22)) (rest := []) C (c_X11_finds C.2.2.2.2.2.2.1  g62) (iM 0 (by decide)) rfl rfl hy_X11_finds ⟨tw842, tw844, tw34, tw75, tw845⟩ (by decide) (by decide) rfl rfl (Nat.le_of_ble_eq_true rfl) dX11_copy_25 ?_
        show Wx LM K s63 28 [(0, .ref (kad K 0)), (1, .int a1), (2, .int a2), (3, .int a3), (4, .int a4), (5, .int a5)] [.int r61]
        cases h0
        exact x_iret C R dX11_copy_28
    · replace h0 := ob_pos c6 h0
      refine x_iconst (v := (-1)) C dX11_copy_16 rfl ?_
      cases h0
      exact x_iret C R dX11_copy_17
set_option maxHeartbeats 4000000 in
set_option maxRecDepth 100000 in
theorem c_X11_mean {l : Launch} {D : va_G} {ad : Nat → Nat} {cy : Nat → ClassId} (hJ : mJ LM ad) {σ τ : mS} {a1 : Int32} {r : Int32}  (h0 : X11_mean σ a1 = some (r, τ)) : MetG l LM D ad cy yX11_mean cX11_mean 5 (some .int) 2 [.ref (ad 0), .int a1] σ (some (.int r)) τ := by
  refine MetG.of hJ (by decide +kernel) [(0, .ref (ad 0)), (1, .int a1)] rfl (Nat.le_of_ble_eq_true rfl) ?_
  intro K e1 e2 e3 e4 e5 C R
  subst e1
  subst e2
  subst e3
  subst e4
  unfold X11_mean at h0
  refine x_aload_n C 0 dX11_mean_0 rfl ?_
  refine x_iload_n C 1 dX11_mean_1 rfl ?_
  refine x_callV (ar := 1) (q := (RX11, TX11, 22)) (rest := []) C (c_X11_isRow C.2.2.2.2.2.2.1  rfl) (iM 0 (by decide)) rfl rfl hy_X11_isRow ⟨tw834, tw836, tw33, tw75, tw837⟩ (by decide) (by decide) rfl rfl (Nat.le_of_ble_eq_true rfl) dX11_mean_2 ?_
  show Wx LM K σ 5 [(0, .ref (kad K 0)), (1, .int a1)] [.int (X11_isRow a1)]
  refine x_ifne C 10 dX11_mean_5 (by decide) (fun c3 => ?_) (fun c3 => ?_)
  · replace h0 := ob_neg c3 h0
    refine x_aload_n C 0 dX11_mean_10 rfl ?_
    refine x_getR (j := 0) (i := 7) (q := (RX11, TX11, 22)) C 1 (iM 0 (by decide)) rfl rfl inBX11 (by decide) tw763 rfl dX11_mean_11 ?_
    refine x_iload_n C 1 dX11_mean_14 rfl ?_
    obtain ⟨c4, h0⟩ := ob_if h0
    refine x_iald C (iM 1 (by decide)) rfl (vin_in c4) dX11_mean_15 ?_
    refine x_ifge C 25 dX11_mean_16 (by decide) (fun c6 => ?_) (fun c6 => ?_)
    · replace h0 := ob_pos c6 h0
      refine x_aload_n C 0 dX11_mean_25 rfl ?_
      refine x_getR (j := 0) (i := 7) (q := (RX11, TX11, 22)) C 1 (iM 0 (by decide)) rfl rfl inBX11 (by decide) tw763 rfl dX11_mean_26 ?_
      refine x_iload_n C 1 dX11_mean_29 rfl ?_
      obtain ⟨c7, h0⟩ := ob_if h0
      refine x_iald C (iM 1 (by decide)) rfl (vin_in c7) dX11_mean_30 ?_
      refine x_ifne C 40 dX11_mean_31 (by decide) (fun c9 => ?_) (fun c9 => ?_)
      · replace h0 := ob_neg c9 h0
        refine x_lconst (v := 0) C dX11_mean_40 rfl ?_
        refine x_lstore_n (lv' := [(2, .long 0), (0, .ref (kad K 0)), (1, .int a1)]) C dX11_mean_41 (by rw [e5]; decide) rfl ?_
        refine x_iconst (v := 0) C dX11_mean_42 rfl ?_
        refine x_istore (lv' := [(4, .int 0), (2, .long 0), (0, .ref (kad K 0)), (1, .int a1)]) C dX11_mean_43 (by rw [e5]; decide) rfl ?_
        obtain ⟨e22, g23, h0⟩ := ob_bind h0
        have J1 : ∀ (y12 : Int64), y12 = e22 → Wx LM K σ 78 [(2, .long y12), (0, .ref (kad K 0)), (1, .int a1)] [] := by
          intro y12 e9
          subst e9
          replace h0 := un1_l h0
          refine x_aload_n C 1 dX11_mean_78 rfl ?_
          refine x_lload_n C 0 dX11_mean_79 rfl ?_
          refine x_aload_n C 1 dX11_mean_80 rfl ?_
          refine x_getR (j := 0) (i := 7) (q := (RX11, TX11, 22)) C 1 (iM 0 (by decide)) rfl rfl inBX11 (by decide) tw763 rfl dX11_mean_81 ?_
          refine x_iload_n C 2 dX11_mean_84 rfl ?_
          obtain ⟨c13, h0⟩ := ob_if h0
          refine x_iald C (iM 1 (by decide)) rfl (vin_in c13) dX11_mean_85 ?_
          refine x_i2l C dX11_mean_86 ?_
          obtain ⟨c14, h0⟩ := ob_if h0
          refine x_ldiv C dX11_mean_87 c14 ?_
          refine x_l2i C dX11_mean_88 ?_
          obtain ⟨r15, s17, g16, h0⟩ := ob_bd h0
          refine x_callV (ar := 1) (q := (RX11, TX11, 22)) (rest := []) C (c_X11_tells C.2.2.2.2.2.2.1  g16) (iM 0 (by decide)) rfl rfl hy_X11_tells ⟨tw854, tw856, tw36, tw75, tw857⟩ (by decide) (by decide) rfl rfl (Nat.le_of_ble_eq_true rfl) dX11_mean_89 ?_
          show Wx LM K s17 92 [(2, .long y12), (0, .ref (kad K 0)), (1, .int a1)] [.int r15]
          cases h0
          exact x_iret C R dX11_mean_92
        refine lp_G (G := fun q : Int64 × Int32 => Wx LM K σ 45 [(4, .int q.2), (2, .long q.1), (0, .ref (kad K 0)), (1, .int a1)] []) (fun q x h1 ihL1 ihR1 => ?_) big _ g23
        obtain ⟨x10, x11⟩ := q
        replace h1 : X11_mean_b45 σ a1 x10 x11 = some x := h1
        unfold X11_mean_b45 at h1
        show Wx LM K σ 45 [(4, .int x11), (2, .long x10), (0, .ref (kad K 0)), (1, .int a1)] []
        refine x_iload C 0 dX11_mean_45 rfl ?_
        refine x_aload_n C 2 dX11_mean_47 rfl ?_
        refine x_getR (j := 0) (i := 7) (q := (RX11, TX11, 22)) C 1 (iM 0 (by decide)) rfl rfl inBX11 (by decide) tw763 rfl dX11_mean_48 ?_
        refine x_iload_n C 3 dX11_mean_51 rfl ?_
        obtain ⟨c18, h1⟩ := ob_if h1
        refine x_iald C (iM 1 (by decide)) rfl (vin_in c18) dX11_mean_52 ?_
        refine x_icmpge C 78 dX11_mean_53 (by decide) (fun c20 => ?_) (fun c20 => ?_)
        · replace h1 := ob_pos c20 h1
          refine x_lv (lv' := [(2, .long x10), (0, .ref (kad K 0)), (1, .int a1)]) [1, 2, 3] rfl ?_
          exact J1 _ (ihR1 _ (Option.some.inj h1).symm)
        · replace h1 := ob_neg c20 h1
          refine x_lload_n C 1 dX11_mean_56 rfl ?_
          refine x_aload_n C 2 dX11_mean_57 rfl ?_
          refine x_getR (j := 1) (i := 13) (q := (RX11, TX11, 22)) C 2 (iM 0 (by decide)) rfl rfl inBX11 (by decide) tw764 rfl dX11_mean_58 ?_
          refine x_bipush (v := 40) C dX11_mean_61 rfl ?_
          refine x_iload_n C 3 dX11_mean_63 rfl ?_
          refine x_imul C dX11_mean_64 ?_
          refine x_iload C 0 dX11_mean_65 rfl ?_
          refine x_iadd C dX11_mean_67 ?_
          obtain ⟨c21, h1⟩ := ob_if h1
          refine x_iald C (iM 2 (by decide)) rfl (vin_in c21) dX11_mean_68 ?_
          refine x_i2l C dX11_mean_69 ?_
          refine x_ladd C dX11_mean_70 ?_
          refine x_lstore_n (lv' := [(2, .long (x10 + ((σ.1 2 (((40 : Int32) * a1) + x11).toNatClampNeg)).toInt64)), (4, .int x11), (0, .ref (kad K 0)), (1, .int a1)]) C dX11_mean_71 (by rw [e5]; decide) rfl ?_
          refine x_iinc (v := (x11 + 1)) (lv' := [(4, .int (x11 + 1)), (2, .long (x10 + ((σ.1 2 (((40 : Int32) * a1) + x11).toNatClampNeg)).toInt64)), (0, .ref (kad K 0)), (1, .int a1)]) C 1 dX11_mean_72 rfl rfl (by rw [e5]; decide) rfl ?_
          refine x_goto C 45 dX11_mean_75 (by decide) ?_
          refine x_lv (lv' := [(4, .int (x11 + 1)), (2, .long (x10 + ((σ.1 2 (((40 : Int32) * a1) + x11).toNatClampNeg)).toInt64)), (0, .ref (kad K 0)), (1, .int a1)]) [0, 1, 2, 3] rfl ?_
          exact ihL1 _ (Option.some.inj h1).symm
      · replace h0 := ob_pos c9 h0
        refine x_aload_n C 0 dX11_mean_34 rfl ?_
        refine x_iconst (v := 4) C dX11_mean_35 rfl ?_
        obtain ⟨r24, s26, g25, h0⟩ := ob_bd h0
        refine x_callV (ar := 1) (q := (RX11, TX11, 22)) (rest := []) C (c_X11_finds C.2.2.2.2.2.2.1  g25) (iM 0 (by decide)) rfl rfl hy_X11_finds ⟨tw842, tw844, tw34, tw75, tw845⟩ (by decide) (by decide) rfl rfl (Nat.le_of_ble_eq_true rfl) dX11_mean_36 ?_
        show Wx LM K s26 39 [(0, .ref (kad K 0)), (1, .int a1)] [.int r24]
        cases h0
        exact x_iret C R dX11_mean_39
    · replace h0 := ob_neg c6 h0
      refine x_aload_n C 0 dX11_mean_19 rfl ?_
      refine x_iconst (v := 1) C dX11_mean_20 rfl ?_
      obtain ⟨r27, s29, g28, h0⟩ := ob_bd h0
      refine x_callV (ar := 1) (q := (RX11, TX11, 22)) (rest := []) C (c_X11_finds C.2.2.2.2.2.2.1  g28) (iM 0 (by decide)) rfl rfl hy_X11_finds ⟨tw842, tw844, tw34, tw75, tw845⟩ (by decide) (by decide) rfl rfl (Nat.le_of_ble_eq_true rfl) dX11_mean_21 ?_
      show Wx LM K s29 24 [(0, .ref (kad K 0)), (1, .int a1)] [.int r27]
      cases h0
      exact x_iret C R dX11_mean_24
  · replace h0 := ob_pos c3 h0
    refine x_iconst (v := (-1)) C dX11_mean_8 rfl ?_
    cases h0
    exact x_iret C R dX11_mean_9
set_option maxHeartbeats 4000000 in
set_option maxRecDepth 100000 in
theorem c_X11_text {l : Launch} {D : va_G} {ad : Nat → Nat} {cy : Nat → ClassId} (hJ : mJ LM ad) {σ τ : mS} {a1 : Int32} {a2 : Int32} {r : Int32}  (h0 : X11_text σ a1 a2 = some (r, τ)) : MetG l LM D ad cy yX11_text cX11_text 4 (some .int) 2 [.ref (ad 0), .int a1, .int a2] σ (some (.int r)) τ := by
  refine MetG.of hJ (by decide +kernel) [(0, .ref (ad 0)), (1, .int a1), (2, .int a2)] rfl (Nat.le_of_ble_eq_true rfl) ?_
  intro K e1 e2 e3 e4 e5 C R
  subst e1
  subst e2
  subst e3
  subst e4
  unfold X11_text at h0
  refine x_aload_n C 0 dX11_text_0 rfl ?_
  refine x_iload_n C 1 dX11_text_1 rfl ?_
  refine x_callV (ar := 1) (q := (RX11, TX11, 22)) (rest := []) C (c_X11_isText C.2.2.2.2.2.2.1  rfl) (iM 0 (by decide)) rfl rfl hy_X11_isText ⟨tw878, tw880, tw37, tw75, tw881⟩ (by decide) (by decide) rfl rfl (Nat.le_of_ble_eq_true rfl) dX11_text_2 ?_
  show Wx LM K σ 5 [(0, .ref (kad K 0)), (1, .int a1), (2, .int a2)] [.int (X11_isText a1)]
  refine x_ifeq C 14 dX11_text_5 (by decide) (fun c3 => ?_) (fun c3 => ?_)
  · replace h0 := ob_pos c3 h0
    refine x_iconst (v := (-1)) C dX11_text_14 rfl ?_
    cases h0
    exact x_iret C R dX11_text_15
  · replace h0 := ob_neg c3 h0
    refine x_iload_n C 2 dX11_text_8 rfl ?_
    refine x_bipush (v := 60) C dX11_text_9 rfl ?_
    refine x_icmple C 16 dX11_text_11 (by decide) (fun c5 => ?_) (fun c5 => ?_)
    · replace h0 := ob_pos c5 h0
      refine x_iload_n C 2 dX11_text_16 rfl ?_
      refine x_ifge C 26 dX11_text_17 (by decide) (fun c7 => ?_) (fun c7 => ?_)
      · replace h0 := ob_pos c7 h0
        refine x_aload_n C 0 dX11_text_26 rfl ?_
        refine x_getR (j := 3) (i := 19) (q := (RX11, TX11, 22)) C 4 (iM 0 (by decide)) rfl rfl inBX11 (by decide) tw766 rfl dX11_text_27 ?_
        refine x_iload_n C 1 dX11_text_30 rfl ?_
        refine x_iload_n C 2 dX11_text_31 rfl ?_
        obtain ⟨c8, h0⟩ := ob_if h0
        refine x_iast C (iM 4 (by decide)) rfl (vin_in c8) dX11_text_32 ?_
        refine x_iconst (v := 0) C dX11_text_33 rfl ?_
        refine x_istore_n (lv' := [(3, .int 0), (0, .ref (kad K 0)), (1, .int a1), (2, .int a2)]) C dX11_text_34 (by rw [e5]; decide) rfl ?_
        obtain ⟨e15, g16, h0⟩ := ob_bind h0
        have J1 : ∀ (s11 : mS), s11 = e15 → Wx LM K s11 59 [(2, .int a2)] [] := by
          intro s11 e9
          subst e9
          replace h0 := un1_l h0
          refine x_iload_n C 0 dX11_text_59 rfl ?_
          cases h0
          exact x_iret C R dX11_text_60
        refine lp_G (G := fun q : mS × Int32 => Wx LM K q.1 35 [(3, .int q.2), (0, .ref (kad K 0)), (1, .int a1), (2, .int a2)] []) (fun q x h1 ihL1 ihR1 => ?_) big _ g16
        obtain ⟨s9, x10⟩ := q
        replace h1 : X11_text_b35 a1 a2 s9 x10 = some x := h1
        unfold X11_text_b35 at h1
        show Wx LM K s9 35 [(3, .int x10), (0, .ref (kad K 0)), (1, .int a1), (2, .int a2)] []
        refine x_iload_n C 0 dX11_text_35 rfl ?_
        refine x_iload_n C 3 dX11_text_36 rfl ?_
        refine x_icmpge C 59 dX11_text_37 (by decide) (fun c13 => ?_) (fun c13 => ?_)
        · replace h1 := ob_pos c13 h1
          refine x_lv (lv' := [(2, .int a2)]) [3] rfl ?_
          exact J1 _ (ihR1 _ (Option.some.inj h1).symm)
        · replace h1 := ob_neg c13 h1
          refine x_aload_n C 1 dX11_text_40 rfl ?_
          refine x_getR (j := 4) (i := 22) (q := (RX11, TX11, 22)) C 5 (iM 0 (by decide)) rfl rfl inBX11 (by decide) tw767 rfl dX11_text_41 ?_
          refine x_bipush (v := 60) C dX11_text_44 rfl ?_
          refine x_iload_n C 2 dX11_text_46 rfl ?_
          refine x_imul C dX11_text_47 ?_
          refine x_iload_n C 0 dX11_text_48 rfl ?_
          refine x_iadd C dX11_text_49 ?_
          refine x_bipush (v := 32) C dX11_text_50 rfl ?_
          obtain ⟨c14, h1⟩ := ob_if h1
          refine x_bast C (iM 5 (by decide)) rfl (vin_in c14) dX11_text_52 ?_
          refine x_iinc (v := (x10 + 1)) (lv' := [(3, .int (x10 + 1)), (0, .ref (kad K 0)), (1, .int a1), (2, .int a2)]) C 0 dX11_text_53 rfl rfl (by rw [e5]; decide) rfl ?_
          refine x_goto C 35 dX11_text_56 (by decide) ?_
          refine x_lv (lv' := [(3, .int (x10 + 1)), (0, .ref (kad K 0)), (1, .int a1), (2, .int a2)]) [0, 1, 2, 3] rfl ?_
          exact ihL1 _ (Option.some.inj h1).symm
      · replace h0 := ob_neg c7 h0
        refine x_aload_n C 0 dX11_text_20 rfl ?_
        refine x_iconst (v := 5) C dX11_text_21 rfl ?_
        obtain ⟨r17, s19, g18, h0⟩ := ob_bd h0
        refine x_callV (ar := 1) (q := (RX11, TX11, 22)) (rest := []) C (c_X11_finds C.2.2.2.2.2.2.1  g18) (iM 0 (by decide)) rfl rfl hy_X11_finds ⟨tw842, tw844, tw34, tw75, tw845⟩ (by decide) (by decide) rfl rfl (Nat.le_of_ble_eq_true rfl) dX11_text_22 ?_
        show Wx LM K s19 25 [(0, .ref (kad K 0)), (1, .int a1), (2, .int a2)] [.int r17]
        cases h0
        exact x_iret C R dX11_text_25
    · replace h0 := ob_neg c5 h0
      refine x_iconst (v := (-1)) C dX11_text_14 rfl ?_
      cases h0
      exact x_iret C R dX11_text_15
set_option maxHeartbeats 4000000 in
set_option maxRecDepth 100000 in
theorem c_X11_put {l : Launch} {D : va_G} {ad : Nat → Nat} {cy : Nat → ClassId} (hJ : mJ LM ad) {σ τ : mS} {a1 : Int32} {a2 : Int32} {a3 : Int32} {r : Int32}  (h0 : X11_put σ a1 a2 a3 = some (r, τ)) : MetG l LM D ad cy yX11_put cX11_put 5 (some .int) 2 [.ref (ad 0), .int a1, .int a2, .int a3] σ (some (.int r)) τ := by
  refine MetG.of hJ (by decide +kernel) [(0, .ref (ad 0)), (1, .int a1), (2, .int a2), (3, .int a3)] rfl (Nat.le_of_ble_eq_true rfl) ?_
  intro K e1 e2 e3 e4 e5 C R
  subst e1
  subst e2
  subst e3
  subst e4
  unfold X11_put at h0
  refine x_aload_n C 0 dX11_put_0 rfl ?_
  refine x_iload_n C 1 dX11_put_1 rfl ?_
  refine x_callV (ar := 1) (q := (RX11, TX11, 22)) (rest := []) C (c_X11_isText C.2.2.2.2.2.2.1  rfl) (iM 0 (by decide)) rfl rfl hy_X11_isText ⟨tw878, tw880, tw37, tw75, tw881⟩ (by decide) (by decide) rfl rfl (Nat.le_of_ble_eq_true rfl) dX11_put_2 ?_
  show Wx LM K σ 5 [(0, .ref (kad K 0)), (1, .int a1), (2, .int a2), (3, .int a3)] [.int (X11_isText a1)]
  refine x_ifne C 10 dX11_put_5 (by decide) (fun c3 => ?_) (fun c3 => ?_)
  · replace h0 := ob_neg c3 h0
    refine x_aload_n C 0 dX11_put_10 rfl ?_
    refine x_getR (j := 3) (i := 19) (q := (RX11, TX11, 22)) C 4 (iM 0 (by decide)) rfl rfl inBX11 (by decide) tw766 rfl dX11_put_11 ?_
    refine x_iload_n C 1 dX11_put_14 rfl ?_
    obtain ⟨c4, h0⟩ := ob_if h0
    refine x_iald C (iM 4 (by decide)) rfl (vin_in c4) dX11_put_15 ?_
    refine x_ifge C 25 dX11_put_16 (by decide) (fun c6 => ?_) (fun c6 => ?_)
    · replace h0 := ob_pos c6 h0
      refine x_iload_n C 2 dX11_put_25 rfl ?_
      refine x_i2l C dX11_put_26 ?_
      refine x_lconst (v := 0) C dX11_put_27 rfl ?_
      refine x_aload_n C 0 dX11_put_28 rfl ?_
      refine x_getR (j := 3) (i := 19) (q := (RX11, TX11, 22)) C 4 (iM 0 (by decide)) rfl rfl inBX11 (by decide) tw766 rfl dX11_put_29 ?_
      refine x_iload_n C 1 dX11_put_32 rfl ?_
      obtain ⟨c7, h0⟩ := ob_if h0
      refine x_iald C (iM 4 (by decide)) rfl (vin_in c7) dX11_put_33 ?_
      refine x_iconst (v := 1) C dX11_put_34 rfl ?_
      refine x_isub C dX11_put_35 ?_
      refine x_i2l C dX11_put_36 ?_
      refine x_callS (ar := 3) (rest := []) C (c_X11_in C.2.2.2.2.2.2.1  rfl) hy_X11_in ⟨tw839, tw840, tw75, tw841⟩ (by decide) (by decide) rfl rfl (Nat.le_of_ble_eq_true rfl) dX11_put_37 ?_
      show Wx LM K σ 40 [(0, .ref (kad K 0)), (1, .int a1), (2, .int a2), (3, .int a3)] [.int (X11_in ((a2).toInt64) (0) ((((σ.1 4 a1.toNatClampNeg) - 1)).toInt64))]
      refine x_ifne C 49 dX11_put_40 (by decide) (fun c10 => ?_) (fun c10 => ?_)
      · replace h0 := ob_neg c10 h0
        refine x_aload_n C 0 dX11_put_49 rfl ?_
        refine x_getR (j := 4) (i := 22) (q := (RX11, TX11, 22)) C 5 (iM 0 (by decide)) rfl rfl inBX11 (by decide) tw767 rfl dX11_put_50 ?_
        refine x_bipush (v := 60) C dX11_put_53 rfl ?_
        refine x_iload_n C 1 dX11_put_55 rfl ?_
        refine x_imul C dX11_put_56 ?_
        refine x_iload_n C 2 dX11_put_57 rfl ?_
        refine x_iadd C dX11_put_58 ?_
        obtain ⟨c11, h0⟩ := ob_if h0
        refine x_bald C (iM 5 (by decide)) rfl (vin_in c11) dX11_put_59 ?_
        refine x_istore (lv' := [(4, .int (σ.1 5 (((60 : Int32) * a1) + a2).toNatClampNeg)), (0, .ref (kad K 0)), (1, .int a1), (2, .int a2), (3, .int a3)]) C dX11_put_60 (by rw [e5]; decide) rfl ?_
        refine x_aload_n C 1 dX11_put_62 rfl ?_
        refine x_getR (j := 4) (i := 22) (q := (RX11, TX11, 22)) C 5 (iM 0 (by decide)) rfl rfl inBX11 (by decide) tw767 rfl dX11_put_63 ?_
        refine x_bipush (v := 60) C dX11_put_66 rfl ?_
        refine x_iload_n C 2 dX11_put_68 rfl ?_
        refine x_imul C dX11_put_69 ?_
        refine x_iload_n C 3 dX11_put_70 rfl ?_
        refine x_iadd C dX11_put_71 ?_
        refine x_iload_n C 4 dX11_put_72 rfl ?_
        refine x_i2b C dX11_put_73 ?_
        obtain ⟨c12, h0⟩ := ob_if h0
        refine x_bast C (iM 5 (by decide)) rfl (vin_in c12) dX11_put_74 ?_
        refine x_iload C 0 dX11_put_75 rfl ?_
        refine x_sipush (v := 1000) C dX11_put_77 rfl ?_
        refine x_iadd C dX11_put_80 ?_
        cases h0
        exact x_iret C R dX11_put_81
      · replace h0 := ob_pos c10 h0
        refine x_aload_n C 0 dX11_put_43 rfl ?_
        refine x_iconst (v := 2) C dX11_put_44 rfl ?_
        obtain ⟨r13, s15, g14, h0⟩ := ob_bd h0
        refine x_callV (ar := 1) (q := (RX11, TX11, 22)) (rest := []) C (c_X11_finds C.2.2.2.2.2.2.1  g14) (iM 0 (by decide)) rfl rfl hy_X11_finds ⟨tw842, tw844, tw34, tw75, tw845⟩ (by decide) (by decide) rfl rfl (Nat.le_of_ble_eq_true rfl) dX11_put_45 ?_
        show Wx LM K s15 48 [(0, .ref (kad K 0)), (1, .int a1), (2, .int a2), (3, .int a3)] [.int r13]
        cases h0
        exact x_iret C R dX11_put_48
    · replace h0 := ob_neg c6 h0
      refine x_aload_n C 0 dX11_put_19 rfl ?_
      refine x_iconst (v := 1) C dX11_put_20 rfl ?_
      obtain ⟨r16, s18, g17, h0⟩ := ob_bd h0
      refine x_callV (ar := 1) (q := (RX11, TX11, 22)) (rest := []) C (c_X11_finds C.2.2.2.2.2.2.1  g17) (iM 0 (by decide)) rfl rfl hy_X11_finds ⟨tw842, tw844, tw34, tw75, tw845⟩ (by decide) (by decide) rfl rfl (Nat.le_of_ble_eq_true rfl) dX11_put_21 ?_
      show Wx LM K s18 24 [(0, .ref (kad K 0)), (1, .int a1), (2, .int a2), (3, .int a3)] [.int r16]
      cases h0
      exact x_iret C R dX11_put_24
  · replace h0 := ob_pos c3 h0
    refine x_iconst (v := (-1)) C dX11_put_8 rfl ?_
    cases h0
    exact x_iret C R dX11_put_9
set_option maxHeartbeats 4000000 in
set_option maxRecDepth 100000 in
theorem c_X11_kindOf {l : Launch} {D : va_G} {ad : Nat → Nat} {cy : Nat → ClassId} (hJ : mJ LM ad) {σ : mS} {a1 : Int32} {r : Int32}  (h0 : X11_kindOf a1 = r) : MetG l LM D ad cy yX11_kindOf cX11_kindOf 1 (some .int) 0 [.int a1] σ (some (.int r)) σ := by
  refine MetG.of hJ (by decide +kernel) [(0, .int a1)] rfl (Nat.le_of_ble_eq_true rfl) ?_
  intro K e1 e2 e3 e4 e5 C R
  subst e1
  subst e2
  subst e3
  subst e4
  unfold X11_kindOf at h0
  refine x_iload_n C 0 dX11_kindOf_0 rfl ?_
  refine x_bipush (v := 112) C dX11_kindOf_1 rfl ?_
  refine x_icmpne C 10 dX11_kindOf_3 (by decide) (fun c2 => ?_) (fun c2 => ?_)
  · replace h0 := ob_neg c2 h0
    refine x_iload_n C 0 dX11_kindOf_10 rfl ?_
    refine x_bipush (v := 119) C dX11_kindOf_11 rfl ?_
    refine x_icmpne C 20 dX11_kindOf_13 (by decide) (fun c4 => ?_) (fun c4 => ?_)
    · replace h0 := ob_neg c4 h0
      refine x_iload_n C 0 dX11_kindOf_20 rfl ?_
      refine x_bipush (v := 100) C dX11_kindOf_21 rfl ?_
      refine x_icmpne C 30 dX11_kindOf_23 (by decide) (fun c6 => ?_) (fun c6 => ?_)
      · replace h0 := ob_neg c6 h0
        refine x_iload_n C 0 dX11_kindOf_30 rfl ?_
        refine x_bipush (v := 104) C dX11_kindOf_31 rfl ?_
        refine x_icmpne C 40 dX11_kindOf_33 (by decide) (fun c8 => ?_) (fun c8 => ?_)
        · replace h0 := ob_neg c8 h0
          refine x_iload_n C 0 dX11_kindOf_40 rfl ?_
          refine x_bipush (v := 108) C dX11_kindOf_41 rfl ?_
          refine x_icmpne C 50 dX11_kindOf_43 (by decide) (fun c10 => ?_) (fun c10 => ?_)
          · replace h0 := ob_neg c10 h0
            refine x_iload_n C 0 dX11_kindOf_50 rfl ?_
            refine x_bipush (v := 115) C dX11_kindOf_51 rfl ?_
            refine x_icmpne C 60 dX11_kindOf_53 (by decide) (fun c12 => ?_) (fun c12 => ?_)
            · replace h0 := ob_neg c12 h0
              refine x_iconst (v := (-1)) C dX11_kindOf_60 rfl ?_
              subst h0
              exact x_iret C R dX11_kindOf_61
            · replace h0 := ob_pos c12 h0
              refine x_iconst (v := 5) C dX11_kindOf_56 rfl ?_
              refine x_goto C 61 dX11_kindOf_57 (by decide) ?_
              subst h0
              exact x_iret C R dX11_kindOf_61
          · replace h0 := ob_pos c10 h0
            refine x_iconst (v := 4) C dX11_kindOf_46 rfl ?_
            refine x_goto C 61 dX11_kindOf_47 (by decide) ?_
            subst h0
            exact x_iret C R dX11_kindOf_61
        · replace h0 := ob_pos c8 h0
          refine x_iconst (v := 3) C dX11_kindOf_36 rfl ?_
          refine x_goto C 61 dX11_kindOf_37 (by decide) ?_
          subst h0
          exact x_iret C R dX11_kindOf_61
      · replace h0 := ob_pos c6 h0
        refine x_iconst (v := 2) C dX11_kindOf_26 rfl ?_
        refine x_goto C 61 dX11_kindOf_27 (by decide) ?_
        subst h0
        exact x_iret C R dX11_kindOf_61
    · replace h0 := ob_pos c4 h0
      refine x_iconst (v := 1) C dX11_kindOf_16 rfl ?_
      refine x_goto C 61 dX11_kindOf_17 (by decide) ?_
      subst h0
      exact x_iret C R dX11_kindOf_61
  · replace h0 := ob_pos c2 h0
    refine x_iconst (v := 0) C dX11_kindOf_6 rfl ?_
    refine x_goto C 61 dX11_kindOf_7 (by decide) ?_
    subst h0
    exact x_iret C R dX11_kindOf_61
set_option maxHeartbeats 4000000 in
set_option maxRecDepth 100000 in
theorem c_X11_isFigure {l : Launch} {D : va_G} {ad : Nat → Nat} {cy : Nat → ClassId} (hJ : mJ LM ad) {σ : mS} {a1 : Int32} {a2 : Int32} {r : Int32}  (h0 : X11_isFigure σ a1 a2 = some r) : MetG l LM D ad cy yX11_isFigure cX11_isFigure 3 (some .boolean) 1 [.ref (ad 0), .int a1, .int a2] σ (some (.int r)) σ := by
  refine MetG.of hJ (by decide +kernel) [(0, .ref (ad 0)), (1, .int a1), (2, .int a2)] rfl (Nat.le_of_ble_eq_true rfl) ?_
  intro K e1 e2 e3 e4 e5 C R
  subst e1
  subst e2
  subst e3
  subst e4
  unfold X11_isFigure at h0
  refine x_aload_n C 0 dX11_isFigure_0 rfl ?_
  refine x_getR (j := 4) (i := 22) (q := (RX11, TX11, 22)) C 5 (iM 0 (by decide)) rfl rfl inBX11 (by decide) tw767 rfl dX11_isFigure_1 ?_
  refine x_bipush (v := 60) C dX11_isFigure_4 rfl ?_
  refine x_iload_n C 1 dX11_isFigure_6 rfl ?_
  refine x_imul C dX11_isFigure_7 ?_
  refine x_iload_n C 2 dX11_isFigure_8 rfl ?_
  refine x_iadd C dX11_isFigure_9 ?_
  obtain ⟨c1, h0⟩ := ob_if h0
  refine x_bald C (iM 5 (by decide)) rfl (vin_in c1) dX11_isFigure_10 ?_
  refine x_i2l C dX11_isFigure_11 ?_
  refine x_ldc2 C tw906 dX11_isFigure_12 ?_
  refine x_ldc2 C tw907 dX11_isFigure_15 ?_
  refine x_callS (ar := 3) (rest := []) C (c_X11_in C.2.2.2.2.2.2.1  rfl) hy_X11_in ⟨tw839, tw840, tw75, tw841⟩ (by decide) (by decide) rfl rfl (Nat.le_of_ble_eq_true rfl) dX11_isFigure_18 ?_
  show Wx LM K σ 21 [(0, .ref (kad K 0)), (1, .int a1), (2, .int a2)] [.int (X11_in (((σ.1 5 (((60 : Int32) * a1) + a2).toNatClampNeg)).toInt64) (48) (57))]
  cases h0
  exact x_zret C (zb_X11_in ..) R dX11_isFigure_21
set_option maxHeartbeats 4000000 in
set_option maxRecDepth 100000 in
theorem c_X11_isOn {l : Launch} {D : va_G} {ad : Nat → Nat} {cy : Nat → ClassId} (hJ : mJ LM ad) {σ : mS} {a1 : Int32} {a2 : Int32} {a3 : Int32} {r : Int32}  (h0 : X11_isOn σ a1 a2 a3 = some r) : MetG l LM D ad cy yX11_isOn cX11_isOn 6 (some .boolean) 0 [.ref (ad 0), .int a1, .int a2, .int a3] σ (some (.int r)) σ := by
  refine MetG.of hJ (by decide +kernel) [(0, .ref (ad 0)), (1, .int a1), (2, .int a2), (3, .int a3)] rfl (Nat.le_of_ble_eq_true rfl) ?_
  intro K e1 e2 e3 e4 e5 C R
  subst e1
  subst e2
  subst e3
  subst e4
  unfold X11_isOn at h0
  refine x_iconst (v := 0) C dX11_isOn_0 rfl ?_
  refine x_istore (lv' := [(4, .int 0), (0, .ref (kad K 0)), (1, .int a1), (2, .int a2), (3, .int a3)]) C dX11_isOn_1 (by rw [e5]; decide) rfl ?_
  refine x_iconst (v := 0) C dX11_isOn_3 rfl ?_
  refine x_istore (lv' := [(5, .int 0), (4, .int 0), (0, .ref (kad K 0)), (1, .int a1), (2, .int a2), (3, .int a3)]) C dX11_isOn_4 (by rw [e5]; decide) rfl ?_
  obtain ⟨e12, g13, h0⟩ := ob_bind h0
  have J1 : ∀ (y3 : Int32), y3 = e12 → Wx LM K σ 46 [(4, .int y3)] [] := by
    intro y3 e9
    subst e9
    replace h0 := un1_l h0
    refine x_iload C 0 dX11_isOn_46 rfl ?_
    obtain ⟨c4, h0⟩ := ob_if h0
    cases h0
    exact x_zret C c4 R dX11_isOn_48
  refine lp_G (G := fun q : Int32 × Int32 => Wx LM K σ 6 [(5, .int q.2), (4, .int q.1), (0, .ref (kad K 0)), (1, .int a1), (2, .int a2), (3, .int a3)] []) (fun q x h1 ihL1 ihR1 => ?_) big _ g13
  obtain ⟨x1, x2⟩ := q
  replace h1 : X11_isOn_b6 σ a1 a2 a3 x1 x2 = some x := h1
  unfold X11_isOn_b6 at h1
  show Wx LM K σ 6 [(5, .int x2), (4, .int x1), (0, .ref (kad K 0)), (1, .int a1), (2, .int a2), (3, .int a3)] []
  refine x_iload C 0 dX11_isOn_6 rfl ?_
  refine x_iload_n C 4 dX11_isOn_8 rfl ?_
  refine x_icmpge C 46 dX11_isOn_9 (by decide) (fun c6 => ?_) (fun c6 => ?_)
  · replace h1 := ob_pos c6 h1
    refine x_lv (lv' := [(4, .int x1)]) [1] rfl ?_
    exact J1 _ (ihR1 _ (Option.some.inj h1).symm)
  · replace h1 := ob_neg c6 h1
    refine x_iload C 1 dX11_isOn_12 rfl ?_
    refine x_ifne C 33 dX11_isOn_14 (by decide) (fun c8 => ?_) (fun c8 => ?_)
    · replace h1 := ob_neg c8 h1
      refine x_iconst (v := 1) C dX11_isOn_33 rfl ?_
      refine x_goto C 38 dX11_isOn_34 (by decide) ?_
      refine x_istore (lv' := [(4, .int 1), (5, .int x2), (0, .ref (kad K 0)), (1, .int a1), (2, .int a2), (3, .int a3)]) C dX11_isOn_38 (by rw [e5]; decide) rfl ?_
      refine x_iinc (v := (x2 + 1)) (lv' := [(5, .int (x2 + 1)), (4, .int 1), (0, .ref (kad K 0)), (1, .int a1), (2, .int a2), (3, .int a3)]) C 1 dX11_isOn_40 rfl rfl (by rw [e5]; decide) rfl ?_
      refine x_goto C 6 dX11_isOn_43 (by decide) ?_
      refine x_lv (lv' := [(5, .int (x2 + 1)), (4, .int 1), (0, .ref (kad K 0)), (1, .int a1), (2, .int a2), (3, .int a3)]) [0, 1, 2, 3, 4, 5] rfl ?_
      exact ihL1 _ (Option.some.inj h1).symm
    · replace h1 := ob_pos c8 h1
      refine x_aload_n C 2 dX11_isOn_17 rfl ?_
      refine x_getR (j := 10) (i := 35) (q := (RX11, TX11, 22)) C 9 (iM 0 (by decide)) rfl rfl inBX11 (by decide) tw773 rfl dX11_isOn_18 ?_
      refine x_bipush (v := 6) C dX11_isOn_21 rfl ?_
      refine x_iload_n C 3 dX11_isOn_23 rfl ?_
      refine x_imul C dX11_isOn_24 ?_
      refine x_iload C 0 dX11_isOn_25 rfl ?_
      refine x_iadd C dX11_isOn_27 ?_
      obtain ⟨c9, h1⟩ := ob_if h1
      refine x_iald C (iM 9 (by decide)) rfl (vin_in c9) dX11_isOn_28 ?_
      refine x_iload_n C 5 dX11_isOn_29 rfl ?_
      refine x_icmpne C 37 dX11_isOn_30 (by decide) (fun c11 => ?_) (fun c11 => ?_)
      · replace h1 := ob_neg c11 h1
        refine x_iconst (v := 0) C dX11_isOn_37 rfl ?_
        refine x_istore (lv' := [(4, .int 0), (5, .int x2), (0, .ref (kad K 0)), (1, .int a1), (2, .int a2), (3, .int a3)]) C dX11_isOn_38 (by rw [e5]; decide) rfl ?_
        refine x_iinc (v := (x2 + 1)) (lv' := [(5, .int (x2 + 1)), (4, .int 0), (0, .ref (kad K 0)), (1, .int a1), (2, .int a2), (3, .int a3)]) C 1 dX11_isOn_40 rfl rfl (by rw [e5]; decide) rfl ?_
        refine x_goto C 6 dX11_isOn_43 (by decide) ?_
        refine x_lv (lv' := [(5, .int (x2 + 1)), (4, .int 0), (0, .ref (kad K 0)), (1, .int a1), (2, .int a2), (3, .int a3)]) [0, 1, 2, 3, 4, 5] rfl ?_
        exact ihL1 _ (Option.some.inj h1).symm
      · replace h1 := ob_pos c11 h1
        refine x_iconst (v := 1) C dX11_isOn_33 rfl ?_
        refine x_goto C 38 dX11_isOn_34 (by decide) ?_
        refine x_istore (lv' := [(4, .int 1), (5, .int x2), (0, .ref (kad K 0)), (1, .int a1), (2, .int a2), (3, .int a3)]) C dX11_isOn_38 (by rw [e5]; decide) rfl ?_
        refine x_iinc (v := (x2 + 1)) (lv' := [(5, .int (x2 + 1)), (4, .int 1), (0, .ref (kad K 0)), (1, .int a1), (2, .int a2), (3, .int a3)]) C 1 dX11_isOn_40 rfl rfl (by rw [e5]; decide) rfl ?_
        refine x_goto C 6 dX11_isOn_43 (by decide) ?_
        refine x_lv (lv' := [(5, .int (x2 + 1)), (4, .int 1), (0, .ref (kad K 0)), (1, .int a1), (2, .int a2), (3, .int a3)]) [0, 1, 2, 3, 4, 5] rfl ?_
        exact ihL1 _ (Option.some.inj h1).symm
set_option maxHeartbeats 4000000 in
set_option maxRecDepth 100000 in
theorem c_X11_numbers {l : Launch} {D : va_G} {ad : Nat → Nat} {cy : Nat → ClassId} (hJ : mJ LM ad) {σ τ : mS} {a1 : Int32} {a2 : Int32} {a3 : Int32} {r : Int32}  (h0 : X11_numbers σ a1 a2 a3 = some (r, τ)) : MetG l LM D ad cy yX11_numbers cX11_numbers 7 (some .int) 2 [.ref (ad 0), .int a1, .int a2, .int a3] σ (some (.int r)) τ := by
  refine MetG.of hJ (by decide +kernel) [(0, .ref (ad 0)), (1, .int a1), (2, .int a2), (3, .int a3)] rfl (Nat.le_of_ble_eq_true rfl) ?_
  intro K e1 e2 e3 e4 e5 C R
  subst e1
  subst e2
  subst e3
  subst e4
  unfold X11_numbers at h0
  refine x_iconst (v := 0) C dX11_numbers_0 rfl ?_
  refine x_istore (lv' := [(4, .int 0), (0, .ref (kad K 0)), (1, .int a1), (2, .int a2), (3, .int a3)]) C dX11_numbers_1 (by rw [e5]; decide) rfl ?_
  obtain ⟨e32, g33, h0⟩ := ob_bind h0
  have J1 : ∀ (s3 : mS), .inl s3 = e32 → Wx LM K s3 161 [] [] := by
    intro s3 e9
    subst e9
    replace h0 := sm1_l h0
    refine x_bipush (v := (-9)) C dX11_numbers_161 rfl ?_
    cases h0
    exact x_iret C R dX11_numbers_163
  refine lp_G (G := fun q : mS × Int32 => Wx LM K q.1 3 [(4, .int q.2), (0, .ref (kad K 0)), (1, .int a1), (2, .int a2), (3, .int a3)] []) (fun q x h1 ihL1 ihR1 => ?_) big _ g33
  obtain ⟨s1, x2⟩ := q
  replace h1 : X11_numbers_b3 a1 a2 a3 s1 x2 = some x := h1
  unfold X11_numbers_b3 at h1
  show Wx LM K s1 3 [(4, .int x2), (0, .ref (kad K 0)), (1, .int a1), (2, .int a2), (3, .int a3)] []
  refine x_iload C 0 dX11_numbers_3 rfl ?_
  refine x_bipush (v := 6) C dX11_numbers_5 rfl ?_
  refine x_icmpge C 161 dX11_numbers_7 (by decide) (fun c5 => ?_) (fun c5 => ?_)
  · replace h1 := ob_pos c5 h1
    refine x_lv (lv' := []) [] rfl ?_
    exact J1 _ (ihR1 _ (Option.some.inj h1).symm)
  · replace h1 := ob_neg c5 h1
    refine x_iload_n C 4 dX11_numbers_10 rfl ?_
    refine x_iconst (v := 2) C dX11_numbers_11 rfl ?_
    refine x_iload C 0 dX11_numbers_12 rfl ?_
    refine x_imul C dX11_numbers_14 ?_
    refine x_iadd C dX11_numbers_15 ?_
    refine x_istore (lv' := [(5, .int (a3 + ((2 : Int32) * x2))), (4, .int x2), (0, .ref (kad K 0)), (1, .int a1), (2, .int a2), (3, .int a3)]) C dX11_numbers_16 (by rw [e5]; decide) rfl ?_
    refine x_iconst (v := 0) C dX11_numbers_18 rfl ?_
    refine x_istore (lv' := [(6, .int 0), (5, .int (a3 + ((2 : Int32) * x2))), (4, .int x2), (0, .ref (kad K 0)), (1, .int a1), (2, .int a2), (3, .int a3)]) C dX11_numbers_19 (by rw [e5]; decide) rfl ?_
    obtain ⟨e30, g31, h1⟩ := ob_bind h1
    have J2 : ∀ (u9 : Unit), .inl u9 = e30 → Wx LM K s1 75 [(5, .int (a3 + ((2 : Int32) * x2))), (4, .int x2), (0, .ref (kad K 0)), (1, .int a1), (2, .int a2), (3, .int a3)] [] := by
      intro u9 e9
      subst e9
      replace h1 := sm1_l h1
      refine x_bipush (v := 10) C dX11_numbers_75 rfl ?_
      refine x_aload_n C 2 dX11_numbers_77 rfl ?_
      refine x_getR (j := 4) (i := 22) (q := (RX11, TX11, 22)) C 5 (iM 0 (by decide)) rfl rfl inBX11 (by decide) tw767 rfl dX11_numbers_78 ?_
      refine x_bipush (v := 60) C dX11_numbers_81 rfl ?_
      refine x_iload_n C 3 dX11_numbers_83 rfl ?_
      refine x_imul C dX11_numbers_84 ?_
      refine x_iload C 0 dX11_numbers_85 rfl ?_
      refine x_iadd C dX11_numbers_87 ?_
      obtain ⟨c7, h1⟩ := ob_if h1
      refine x_bald C (iM 5 (by decide)) rfl (vin_in c7) dX11_numbers_88 ?_
      refine x_bipush (v := 48) C dX11_numbers_89 rfl ?_
      refine x_isub C dX11_numbers_91 ?_
      refine x_imul C dX11_numbers_92 ?_
      refine x_aload_n C 2 dX11_numbers_93 rfl ?_
      refine x_getR (j := 4) (i := 22) (q := (RX11, TX11, 22)) C 5 (iM 0 (by decide)) rfl rfl inBX11 (by decide) tw767 rfl dX11_numbers_94 ?_
      refine x_bipush (v := 60) C dX11_numbers_97 rfl ?_
      refine x_iload_n C 3 dX11_numbers_99 rfl ?_
      refine x_imul C dX11_numbers_100 ?_
      refine x_iload C 0 dX11_numbers_101 rfl ?_
      refine x_iadd C dX11_numbers_103 ?_
      refine x_iconst (v := 1) C dX11_numbers_104 rfl ?_
      refine x_iadd C dX11_numbers_105 ?_
      obtain ⟨c8, h1⟩ := ob_if h1
      refine x_bald C (iM 5 (by decide)) rfl (vin_in c8) dX11_numbers_106 ?_
      refine x_iadd C dX11_numbers_107 ?_
      refine x_bipush (v := 48) C dX11_numbers_108 rfl ?_
      refine x_isub C dX11_numbers_110 ?_
      refine x_istore (lv' := [(6, .int ((((10 : Int32) * ((s1.1 5 (((60 : Int32) * a1) + (a3 + ((2 : Int32) * x2))).toNatClampNeg) - 48)) + (s1.1 5 ((((60 : Int32) * a1) + (a3 + ((2 : Int32) * x2))) + 1).toNatClampNeg)) - 48)), (5, .int (a3 + ((2 : Int32) * x2))), (4, .int x2), (0, .ref (kad K 0)), (1, .int a1), (2, .int a2), (3, .int a3)]) C dX11_numbers_111 (by rw [e5]; decide) rfl ?_
      refine x_iload C 0 dX11_numbers_113 rfl ?_
      refine x_i2l C dX11_numbers_115 ?_
      refine x_lconst (v := 1) C dX11_numbers_116 rfl ?_
      refine x_ldc2 C tw911 dX11_numbers_117 ?_
      refine x_callS (ar := 3) (rest := []) C (c_X11_in C.2.2.2.2.2.2.1  rfl) hy_X11_in ⟨tw839, tw840, tw75, tw841⟩ (by decide) (by decide) rfl rfl (Nat.le_of_ble_eq_true rfl) dX11_numbers_120 ?_
      show Wx LM K s1 123 [(6, .int ((((10 : Int32) * ((s1.1 5 (((60 : Int32) * a1) + (a3 + ((2 : Int32) * x2))).toNatClampNeg) - 48)) + (s1.1 5 ((((60 : Int32) * a1) + (a3 + ((2 : Int32) * x2))) + 1).toNatClampNeg)) - 48)), (5, .int (a3 + ((2 : Int32) * x2))), (4, .int x2), (0, .ref (kad K 0)), (1, .int a1), (2, .int a2), (3, .int a3)] [.int (X11_in ((((((10 : Int32) * ((s1.1 5 (((60 : Int32) * a1) + (a3 + ((2 : Int32) * x2))).toNatClampNeg) - 48)) + (s1.1 5 ((((60 : Int32) * a1) + (a3 + ((2 : Int32) * x2))) + 1).toNatClampNeg)) - 48)).toInt64) (1) (12))]
      refine x_ifeq C 138 dX11_numbers_123 (by decide) (fun c11 => ?_) (fun c11 => ?_)
      · replace h1 := ob_pos c11 h1
        refine x_iload C 1 dX11_numbers_138 rfl ?_
        have e19 := ihR1 _ (Option.some.inj h1).symm
        subst e19
        replace h0 := sm1_r h0
        cases h0
        exact x_iret C R dX11_numbers_140
      · replace h1 := ob_neg c11 h1
        refine x_aload_n C 3 dX11_numbers_126 rfl ?_
        refine x_iload_n C 5 dX11_numbers_127 rfl ?_
        refine x_iload C 2 dX11_numbers_128 rfl ?_
        refine x_iload C 0 dX11_numbers_130 rfl ?_
        obtain ⟨r12, g13, h1⟩ := ob_bind h1
        refine x_callV (ar := 3) (q := (RX11, TX11, 22)) (rest := []) C (c_X11_isOn C.2.2.2.2.2.2.1  g13) (iM 0 (by decide)) rfl rfl hy_X11_isOn ⟨tw912, tw914, tw41, tw75, tw915⟩ (by decide) (by decide) rfl rfl (Nat.le_of_ble_eq_true rfl) dX11_numbers_132 ?_
        show Wx LM K s1 135 [(6, .int ((((10 : Int32) * ((s1.1 5 (((60 : Int32) * a1) + (a3 + ((2 : Int32) * x2))).toNatClampNeg) - 48)) + (s1.1 5 ((((60 : Int32) * a1) + (a3 + ((2 : Int32) * x2))) + 1).toNatClampNeg)) - 48)), (5, .int (a3 + ((2 : Int32) * x2))), (4, .int x2), (0, .ref (kad K 0)), (1, .int a1), (2, .int a2), (3, .int a3)] [.int r12]
        refine x_ifeq C 141 dX11_numbers_135 (by decide) (fun c15 => ?_) (fun c15 => ?_)
        · replace h1 := ob_pos c15 h1
          refine x_aload_n C 3 dX11_numbers_141 rfl ?_
          refine x_getR (j := 10) (i := 35) (q := (RX11, TX11, 22)) C 9 (iM 0 (by decide)) rfl rfl inBX11 (by decide) tw773 rfl dX11_numbers_142 ?_
          refine x_bipush (v := 6) C dX11_numbers_145 rfl ?_
          refine x_iload_n C 5 dX11_numbers_147 rfl ?_
          refine x_imul C dX11_numbers_148 ?_
          refine x_iload C 2 dX11_numbers_149 rfl ?_
          refine x_iadd C dX11_numbers_151 ?_
          refine x_iload C 0 dX11_numbers_152 rfl ?_
          obtain ⟨c16, h1⟩ := ob_if h1
          refine x_iast C (iM 9 (by decide)) rfl (vin_in c16) dX11_numbers_154 ?_
          refine x_iinc (v := (x2 + 1)) (lv' := [(4, .int (x2 + 1)), (6, .int ((((10 : Int32) * ((s1.1 5 (((60 : Int32) * a1) + (a3 + ((2 : Int32) * x2))).toNatClampNeg) - 48)) + (s1.1 5 ((((60 : Int32) * a1) + (a3 + ((2 : Int32) * x2))) + 1).toNatClampNeg)) - 48)), (5, .int (a3 + ((2 : Int32) * x2))), (0, .ref (kad K 0)), (1, .int a1), (2, .int a2), (3, .int a3)]) C 2 dX11_numbers_155 rfl rfl (by rw [e5]; decide) rfl ?_
          refine x_goto C 3 dX11_numbers_158 (by decide) ?_
          refine x_lv (lv' := [(4, .int (x2 + 1)), (0, .ref (kad K 0)), (1, .int a1), (2, .int a2), (3, .int a3)]) [0, 3, 4, 5, 6] rfl ?_
          exact ihL1 _ (Option.some.inj h1).symm
        · replace h1 := ob_neg c15 h1
          refine x_iload C 1 dX11_numbers_138 rfl ?_
          have e19 := ihR1 _ (Option.some.inj h1).symm
          subst e19
          replace h0 := sm1_r h0
          cases h0
          exact x_iret C R dX11_numbers_140
    refine lp_G (G := fun q : Int32 => Wx LM K s1 21 [(6, .int q), (5, .int (a3 + ((2 : Int32) * x2))), (4, .int x2), (0, .ref (kad K 0)), (1, .int a1), (2, .int a2), (3, .int a3)] []) (fun q x h2 ihL2 ihR2 => ?_) big _ g31
    obtain ⟨x6, rfl⟩ : ∃ z, z = q := ⟨_, rfl⟩
    replace h2 : X11_numbers_b21 a1 a3 s1 x2 x6 = some x := h2
    unfold X11_numbers_b21 at h2
    show Wx LM K s1 21 [(6, .int x6), (5, .int (a3 + ((2 : Int32) * x2))), (4, .int x2), (0, .ref (kad K 0)), (1, .int a1), (2, .int a2), (3, .int a3)] []
    refine x_iload C 0 dX11_numbers_21 rfl ?_
    refine x_iconst (v := 2) C dX11_numbers_23 rfl ?_
    refine x_icmpge C 75 dX11_numbers_24 (by decide) (fun c18 => ?_) (fun c18 => ?_)
    · replace h2 := ob_pos c18 h2
      refine x_lv (lv' := [(5, .int (a3 + ((2 : Int32) * x2))), (4, .int x2), (0, .ref (kad K 0)), (1, .int a1), (2, .int a2), (3, .int a3)]) [1, 2, 3, 4, 5, 6] rfl ?_
      exact J2 _ (ihR2 _ (Option.some.inj h2).symm)
    · replace h2 := ob_neg c18 h2
      refine x_iload C 1 dX11_numbers_27 rfl ?_
      refine x_iload C 0 dX11_numbers_29 rfl ?_
      refine x_iadd C dX11_numbers_31 ?_
      refine x_aload_n C 3 dX11_numbers_32 rfl ?_
      refine x_getR (j := 3) (i := 19) (q := (RX11, TX11, 22)) C 4 (iM 0 (by decide)) rfl rfl inBX11 (by decide) tw766 rfl dX11_numbers_33 ?_
      refine x_iload_n C 4 dX11_numbers_36 rfl ?_
      obtain ⟨c19, h2⟩ := ob_if h2
      refine x_iald C (iM 4 (by decide)) rfl (vin_in c19) dX11_numbers_37 ?_
      refine x_icmpge C 54 dX11_numbers_38 (by decide) (fun c21 => ?_) (fun c21 => ?_)
      · replace h2 := ob_pos c21 h2
        refine x_iload C 1 dX11_numbers_54 rfl ?_
        refine x_iload C 0 dX11_numbers_56 rfl ?_
        refine x_iadd C dX11_numbers_58 ?_
        refine x_aload_n C 3 dX11_numbers_59 rfl ?_
        refine x_getR (j := 3) (i := 19) (q := (RX11, TX11, 22)) C 4 (iM 0 (by decide)) rfl rfl inBX11 (by decide) tw766 rfl dX11_numbers_60 ?_
        refine x_iload_n C 4 dX11_numbers_63 rfl ?_
        obtain ⟨c22, h2⟩ := ob_if h2
        refine x_iald C (iM 4 (by decide)) rfl (vin_in c22) dX11_numbers_64 ?_
        refine x_callS (ar := 2) (rest := []) C (c_X11_lesser C.2.2.2.2.2.2.1  rfl) hy_X11_lesser ⟨tw908, tw909, tw75, tw910⟩ (by decide) (by decide) rfl rfl (Nat.le_of_ble_eq_true rfl) dX11_numbers_65 ?_
        show Wx LM K s1 68 [(6, .int x6), (5, .int (a3 + ((2 : Int32) * x2))), (4, .int x2), (0, .ref (kad K 0)), (1, .int a1), (2, .int a2), (3, .int a3)] [.int (X11_lesser ((a3 + ((2 : Int32) * x2)) + x6) (s1.1 4 a1.toNatClampNeg))]
        have e29 := ihR2 _ (Option.some.inj h2).symm
        subst e29
        replace h1 := sm1_r h1
        have e19 := ihR1 _ (Option.some.inj h1).symm
        subst e19
        replace h0 := sm1_r h0
        cases h0
        exact x_iret C R dX11_numbers_68
      · replace h2 := ob_neg c21 h2
        refine x_aload_n C 3 dX11_numbers_41 rfl ?_
        refine x_iload_n C 4 dX11_numbers_42 rfl ?_
        refine x_iload C 1 dX11_numbers_43 rfl ?_
        refine x_iload C 0 dX11_numbers_45 rfl ?_
        refine x_iadd C dX11_numbers_47 ?_
        obtain ⟨r24, g25, h2⟩ := ob_bind h2
        refine x_callV (ar := 2) (q := (RX11, TX11, 22)) (rest := []) C (c_X11_isFigure C.2.2.2.2.2.2.1  g25) (iM 0 (by decide)) rfl rfl hy_X11_isFigure ⟨tw902, tw904, tw40, tw75, tw905⟩ (by decide) (by decide) rfl rfl (Nat.le_of_ble_eq_true rfl) dX11_numbers_48 ?_
        show Wx LM K s1 51 [(6, .int x6), (5, .int (a3 + ((2 : Int32) * x2))), (4, .int x2), (0, .ref (kad K 0)), (1, .int a1), (2, .int a2), (3, .int a3)] [.int r24]
        refine x_ifne C 69 dX11_numbers_51 (by decide) (fun c27 => ?_) (fun c27 => ?_)
        · replace h2 := ob_neg c27 h2
          refine x_iinc (v := (x6 + 1)) (lv' := [(6, .int (x6 + 1)), (5, .int (a3 + ((2 : Int32) * x2))), (4, .int x2), (0, .ref (kad K 0)), (1, .int a1), (2, .int a2), (3, .int a3)]) C 0 dX11_numbers_69 rfl rfl (by rw [e5]; decide) rfl ?_
          refine x_goto C 21 dX11_numbers_72 (by decide) ?_
          refine x_lv (lv' := [(6, .int (x6 + 1)), (5, .int (a3 + ((2 : Int32) * x2))), (4, .int x2), (0, .ref (kad K 0)), (1, .int a1), (2, .int a2), (3, .int a3)]) [0, 1, 2, 3, 4, 5, 6] rfl ?_
          exact ihL2 _ (Option.some.inj h2).symm
        · replace h2 := ob_pos c27 h2
          refine x_iload C 1 dX11_numbers_54 rfl ?_
          refine x_iload C 0 dX11_numbers_56 rfl ?_
          refine x_iadd C dX11_numbers_58 ?_
          refine x_aload_n C 3 dX11_numbers_59 rfl ?_
          refine x_getR (j := 3) (i := 19) (q := (RX11, TX11, 22)) C 4 (iM 0 (by decide)) rfl rfl inBX11 (by decide) tw766 rfl dX11_numbers_60 ?_
          refine x_iload_n C 4 dX11_numbers_63 rfl ?_
          obtain ⟨c28, h2⟩ := ob_if h2
          refine x_iald C (iM 4 (by decide)) rfl (vin_in c28) dX11_numbers_64 ?_
          refine x_callS (ar := 2) (rest := []) C (c_X11_lesser C.2.2.2.2.2.2.1  rfl) hy_X11_lesser ⟨tw908, tw909, tw75, tw910⟩ (by decide) (by decide) rfl rfl (Nat.le_of_ble_eq_true rfl) dX11_numbers_65 ?_
          show Wx LM K s1 68 [(6, .int x6), (5, .int (a3 + ((2 : Int32) * x2))), (4, .int x2), (0, .ref (kad K 0)), (1, .int a1), (2, .int a2), (3, .int a3)] [.int (X11_lesser ((a3 + ((2 : Int32) * x2)) + x6) (s1.1 4 a1.toNatClampNeg))]
          have e29 := ihR2 _ (Option.some.inj h2).symm
          subst e29
          replace h1 := sm1_r h1
          have e19 := ihR1 _ (Option.some.inj h1).symm
          subst e19
          replace h0 := sm1_r h0
          cases h0
          exact x_iret C R dX11_numbers_68
set_option maxHeartbeats 4000000 in
set_option maxRecDepth 100000 in
theorem c_X11_faultOf {l : Launch} {D : va_G} {ad : Nat → Nat} {cy : Nat → ClassId} (hJ : mJ LM ad) {σ τ : mS} {a1 : Int32} {r : Int32}  (h0 : X11_faultOf σ a1 = some (r, τ)) : MetG l LM D ad cy yX11_faultOf cX11_faultOf 5 (some .int) 3 [.ref (ad 0), .int a1] σ (some (.int r)) τ := by
  refine MetG.of hJ (by decide +kernel) [(0, .ref (ad 0)), (1, .int a1)] rfl (Nat.le_of_ble_eq_true rfl) ?_
  intro K e1 e2 e3 e4 e5 C R
  subst e1
  subst e2
  subst e3
  subst e4
  unfold X11_faultOf at h0
  refine x_aload_n C 0 dX11_faultOf_0 rfl ?_
  refine x_iconst (v := 0) C dX11_faultOf_1 rfl ?_
  refine x_putI (j := 8) (i := 111) (q := (RX11, TX11, 22)) C tyX11 tyX11_ok nmX11 (iM 0 (by decide)) rfl rfl inBX11 (by decide) tw771 rfl (by decide +kernel) rfl dX11_faultOf_2 ?_
  refine x_iconst (v := 0) C dX11_faultOf_5 rfl ?_
  refine x_istore_n (lv' := [(2, .int 0), (0, .ref (kad K 0)), (1, .int a1)]) C dX11_faultOf_6 (by rw [e5]; decide) rfl ?_
  obtain ⟨e25, g26, h0⟩ := ob_bind h0
  have J1 : ∀ (s3 : mS), .inl s3 = e25 → Wx LM K s3 118 [(0, .ref (kad K 0)), (1, .int a1)] [] := by
    intro s3 e9
    subst e9
    replace h0 := sm1_l h0
    refine x_aload_n C 0 dX11_faultOf_118 rfl ?_
    refine x_getI (j := 8) (i := 111) (q := (RX11, TX11, 22)) C (iM 0 (by decide)) rfl rfl inBX11 (by decide) tw771 rfl dX11_faultOf_119 ?_
    refine x_ifne C 134 dX11_faultOf_122 (by decide) (fun c5 => ?_) (fun c5 => ?_)
    · replace h0 := ob_neg c5 h0
      refine x_bipush (v := (-9)) C dX11_faultOf_134 rfl ?_
      cases h0
      exact x_iret C R dX11_faultOf_136
    · replace h0 := ob_pos c5 h0
      refine x_aload_n C 0 dX11_faultOf_125 rfl ?_
      refine x_getR (j := 3) (i := 19) (q := (RX11, TX11, 22)) C 4 (iM 0 (by decide)) rfl rfl inBX11 (by decide) tw766 rfl dX11_faultOf_126 ?_
      refine x_iload_n C 1 dX11_faultOf_129 rfl ?_
      obtain ⟨c6, h0⟩ := ob_if h0
      refine x_iald C (iM 4 (by decide)) rfl (vin_in c6) dX11_faultOf_130 ?_
      refine x_goto C 136 dX11_faultOf_131 (by decide) ?_
      cases h0
      exact x_iret C R dX11_faultOf_136
  refine lp_G (G := fun q : mS × Int32 => Wx LM K q.1 7 [(2, .int q.2), (0, .ref (kad K 0)), (1, .int a1)] []) (fun q x h1 ihL1 ihR1 => ?_) big _ g26
  obtain ⟨s1, x2⟩ := q
  replace h1 : X11_faultOf_b7 a1 s1 x2 = some x := h1
  unfold X11_faultOf_b7 at h1
  show Wx LM K s1 7 [(2, .int x2), (0, .ref (kad K 0)), (1, .int a1)] []
  refine x_iload_n C 0 dX11_faultOf_7 rfl ?_
  refine x_aload_n C 1 dX11_faultOf_8 rfl ?_
  refine x_getR (j := 3) (i := 19) (q := (RX11, TX11, 22)) C 4 (iM 0 (by decide)) rfl rfl inBX11 (by decide) tw766 rfl dX11_faultOf_9 ?_
  refine x_iload_n C 2 dX11_faultOf_12 rfl ?_
  obtain ⟨c7, h1⟩ := ob_if h1
  refine x_iald C (iM 4 (by decide)) rfl (vin_in c7) dX11_faultOf_13 ?_
  refine x_icmpge C 118 dX11_faultOf_14 (by decide) (fun c9 => ?_) (fun c9 => ?_)
  · replace h1 := ob_pos c9 h1
    refine x_lv (lv' := [(0, .ref (kad K 0)), (1, .int a1)]) [1, 2] rfl ?_
    exact J1 _ (ihR1 _ (Option.some.inj h1).symm)
  · replace h1 := ob_neg c9 h1
    refine x_aload_n C 1 dX11_faultOf_17 rfl ?_
    refine x_getR (j := 4) (i := 22) (q := (RX11, TX11, 22)) C 5 (iM 0 (by decide)) rfl rfl inBX11 (by decide) tw767 rfl dX11_faultOf_18 ?_
    refine x_bipush (v := 60) C dX11_faultOf_21 rfl ?_
    refine x_iload_n C 2 dX11_faultOf_23 rfl ?_
    refine x_imul C dX11_faultOf_24 ?_
    refine x_iload_n C 0 dX11_faultOf_25 rfl ?_
    refine x_iadd C dX11_faultOf_26 ?_
    obtain ⟨c10, h1⟩ := ob_if h1
    refine x_bald C (iM 5 (by decide)) rfl (vin_in c10) dX11_faultOf_27 ?_
    refine x_bipush (v := 32) C dX11_faultOf_28 rfl ?_
    refine x_icmpne C 39 dX11_faultOf_30 (by decide) (fun c12 => ?_) (fun c12 => ?_)
    · replace h1 := ob_neg c12 h1
      refine x_aload_n C 1 dX11_faultOf_39 rfl ?_
      refine x_getR (j := 4) (i := 22) (q := (RX11, TX11, 22)) C 5 (iM 0 (by decide)) rfl rfl inBX11 (by decide) tw767 rfl dX11_faultOf_40 ?_
      refine x_bipush (v := 60) C dX11_faultOf_43 rfl ?_
      refine x_iload_n C 2 dX11_faultOf_45 rfl ?_
      refine x_imul C dX11_faultOf_46 ?_
      refine x_iload_n C 0 dX11_faultOf_47 rfl ?_
      refine x_iadd C dX11_faultOf_48 ?_
      obtain ⟨c13, h1⟩ := ob_if h1
      refine x_bald C (iM 5 (by decide)) rfl (vin_in c13) dX11_faultOf_49 ?_
      refine x_callS (ar := 1) (rest := []) C (c_X11_kindOf C.2.2.2.2.2.2.1  rfl) hy_X11_kindOf ⟨tw895, tw896, tw75, tw897⟩ (by decide) (by decide) rfl rfl (Nat.le_of_ble_eq_true rfl) dX11_faultOf_50 ?_
      show Wx LM K s1 53 [(2, .int x2), (0, .ref (kad K 0)), (1, .int a1)] [.int (X11_kindOf (s1.1 5 (((60 : Int32) * a1) + x2).toNatClampNeg))]
      refine x_istore_n (lv' := [(3, .int (X11_kindOf (s1.1 5 (((60 : Int32) * a1) + x2).toNatClampNeg))), (2, .int x2), (0, .ref (kad K 0)), (1, .int a1)]) C dX11_faultOf_53 (by rw [e5]; decide) rfl ?_
      refine x_iload_n C 0 dX11_faultOf_54 rfl ?_
      refine x_iflt C 66 dX11_faultOf_55 (by decide) (fun c16 => ?_) (fun c16 => ?_)
      · replace h1 := ob_pos c16 h1
        refine x_iload_n C 1 dX11_faultOf_66 rfl ?_
        have e19 := ihR1 _ (Option.some.inj h1).symm
        subst e19
        replace h0 := sm1_r h0
        cases h0
        exact x_iret C R dX11_faultOf_67
      · replace h1 := ob_neg c16 h1
        refine x_aload_n C 2 dX11_faultOf_58 rfl ?_
        refine x_getI (j := 8) (i := 111) (q := (RX11, TX11, 22)) C (iM 0 (by decide)) rfl rfl inBX11 (by decide) tw771 rfl dX11_faultOf_59 ?_
        refine x_iconst (v := 4) C dX11_faultOf_62 rfl ?_
        refine x_icmpne C 68 dX11_faultOf_63 (by decide) (fun c18 => ?_) (fun c18 => ?_)
        · replace h1 := ob_neg c18 h1
          refine x_aload_n C 2 dX11_faultOf_68 rfl ?_
          refine x_iload_n C 3 dX11_faultOf_69 rfl ?_
          refine x_aload_n C 2 dX11_faultOf_70 rfl ?_
          refine x_getI (j := 8) (i := 111) (q := (RX11, TX11, 22)) C (iM 0 (by decide)) rfl rfl inBX11 (by decide) tw771 rfl dX11_faultOf_71 ?_
          refine x_iload_n C 1 dX11_faultOf_74 rfl ?_
          refine x_iconst (v := 1) C dX11_faultOf_75 rfl ?_
          refine x_iadd C dX11_faultOf_76 ?_
          obtain ⟨r19, s21, g20, h1⟩ := ob_bd h1
          refine x_callV (ar := 3) (q := (RX11, TX11, 22)) (rest := []) C (c_X11_numbers C.2.2.2.2.2.2.1  g20) (iM 0 (by decide)) rfl rfl hy_X11_numbers ⟨tw898, tw900, tw39, tw75, tw901⟩ (by decide) (by decide) rfl rfl (Nat.le_of_ble_eq_true rfl) dX11_faultOf_77 ?_
          show Wx LM K s21 80 [(3, .int (X11_kindOf (s1.1 5 (((60 : Int32) * a1) + x2).toNatClampNeg))), (2, .int x2), (0, .ref (kad K 0)), (1, .int a1)] [.int r19]
          refine x_istore (lv' := [(4, .int r19), (3, .int (X11_kindOf (s1.1 5 (((60 : Int32) * a1) + x2).toNatClampNeg))), (2, .int x2), (0, .ref (kad K 0)), (1, .int a1)]) C dX11_faultOf_80 (by rw [e5]; decide) rfl ?_
          refine x_iload C 0 dX11_faultOf_82 rfl ?_
          refine x_bipush (v := (-9)) C dX11_faultOf_84 rfl ?_
          refine x_icmpeq C 92 dX11_faultOf_86 (by decide) (fun c23 => ?_) (fun c23 => ?_)
          · replace h1 := ob_pos c23 h1
            refine x_aload_n C 3 dX11_faultOf_92 rfl ?_
            refine x_getR (j := 9) (i := 32) (q := (RX11, TX11, 22)) C 8 (iM 0 (by decide)) rfl rfl inBX11 (by decide) tw772 rfl dX11_faultOf_93 ?_
            refine x_aload_n C 3 dX11_faultOf_96 rfl ?_
            refine x_getI (j := 8) (i := 111) (q := (RX11, TX11, 22)) C (iM 0 (by decide)) rfl rfl inBX11 (by decide) tw771 rfl dX11_faultOf_97 ?_
            refine x_iload_n C 1 dX11_faultOf_100 rfl ?_
            obtain ⟨c24, h1⟩ := ob_if h1
            refine x_iast C (iM 8 (by decide)) rfl (vin_in c24) dX11_faultOf_101 ?_
            refine x_aload_n C 3 dX11_faultOf_102 rfl ?_
            refine x_dup C dX11_faultOf_103 rfl ?_
            refine x_getI (j := 8) (i := 111) (q := (RX11, TX11, 22)) C (iM 0 (by decide)) rfl rfl inBX11 (by decide) tw771 rfl dX11_faultOf_104 ?_
            refine x_iconst (v := 1) C dX11_faultOf_107 rfl ?_
            refine x_iadd C dX11_faultOf_108 ?_
            refine x_putI (j := 8) (i := 111) (q := (RX11, TX11, 22)) C tyX11 tyX11_ok nmX11 (iM 0 (by decide)) rfl rfl inBX11 (by decide) tw771 rfl (by decide +kernel) rfl dX11_faultOf_109 ?_
            refine x_iinc (v := (x2 + 13)) (lv' := [(2, .int (x2 + 13)), (4, .int r19), (3, .int (X11_kindOf (s1.1 5 (((60 : Int32) * a1) + x2).toNatClampNeg))), (0, .ref (kad K 0)), (1, .int a1)]) C 2 dX11_faultOf_112 rfl rfl (by rw [e5]; decide) rfl ?_
            refine x_goto C 7 dX11_faultOf_115 (by decide) ?_
            refine x_lv (lv' := [(2, .int (x2 + 13)), (0, .ref (kad K 0)), (1, .int a1)]) [0, 3, 4] rfl ?_
            exact ihL1 _ (Option.some.inj h1).symm
          · replace h1 := ob_neg c23 h1
            refine x_iload C 0 dX11_faultOf_89 rfl ?_
            have e19 := ihR1 _ (Option.some.inj h1).symm
            subst e19
            replace h0 := sm1_r h0
            cases h0
            exact x_iret C R dX11_faultOf_91
        · replace h1 := ob_pos c18 h1
          refine x_iload_n C 1 dX11_faultOf_66 rfl ?_
          have e19 := ihR1 _ (Option.some.inj h1).symm
          subst e19
          replace h0 := sm1_r h0
          cases h0
          exact x_iret C R dX11_faultOf_67
    · replace h1 := ob_pos c12 h1
      refine x_iinc (v := (x2 + 1)) (lv' := [(2, .int (x2 + 1)), (0, .ref (kad K 0)), (1, .int a1)]) C 0 dX11_faultOf_33 rfl rfl (by rw [e5]; decide) rfl ?_
      refine x_goto C 7 dX11_faultOf_36 (by decide) ?_
      refine x_lv (lv' := [(2, .int (x2 + 1)), (0, .ref (kad K 0)), (1, .int a1)]) [0, 1, 2] rfl ?_
      exact ihL1 _ (Option.some.inj h1).symm
set_option maxHeartbeats 4000000 in
set_option maxRecDepth 100000 in
theorem c_X11_fault {l : Launch} {D : va_G} {ad : Nat → Nat} {cy : Nat → ClassId} (hJ : mJ LM ad) {σ τ : mS} {a1 : Int32} {r : Int32}  (h0 : X11_fault σ a1 = some (r, τ)) : MetG l LM D ad cy yX11_fault cX11_fault 2 (some .int) 4 [.ref (ad 0), .int a1] σ (some (.int r)) τ := by
  refine MetG.of hJ (by decide +kernel) [(0, .ref (ad 0)), (1, .int a1)] rfl (Nat.le_of_ble_eq_true rfl) ?_
  intro K e1 e2 e3 e4 e5 C R
  subst e1
  subst e2
  subst e3
  subst e4
  unfold X11_fault at h0
  refine x_aload_n C 0 dX11_fault_0 rfl ?_
  refine x_iload_n C 1 dX11_fault_1 rfl ?_
  refine x_callV (ar := 1) (q := (RX11, TX11, 22)) (rest := []) C (c_X11_isText C.2.2.2.2.2.2.1  rfl) (iM 0 (by decide)) rfl rfl hy_X11_isText ⟨tw878, tw880, tw37, tw75, tw881⟩ (by decide) (by decide) rfl rfl (Nat.le_of_ble_eq_true rfl) dX11_fault_2 ?_
  show Wx LM K σ 5 [(0, .ref (kad K 0)), (1, .int a1)] [.int (X11_isText a1)]
  refine x_ifne C 10 dX11_fault_5 (by decide) (fun c3 => ?_) (fun c3 => ?_)
  · replace h0 := ob_neg c3 h0
    refine x_aload_n C 0 dX11_fault_10 rfl ?_
    refine x_getR (j := 3) (i := 19) (q := (RX11, TX11, 22)) C 4 (iM 0 (by decide)) rfl rfl inBX11 (by decide) tw766 rfl dX11_fault_11 ?_
    refine x_iload_n C 1 dX11_fault_14 rfl ?_
    obtain ⟨c4, h0⟩ := ob_if h0
    refine x_iald C (iM 4 (by decide)) rfl (vin_in c4) dX11_fault_15 ?_
    refine x_ifge C 27 dX11_fault_16 (by decide) (fun c6 => ?_) (fun c6 => ?_)
    · replace h0 := ob_pos c6 h0
      refine x_aload_n C 0 dX11_fault_27 rfl ?_
      refine x_iload_n C 1 dX11_fault_28 rfl ?_
      obtain ⟨r7, s9, g8, h0⟩ := ob_bd h0
      refine x_callV (ar := 1) (q := (RX11, TX11, 22)) (rest := []) C (c_X11_faultOf C.2.2.2.2.2.2.1  g8) (iM 0 (by decide)) rfl rfl hy_X11_faultOf ⟨tw891, tw893, tw38, tw75, tw894⟩ (by decide) (by decide) rfl rfl (Nat.le_of_ble_eq_true rfl) dX11_fault_29 ?_
      show Wx LM K s9 32 [(0, .ref (kad K 0)), (1, .int a1)] [.int r7]
      cases h0
      exact x_iret C R dX11_fault_32
    · replace h0 := ob_neg c6 h0
      refine x_aload_n C 0 dX11_fault_19 rfl ?_
      refine x_iconst (v := 1) C dX11_fault_20 rfl ?_
      obtain ⟨r10, s12, g11, h0⟩ := ob_bd h0
      refine x_callV (ar := 1) (q := (RX11, TX11, 22)) (rest := []) C (c_X11_finds C.2.2.2.2.2.2.1  g11) (iM 0 (by decide)) rfl rfl hy_X11_finds ⟨tw842, tw844, tw34, tw75, tw845⟩ (by decide) (by decide) rfl rfl (Nat.le_of_ble_eq_true rfl) dX11_fault_21 ?_
      show Wx LM K s12 24 [(0, .ref (kad K 0)), (1, .int a1)] [.int r10]
      refine x_goto C 32 dX11_fault_24 (by decide) ?_
      cases h0
      exact x_iret C R dX11_fault_32
  · replace h0 := ob_pos c3 h0
    refine x_iconst (v := (-1)) C dX11_fault_8 rfl ?_
    cases h0
    exact x_iret C R dX11_fault_9
set_option maxHeartbeats 4000000 in
set_option maxRecDepth 100000 in
theorem c_X11_hall {l : Launch} {D : va_G} {ad : Nat → Nat} {cy : Nat → ClassId} (hJ : mJ LM ad) {σ τ : mS} {a1 : Int32} {r : Int32}  (h0 : X11_hall σ a1 = some (r, τ)) : MetG l LM D ad cy yX11_hall cX11_hall 3 (some .int) 4 [.ref (ad 0), .int a1] σ (some (.int r)) τ := by
  refine MetG.of hJ (by decide +kernel) [(0, .ref (ad 0)), (1, .int a1)] rfl (Nat.le_of_ble_eq_true rfl) ?_
  intro K e1 e2 e3 e4 e5 C R
  subst e1
  subst e2
  subst e3
  subst e4
  unfold X11_hall at h0
  refine x_aload_n C 0 dX11_hall_0 rfl ?_
  refine x_iload_n C 1 dX11_hall_1 rfl ?_
  refine x_callV (ar := 1) (q := (RX11, TX11, 22)) (rest := []) C (c_X11_isText C.2.2.2.2.2.2.1  rfl) (iM 0 (by decide)) rfl rfl hy_X11_isText ⟨tw878, tw880, tw37, tw75, tw881⟩ (by decide) (by decide) rfl rfl (Nat.le_of_ble_eq_true rfl) dX11_hall_2 ?_
  show Wx LM K σ 5 [(0, .ref (kad K 0)), (1, .int a1)] [.int (X11_isText a1)]
  refine x_ifne C 10 dX11_hall_5 (by decide) (fun c3 => ?_) (fun c3 => ?_)
  · replace h0 := ob_neg c3 h0
    refine x_aload_n C 0 dX11_hall_10 rfl ?_
    refine x_getR (j := 3) (i := 19) (q := (RX11, TX11, 22)) C 4 (iM 0 (by decide)) rfl rfl inBX11 (by decide) tw766 rfl dX11_hall_11 ?_
    refine x_iload_n C 1 dX11_hall_14 rfl ?_
    obtain ⟨c4, h0⟩ := ob_if h0
    refine x_iald C (iM 4 (by decide)) rfl (vin_in c4) dX11_hall_15 ?_
    refine x_ifge C 25 dX11_hall_16 (by decide) (fun c6 => ?_) (fun c6 => ?_)
    · replace h0 := ob_pos c6 h0
      refine x_aload_n C 0 dX11_hall_25 rfl ?_
      refine x_iload_n C 1 dX11_hall_26 rfl ?_
      obtain ⟨r7, s9, g8, h0⟩ := ob_bd h0
      refine x_callV (ar := 1) (q := (RX11, TX11, 22)) (rest := []) C (c_X11_faultOf C.2.2.2.2.2.2.1  g8) (iM 0 (by decide)) rfl rfl hy_X11_faultOf ⟨tw891, tw893, tw38, tw75, tw894⟩ (by decide) (by decide) rfl rfl (Nat.le_of_ble_eq_true rfl) dX11_hall_27 ?_
      show Wx LM K s9 30 [(0, .ref (kad K 0)), (1, .int a1)] [.int r7]
      refine x_bipush (v := (-9)) C dX11_hall_30 rfl ?_
      refine x_icmpeq C 38 dX11_hall_32 (by decide) (fun c11 => ?_) (fun c11 => ?_)
      · replace h0 := ob_pos c11 h0
        refine x_aload_n C 0 dX11_hall_38 rfl ?_
        refine x_aload_n C 0 dX11_hall_39 rfl ?_
        refine x_getI (j := 8) (i := 111) (q := (RX11, TX11, 22)) C (iM 0 (by decide)) rfl rfl inBX11 (by decide) tw771 rfl dX11_hall_40 ?_
        refine x_putI (j := 5) (i := 124) (q := (RX11, TX11, 22)) C tyX11 tyX11_ok nmX11 (iM 0 (by decide)) rfl rfl inBX11 (by decide) tw768 rfl (by decide +kernel) rfl dX11_hall_43 ?_
        refine x_iconst (v := 0) C dX11_hall_46 rfl ?_
        refine x_istore_n (lv' := [(2, .int 0), (0, .ref (kad K 0)), (1, .int a1)]) C dX11_hall_47 (by rw [e5]; decide) rfl ?_
        obtain ⟨e47, g48, h0⟩ := ob_bind h0
        have J1 : ∀ (s14 : mS), s14 = e47 → Wx LM K s14 74 [(0, .ref (kad K 0))] [] := by
          intro s14 e9
          subst e9
          replace h0 := un1_l h0
          refine x_iconst (v := 0) C dX11_hall_74 rfl ?_
          refine x_istore_n (lv' := [(2, .int 0), (0, .ref (kad K 0))]) C dX11_hall_75 (by rw [e5]; decide) rfl ?_
          obtain ⟨e41, g42, h0⟩ := ob_bind h0
          have J2 : ∀ (s17 : mS), s17 = e41 → Wx LM K s17 100 [(0, .ref (kad K 0))] [] := by
            intro s17 e9
            subst e9
            replace h0 := un1_l h0
            refine x_iconst (v := 0) C dX11_hall_100 rfl ?_
            refine x_istore_n (lv' := [(2, .int 0), (0, .ref (kad K 0))]) C dX11_hall_101 (by rw [e5]; decide) rfl ?_
            obtain ⟨e35, g36, h0⟩ := ob_bind h0
            have J3 : ∀ (s20 : mS), s20 = e35 → Wx LM K s20 132 [(0, .ref (kad K 0))] [] := by
              intro s20 e9
              subst e9
              replace h0 := un1_l h0
              refine x_aload_n C 0 dX11_hall_132 rfl ?_
              refine x_iconst (v := 0) C dX11_hall_133 rfl ?_
              refine x_putI (j := 12) (i := 127) (q := (RX11, TX11, 22)) C tyX11 tyX11_ok nmX11 (iM 0 (by decide)) rfl rfl inBX11 (by decide) tw775 rfl (by decide +kernel) rfl dX11_hall_134 ?_
              refine x_iconst (v := 0) C dX11_hall_137 rfl ?_
              refine x_istore_n (lv' := [(2, .int 0), (0, .ref (kad K 0))]) C dX11_hall_138 (by rw [e5]; decide) rfl ?_
              obtain ⟨e27, g28, h0⟩ := ob_bind h0
              have J4 : ∀ (s23 : mS), s23 = e27 → Wx LM K s23 157 [(0, .ref (kad K 0))] [] := by
                intro s23 e9
                subst e9
                replace h0 := un1_l h0
                refine x_aload_n C 0 dX11_hall_157 rfl ?_
                refine x_getI (j := 5) (i := 124) (q := (RX11, TX11, 22)) C (iM 0 (by decide)) rfl rfl inBX11 (by decide) tw768 rfl dX11_hall_158 ?_
                cases h0
                exact x_iret C R dX11_hall_161
              refine lp_G (G := fun q : mS × Int32 => Wx LM K q.1 139 [(2, .int q.2), (0, .ref (kad K 0))] []) (fun q x h4 ihL4 ihR4 => ?_) big _ g28
              obtain ⟨s21, x22⟩ := q
              replace h4 : X11_hall_b139 s21 x22 = some x := h4
              unfold X11_hall_b139 at h4
              show Wx LM K s21 139 [(2, .int x22), (0, .ref (kad K 0))] []
              refine x_iload_n C 0 dX11_hall_139 rfl ?_
              refine x_iconst (v := 3) C dX11_hall_140 rfl ?_
              refine x_icmpge C 157 dX11_hall_141 (by decide) (fun c25 => ?_) (fun c25 => ?_)
              · replace h4 := ob_pos c25 h4
                refine x_lv (lv' := [(0, .ref (kad K 0))]) [1] rfl ?_
                exact J4 _ (ihR4 _ (Option.some.inj h4).symm)
              · replace h4 := ob_neg c25 h4
                refine x_aload_n C 1 dX11_hall_144 rfl ?_
                refine x_getR (j := 13) (i := 41) (q := (RX11, TX11, 22)) C 11 (iM 0 (by decide)) rfl rfl inBX11 (by decide) tw776 rfl dX11_hall_145 ?_
                refine x_iload_n C 0 dX11_hall_148 rfl ?_
                refine x_iconst (v := (-1)) C dX11_hall_149 rfl ?_
                obtain ⟨c26, h4⟩ := ob_if h4
                refine x_iast C (iM 11 (by decide)) rfl (vin_in c26) dX11_hall_150 ?_
                refine x_iinc (v := (x22 + 1)) (lv' := [(2, .int (x22 + 1)), (0, .ref (kad K 0))]) C 0 dX11_hall_151 rfl rfl (by rw [e5]; decide) rfl ?_
                refine x_goto C 139 dX11_hall_154 (by decide) ?_
                refine x_lv (lv' := [(2, .int (x22 + 1)), (0, .ref (kad K 0))]) [0, 1] rfl ?_
                exact ihL4 _ (Option.some.inj h4).symm
            refine lp_G (G := fun q : mS × Int32 => Wx LM K q.1 102 [(2, .int q.2), (0, .ref (kad K 0))] []) (fun q x h3 ihL3 ihR3 => ?_) big _ g36
            obtain ⟨s18, x19⟩ := q
            replace h3 : X11_hall_b102 s18 x19 = some x := h3
            unfold X11_hall_b102 at h3
            show Wx LM K s18 102 [(2, .int x19), (0, .ref (kad K 0))] []
            refine x_iload_n C 0 dX11_hall_102 rfl ?_
            refine x_bipush (v := 8) C dX11_hall_103 rfl ?_
            refine x_icmpge C 132 dX11_hall_105 (by decide) (fun c30 => ?_) (fun c30 => ?_)
            · replace h3 := ob_pos c30 h3
              refine x_lv (lv' := [(0, .ref (kad K 0))]) [1] rfl ?_
              exact J3 _ (ihR3 _ (Option.some.inj h3).symm)
            · replace h3 := ob_neg c30 h3
              refine x_aload_n C 1 dX11_hall_108 rfl ?_
              refine x_getR (j := 11) (i := 38) (q := (RX11, TX11, 22)) C 10 (iM 0 (by decide)) rfl rfl inBX11 (by decide) tw774 rfl dX11_hall_109 ?_
              refine x_iload_n C 0 dX11_hall_112 rfl ?_
              refine x_iload_n C 0 dX11_hall_113 rfl ?_
              refine x_iconst (v := 5) C dX11_hall_114 rfl ?_
              refine x_icmpne C 124 dX11_hall_115 (by decide) (fun c32 => ?_) (fun c32 => ?_)
              · replace h3 := ob_neg c32 h3
                refine x_iconst (v := 0) C dX11_hall_124 rfl ?_
                obtain ⟨c33, h3⟩ := ob_if h3
                refine x_iast C (iM 10 (by decide)) rfl (vin_in c33) dX11_hall_125 ?_
                refine x_iinc (v := (x19 + 1)) (lv' := [(2, .int (x19 + 1)), (0, .ref (kad K 0))]) C 0 dX11_hall_126 rfl rfl (by rw [e5]; decide) rfl ?_
                refine x_goto C 102 dX11_hall_129 (by decide) ?_
                refine x_lv (lv' := [(2, .int (x19 + 1)), (0, .ref (kad K 0))]) [0, 1] rfl ?_
                exact ihL3 _ (Option.some.inj h3).symm
              · replace h3 := ob_pos c32 h3
                refine x_sipush (v := 8190) C dX11_hall_118 rfl ?_
                refine x_goto C 125 dX11_hall_121 (by decide) ?_
                obtain ⟨c34, h3⟩ := ob_if h3
                refine x_iast C (iM 10 (by decide)) rfl (vin_in c34) dX11_hall_125 ?_
                refine x_iinc (v := (x19 + 1)) (lv' := [(2, .int (x19 + 1)), (0, .ref (kad K 0))]) C 0 dX11_hall_126 rfl rfl (by rw [e5]; decide) rfl ?_
                refine x_goto C 102 dX11_hall_129 (by decide) ?_
                refine x_lv (lv' := [(2, .int (x19 + 1)), (0, .ref (kad K 0))]) [0, 1] rfl ?_
                exact ihL3 _ (Option.some.inj h3).symm
          refine lp_G (G := fun q : mS × Int32 => Wx LM K q.1 76 [(2, .int q.2), (0, .ref (kad K 0))] []) (fun q x h2 ihL2 ihR2 => ?_) big _ g42
          obtain ⟨s15, x16⟩ := q
          replace h2 : X11_hall_b76 s15 x16 = some x := h2
          unfold X11_hall_b76 at h2
          show Wx LM K s15 76 [(2, .int x16), (0, .ref (kad K 0))] []
          refine x_iload_n C 0 dX11_hall_76 rfl ?_
          refine x_bipush (v := 24) C dX11_hall_77 rfl ?_
          refine x_icmpge C 100 dX11_hall_79 (by decide) (fun c38 => ?_) (fun c38 => ?_)
          · replace h2 := ob_pos c38 h2
            refine x_lv (lv' := [(0, .ref (kad K 0))]) [1] rfl ?_
            exact J2 _ (ihR2 _ (Option.some.inj h2).symm)
          · replace h2 := ob_neg c38 h2
            refine x_aload_n C 1 dX11_hall_82 rfl ?_
            refine x_getR (j := 7) (i := 29) (q := (RX11, TX11, 22)) C 7 (iM 0 (by decide)) rfl rfl inBX11 (by decide) tw770 rfl dX11_hall_83 ?_
            refine x_iload_n C 0 dX11_hall_86 rfl ?_
            refine x_aload_n C 1 dX11_hall_87 rfl ?_
            refine x_getR (j := 10) (i := 35) (q := (RX11, TX11, 22)) C 9 (iM 0 (by decide)) rfl rfl inBX11 (by decide) tw773 rfl dX11_hall_88 ?_
            refine x_iload_n C 0 dX11_hall_91 rfl ?_
            obtain ⟨c39, h2⟩ := ob_if h2
            refine x_iald C (iM 9 (by decide)) rfl (vin_in c39) dX11_hall_92 ?_
            obtain ⟨c40, h2⟩ := ob_if h2
            refine x_iast C (iM 7 (by decide)) rfl (vin_in c40) dX11_hall_93 ?_
            refine x_iinc (v := (x16 + 1)) (lv' := [(2, .int (x16 + 1)), (0, .ref (kad K 0))]) C 0 dX11_hall_94 rfl rfl (by rw [e5]; decide) rfl ?_
            refine x_goto C 76 dX11_hall_97 (by decide) ?_
            refine x_lv (lv' := [(2, .int (x16 + 1)), (0, .ref (kad K 0))]) [0, 1] rfl ?_
            exact ihL2 _ (Option.some.inj h2).symm
        refine x_lv (lv' := [(2, .int 0), (0, .ref (kad K 0))]) [0, 1] rfl ?_
        refine lp_G (G := fun q : mS × Int32 => Wx LM K q.1 48 [(2, .int q.2), (0, .ref (kad K 0))] []) (fun q x h1 ihL1 ihR1 => ?_) big _ g48
        obtain ⟨s12, x13⟩ := q
        replace h1 : X11_hall_b48 s12 x13 = some x := h1
        unfold X11_hall_b48 at h1
        show Wx LM K s12 48 [(2, .int x13), (0, .ref (kad K 0))] []
        refine x_iload_n C 0 dX11_hall_48 rfl ?_
        refine x_aload_n C 1 dX11_hall_49 rfl ?_
        refine x_getI (j := 5) (i := 124) (q := (RX11, TX11, 22)) C (iM 0 (by decide)) rfl rfl inBX11 (by decide) tw768 rfl dX11_hall_50 ?_
        refine x_icmpge C 74 dX11_hall_53 (by decide) (fun c44 => ?_) (fun c44 => ?_)
        · replace h1 := ob_pos c44 h1
          refine x_lv (lv' := [(0, .ref (kad K 0))]) [1] rfl ?_
          exact J1 _ (ihR1 _ (Option.some.inj h1).symm)
        · replace h1 := ob_neg c44 h1
          refine x_aload_n C 1 dX11_hall_56 rfl ?_
          refine x_getR (j := 6) (i := 26) (q := (RX11, TX11, 22)) C 6 (iM 0 (by decide)) rfl rfl inBX11 (by decide) tw769 rfl dX11_hall_57 ?_
          refine x_iload_n C 0 dX11_hall_60 rfl ?_
          refine x_aload_n C 1 dX11_hall_61 rfl ?_
          refine x_getR (j := 9) (i := 32) (q := (RX11, TX11, 22)) C 8 (iM 0 (by decide)) rfl rfl inBX11 (by decide) tw772 rfl dX11_hall_62 ?_
          refine x_iload_n C 0 dX11_hall_65 rfl ?_
          obtain ⟨c45, h1⟩ := ob_if h1
          refine x_iald C (iM 8 (by decide)) rfl (vin_in c45) dX11_hall_66 ?_
          obtain ⟨c46, h1⟩ := ob_if h1
          refine x_iast C (iM 6 (by decide)) rfl (vin_in c46) dX11_hall_67 ?_
          refine x_iinc (v := (x13 + 1)) (lv' := [(2, .int (x13 + 1)), (0, .ref (kad K 0))]) C 0 dX11_hall_68 rfl rfl (by rw [e5]; decide) rfl ?_
          refine x_goto C 48 dX11_hall_71 (by decide) ?_
          refine x_lv (lv' := [(2, .int (x13 + 1)), (0, .ref (kad K 0))]) [0, 1] rfl ?_
          exact ihL1 _ (Option.some.inj h1).symm
      · replace h0 := ob_neg c11 h0
        refine x_bipush (v := (-4)) C dX11_hall_35 rfl ?_
        cases h0
        exact x_iret C R dX11_hall_37
    · replace h0 := ob_neg c6 h0
      refine x_aload_n C 0 dX11_hall_19 rfl ?_
      refine x_iconst (v := 1) C dX11_hall_20 rfl ?_
      obtain ⟨r49, s51, g50, h0⟩ := ob_bd h0
      refine x_callV (ar := 1) (q := (RX11, TX11, 22)) (rest := []) C (c_X11_finds C.2.2.2.2.2.2.1  g50) (iM 0 (by decide)) rfl rfl hy_X11_finds ⟨tw842, tw844, tw34, tw75, tw845⟩ (by decide) (by decide) rfl rfl (Nat.le_of_ble_eq_true rfl) dX11_hall_21 ?_
      show Wx LM K s51 24 [(0, .ref (kad K 0)), (1, .int a1)] [.int r49]
      cases h0
      exact x_iret C R dX11_hall_24
  · replace h0 := ob_pos c3 h0
    refine x_iconst (v := (-1)) C dX11_hall_8 rfl ?_
    cases h0
    exact x_iret C R dX11_hall_9
set_option maxHeartbeats 4000000 in
set_option maxRecDepth 100000 in
theorem c_X11_isPlayer {l : Launch} {D : va_G} {ad : Nat → Nat} {cy : Nat → ClassId} (hJ : mJ LM ad) {σ : mS} {a1 : Int32} {r : Int32}  (h0 : X11_isPlayer σ a1 = r) : MetG l LM D ad cy yX11_isPlayer cX11_isPlayer 2 (some .boolean) 1 [.ref (ad 0), .int a1] σ (some (.int r)) σ := by
  refine MetG.of hJ (by decide +kernel) [(0, .ref (ad 0)), (1, .int a1)] rfl (Nat.le_of_ble_eq_true rfl) ?_
  intro K e1 e2 e3 e4 e5 C R
  subst e1
  subst e2
  subst e3
  subst e4
  unfold X11_isPlayer at h0
  refine x_iload_n C 1 dX11_isPlayer_0 rfl ?_
  refine x_i2l C dX11_isPlayer_1 ?_
  refine x_lconst (v := 0) C dX11_isPlayer_2 rfl ?_
  refine x_aload_n C 0 dX11_isPlayer_3 rfl ?_
  refine x_getI (j := 5) (i := 124) (q := (RX11, TX11, 22)) C (iM 0 (by decide)) rfl rfl inBX11 (by decide) tw768 rfl dX11_isPlayer_4 ?_
  refine x_iconst (v := 1) C dX11_isPlayer_7 rfl ?_
  refine x_isub C dX11_isPlayer_8 ?_
  refine x_i2l C dX11_isPlayer_9 ?_
  refine x_callS (ar := 3) (rest := []) C (c_X11_in C.2.2.2.2.2.2.1  rfl) hy_X11_in ⟨tw839, tw840, tw75, tw841⟩ (by decide) (by decide) rfl rfl (Nat.le_of_ble_eq_true rfl) dX11_isPlayer_10 ?_
  show Wx LM K σ 13 [(0, .ref (kad K 0)), (1, .int a1)] [.int (X11_in ((a1).toInt64) (0) ((((σ.1 0 5) - 1)).toInt64))]
  subst h0
  exact x_zret C (zb_X11_in ..) R dX11_isPlayer_13
set_option maxHeartbeats 4000000 in
set_option maxRecDepth 100000 in
theorem c_X11_isA {l : Launch} {D : va_G} {ad : Nat → Nat} {cy : Nat → ClassId} (hJ : mJ LM ad) {σ : mS} {a1 : Int32} {a2 : Int32} {r : Int32}  (h0 : X11_isA a1 a2 = r) : MetG l LM D ad cy yX11_isA cX11_isA 2 (some .boolean) 0 [.int a1, .int a2] σ (some (.int r)) σ := by
  refine MetG.of hJ (by decide +kernel) [(0, .int a1), (1, .int a2)] rfl (Nat.le_of_ble_eq_true rfl) ?_
  intro K e1 e2 e3 e4 e5 C R
  subst e1
  subst e2
  subst e3
  subst e4
  unfold X11_isA at h0
  refine x_iload_n C 0 dX11_isA_0 rfl ?_
  refine x_iload_n C 1 dX11_isA_1 rfl ?_
  refine x_icmpeq C 29 dX11_isA_2 (by decide) (fun c2 => ?_) (fun c2 => ?_)
  · replace h0 := ob_pos c2 h0
    refine x_iconst (v := 1) C dX11_isA_29 rfl ?_
    refine x_goto C 34 dX11_isA_30 (by decide) ?_
    subst h0
    exact x_zret C (Or.inr rfl) R dX11_isA_34
  · replace h0 := ob_neg c2 h0
    refine x_iload_n C 1 dX11_isA_5 rfl ?_
    refine x_ifeq C 29 dX11_isA_6 (by decide) (fun c4 => ?_) (fun c4 => ?_)
    · replace h0 := ob_pos c4 h0
      refine x_iconst (v := 1) C dX11_isA_29 rfl ?_
      refine x_goto C 34 dX11_isA_30 (by decide) ?_
      subst h0
      exact x_zret C (Or.inr rfl) R dX11_isA_34
    · replace h0 := ob_neg c4 h0
      refine x_iload_n C 1 dX11_isA_9 rfl ?_
      refine x_iconst (v := 1) C dX11_isA_10 rfl ?_
      refine x_icmpne C 19 dX11_isA_11 (by decide) (fun c6 => ?_) (fun c6 => ?_)
      · replace h0 := ob_neg c6 h0
        refine x_iload_n C 1 dX11_isA_19 rfl ?_
        refine x_iconst (v := 2) C dX11_isA_20 rfl ?_
        refine x_icmpne C 33 dX11_isA_21 (by decide) (fun c8 => ?_) (fun c8 => ?_)
        · replace h0 := ob_neg c8 h0
          refine x_iconst (v := 0) C dX11_isA_33 rfl ?_
          subst h0
          exact x_zret C (Or.inl rfl) R dX11_isA_34
        · replace h0 := ob_pos c8 h0
          refine x_iload_n C 0 dX11_isA_24 rfl ?_
          refine x_iconst (v := 5) C dX11_isA_25 rfl ?_
          refine x_icmpne C 33 dX11_isA_26 (by decide) (fun c10 => ?_) (fun c10 => ?_)
          · replace h0 := ob_neg c10 h0
            refine x_iconst (v := 0) C dX11_isA_33 rfl ?_
            subst h0
            exact x_zret C (Or.inl rfl) R dX11_isA_34
          · replace h0 := ob_pos c10 h0
            refine x_iconst (v := 1) C dX11_isA_29 rfl ?_
            refine x_goto C 34 dX11_isA_30 (by decide) ?_
            subst h0
            exact x_zret C (Or.inr rfl) R dX11_isA_34
      · replace h0 := ob_pos c6 h0
        refine x_iload_n C 0 dX11_isA_14 rfl ?_
        refine x_iconst (v := 4) C dX11_isA_15 rfl ?_
        refine x_icmpeq C 29 dX11_isA_16 (by decide) (fun c12 => ?_) (fun c12 => ?_)
        · replace h0 := ob_pos c12 h0
          refine x_iconst (v := 1) C dX11_isA_29 rfl ?_
          refine x_goto C 34 dX11_isA_30 (by decide) ?_
          subst h0
          exact x_zret C (Or.inr rfl) R dX11_isA_34
        · replace h0 := ob_neg c12 h0
          refine x_iload_n C 1 dX11_isA_19 rfl ?_
          refine x_iconst (v := 2) C dX11_isA_20 rfl ?_
          refine x_icmpne C 33 dX11_isA_21 (by decide) (fun c14 => ?_) (fun c14 => ?_)
          · replace h0 := ob_neg c14 h0
            refine x_iconst (v := 0) C dX11_isA_33 rfl ?_
            subst h0
            exact x_zret C (Or.inl rfl) R dX11_isA_34
          · replace h0 := ob_pos c14 h0
            refine x_iload_n C 0 dX11_isA_24 rfl ?_
            refine x_iconst (v := 5) C dX11_isA_25 rfl ?_
            refine x_icmpne C 33 dX11_isA_26 (by decide) (fun c16 => ?_) (fun c16 => ?_)
            · replace h0 := ob_neg c16 h0
              refine x_iconst (v := 0) C dX11_isA_33 rfl ?_
              subst h0
              exact x_zret C (Or.inl rfl) R dX11_isA_34
            · replace h0 := ob_pos c16 h0
              refine x_iconst (v := 1) C dX11_isA_29 rfl ?_
              refine x_goto C 34 dX11_isA_30 (by decide) ?_
              subst h0
              exact x_zret C (Or.inr rfl) R dX11_isA_34
set_option maxHeartbeats 4000000 in
set_option maxRecDepth 100000 in
theorem c_X11_heard {l : Launch} {D : va_G} {ad : Nat → Nat} {cy : Nat → ClassId} (hJ : mJ LM ad) {σ : mS} {a1 : Int32} {a2 : Int32} {a3 : Int32} {a4 : Int32} {r : Int32}  (h0 : X11_heard a1 a2 a3 a4 = r) : MetG l LM D ad cy yX11_heard cX11_heard 4 (some .int) 1 [.int a1, .int a2, .int a3, .int a4] σ (some (.int r)) σ := by
  refine MetG.of hJ (by decide +kernel) [(0, .int a1), (1, .int a2), (2, .int a3), (3, .int a4)] rfl (Nat.le_of_ble_eq_true rfl) ?_
  intro K e1 e2 e3 e4 e5 C R
  subst e1
  subst e2
  subst e3
  subst e4
  unfold X11_heard at h0
  refine x_iload_n C 0 dX11_heard_0 rfl ?_
  refine x_iconst (v := 4) C dX11_heard_1 rfl ?_
  refine x_icmpne C 17 dX11_heard_2 (by decide) (fun c2 => ?_) (fun c2 => ?_)
  · replace h0 := ob_neg c2 h0
    refine x_iload_n C 0 dX11_heard_17 rfl ?_
    refine x_iconst (v := 2) C dX11_heard_18 rfl ?_
    refine x_callS (ar := 2) (rest := []) C (c_X11_isA C.2.2.2.2.2.2.1  rfl) hy_X11_isA ⟨tw942, tw943, tw75, tw944⟩ (by decide) (by decide) rfl rfl (Nat.le_of_ble_eq_true rfl) dX11_heard_19 ?_
    show Wx LM K σ 22 [(0, .int a1), (1, .int a2), (2, .int a3), (3, .int a4)] [.int (X11_isA a1 (2))]
    refine x_ifeq C 34 dX11_heard_22 (by decide) (fun c5 => ?_) (fun c5 => ?_)
    · replace h0 := ob_pos c5 h0
      refine x_iload_n C 0 dX11_heard_34 rfl ?_
      refine x_iconst (v := 5) C dX11_heard_35 rfl ?_
      refine x_icmpne C 54 dX11_heard_36 (by decide) (fun c7 => ?_) (fun c7 => ?_)
      · replace h0 := ob_neg c7 h0
        refine x_iconst (v := 1) C dX11_heard_54 rfl ?_
        refine x_iload_n C 1 dX11_heard_55 rfl ?_
        refine x_ishl C dX11_heard_56 ?_
        subst h0
        exact x_iret C R dX11_heard_57
      · replace h0 := ob_pos c7 h0
        refine x_iconst (v := 1) C dX11_heard_39 rfl ?_
        refine x_iload_n C 1 dX11_heard_40 rfl ?_
        refine x_ishl C dX11_heard_41 ?_
        refine x_iconst (v := 1) C dX11_heard_42 rfl ?_
        refine x_iload_n C 1 dX11_heard_43 rfl ?_
        refine x_bipush (v := 12) C dX11_heard_44 rfl ?_
        refine x_irem C dX11_heard_46 (by decide) ?_
        refine x_iconst (v := 1) C dX11_heard_47 rfl ?_
        refine x_iadd C dX11_heard_48 ?_
        refine x_ishl C dX11_heard_49 ?_
        refine x_ior C dX11_heard_50 ?_
        refine x_goto C 57 dX11_heard_51 (by decide) ?_
        subst h0
        exact x_iret C R dX11_heard_57
    · replace h0 := ob_neg c5 h0
      refine x_iload_n C 3 dX11_heard_25 rfl ?_
      refine x_iconst (v := 3) C dX11_heard_26 rfl ?_
      refine x_irem C dX11_heard_27 (by decide) ?_
      refine x_iconst (v := 2) C dX11_heard_28 rfl ?_
      refine x_icmpne C 34 dX11_heard_29 (by decide) (fun c9 => ?_) (fun c9 => ?_)
      · replace h0 := ob_neg c9 h0
        refine x_iload_n C 0 dX11_heard_34 rfl ?_
        refine x_iconst (v := 5) C dX11_heard_35 rfl ?_
        refine x_icmpne C 54 dX11_heard_36 (by decide) (fun c11 => ?_) (fun c11 => ?_)
        · replace h0 := ob_neg c11 h0
          refine x_iconst (v := 1) C dX11_heard_54 rfl ?_
          refine x_iload_n C 1 dX11_heard_55 rfl ?_
          refine x_ishl C dX11_heard_56 ?_
          subst h0
          exact x_iret C R dX11_heard_57
        · replace h0 := ob_pos c11 h0
          refine x_iconst (v := 1) C dX11_heard_39 rfl ?_
          refine x_iload_n C 1 dX11_heard_40 rfl ?_
          refine x_ishl C dX11_heard_41 ?_
          refine x_iconst (v := 1) C dX11_heard_42 rfl ?_
          refine x_iload_n C 1 dX11_heard_43 rfl ?_
          refine x_bipush (v := 12) C dX11_heard_44 rfl ?_
          refine x_irem C dX11_heard_46 (by decide) ?_
          refine x_iconst (v := 1) C dX11_heard_47 rfl ?_
          refine x_iadd C dX11_heard_48 ?_
          refine x_ishl C dX11_heard_49 ?_
          refine x_ior C dX11_heard_50 ?_
          refine x_goto C 57 dX11_heard_51 (by decide) ?_
          subst h0
          exact x_iret C R dX11_heard_57
      · replace h0 := ob_pos c9 h0
        refine x_iconst (v := 0) C dX11_heard_32 rfl ?_
        subst h0
        exact x_iret C R dX11_heard_33
  · replace h0 := ob_pos c2 h0
    refine x_iload_n C 2 dX11_heard_5 rfl ?_
    refine x_ifne C 13 dX11_heard_6 (by decide) (fun c13 => ?_) (fun c13 => ?_)
    · replace h0 := ob_neg c13 h0
      refine x_iconst (v := 1) C dX11_heard_13 rfl ?_
      refine x_iload_n C 2 dX11_heard_14 rfl ?_
      refine x_ishl C dX11_heard_15 ?_
      subst h0
      exact x_iret C R dX11_heard_16
    · replace h0 := ob_pos c13 h0
      refine x_iconst (v := 0) C dX11_heard_9 rfl ?_
      refine x_goto C 16 dX11_heard_10 (by decide) ?_
      subst h0
      exact x_iret C R dX11_heard_16
set_option maxHeartbeats 4000000 in
set_option maxRecDepth 100000 in
theorem c_X11_needs {l : Launch} {D : va_G} {ad : Nat → Nat} {cy : Nat → ClassId} (hJ : mJ LM ad) {σ : mS} {a1 : Int32} {a2 : Int32} {r : Int32}  (h0 : X11_needs a1 a2 = some r) : MetG l LM D ad cy yX11_needs cX11_needs 6 (some .int) 1 [.int a1, .int a2] σ (some (.int r)) σ := by
  refine MetG.of hJ (by decide +kernel) [(0, .int a1), (1, .int a2)] rfl (Nat.le_of_ble_eq_true rfl) ?_
  intro K e1 e2 e3 e4 e5 C R
  subst e1
  subst e2
  subst e3
  subst e4
  unfold X11_needs at h0
  refine x_iconst (v := 3) C dX11_needs_0 rfl ?_
  refine x_iload_n C 1 dX11_needs_1 rfl ?_
  refine x_bipush (v := 7) C dX11_needs_2 rfl ?_
  refine x_iand C dX11_needs_4 ?_
  obtain ⟨r1, g2, h0⟩ := ob_bind h0
  refine x_callS (ar := 1) (rest := [.int 3]) C (c_X11_bits C.2.2.2.2.2.2.1  g2) hy_X11_bits ⟨tw936, tw937, tw75, tw938⟩ (by decide) (by decide) rfl rfl (Nat.le_of_ble_eq_true rfl) dX11_needs_5 ?_
  show Wx LM K σ 8 [(0, .int a1), (1, .int a2)] [.int r1, .int 3]
  refine x_isub C dX11_needs_8 ?_
  refine x_istore_n (lv' := [(2, .int ((3 : Int32) - r1)), (0, .int a1), (1, .int a2)]) C dX11_needs_9 (by rw [e5]; decide) rfl ?_
  refine x_iconst (v := 3) C dX11_needs_10 rfl ?_
  refine x_iload_n C 2 dX11_needs_11 rfl ?_
  refine x_iconst (v := 3) C dX11_needs_12 rfl ?_
  refine x_ishr C dX11_needs_13 ?_
  obtain ⟨r3, g4, h0⟩ := ob_bind h0
  refine x_callS (ar := 1) (rest := [.int 3]) C (c_X11_bits C.2.2.2.2.2.2.1  g4) hy_X11_bits ⟨tw936, tw937, tw75, tw938⟩ (by decide) (by decide) rfl rfl (Nat.le_of_ble_eq_true rfl) dX11_needs_14 ?_
  show Wx LM K σ 17 [(2, .int ((3 : Int32) - r1)), (0, .int a1), (1, .int a2)] [.int r3, .int 3]
  refine x_isub C dX11_needs_17 ?_
  refine x_istore_n (lv' := [(3, .int ((3 : Int32) - r3)), (2, .int ((3 : Int32) - r1)), (0, .int a1), (1, .int a2)]) C dX11_needs_18 (by rw [e5]; decide) rfl ?_
  refine x_iload_n C 1 dX11_needs_19 rfl ?_
  refine x_iload_n C 0 dX11_needs_20 rfl ?_
  refine x_callS (ar := 2) (rest := []) C (c_X11_lesser C.2.2.2.2.2.2.1  rfl) hy_X11_lesser ⟨tw908, tw909, tw75, tw910⟩ (by decide) (by decide) rfl rfl (Nat.le_of_ble_eq_true rfl) dX11_needs_21 ?_
  show Wx LM K σ 24 [(3, .int ((3 : Int32) - r3)), (2, .int ((3 : Int32) - r1)), (0, .int a1), (1, .int a2)] [.int (X11_lesser ((3 : Int32) - r1) ((3 : Int32) - r3))]
  refine x_istore (lv' := [(4, .int (X11_lesser ((3 : Int32) - r1) ((3 : Int32) - r3))), (3, .int ((3 : Int32) - r3)), (2, .int ((3 : Int32) - r1)), (0, .int a1), (1, .int a2)]) C dX11_needs_24 (by rw [e5]; decide) rfl ?_
  refine x_iconst (v := 0) C dX11_needs_26 rfl ?_
  refine x_iload_n C 2 dX11_needs_27 rfl ?_
  refine x_iconst (v := 1) C dX11_needs_28 rfl ?_
  refine x_isub C dX11_needs_29 ?_
  refine x_callS (ar := 2) (rest := []) C (c_X11_larger C.2.2.2.2.2.2.1  rfl) hy_X11_larger ⟨tw939, tw940, tw75, tw941⟩ (by decide) (by decide) rfl rfl (Nat.le_of_ble_eq_true rfl) dX11_needs_30 ?_
  show Wx LM K σ 33 [(4, .int (X11_lesser ((3 : Int32) - r1) ((3 : Int32) - r3))), (3, .int ((3 : Int32) - r3)), (2, .int ((3 : Int32) - r1)), (0, .int a1), (1, .int a2)] [.int (X11_larger (0) (((3 : Int32) - r1) - 1))]
  refine x_iconst (v := 0) C dX11_needs_33 rfl ?_
  refine x_iload_n C 1 dX11_needs_34 rfl ?_
  refine x_iconst (v := 1) C dX11_needs_35 rfl ?_
  refine x_isub C dX11_needs_36 ?_
  refine x_callS (ar := 2) (rest := [.int (X11_larger (0) (((3 : Int32) - r1) - 1))]) C (c_X11_larger C.2.2.2.2.2.2.1  rfl) hy_X11_larger ⟨tw939, tw940, tw75, tw941⟩ (by decide) (by decide) rfl rfl (Nat.le_of_ble_eq_true rfl) dX11_needs_37 ?_
  show Wx LM K σ 40 [(4, .int (X11_lesser ((3 : Int32) - r1) ((3 : Int32) - r3))), (3, .int ((3 : Int32) - r3)), (2, .int ((3 : Int32) - r1)), (0, .int a1), (1, .int a2)] [.int (X11_larger (0) (((3 : Int32) - r3) - 1)), .int (X11_larger (0) (((3 : Int32) - r1) - 1))]
  refine x_iadd C dX11_needs_40 ?_
  refine x_istore (lv' := [(5, .int ((X11_larger (0) (((3 : Int32) - r1) - 1)) + (X11_larger (0) (((3 : Int32) - r3) - 1)))), (4, .int (X11_lesser ((3 : Int32) - r1) ((3 : Int32) - r3))), (3, .int ((3 : Int32) - r3)), (2, .int ((3 : Int32) - r1)), (0, .int a1), (1, .int a2)]) C dX11_needs_41 (by rw [e5]; decide) rfl ?_
  refine x_iload_n C 4 dX11_needs_43 rfl ?_
  refine x_iconst (v := 1) C dX11_needs_44 rfl ?_
  refine x_callS (ar := 2) (rest := []) C (c_X11_isA C.2.2.2.2.2.2.1  rfl) hy_X11_isA ⟨tw942, tw943, tw75, tw944⟩ (by decide) (by decide) rfl rfl (Nat.le_of_ble_eq_true rfl) dX11_needs_45 ?_
  show Wx LM K σ 48 [(5, .int ((X11_larger (0) (((3 : Int32) - r1) - 1)) + (X11_larger (0) (((3 : Int32) - r3) - 1)))), (4, .int (X11_lesser ((3 : Int32) - r1) ((3 : Int32) - r3))), (3, .int ((3 : Int32) - r3)), (2, .int ((3 : Int32) - r1)), (0, .int a1), (1, .int a2)] [.int (X11_isA a1 (1))]
  refine x_ifeq C 57 dX11_needs_48 (by decide) (fun c10 => ?_) (fun c10 => ?_)
  · replace h0 := ob_pos c10 h0
    refine x_iload_n C 4 dX11_needs_57 rfl ?_
    refine x_iconst (v := 3) C dX11_needs_58 rfl ?_
    refine x_icmpne C 72 dX11_needs_59 (by decide) (fun c12 => ?_) (fun c12 => ?_)
    · replace h0 := ob_neg c12 h0
      refine x_iload C 1 dX11_needs_72 rfl ?_
      cases h0
      exact x_iret C R dX11_needs_74
    · replace h0 := ob_pos c12 h0
      refine x_iload C 1 dX11_needs_62 rfl ?_
      refine x_iload C 0 dX11_needs_64 rfl ?_
      refine x_callS (ar := 2) (rest := []) C (c_X11_lesser C.2.2.2.2.2.2.1  rfl) hy_X11_lesser ⟨tw908, tw909, tw75, tw910⟩ (by decide) (by decide) rfl rfl (Nat.le_of_ble_eq_true rfl) dX11_needs_66 ?_
      show Wx LM K σ 69 [(5, .int ((X11_larger (0) (((3 : Int32) - r1) - 1)) + (X11_larger (0) (((3 : Int32) - r3) - 1)))), (4, .int (X11_lesser ((3 : Int32) - r1) ((3 : Int32) - r3))), (3, .int ((3 : Int32) - r3)), (2, .int ((3 : Int32) - r1)), (0, .int a1), (1, .int a2)] [.int (X11_lesser (X11_lesser ((3 : Int32) - r1) ((3 : Int32) - r3)) ((X11_larger (0) (((3 : Int32) - r1) - 1)) + (X11_larger (0) (((3 : Int32) - r3) - 1))))]
      refine x_goto C 74 dX11_needs_69 (by decide) ?_
      cases h0
      exact x_iret C R dX11_needs_74
  · replace h0 := ob_neg c10 h0
    refine x_iload_n C 3 dX11_needs_51 rfl ?_
    refine x_iload_n C 2 dX11_needs_52 rfl ?_
    refine x_iadd C dX11_needs_53 ?_
    refine x_goto C 74 dX11_needs_54 (by decide) ?_
    cases h0
    exact x_iret C R dX11_needs_74
set_option maxHeartbeats 4000000 in
set_option maxRecDepth 100000 in
theorem c_X11_marksBy {l : Launch} {D : va_G} {ad : Nat → Nat} {cy : Nat → ClassId} (hJ : mJ LM ad) {σ : mS} {a1 : Int32} {a2 : Int32} {r : Int32}  (h0 : X11_marksBy σ a1 a2 = some r) : MetG l LM D ad cy yX11_marksBy cX11_marksBy 5 (some .int) 1 [.ref (ad 0), .int a1, .int a2] σ (some (.int r)) σ := by
  refine MetG.of hJ (by decide +kernel) [(0, .ref (ad 0)), (1, .int a1), (2, .int a2)] rfl (Nat.le_of_ble_eq_true rfl) ?_
  intro K e1 e2 e3 e4 e5 C R
  subst e1
  subst e2
  subst e3
  subst e4
  unfold X11_marksBy at h0
  refine x_iconst (v := 0) C dX11_marksBy_0 rfl ?_
  refine x_istore_n (lv' := [(3, .int 0), (0, .ref (kad K 0)), (1, .int a1), (2, .int a2)]) C dX11_marksBy_1 (by rw [e5]; decide) rfl ?_
  refine x_iconst (v := 0) C dX11_marksBy_2 rfl ?_
  refine x_istore (lv' := [(4, .int 0), (3, .int 0), (0, .ref (kad K 0)), (1, .int a1), (2, .int a2)]) C dX11_marksBy_3 (by rw [e5]; decide) rfl ?_
  obtain ⟨e10, g11, h0⟩ := ob_bind h0
  have J1 : ∀ (y3 : Int32), y3 = e10 → Wx LM K σ 48 [(3, .int y3)] [] := by
    intro y3 e9
    subst e9
    replace h0 := un1_l h0
    refine x_iload_n C 0 dX11_marksBy_48 rfl ?_
    cases h0
    exact x_iret C R dX11_marksBy_49
  refine lp_G (G := fun q : Int32 × Int32 => Wx LM K σ 5 [(4, .int q.2), (3, .int q.1), (0, .ref (kad K 0)), (1, .int a1), (2, .int a2)] []) (fun q x h1 ihL1 ihR1 => ?_) big _ g11
  obtain ⟨x1, x2⟩ := q
  replace h1 : X11_marksBy_b5 σ a1 a2 x1 x2 = some x := h1
  unfold X11_marksBy_b5 at h1
  show Wx LM K σ 5 [(4, .int x2), (3, .int x1), (0, .ref (kad K 0)), (1, .int a1), (2, .int a2)] []
  refine x_iload C 0 dX11_marksBy_5 rfl ?_
  refine x_bipush (v := 6) C dX11_marksBy_7 rfl ?_
  refine x_icmpge C 48 dX11_marksBy_9 (by decide) (fun c5 => ?_) (fun c5 => ?_)
  · replace h1 := ob_pos c5 h1
    refine x_lv (lv' := [(3, .int x1)]) [1] rfl ?_
    exact J1 _ (ihR1 _ (Option.some.inj h1).symm)
  · replace h1 := ob_neg c5 h1
    refine x_iload_n C 1 dX11_marksBy_12 rfl ?_
    refine x_iload_n C 4 dX11_marksBy_13 rfl ?_
    refine x_aload_n C 2 dX11_marksBy_14 rfl ?_
    refine x_getR (j := 7) (i := 29) (q := (RX11, TX11, 22)) C 7 (iM 0 (by decide)) rfl rfl inBX11 (by decide) tw770 rfl dX11_marksBy_15 ?_
    refine x_bipush (v := 6) C dX11_marksBy_18 rfl ?_
    refine x_iload_n C 3 dX11_marksBy_20 rfl ?_
    refine x_imul C dX11_marksBy_21 ?_
    refine x_iload C 0 dX11_marksBy_22 rfl ?_
    refine x_iadd C dX11_marksBy_24 ?_
    obtain ⟨c6, h1⟩ := ob_if h1
    refine x_iald C (iM 7 (by decide)) rfl (vin_in c6) dX11_marksBy_25 ?_
    refine x_callS (ar := 2) (rest := [.int x1]) C (c_X11_has C.2.2.2.2.2.2.1  rfl) hy_X11_has ⟨tw957, tw958, tw75, tw959⟩ (by decide) (by decide) rfl rfl (Nat.le_of_ble_eq_true rfl) dX11_marksBy_26 ?_
    show Wx LM K σ 29 [(4, .int x2), (3, .int x1), (0, .ref (kad K 0)), (1, .int a1), (2, .int a2)] [.int (X11_has a2 (σ.1 7 (((6 : Int32) * a1) + x2).toNatClampNeg)), .int x1]
    refine x_ifeq C 39 dX11_marksBy_29 (by decide) (fun c9 => ?_) (fun c9 => ?_)
    · replace h1 := ob_pos c9 h1
      refine x_iconst (v := 0) C dX11_marksBy_39 rfl ?_
      refine x_ior C dX11_marksBy_40 ?_
      refine x_istore_n (lv' := [(3, .int (x1 ||| 0)), (4, .int x2), (0, .ref (kad K 0)), (1, .int a1), (2, .int a2)]) C dX11_marksBy_41 (by rw [e5]; decide) rfl ?_
      refine x_iinc (v := (x2 + 1)) (lv' := [(4, .int (x2 + 1)), (3, .int (x1 ||| 0)), (0, .ref (kad K 0)), (1, .int a1), (2, .int a2)]) C 1 dX11_marksBy_42 rfl rfl (by rw [e5]; decide) rfl ?_
      refine x_goto C 5 dX11_marksBy_45 (by decide) ?_
      refine x_lv (lv' := [(4, .int (x2 + 1)), (3, .int (x1 ||| 0)), (0, .ref (kad K 0)), (1, .int a1), (2, .int a2)]) [0, 1, 2, 3, 4] rfl ?_
      exact ihL1 _ (Option.some.inj h1).symm
    · replace h1 := ob_neg c9 h1
      refine x_iconst (v := 1) C dX11_marksBy_32 rfl ?_
      refine x_iload C 0 dX11_marksBy_33 rfl ?_
      refine x_ishl C dX11_marksBy_35 ?_
      refine x_goto C 40 dX11_marksBy_36 (by decide) ?_
      refine x_ior C dX11_marksBy_40 ?_
      refine x_istore_n (lv' := [(3, .int (x1 ||| ((1 : Int32) <<< (x2 &&& 31)))), (4, .int x2), (0, .ref (kad K 0)), (1, .int a1), (2, .int a2)]) C dX11_marksBy_41 (by rw [e5]; decide) rfl ?_
      refine x_iinc (v := (x2 + 1)) (lv' := [(4, .int (x2 + 1)), (3, .int (x1 ||| ((1 : Int32) <<< (x2 &&& 31)))), (0, .ref (kad K 0)), (1, .int a1), (2, .int a2)]) C 1 dX11_marksBy_42 rfl rfl (by rw [e5]; decide) rfl ?_
      refine x_goto C 5 dX11_marksBy_45 (by decide) ?_
      refine x_lv (lv' := [(4, .int (x2 + 1)), (3, .int (x1 ||| ((1 : Int32) <<< (x2 &&& 31)))), (0, .ref (kad K 0)), (1, .int a1), (2, .int a2)]) [0, 1, 2, 3, 4] rfl ?_
      exact ihL1 _ (Option.some.inj h1).symm
set_option maxHeartbeats 4000000 in
set_option maxRecDepth 100000 in
theorem c_X11_calls {l : Launch} {D : va_G} {ad : Nat → Nat} {cy : Nat → ClassId} (hJ : mJ LM ad) {σ τ : mS} {a1 : Int32} {a2 : Int32} {r : Int32}  (h0 : X11_calls σ a1 a2 = some (r, τ)) : MetG l LM D ad cy yX11_calls cX11_calls 6 (some .int) 2 [.ref (ad 0), .int a1, .int a2] σ (some (.int r)) τ := by
  refine MetG.of hJ (by decide +kernel) [(0, .ref (ad 0)), (1, .int a1), (2, .int a2)] rfl (Nat.le_of_ble_eq_true rfl) ?_
  intro K e1 e2 e3 e4 e5 C R
  subst e1
  subst e2
  subst e3
  subst e4
  unfold X11_calls at h0
  refine x_iconst (v := 0) C dX11_calls_0 rfl ?_
  refine x_istore_n (lv' := [(3, .int 0), (0, .ref (kad K 0)), (1, .int a1), (2, .int a2)]) C dX11_calls_1 (by rw [e5]; decide) rfl ?_
  refine x_iconst (v := 0) C dX11_calls_2 rfl ?_
  refine x_istore (lv' := [(4, .int 0), (3, .int 0), (0, .ref (kad K 0)), (1, .int a1), (2, .int a2)]) C dX11_calls_3 (by rw [e5]; decide) rfl ?_
  obtain ⟨e30, g31, h0⟩ := ob_bind h0
  have J1 : ∀ (s4 : mS) (y5 : Int32), (s4, y5) = e30 → Wx LM K s4 104 [(3, .int y5), (0, .ref (kad K 0)), (1, .int a1), (2, .int a2)] [] := by
    intro s4 y5 e9
    subst e9
    replace h0 := un2_l h0
    refine x_iload_n C 0 dX11_calls_104 rfl ?_
    refine x_aload_n C 1 dX11_calls_105 rfl ?_
    refine x_getR (j := 11) (i := 38) (q := (RX11, TX11, 22)) C 10 (iM 0 (by decide)) rfl rfl inBX11 (by decide) tw774 rfl dX11_calls_106 ?_
    refine x_iload_n C 2 dX11_calls_109 rfl ?_
    refine x_iconst (v := 4) C dX11_calls_110 rfl ?_
    refine x_iadd C dX11_calls_111 ?_
    obtain ⟨c6, h0⟩ := ob_if h0
    refine x_iald C (iM 10 (by decide)) rfl (vin_in c6) dX11_calls_112 ?_
    refine x_iconst (v := (-1)) C dX11_calls_113 rfl ?_
    refine x_ixor C dX11_calls_114 ?_
    refine x_iand C dX11_calls_115 ?_
    refine x_istore (lv' := [(4, .int (y5 &&& ((s4.1 10 (a1 + 4).toNatClampNeg) ^^^ (-1)))), (3, .int y5), (0, .ref (kad K 0)), (1, .int a1), (2, .int a2)]) C dX11_calls_116 (by rw [e5]; decide) rfl ?_
    refine x_aload_n C 2 dX11_calls_118 rfl ?_
    refine x_getR (j := 11) (i := 38) (q := (RX11, TX11, 22)) C 10 (iM 0 (by decide)) rfl rfl inBX11 (by decide) tw774 rfl dX11_calls_119 ?_
    refine x_iload_n C 3 dX11_calls_122 rfl ?_
    refine x_iconst (v := 4) C dX11_calls_123 rfl ?_
    refine x_iadd C dX11_calls_124 ?_
    refine x_dup2 C dX11_calls_125 rfl rfl ?_
    obtain ⟨c7, h0⟩ := ob_if h0
    refine x_iald C (iM 10 (by decide)) rfl (vin_in c7) dX11_calls_126 ?_
    refine x_iload_n C 1 dX11_calls_127 rfl ?_
    refine x_ior C dX11_calls_128 ?_
    obtain ⟨c8, h0⟩ := ob_if h0
    refine x_iast C (iM 10 (by decide)) rfl (vin_in c8) dX11_calls_129 ?_
    refine x_aload_n C 2 dX11_calls_130 rfl ?_
    refine x_getR (j := 11) (i := 38) (q := (RX11, TX11, 22)) C 10 (iM 0 (by decide)) rfl rfl inBX11 (by decide) tw774 rfl dX11_calls_131 ?_
    refine x_iload_n C 3 dX11_calls_134 rfl ?_
    refine x_iconst (v := 5) C dX11_calls_135 rfl ?_
    refine x_iadd C dX11_calls_136 ?_
    refine x_dup2 C dX11_calls_137 rfl rfl ?_
    obtain ⟨c9, h0⟩ := ob_if h0
    refine x_iald C (iM 10 (by decide)) rfl (vin_in c9) dX11_calls_138 ?_
    refine x_iconst (v := 1) C dX11_calls_139 rfl ?_
    refine x_iload_n C 4 dX11_calls_140 rfl ?_
    refine x_ishl C dX11_calls_141 ?_
    refine x_iconst (v := (-1)) C dX11_calls_142 rfl ?_
    refine x_ixor C dX11_calls_143 ?_
    refine x_iand C dX11_calls_144 ?_
    obtain ⟨c10, h0⟩ := ob_if h0
    refine x_iast C (iM 10 (by decide)) rfl (vin_in c10) dX11_calls_145 ?_
    refine x_aload_n C 2 dX11_calls_146 rfl ?_
    refine x_getR (j := 11) (i := 38) (q := (RX11, TX11, 22)) C 10 (iM 0 (by decide)) rfl rfl inBX11 (by decide) tw774 rfl dX11_calls_147 ?_
    refine x_iload_n C 3 dX11_calls_150 rfl ?_
    refine x_bipush (v := 6) C dX11_calls_151 rfl ?_
    refine x_iadd C dX11_calls_153 ?_
    refine x_dup2 C dX11_calls_154 rfl rfl ?_
    obtain ⟨c11, h0⟩ := ob_if h0
    refine x_iald C (iM 10 (by decide)) rfl (vin_in c11) dX11_calls_155 ?_
    refine x_iconst (v := 1) C dX11_calls_156 rfl ?_
    refine x_iadd C dX11_calls_157 ?_
    obtain ⟨c12, h0⟩ := ob_if h0
    refine x_iast C (iM 10 (by decide)) rfl (vin_in c12) dX11_calls_158 ?_
    refine x_aload_n C 2 dX11_calls_159 rfl ?_
    refine x_getR (j := 11) (i := 38) (q := (RX11, TX11, 22)) C 10 (iM 0 (by decide)) rfl rfl inBX11 (by decide) tw774 rfl dX11_calls_160 ?_
    refine x_iload_n C 3 dX11_calls_163 rfl ?_
    refine x_bipush (v := 7) C dX11_calls_164 rfl ?_
    refine x_iadd C dX11_calls_166 ?_
    refine x_iload_n C 4 dX11_calls_167 rfl ?_
    obtain ⟨c13, h0⟩ := ob_if h0
    refine x_iast C (iM 10 (by decide)) rfl (vin_in c13) dX11_calls_168 ?_
    refine x_iload C 0 dX11_calls_169 rfl ?_
    cases h0
    exact x_iret C R dX11_calls_171
  refine lp_G (G := fun q : mS × Int32 × Int32 => Wx LM K q.1 5 [(4, .int q.2.2), (3, .int q.2.1), (0, .ref (kad K 0)), (1, .int a1), (2, .int a2)] []) (fun q x h1 ihL1 ihR1 => ?_) big _ g31
  obtain ⟨s1, x2, x3⟩ := q
  replace h1 : X11_calls_b5 a1 a2 s1 x2 x3 = some x := h1
  unfold X11_calls_b5 at h1
  show Wx LM K s1 5 [(4, .int x3), (3, .int x2), (0, .ref (kad K 0)), (1, .int a1), (2, .int a2)] []
  refine x_iload C 0 dX11_calls_5 rfl ?_
  refine x_aload_n C 2 dX11_calls_7 rfl ?_
  refine x_getI (j := 5) (i := 124) (q := (RX11, TX11, 22)) C (iM 0 (by decide)) rfl rfl inBX11 (by decide) tw768 rfl dX11_calls_8 ?_
  refine x_icmpge C 104 dX11_calls_11 (by decide) (fun c15 => ?_) (fun c15 => ?_)
  · replace h1 := ob_pos c15 h1
    refine x_lv (lv' := [(3, .int x2), (0, .ref (kad K 0)), (1, .int a1), (2, .int a2)]) [1, 2, 3, 4] rfl ?_
    exact J1 _ _ (ihR1 _ (Option.some.inj h1).symm)
  · replace h1 := ob_neg c15 h1
    refine x_aload_n C 2 dX11_calls_14 rfl ?_
    refine x_getR (j := 6) (i := 26) (q := (RX11, TX11, 22)) C 6 (iM 0 (by decide)) rfl rfl inBX11 (by decide) tw769 rfl dX11_calls_15 ?_
    refine x_iload C 0 dX11_calls_18 rfl ?_
    obtain ⟨c16, h1⟩ := ob_if h1
    refine x_iald C (iM 6 (by decide)) rfl (vin_in c16) dX11_calls_20 ?_
    refine x_iload_n C 4 dX11_calls_21 rfl ?_
    refine x_aload_n C 2 dX11_calls_22 rfl ?_
    refine x_getR (j := 11) (i := 38) (q := (RX11, TX11, 22)) C 10 (iM 0 (by decide)) rfl rfl inBX11 (by decide) tw774 rfl dX11_calls_23 ?_
    refine x_iload_n C 3 dX11_calls_26 rfl ?_
    refine x_bipush (v := 7) C dX11_calls_27 rfl ?_
    refine x_iadd C dX11_calls_29 ?_
    obtain ⟨c17, h1⟩ := ob_if h1
    refine x_iald C (iM 10 (by decide)) rfl (vin_in c17) dX11_calls_30 ?_
    refine x_aload_n C 2 dX11_calls_31 rfl ?_
    refine x_getR (j := 11) (i := 38) (q := (RX11, TX11, 22)) C 10 (iM 0 (by decide)) rfl rfl inBX11 (by decide) tw774 rfl dX11_calls_32 ?_
    refine x_iload_n C 3 dX11_calls_35 rfl ?_
    refine x_bipush (v := 6) C dX11_calls_36 rfl ?_
    refine x_iadd C dX11_calls_38 ?_
    obtain ⟨c18, h1⟩ := ob_if h1
    refine x_iald C (iM 10 (by decide)) rfl (vin_in c18) dX11_calls_39 ?_
    refine x_callS (ar := 4) (rest := []) C (c_X11_heard C.2.2.2.2.2.2.1  rfl) hy_X11_heard ⟨tw976, tw977, tw75, tw978⟩ (by decide) (by decide) rfl rfl (Nat.le_of_ble_eq_true rfl) dX11_calls_40 ?_
    show Wx LM K s1 43 [(4, .int x3), (3, .int x2), (0, .ref (kad K 0)), (1, .int a1), (2, .int a2)] [.int (X11_heard (s1.1 6 x3.toNatClampNeg) a2 (s1.1 10 (a1 + 7).toNatClampNeg) (s1.1 10 (a1 + 6).toNatClampNeg))]
    refine x_istore (lv' := [(5, .int (X11_heard (s1.1 6 x3.toNatClampNeg) a2 (s1.1 10 (a1 + 7).toNatClampNeg) (s1.1 10 (a1 + 6).toNatClampNeg))), (4, .int x3), (3, .int x2), (0, .ref (kad K 0)), (1, .int a1), (2, .int a2)]) C dX11_calls_43 (by rw [e5]; decide) rfl ?_
    refine x_aload_n C 3 dX11_calls_45 rfl ?_
    refine x_getR (j := 11) (i := 38) (q := (RX11, TX11, 22)) C 10 (iM 0 (by decide)) rfl rfl inBX11 (by decide) tw774 rfl dX11_calls_46 ?_
    refine x_iload_n C 4 dX11_calls_49 rfl ?_
    refine x_iload C 1 dX11_calls_50 rfl ?_
    refine x_iadd C dX11_calls_52 ?_
    refine x_dup2 C dX11_calls_53 rfl rfl ?_
    obtain ⟨c20, h1⟩ := ob_if h1
    refine x_iald C (iM 10 (by decide)) rfl (vin_in c20) dX11_calls_54 ?_
    refine x_aload_n C 3 dX11_calls_55 rfl ?_
    refine x_iload C 1 dX11_calls_56 rfl ?_
    refine x_iload C 0 dX11_calls_58 rfl ?_
    obtain ⟨r21, g22, h1⟩ := ob_bind h1
    refine x_callV (ar := 2) (q := (RX11, TX11, 22)) (rest := [.int (s1.1 10 (a1 + x3).toNatClampNeg), .int (a1 + x3), .ref (kad K 10)]) C (c_X11_marksBy C.2.2.2.2.2.2.1  g22) (iM 0 (by decide)) rfl rfl hy_X11_marksBy ⟨tw953, tw955, tw44, tw75, tw956⟩ (by decide) (by decide) rfl rfl (Nat.le_of_ble_eq_true rfl) dX11_calls_60 ?_
    show Wx LM K s1 63 [(5, .int (X11_heard (s1.1 6 x3.toNatClampNeg) a2 (s1.1 10 (a1 + 7).toNatClampNeg) (s1.1 10 (a1 + 6).toNatClampNeg))), (4, .int x3), (3, .int x2), (0, .ref (kad K 0)), (1, .int a1), (2, .int a2)] [.int r21, .int (s1.1 10 (a1 + x3).toNatClampNeg), .int (a1 + x3), .ref (kad K 10)]
    refine x_ior C dX11_calls_63 ?_
    obtain ⟨c23, h1⟩ := ob_if h1
    refine x_iast C (iM 10 (by decide)) rfl (vin_in c23) dX11_calls_64 ?_
    refine x_iload_n C 2 dX11_calls_65 rfl ?_
    refine x_aload_n C 3 dX11_calls_66 rfl ?_
    refine x_getR (j := 6) (i := 26) (q := (RX11, TX11, 22)) C 6 (iM 0 (by decide)) rfl rfl inBX11 (by decide) tw769 rfl dX11_calls_67 ?_
    refine x_iload C 1 dX11_calls_70 rfl ?_
    obtain ⟨c24, h1⟩ := ob_if h1
    refine x_iald C (iM 6 (by decide)) rfl (vin_in c24) dX11_calls_72 ?_
    refine x_aload_n C 3 dX11_calls_73 rfl ?_
    refine x_getR (j := 11) (i := 38) (q := (RX11, TX11, 22)) C 10 (iM 0 (by decide)) rfl rfl inBX11 (by decide) tw774 rfl dX11_calls_74 ?_
    refine x_iload_n C 4 dX11_calls_77 rfl ?_
    refine x_iload C 1 dX11_calls_78 rfl ?_
    refine x_iadd C dX11_calls_80 ?_
    obtain ⟨c25, h1⟩ := ob_if h1
    refine x_iald C (iM 10 (by decide)) rfl (vin_in c25) dX11_calls_81 ?_
    obtain ⟨r26, g27, h1⟩ := ob_bind h1
    refine x_callS (ar := 2) (rest := [.int x2]) C (c_X11_needs C.2.2.2.2.2.2.1  g27) hy_X11_needs ⟨tw933, tw934, tw75, tw935⟩ (by decide) (by decide) rfl rfl (Nat.le_of_ble_eq_true rfl) dX11_calls_82 ?_
    show Wx LM K (mwI s1 10 (a1 + x3).toNatClampNeg ((s1.1 10 (a1 + x3).toNatClampNeg) ||| r21)) 85 [(5, .int (X11_heard (s1.1 6 x3.toNatClampNeg) a2 (s1.1 10 (a1 + 7).toNatClampNeg) (s1.1 10 (a1 + 6).toNatClampNeg))), (4, .int x3), (3, .int x2), (0, .ref (kad K 0)), (1, .int a1), (2, .int a2)] [.int r26, .int x2]
    refine x_ifne C 95 dX11_calls_85 (by decide) (fun c29 => ?_) (fun c29 => ?_)
    · replace h1 := ob_neg c29 h1
      refine x_iconst (v := 0) C dX11_calls_95 rfl ?_
      refine x_ior C dX11_calls_96 ?_
      refine x_istore_n (lv' := [(3, .int (x2 ||| 0)), (5, .int (X11_heard (s1.1 6 x3.toNatClampNeg) a2 (s1.1 10 (a1 + 7).toNatClampNeg) (s1.1 10 (a1 + 6).toNatClampNeg))), (4, .int x3), (0, .ref (kad K 0)), (1, .int a1), (2, .int a2)]) C dX11_calls_97 (by rw [e5]; decide) rfl ?_
      refine x_iinc (v := (x3 + 1)) (lv' := [(4, .int (x3 + 1)), (3, .int (x2 ||| 0)), (5, .int (X11_heard (s1.1 6 x3.toNatClampNeg) a2 (s1.1 10 (a1 + 7).toNatClampNeg) (s1.1 10 (a1 + 6).toNatClampNeg))), (0, .ref (kad K 0)), (1, .int a1), (2, .int a2)]) C 2 dX11_calls_98 rfl rfl (by rw [e5]; decide) rfl ?_
      refine x_goto C 5 dX11_calls_101 (by decide) ?_
      refine x_lv (lv' := [(4, .int (x3 + 1)), (3, .int (x2 ||| 0)), (0, .ref (kad K 0)), (1, .int a1), (2, .int a2)]) [0, 1, 3, 4, 5] rfl ?_
      exact ihL1 _ (Option.some.inj h1).symm
    · replace h1 := ob_pos c29 h1
      refine x_iconst (v := 1) C dX11_calls_88 rfl ?_
      refine x_iload C 1 dX11_calls_89 rfl ?_
      refine x_ishl C dX11_calls_91 ?_
      refine x_goto C 96 dX11_calls_92 (by decide) ?_
      refine x_ior C dX11_calls_96 ?_
      refine x_istore_n (lv' := [(3, .int (x2 ||| ((1 : Int32) <<< (x3 &&& 31)))), (5, .int (X11_heard (s1.1 6 x3.toNatClampNeg) a2 (s1.1 10 (a1 + 7).toNatClampNeg) (s1.1 10 (a1 + 6).toNatClampNeg))), (4, .int x3), (0, .ref (kad K 0)), (1, .int a1), (2, .int a2)]) C dX11_calls_97 (by rw [e5]; decide) rfl ?_
      refine x_iinc (v := (x3 + 1)) (lv' := [(4, .int (x3 + 1)), (3, .int (x2 ||| ((1 : Int32) <<< (x3 &&& 31)))), (5, .int (X11_heard (s1.1 6 x3.toNatClampNeg) a2 (s1.1 10 (a1 + 7).toNatClampNeg) (s1.1 10 (a1 + 6).toNatClampNeg))), (0, .ref (kad K 0)), (1, .int a1), (2, .int a2)]) C 2 dX11_calls_98 rfl rfl (by rw [e5]; decide) rfl ?_
      refine x_goto C 5 dX11_calls_101 (by decide) ?_
      refine x_lv (lv' := [(4, .int (x3 + 1)), (3, .int (x2 ||| ((1 : Int32) <<< (x3 &&& 31)))), (0, .ref (kad K 0)), (1, .int a1), (2, .int a2)]) [0, 1, 3, 4, 5] rfl ?_
      exact ihL1 _ (Option.some.inj h1).symm
