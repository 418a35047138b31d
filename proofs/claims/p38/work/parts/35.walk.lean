set_option maxHeartbeats 4000000 in
set_option maxRecDepth 100000 in
theorem c_X11_told {l : Launch} {D : va_G} {ad : Nat → Nat} {cy : Nat → ClassId} (hJ : mJ LM ad) {σ : mS} {a1 : Int32} {a2 : Int32} {r : Int32}  (h0 : X11_told σ a1 a2 = some r) : MetG l LM D ad cy yX11_told cX11_told 3 (some .int) 2 [.ref (ad 0), .int a1, .int a2] σ (some (.int r)) σ := by
  refine MetG.of hJ (by decide +kernel) [(0, .ref (ad 0)), (1, .int a1), (2, .int a2)] rfl (Nat.le_of_ble_eq_true rfl) ?_
  intro K e1 e2 e3 e4 e5 C R
  subst e1
  subst e2
  subst e3
  subst e4
  unfold X11_told at h0
  refine x_iload_n C 2 dX11_told_0 rfl ?_
  refine x_ifne C 13 dX11_told_1 (by decide) (fun c2 => ?_) (fun c2 => ?_)
  · replace h0 := ob_neg c2 h0
    refine x_iload_n C 2 dX11_told_13 rfl ?_
    refine x_iconst (v := 1) C dX11_told_14 rfl ?_
    refine x_icmpne C 27 dX11_told_15 (by decide) (fun c4 => ?_) (fun c4 => ?_)
    · replace h0 := ob_neg c4 h0
      refine x_iload_n C 2 dX11_told_27 rfl ?_
      refine x_iconst (v := 2) C dX11_told_28 rfl ?_
      refine x_icmpne C 45 dX11_told_29 (by decide) (fun c6 => ?_) (fun c6 => ?_)
      · replace h0 := ob_neg c6 h0
        refine x_iload_n C 2 dX11_told_45 rfl ?_
        refine x_iconst (v := 3) C dX11_told_46 rfl ?_
        refine x_icmpne C 76 dX11_told_47 (by decide) (fun c8 => ?_) (fun c8 => ?_)
        · replace h0 := ob_neg c8 h0
          refine x_aload_n C 0 dX11_told_76 rfl ?_
          refine x_getR (j := 6) (i := 26) (q := (RX11, TX11, 22)) C 6 (iM 0 (by decide)) rfl rfl inBX11 (by decide) tw769 rfl dX11_told_77 ?_
          refine x_iload_n C 1 dX11_told_80 rfl ?_
          obtain ⟨c9, h0⟩ := ob_if h0
          refine x_iald C (iM 6 (by decide)) rfl (vin_in c9) dX11_told_81 ?_
          refine x_aload_n C 0 dX11_told_82 rfl ?_
          refine x_getR (j := 11) (i := 38) (q := (RX11, TX11, 22)) C 10 (iM 0 (by decide)) rfl rfl inBX11 (by decide) tw774 rfl dX11_told_83 ?_
          refine x_iload_n C 1 dX11_told_86 rfl ?_
          obtain ⟨c10, h0⟩ := ob_if h0
          refine x_iald C (iM 10 (by decide)) rfl (vin_in c10) dX11_told_87 ?_
          obtain ⟨r11, g12, h0⟩ := ob_bind h0
          refine x_callS (ar := 2) (rest := []) C (c_X11_needs C.2.2.2.2.2.2.1  g12) hy_X11_needs ⟨tw933, tw934, tw75, tw935⟩ (by decide) (by decide) rfl rfl (Nat.le_of_ble_eq_true rfl) dX11_told_88 ?_
          show Wx LM K σ 91 [(0, .ref (kad K 0)), (1, .int a1), (2, .int a2)] [.int r11]
          cases h0
          exact x_iret C R dX11_told_91
        · replace h0 := ob_pos c8 h0
          refine x_aload_n C 0 dX11_told_50 rfl ?_
          refine x_getR (j := 6) (i := 26) (q := (RX11, TX11, 22)) C 6 (iM 0 (by decide)) rfl rfl inBX11 (by decide) tw769 rfl dX11_told_51 ?_
          refine x_iload_n C 1 dX11_told_54 rfl ?_
          obtain ⟨c13, h0⟩ := ob_if h0
          refine x_iald C (iM 6 (by decide)) rfl (vin_in c13) dX11_told_55 ?_
          refine x_aload_n C 0 dX11_told_56 rfl ?_
          refine x_getR (j := 11) (i := 38) (q := (RX11, TX11, 22)) C 10 (iM 0 (by decide)) rfl rfl inBX11 (by decide) tw774 rfl dX11_told_57 ?_
          refine x_iload_n C 1 dX11_told_60 rfl ?_
          obtain ⟨c14, h0⟩ := ob_if h0
          refine x_iald C (iM 10 (by decide)) rfl (vin_in c14) dX11_told_61 ?_
          obtain ⟨r15, g16, h0⟩ := ob_bind h0
          refine x_callS (ar := 2) (rest := []) C (c_X11_needs C.2.2.2.2.2.2.1  g16) hy_X11_needs ⟨tw933, tw934, tw75, tw935⟩ (by decide) (by decide) rfl rfl (Nat.le_of_ble_eq_true rfl) dX11_told_62 ?_
          show Wx LM K σ 65 [(0, .ref (kad K 0)), (1, .int a1), (2, .int a2)] [.int r15]
          refine x_ifne C 72 dX11_told_65 (by decide) (fun c18 => ?_) (fun c18 => ?_)
          · replace h0 := ob_neg c18 h0
            refine x_iconst (v := 0) C dX11_told_72 rfl ?_
            refine x_goto C 91 dX11_told_73 (by decide) ?_
            cases h0
            exact x_iret C R dX11_told_91
          · replace h0 := ob_pos c18 h0
            refine x_iconst (v := 1) C dX11_told_68 rfl ?_
            refine x_goto C 91 dX11_told_69 (by decide) ?_
            cases h0
            exact x_iret C R dX11_told_91
      · replace h0 := ob_pos c6 h0
        refine x_aload_n C 0 dX11_told_32 rfl ?_
        refine x_getR (j := 11) (i := 38) (q := (RX11, TX11, 22)) C 10 (iM 0 (by decide)) rfl rfl inBX11 (by decide) tw774 rfl dX11_told_33 ?_
        refine x_iconst (v := 4) C dX11_told_36 rfl ?_
        obtain ⟨c19, h0⟩ := ob_if h0
        refine x_iald C (iM 10 (by decide)) rfl (vin_in c19) dX11_told_37 ?_
        refine x_iload_n C 1 dX11_told_38 rfl ?_
        refine x_ishr C dX11_told_39 ?_
        refine x_iconst (v := 1) C dX11_told_40 rfl ?_
        refine x_iand C dX11_told_41 ?_
        refine x_goto C 91 dX11_told_42 (by decide) ?_
        cases h0
        exact x_iret C R dX11_told_91
    · replace h0 := ob_pos c4 h0
      refine x_aload_n C 0 dX11_told_18 rfl ?_
      refine x_getR (j := 11) (i := 38) (q := (RX11, TX11, 22)) C 10 (iM 0 (by decide)) rfl rfl inBX11 (by decide) tw774 rfl dX11_told_19 ?_
      refine x_iload_n C 1 dX11_told_22 rfl ?_
      obtain ⟨c20, h0⟩ := ob_if h0
      refine x_iald C (iM 10 (by decide)) rfl (vin_in c20) dX11_told_23 ?_
      refine x_goto C 91 dX11_told_24 (by decide) ?_
      cases h0
      exact x_iret C R dX11_told_91
  · replace h0 := ob_pos c2 h0
    refine x_aload_n C 0 dX11_told_4 rfl ?_
    refine x_getR (j := 6) (i := 26) (q := (RX11, TX11, 22)) C 6 (iM 0 (by decide)) rfl rfl inBX11 (by decide) tw769 rfl dX11_told_5 ?_
    refine x_iload_n C 1 dX11_told_8 rfl ?_
    obtain ⟨c21, h0⟩ := ob_if h0
    refine x_iald C (iM 6 (by decide)) rfl (vin_in c21) dX11_told_9 ?_
    refine x_goto C 91 dX11_told_10 (by decide) ?_
    cases h0
    exact x_iret C R dX11_told_91
set_option maxHeartbeats 4000000 in
set_option maxRecDepth 100000 in
theorem c_X11_player {l : Launch} {D : va_G} {ad : Nat → Nat} {cy : Nat → ClassId} (hJ : mJ LM ad) {σ τ : mS} {a1 : Int32} {a2 : Int32} {r : Int32}  (h0 : X11_player σ a1 a2 = some (r, τ)) : MetG l LM D ad cy yX11_player cX11_player 3 (some .int) 3 [.ref (ad 0), .int a1, .int a2] σ (some (.int r)) τ := by
  refine MetG.of hJ (by decide +kernel) [(0, .ref (ad 0)), (1, .int a1), (2, .int a2)] rfl (Nat.le_of_ble_eq_true rfl) ?_
  intro K e1 e2 e3 e4 e5 C R
  subst e1
  subst e2
  subst e3
  subst e4
  unfold X11_player at h0
  refine x_aload_n C 0 dX11_player_0 rfl ?_
  refine x_iload_n C 1 dX11_player_1 rfl ?_
  refine x_callV (ar := 1) (q := (RX11, TX11, 22)) (rest := []) C (c_X11_isPlayer C.2.2.2.2.2.2.1  rfl) (iM 0 (by decide)) rfl rfl hy_X11_isPlayer ⟨tw924, tw926, tw42, tw75, tw927⟩ (by decide) (by decide) rfl rfl (Nat.le_of_ble_eq_true rfl) dX11_player_2 ?_
  show Wx LM K σ 5 [(0, .ref (kad K 0)), (1, .int a1), (2, .int a2)] [.int (X11_isPlayer σ a1)]
  refine x_ifeq C 33 dX11_player_5 (by decide) (fun c3 => ?_) (fun c3 => ?_)
  · replace h0 := ob_pos c3 h0
    refine x_iconst (v := (-1)) C dX11_player_33 rfl ?_
    cases h0
    exact x_iret C R dX11_player_34
  · replace h0 := ob_neg c3 h0
    refine x_iload_n C 2 dX11_player_8 rfl ?_
    refine x_i2l C dX11_player_9 ?_
    refine x_lconst (v := 0) C dX11_player_10 rfl ?_
    refine x_ldc2 C tw928 dX11_player_11 ?_
    refine x_callS (ar := 3) (rest := []) C (c_X11_in C.2.2.2.2.2.2.1  rfl) hy_X11_in ⟨tw839, tw840, tw75, tw841⟩ (by decide) (by decide) rfl rfl (Nat.le_of_ble_eq_true rfl) dX11_player_14 ?_
    show Wx LM K σ 17 [(0, .ref (kad K 0)), (1, .int a1), (2, .int a2)] [.int (X11_in ((a2).toInt64) (0) (4))]
    refine x_ifeq C 33 dX11_player_17 (by decide) (fun c6 => ?_) (fun c6 => ?_)
    · replace h0 := ob_pos c6 h0
      refine x_iconst (v := (-1)) C dX11_player_33 rfl ?_
      cases h0
      exact x_iret C R dX11_player_34
    · replace h0 := ob_neg c6 h0
      refine x_aload_n C 0 dX11_player_20 rfl ?_
      refine x_aload_n C 0 dX11_player_21 rfl ?_
      refine x_iload_n C 1 dX11_player_22 rfl ?_
      refine x_iload_n C 2 dX11_player_23 rfl ?_
      obtain ⟨r7, g8, h0⟩ := ob_bind h0
      refine x_callV (ar := 2) (q := (RX11, TX11, 22)) (rest := [.ref (kad K 0)]) C (c_X11_told C.2.2.2.2.2.2.1  g8) (iM 0 (by decide)) rfl rfl hy_X11_told ⟨tw929, tw931, tw43, tw75, tw932⟩ (by decide) (by decide) rfl rfl (Nat.le_of_ble_eq_true rfl) dX11_player_24 ?_
      show Wx LM K σ 27 [(0, .ref (kad K 0)), (1, .int a1), (2, .int a2)] [.int r7, .ref (kad K 0)]
      obtain ⟨r9, s11, g10, h0⟩ := ob_bd h0
      refine x_callV (ar := 1) (q := (RX11, TX11, 22)) (rest := []) C (c_X11_tells C.2.2.2.2.2.2.1  g10) (iM 0 (by decide)) rfl rfl hy_X11_tells ⟨tw854, tw856, tw36, tw75, tw857⟩ (by decide) (by decide) rfl rfl (Nat.le_of_ble_eq_true rfl) dX11_player_27 ?_
      show Wx LM K s11 30 [(0, .ref (kad K 0)), (1, .int a1), (2, .int a2)] [.int r9]
      refine x_goto C 34 dX11_player_30 (by decide) ?_
      cases h0
      exact x_iret C R dX11_player_34
set_option maxHeartbeats 4000000 in
set_option maxRecDepth 100000 in
theorem c_X11_card {l : Launch} {D : va_G} {ad : Nat → Nat} {cy : Nat → ClassId} (hJ : mJ LM ad) {σ τ : mS} {a1 : Int32} {a2 : Int32} {r : Int32}  (h0 : X11_card σ a1 a2 = some (r, τ)) : MetG l LM D ad cy yX11_card cX11_card 3 (some .int) 2 [.ref (ad 0), .int a1, .int a2] σ (some (.int r)) τ := by
  refine MetG.of hJ (by decide +kernel) [(0, .ref (ad 0)), (1, .int a1), (2, .int a2)] rfl (Nat.le_of_ble_eq_true rfl) ?_
  intro K e1 e2 e3 e4 e5 C R
  subst e1
  subst e2
  subst e3
  subst e4
  unfold X11_card at h0
  refine x_aload_n C 0 dX11_card_0 rfl ?_
  refine x_iload_n C 1 dX11_card_1 rfl ?_
  refine x_callV (ar := 1) (q := (RX11, TX11, 22)) (rest := []) C (c_X11_isPlayer C.2.2.2.2.2.2.1  rfl) (iM 0 (by decide)) rfl rfl hy_X11_isPlayer ⟨tw924, tw926, tw42, tw75, tw927⟩ (by decide) (by decide) rfl rfl (Nat.le_of_ble_eq_true rfl) dX11_card_2 ?_
  show Wx LM K σ 5 [(0, .ref (kad K 0)), (1, .int a1), (2, .int a2)] [.int (X11_isPlayer σ a1)]
  refine x_ifeq C 38 dX11_card_5 (by decide) (fun c3 => ?_) (fun c3 => ?_)
  · replace h0 := ob_pos c3 h0
    refine x_iconst (v := (-1)) C dX11_card_38 rfl ?_
    cases h0
    exact x_iret C R dX11_card_39
  · replace h0 := ob_neg c3 h0
    refine x_iload_n C 2 dX11_card_8 rfl ?_
    refine x_i2l C dX11_card_9 ?_
    refine x_lconst (v := 0) C dX11_card_10 rfl ?_
    refine x_ldc2 C tw838 dX11_card_11 ?_
    refine x_callS (ar := 3) (rest := []) C (c_X11_in C.2.2.2.2.2.2.1  rfl) hy_X11_in ⟨tw839, tw840, tw75, tw841⟩ (by decide) (by decide) rfl rfl (Nat.le_of_ble_eq_true rfl) dX11_card_14 ?_
    show Wx LM K σ 17 [(0, .ref (kad K 0)), (1, .int a1), (2, .int a2)] [.int (X11_in ((a2).toInt64) (0) (5))]
    refine x_ifeq C 38 dX11_card_17 (by decide) (fun c6 => ?_) (fun c6 => ?_)
    · replace h0 := ob_pos c6 h0
      refine x_iconst (v := (-1)) C dX11_card_38 rfl ?_
      cases h0
      exact x_iret C R dX11_card_39
    · replace h0 := ob_neg c6 h0
      refine x_aload_n C 0 dX11_card_20 rfl ?_
      refine x_aload_n C 0 dX11_card_21 rfl ?_
      refine x_getR (j := 7) (i := 29) (q := (RX11, TX11, 22)) C 7 (iM 0 (by decide)) rfl rfl inBX11 (by decide) tw770 rfl dX11_card_22 ?_
      refine x_bipush (v := 6) C dX11_card_25 rfl ?_
      refine x_iload_n C 1 dX11_card_27 rfl ?_
      refine x_imul C dX11_card_28 ?_
      refine x_iload_n C 2 dX11_card_29 rfl ?_
      refine x_iadd C dX11_card_30 ?_
      obtain ⟨c7, h0⟩ := ob_if h0
      refine x_iald C (iM 7 (by decide)) rfl (vin_in c7) dX11_card_31 ?_
      obtain ⟨r8, s10, g9, h0⟩ := ob_bd h0
      refine x_callV (ar := 1) (q := (RX11, TX11, 22)) (rest := []) C (c_X11_tells C.2.2.2.2.2.2.1  g9) (iM 0 (by decide)) rfl rfl hy_X11_tells ⟨tw854, tw856, tw36, tw75, tw857⟩ (by decide) (by decide) rfl rfl (Nat.le_of_ble_eq_true rfl) dX11_card_32 ?_
      show Wx LM K s10 35 [(0, .ref (kad K 0)), (1, .int a1), (2, .int a2)] [.int r8]
      refine x_goto C 39 dX11_card_35 (by decide) ?_
      cases h0
      exact x_iret C R dX11_card_39
set_option maxHeartbeats 4000000 in
set_option maxRecDepth 100000 in
theorem c_X11_mark {l : Launch} {D : va_G} {ad : Nat → Nat} {cy : Nat → ClassId} (hJ : mJ LM ad) {σ τ : mS} {a1 : Int32} {a2 : Int32} {r : Int32}  (h0 : X11_mark σ a1 a2 = some (r, τ)) : MetG l LM D ad cy yX11_mark cX11_mark 6 (some .int) 2 [.ref (ad 0), .int a1, .int a2] σ (some (.int r)) τ := by
  refine MetG.of hJ (by decide +kernel) [(0, .ref (ad 0)), (1, .int a1), (2, .int a2)] rfl (Nat.le_of_ble_eq_true rfl) ?_
  intro K e1 e2 e3 e4 e5 C R
  subst e1
  subst e2
  subst e3
  subst e4
  unfold X11_mark at h0
  refine x_aload_n C 0 dX11_mark_0 rfl ?_
  refine x_iload_n C 1 dX11_mark_1 rfl ?_
  refine x_callV (ar := 1) (q := (RX11, TX11, 22)) (rest := []) C (c_X11_isPlayer C.2.2.2.2.2.2.1  rfl) (iM 0 (by decide)) rfl rfl hy_X11_isPlayer ⟨tw924, tw926, tw42, tw75, tw927⟩ (by decide) (by decide) rfl rfl (Nat.le_of_ble_eq_true rfl) dX11_mark_2 ?_
  show Wx LM K σ 5 [(0, .ref (kad K 0)), (1, .int a1), (2, .int a2)] [.int (X11_isPlayer σ a1)]
  refine x_ifeq C 20 dX11_mark_5 (by decide) (fun c3 => ?_) (fun c3 => ?_)
  · replace h0 := ob_pos c3 h0
    refine x_iconst (v := (-1)) C dX11_mark_20 rfl ?_
    cases h0
    exact x_iret C R dX11_mark_21
  · replace h0 := ob_neg c3 h0
    refine x_iload_n C 2 dX11_mark_8 rfl ?_
    refine x_i2l C dX11_mark_9 ?_
    refine x_lconst (v := 1) C dX11_mark_10 rfl ?_
    refine x_ldc2 C tw838 dX11_mark_11 ?_
    refine x_callS (ar := 3) (rest := []) C (c_X11_in C.2.2.2.2.2.2.1  rfl) hy_X11_in ⟨tw839, tw840, tw75, tw841⟩ (by decide) (by decide) rfl rfl (Nat.le_of_ble_eq_true rfl) dX11_mark_14 ?_
    show Wx LM K σ 17 [(0, .ref (kad K 0)), (1, .int a1), (2, .int a2)] [.int (X11_in ((a2).toInt64) (1) (5))]
    refine x_ifne C 22 dX11_mark_17 (by decide) (fun c6 => ?_) (fun c6 => ?_)
    · replace h0 := ob_neg c6 h0
      refine x_aload_n C 0 dX11_mark_22 rfl ?_
      refine x_getR (j := 6) (i := 26) (q := (RX11, TX11, 22)) C 6 (iM 0 (by decide)) rfl rfl inBX11 (by decide) tw769 rfl dX11_mark_23 ?_
      refine x_iload_n C 1 dX11_mark_26 rfl ?_
      obtain ⟨c7, h0⟩ := ob_if h0
      refine x_iald C (iM 6 (by decide)) rfl (vin_in c7) dX11_mark_27 ?_
      refine x_iload_n C 2 dX11_mark_28 rfl ?_
      refine x_callS (ar := 2) (rest := []) C (c_X11_isA C.2.2.2.2.2.2.1  rfl) hy_X11_isA ⟨tw942, tw943, tw75, tw944⟩ (by decide) (by decide) rfl rfl (Nat.le_of_ble_eq_true rfl) dX11_mark_29 ?_
      show Wx LM K σ 32 [(0, .ref (kad K 0)), (1, .int a1), (2, .int a2)] [.int (X11_isA (σ.1 6 a1.toNatClampNeg) a2)]
      refine x_ifne C 41 dX11_mark_32 (by decide) (fun c10 => ?_) (fun c10 => ?_)
      · replace h0 := ob_neg c10 h0
        refine x_aload_n C 0 dX11_mark_41 rfl ?_
        refine x_getR (j := 11) (i := 38) (q := (RX11, TX11, 22)) C 10 (iM 0 (by decide)) rfl rfl inBX11 (by decide) tw774 rfl dX11_mark_42 ?_
        refine x_iload_n C 1 dX11_mark_45 rfl ?_
        obtain ⟨c11, h0⟩ := ob_if h0
        refine x_iald C (iM 10 (by decide)) rfl (vin_in c11) dX11_mark_46 ?_
        refine x_istore_n (lv' := [(3, .int (σ.1 10 a1.toNatClampNeg)), (0, .ref (kad K 0)), (1, .int a1), (2, .int a2)]) C dX11_mark_47 (by rw [e5]; decide) rfl ?_
        refine x_iload_n C 3 dX11_mark_48 rfl ?_
        refine x_iconst (v := 1) C dX11_mark_49 rfl ?_
        refine x_icmpne C 61 dX11_mark_50 (by decide) (fun c13 => ?_) (fun c13 => ?_)
        · replace h0 := ob_neg c13 h0
          refine x_iload_n C 3 dX11_mark_61 rfl ?_
          refine x_iconst (v := 2) C dX11_mark_62 rfl ?_
          refine x_icmpne C 78 dX11_mark_63 (by decide) (fun c15 => ?_) (fun c15 => ?_)
          · replace h0 := ob_neg c15 h0
            refine x_iload_n C 3 dX11_mark_78 rfl ?_
            refine x_iconst (v := 3) C dX11_mark_79 rfl ?_
            refine x_icmpne C 116 dX11_mark_80 (by decide) (fun c17 => ?_) (fun c17 => ?_)
            · replace h0 := ob_neg c17 h0
              refine x_iload_n C 3 dX11_mark_116 rfl ?_
              refine x_iconst (v := 4) C dX11_mark_117 rfl ?_
              refine x_icmpne C 129 dX11_mark_118 (by decide) (fun c19 => ?_) (fun c19 => ?_)
              · replace h0 := ob_neg c19 h0
                refine x_iconst (v := 0) C dX11_mark_129 rfl ?_
                refine x_istore (lv' := [(4, .int 0), (3, .int (σ.1 10 a1.toNatClampNeg)), (0, .ref (kad K 0)), (1, .int a1), (2, .int a2)]) C dX11_mark_130 (by rw [e5]; decide) rfl ?_
                refine x_iconst (v := 0) C dX11_mark_132 rfl ?_
                refine x_istore (lv' := [(5, .int 0), (4, .int 0), (3, .int (σ.1 10 a1.toNatClampNeg)), (0, .ref (kad K 0)), (1, .int a1), (2, .int a2)]) C dX11_mark_133 (by rw [e5]; decide) rfl ?_
                obtain ⟨e30, g31, h0⟩ := ob_bind h0
                have J1 : ∀ (y22 : Int32), y22 = e30 → Wx LM K σ 185 [(4, .int y22)] [] := by
                  intro y22 e9
                  subst e9
                  replace h0 := un1_l h0
                  refine x_iload C 0 dX11_mark_185 rfl ?_
                  cases h0
                  exact x_iret C R dX11_mark_187
                refine x_lv (lv' := [(5, .int 0), (4, .int 0), (0, .ref (kad K 0)), (1, .int a1)]) [0, 1, 3, 4] rfl ?_
                refine lp_G (G := fun q : Int32 × Int32 => Wx LM K σ 135 [(5, .int q.2), (4, .int q.1), (0, .ref (kad K 0)), (1, .int a1)] []) (fun q x h1 ihL1 ihR1 => ?_) big _ g31
                obtain ⟨x20, x21⟩ := q
                replace h1 : X11_mark_b135 σ a1 x20 x21 = some x := h1
                unfold X11_mark_b135 at h1
                show Wx LM K σ 135 [(5, .int x21), (4, .int x20), (0, .ref (kad K 0)), (1, .int a1)] []
                refine x_iload C 0 dX11_mark_135 rfl ?_
                refine x_bipush (v := 6) C dX11_mark_137 rfl ?_
                refine x_icmpge C 185 dX11_mark_139 (by decide) (fun c24 => ?_) (fun c24 => ?_)
                · replace h1 := ob_pos c24 h1
                  refine x_lv (lv' := [(4, .int x20)]) [1] rfl ?_
                  exact J1 _ (ihR1 _ (Option.some.inj h1).symm)
                · replace h1 := ob_neg c24 h1
                  refine x_iload C 1 dX11_mark_142 rfl ?_
                  refine x_aload_n C 2 dX11_mark_144 rfl ?_
                  refine x_iload_n C 3 dX11_mark_145 rfl ?_
                  refine x_iconst (v := 1) C dX11_mark_146 rfl ?_
                  refine x_aload_n C 2 dX11_mark_147 rfl ?_
                  refine x_getR (j := 7) (i := 29) (q := (RX11, TX11, 22)) C 7 (iM 0 (by decide)) rfl rfl inBX11 (by decide) tw770 rfl dX11_mark_148 ?_
                  refine x_bipush (v := 6) C dX11_mark_151 rfl ?_
                  refine x_iload_n C 3 dX11_mark_153 rfl ?_
                  refine x_imul C dX11_mark_154 ?_
                  refine x_iload C 0 dX11_mark_155 rfl ?_
                  refine x_iadd C dX11_mark_157 ?_
                  obtain ⟨c25, h1⟩ := ob_if h1
                  refine x_iald C (iM 7 (by decide)) rfl (vin_in c25) dX11_mark_158 ?_
                  refine x_bipush (v := 12) C dX11_mark_159 rfl ?_
                  refine x_irem C dX11_mark_161 (by decide) ?_
                  refine x_iconst (v := 1) C dX11_mark_162 rfl ?_
                  refine x_iadd C dX11_mark_163 ?_
                  refine x_ishl C dX11_mark_164 ?_
                  obtain ⟨r26, g27, h1⟩ := ob_bind h1
                  refine x_callV (ar := 2) (q := (RX11, TX11, 22)) (rest := [.int x20]) C (c_X11_marksBy C.2.2.2.2.2.2.1  g27) (iM 0 (by decide)) rfl rfl hy_X11_marksBy ⟨tw953, tw955, tw44, tw75, tw956⟩ (by decide) (by decide) rfl rfl (Nat.le_of_ble_eq_true rfl) dX11_mark_165 ?_
                  show Wx LM K σ 168 [(5, .int x21), (4, .int x20), (0, .ref (kad K 0)), (1, .int a1)] [.int r26, .int x20]
                  refine x_ifeq C 175 dX11_mark_168 (by decide) (fun c29 => ?_) (fun c29 => ?_)
                  · replace h1 := ob_pos c29 h1
                    refine x_iconst (v := 0) C dX11_mark_175 rfl ?_
                    refine x_iadd C dX11_mark_176 ?_
                    refine x_istore (lv' := [(4, .int (x20 + 0)), (5, .int x21), (0, .ref (kad K 0)), (1, .int a1)]) C dX11_mark_177 (by rw [e5]; decide) rfl ?_
                    refine x_iinc (v := (x21 + 1)) (lv' := [(5, .int (x21 + 1)), (4, .int (x20 + 0)), (0, .ref (kad K 0)), (1, .int a1)]) C 1 dX11_mark_179 rfl rfl (by rw [e5]; decide) rfl ?_
                    refine x_goto C 135 dX11_mark_182 (by decide) ?_
                    refine x_lv (lv' := [(5, .int (x21 + 1)), (4, .int (x20 + 0)), (0, .ref (kad K 0)), (1, .int a1)]) [0, 1, 2, 3] rfl ?_
                    exact ihL1 _ (Option.some.inj h1).symm
                  · replace h1 := ob_neg c29 h1
                    refine x_iconst (v := 1) C dX11_mark_171 rfl ?_
                    refine x_goto C 176 dX11_mark_172 (by decide) ?_
                    refine x_iadd C dX11_mark_176 ?_
                    refine x_istore (lv' := [(4, .int (x20 + 1)), (5, .int x21), (0, .ref (kad K 0)), (1, .int a1)]) C dX11_mark_177 (by rw [e5]; decide) rfl ?_
                    refine x_iinc (v := (x21 + 1)) (lv' := [(5, .int (x21 + 1)), (4, .int (x20 + 1)), (0, .ref (kad K 0)), (1, .int a1)]) C 1 dX11_mark_179 rfl rfl (by rw [e5]; decide) rfl ?_
                    refine x_goto C 135 dX11_mark_182 (by decide) ?_
                    refine x_lv (lv' := [(5, .int (x21 + 1)), (4, .int (x20 + 1)), (0, .ref (kad K 0)), (1, .int a1)]) [0, 1, 2, 3] rfl ?_
                    exact ihL1 _ (Option.some.inj h1).symm
              · replace h0 := ob_pos c19 h0
                refine x_aload_n C 1 dX11_mark_121 rfl ?_
                refine x_getR (j := 11) (i := 38) (q := (RX11, TX11, 22)) C 10 (iM 0 (by decide)) rfl rfl inBX11 (by decide) tw774 rfl dX11_mark_122 ?_
                refine x_bipush (v := 7) C dX11_mark_125 rfl ?_
                obtain ⟨c32, h0⟩ := ob_if h0
                refine x_iald C (iM 10 (by decide)) rfl (vin_in c32) dX11_mark_127 ?_
                cases h0
                exact x_iret C R dX11_mark_128
            · replace h0 := ob_pos c17 h0
              refine x_iload_n C 0 dX11_mark_83 rfl ?_
              refine x_bipush (v := 7) C dX11_mark_84 rfl ?_
              refine x_iand C dX11_mark_86 ?_
              obtain ⟨r33, g34, h0⟩ := ob_bind h0
              refine x_callS (ar := 1) (rest := []) C (c_X11_bits C.2.2.2.2.2.2.1  g34) hy_X11_bits ⟨tw936, tw937, tw75, tw938⟩ (by decide) (by decide) rfl rfl (Nat.le_of_ble_eq_true rfl) dX11_mark_87 ?_
              show Wx LM K σ 90 [(3, .int (σ.1 10 a1.toNatClampNeg)), (0, .ref (kad K 0)), (1, .int a1), (2, .int a2)] [.int r33]
              refine x_iconst (v := 1) C dX11_mark_90 rfl ?_
              obtain ⟨e43, g42, h0⟩ := ob_un h0
              have J44 : ∀ (v37 : Int32), v37 = e43 → Wx LM K σ 99 [(3, .int (σ.1 10 a1.toNatClampNeg))] [.int v37] := by
                intro v37 e9
                subst e9
                replace h0 := un1_l h0
                refine x_iload_n C 0 dX11_mark_99 rfl ?_
                refine x_iconst (v := 3) C dX11_mark_100 rfl ?_
                refine x_ishr C dX11_mark_101 ?_
                obtain ⟨r38, g39, h0⟩ := ob_bind h0
                refine x_callS (ar := 1) (rest := [.int v37]) C (c_X11_bits C.2.2.2.2.2.2.1  g39) hy_X11_bits ⟨tw936, tw937, tw75, tw938⟩ (by decide) (by decide) rfl rfl (Nat.le_of_ble_eq_true rfl) dX11_mark_102 ?_
                show Wx LM K σ 105 [(3, .int (σ.1 10 a1.toNatClampNeg))] [.int r38, .int v37]
                refine x_iconst (v := 1) C dX11_mark_105 rfl ?_
                refine x_icmple C 113 dX11_mark_106 (by decide) (fun c41 => ?_) (fun c41 => ?_)
                · replace h0 := ob_pos c41 h0
                  refine x_iconst (v := 0) C dX11_mark_113 rfl ?_
                  refine x_iadd C dX11_mark_114 ?_
                  cases h0
                  exact x_iret C R dX11_mark_115
                · replace h0 := ob_neg c41 h0
                  refine x_iconst (v := 1) C dX11_mark_109 rfl ?_
                  refine x_goto C 114 dX11_mark_110 (by decide) ?_
                  refine x_iadd C dX11_mark_114 ?_
                  cases h0
                  exact x_iret C R dX11_mark_115
              refine x_icmple C 98 dX11_mark_91 (by decide) (fun c45 => ?_) (fun c45 => ?_)
              · replace g42 := ob_pos c45 g42
                refine x_iconst (v := 0) C dX11_mark_98 rfl ?_
                refine x_lv (lv' := [(3, .int (σ.1 10 a1.toNatClampNeg))]) [0] rfl ?_
                exact J44 _ g42
              · replace g42 := ob_neg c45 g42
                refine x_iconst (v := 1) C dX11_mark_94 rfl ?_
                refine x_goto C 99 dX11_mark_95 (by decide) ?_
                refine x_lv (lv' := [(3, .int (σ.1 10 a1.toNatClampNeg))]) [0] rfl ?_
                exact J44 _ g42
          · replace h0 := ob_pos c15 h0
            refine x_iconst (v := 2) C dX11_mark_66 rfl ?_
            refine x_aload_n C 1 dX11_mark_67 rfl ?_
            refine x_getR (j := 11) (i := 38) (q := (RX11, TX11, 22)) C 10 (iM 0 (by decide)) rfl rfl inBX11 (by decide) tw774 rfl dX11_mark_68 ?_
            refine x_bipush (v := 6) C dX11_mark_71 rfl ?_
            obtain ⟨c46, h0⟩ := ob_if h0
            refine x_iald C (iM 10 (by decide)) rfl (vin_in c46) dX11_mark_73 ?_
            refine x_iconst (v := 3) C dX11_mark_74 rfl ?_
            refine x_irem C dX11_mark_75 (by decide) ?_
            refine x_isub C dX11_mark_76 ?_
            cases h0
            exact x_iret C R dX11_mark_77
        · replace h0 := ob_pos c13 h0
          refine x_bipush (v := 6) C dX11_mark_53 rfl ?_
          refine x_iload_n C 0 dX11_mark_55 rfl ?_
          obtain ⟨r47, g48, h0⟩ := ob_bind h0
          refine x_callS (ar := 1) (rest := [.int 6]) C (c_X11_bits C.2.2.2.2.2.2.1  g48) hy_X11_bits ⟨tw936, tw937, tw75, tw938⟩ (by decide) (by decide) rfl rfl (Nat.le_of_ble_eq_true rfl) dX11_mark_56 ?_
          show Wx LM K σ 59 [(3, .int (σ.1 10 a1.toNatClampNeg)), (0, .ref (kad K 0)), (1, .int a1), (2, .int a2)] [.int r47, .int 6]
          refine x_isub C dX11_mark_59 ?_
          cases h0
          exact x_iret C R dX11_mark_60
      · replace h0 := ob_pos c10 h0
        refine x_aload_n C 0 dX11_mark_35 rfl ?_
        refine x_iconst (v := 3) C dX11_mark_36 rfl ?_
        obtain ⟨r49, s51, g50, h0⟩ := ob_bd h0
        refine x_callV (ar := 1) (q := (RX11, TX11, 22)) (rest := []) C (c_X11_finds C.2.2.2.2.2.2.1  g50) (iM 0 (by decide)) rfl rfl hy_X11_finds ⟨tw842, tw844, tw34, tw75, tw845⟩ (by decide) (by decide) rfl rfl (Nat.le_of_ble_eq_true rfl) dX11_mark_37 ?_
        show Wx LM K s51 40 [(0, .ref (kad K 0)), (1, .int a1), (2, .int a2)] [.int r49]
        cases h0
        exact x_iret C R dX11_mark_40
    · replace h0 := ob_pos c6 h0
      refine x_iconst (v := (-1)) C dX11_mark_20 rfl ?_
      cases h0
      exact x_iret C R dX11_mark_21
set_option maxHeartbeats 4000000 in
set_option maxRecDepth 100000 in
theorem c_X11_copies {l : Launch} {D : va_G} {ad : Nat → Nat} {cy : Nat → ClassId} (hJ : mJ LM ad) {σ τ : mS} {a1 : Int32} {a2 : Int32} {a3 : Int32} {r : Unit}  (h0 : X11_copies σ a1 a2 a3 = some (r, τ)) : MetG l LM D ad cy yX11_copies cX11_copies 5 none 0 [.ref (ad 0), .int a1, .int a2, .int a3] σ (none) τ := by
  refine MetG.of hJ (by decide +kernel) [(0, .ref (ad 0)), (1, .int a1), (2, .int a2), (3, .int a3)] rfl (Nat.le_of_ble_eq_true rfl) ?_
  intro K e1 e2 e3 e4 e5 C R
  subst e1
  subst e2
  subst e3
  subst e4
  unfold X11_copies at h0
  refine x_iconst (v := 0) C dX11_copies_0 rfl ?_
  refine x_istore (lv' := [(4, .int 0), (0, .ref (kad K 0)), (1, .int a1), (2, .int a2), (3, .int a3)]) C dX11_copies_1 (by rw [e5]; decide) rfl ?_
  obtain ⟨e8, g9, h0⟩ := ob_bind h0
  have J1 : ∀ (s3 : mS), s3 = e8 → Wx LM K s3 33 [] [] := by
    intro s3 e9
    subst e9
    replace h0 := un1_l h0
    cases h0
    exact x_vret C R dX11_copies_33
  refine lp_G (G := fun q : mS × Int32 => Wx LM K q.1 3 [(4, .int q.2), (0, .ref (kad K 0)), (1, .int a1), (2, .int a2), (3, .int a3)] []) (fun q x h1 ihL1 ihR1 => ?_) big _ g9
  obtain ⟨s1, x2⟩ := q
  replace h1 : X11_copies_b3 a1 a2 a3 s1 x2 = some x := h1
  unfold X11_copies_b3 at h1
  show Wx LM K s1 3 [(4, .int x2), (0, .ref (kad K 0)), (1, .int a1), (2, .int a2), (3, .int a3)] []
  refine x_iload C 0 dX11_copies_3 rfl ?_
  refine x_iload_n C 4 dX11_copies_5 rfl ?_
  refine x_icmpge C 33 dX11_copies_6 (by decide) (fun c5 => ?_) (fun c5 => ?_)
  · replace h1 := ob_pos c5 h1
    refine x_lv (lv' := []) [] rfl ?_
    exact J1 _ (ihR1 _ (Option.some.inj h1).symm)
  · replace h1 := ob_neg c5 h1
    refine x_aload_n C 1 dX11_copies_9 rfl ?_
    refine x_getR (j := 11) (i := 38) (q := (RX11, TX11, 22)) C 10 (iM 0 (by decide)) rfl rfl inBX11 (by decide) tw774 rfl dX11_copies_10 ?_
    refine x_iload_n C 3 dX11_copies_13 rfl ?_
    refine x_iload C 0 dX11_copies_14 rfl ?_
    refine x_iadd C dX11_copies_16 ?_
    refine x_aload_n C 1 dX11_copies_17 rfl ?_
    refine x_getR (j := 11) (i := 38) (q := (RX11, TX11, 22)) C 10 (iM 0 (by decide)) rfl rfl inBX11 (by decide) tw774 rfl dX11_copies_18 ?_
    refine x_iload_n C 2 dX11_copies_21 rfl ?_
    refine x_iload C 0 dX11_copies_22 rfl ?_
    refine x_iadd C dX11_copies_24 ?_
    obtain ⟨c6, h1⟩ := ob_if h1
    refine x_iald C (iM 10 (by decide)) rfl (vin_in c6) dX11_copies_25 ?_
    obtain ⟨c7, h1⟩ := ob_if h1
    refine x_iast C (iM 10 (by decide)) rfl (vin_in c7) dX11_copies_26 ?_
    refine x_iinc (v := (x2 + 1)) (lv' := [(4, .int (x2 + 1)), (0, .ref (kad K 0)), (1, .int a1), (2, .int a2), (3, .int a3)]) C 0 dX11_copies_27 rfl rfl (by rw [e5]; decide) rfl ?_
    refine x_goto C 3 dX11_copies_30 (by decide) ?_
    refine x_lv (lv' := [(4, .int (x2 + 1)), (0, .ref (kad K 0)), (1, .int a1), (2, .int a2), (3, .int a3)]) [0, 1, 2, 3, 4] rfl ?_
    exact ihL1 _ (Option.some.inj h1).symm
set_option maxHeartbeats 4000000 in
set_option maxRecDepth 100000 in
theorem c_X11_known {l : Launch} {D : va_G} {ad : Nat → Nat} {cy : Nat → ClassId} (hJ : mJ LM ad) {σ τ : mS}  {r : Unit}  (h0 : X11_known σ = some (r, τ)) : MetG l LM D ad cy yX11_known cX11_known 1 none 1 [.ref (ad 0)] σ (none) τ := by
  refine MetG.of hJ (by decide +kernel) [(0, .ref (ad 0))] rfl (Nat.le_of_ble_eq_true rfl) ?_
  intro K e1 e2 e3 e4 e5 C R
  subst e1
  subst e2
  subst e3
  subst e4
  unfold X11_known at h0
  refine x_aload_n C 0 dX11_known_0 rfl ?_
  refine x_dup C dX11_known_1 rfl ?_
  refine x_getI (j := 12) (i := 127) (q := (RX11, TX11, 22)) C (iM 0 (by decide)) rfl rfl inBX11 (by decide) tw775 rfl dX11_known_2 ?_
  refine x_iconst (v := 1) C dX11_known_5 rfl ?_
  refine x_iadd C dX11_known_6 ?_
  refine x_putI (j := 12) (i := 127) (q := (RX11, TX11, 22)) C tyX11 tyX11_ok nmX11 (iM 0 (by decide)) rfl rfl inBX11 (by decide) tw775 rfl (by decide +kernel) rfl dX11_known_7 ?_
  refine x_aload_n C 0 dX11_known_10 rfl ?_
  refine x_iconst (v := 0) C dX11_known_11 rfl ?_
  refine x_aload_n C 0 dX11_known_12 rfl ?_
  refine x_getI (j := 12) (i := 127) (q := (RX11, TX11, 22)) C (iM 0 (by decide)) rfl rfl inBX11 (by decide) tw775 rfl dX11_known_13 ?_
  refine x_bipush (v := 8) C dX11_known_16 rfl ?_
  refine x_imul C dX11_known_18 ?_
  refine x_bipush (v := 8) C dX11_known_19 rfl ?_
  obtain ⟨r1, s3, g2, h0⟩ := ob_bd h0
  refine x_callV (ar := 3) (q := (RX11, TX11, 22)) (rest := []) C (c_X11_copies C.2.2.2.2.2.2.1  g2) (iM 0 (by decide)) rfl rfl hy_X11_copies ⟨tw968, tw970, tw46, tw75, tw971⟩ (by decide) (by decide) rfl rfl (Nat.le_of_ble_eq_true rfl) dX11_known_21 ?_
  show Wx LM K s3 24 [(0, .ref (kad K 0))] []
  cases h0
  exact x_vret C R dX11_known_24
set_option maxHeartbeats 4000000 in
set_option maxRecDepth 100000 in
theorem c_X11_call {l : Launch} {D : va_G} {ad : Nat → Nat} {cy : Nat → ClassId} (hJ : mJ LM ad) {σ τ : mS} {a1 : Int32} {r : Int32}  (h0 : X11_call σ a1 = some (r, τ)) : MetG l LM D ad cy yX11_call cX11_call 2 (some .int) 3 [.ref (ad 0), .int a1] σ (some (.int r)) τ := by
  refine MetG.of hJ (by decide +kernel) [(0, .ref (ad 0)), (1, .int a1)] rfl (Nat.le_of_ble_eq_true rfl) ?_
  intro K e1 e2 e3 e4 e5 C R
  subst e1
  subst e2
  subst e3
  subst e4
  unfold X11_call at h0
  refine x_iload_n C 1 dX11_call_0 rfl ?_
  refine x_i2l C dX11_call_1 ?_
  refine x_lconst (v := 1) C dX11_call_2 rfl ?_
  refine x_ldc2 C tw911 dX11_call_3 ?_
  refine x_callS (ar := 3) (rest := []) C (c_X11_in C.2.2.2.2.2.2.1  rfl) hy_X11_in ⟨tw839, tw840, tw75, tw841⟩ (by decide) (by decide) rfl rfl (Nat.le_of_ble_eq_true rfl) dX11_call_6 ?_
  show Wx LM K σ 9 [(0, .ref (kad K 0)), (1, .int a1)] [.int (X11_in ((a1).toInt64) (1) (12))]
  refine x_ifne C 14 dX11_call_9 (by decide) (fun c3 => ?_) (fun c3 => ?_)
  · replace h0 := ob_neg c3 h0
    refine x_aload_n C 0 dX11_call_14 rfl ?_
    refine x_getI (j := 5) (i := 124) (q := (RX11, TX11, 22)) C (iM 0 (by decide)) rfl rfl inBX11 (by decide) tw768 rfl dX11_call_15 ?_
    refine x_ifeq C 34 dX11_call_18 (by decide) (fun c5 => ?_) (fun c5 => ?_)
    · replace h0 := ob_pos c5 h0
      refine x_bipush (v := (-4)) C dX11_call_34 rfl ?_
      cases h0
      exact x_iret C R dX11_call_36
    · replace h0 := ob_neg c5 h0
      refine x_aload_n C 0 dX11_call_21 rfl ?_
      refine x_getR (j := 11) (i := 38) (q := (RX11, TX11, 22)) C 10 (iM 0 (by decide)) rfl rfl inBX11 (by decide) tw774 rfl dX11_call_22 ?_
      refine x_iconst (v := 5) C dX11_call_25 rfl ?_
      obtain ⟨c6, h0⟩ := ob_if h0
      refine x_iald C (iM 10 (by decide)) rfl (vin_in c6) dX11_call_26 ?_
      refine x_iload_n C 1 dX11_call_27 rfl ?_
      refine x_callS (ar := 2) (rest := []) C (c_X11_has C.2.2.2.2.2.2.1  rfl) hy_X11_has ⟨tw957, tw958, tw75, tw959⟩ (by decide) (by decide) rfl rfl (Nat.le_of_ble_eq_true rfl) dX11_call_28 ?_
      show Wx LM K σ 31 [(0, .ref (kad K 0)), (1, .int a1)] [.int (X11_has (σ.1 10 (5 : Int32).toNatClampNeg) a1)]
      refine x_ifne C 37 dX11_call_31 (by decide) (fun c9 => ?_) (fun c9 => ?_)
      · replace h0 := ob_neg c9 h0
        refine x_aload_n C 0 dX11_call_37 rfl ?_
        refine x_getI (j := 12) (i := 127) (q := (RX11, TX11, 22)) C (iM 0 (by decide)) rfl rfl inBX11 (by decide) tw775 rfl dX11_call_38 ?_
        refine x_bipush (v := 40) C dX11_call_41 rfl ?_
        refine x_icmpne C 49 dX11_call_43 (by decide) (fun c11 => ?_) (fun c11 => ?_)
        · replace h0 := ob_neg c11 h0
          refine x_aload_n C 0 dX11_call_49 rfl ?_
          obtain ⟨r12, s14, g13, h0⟩ := ob_bd h0
          refine x_callV (ar := 0) (q := (RX11, TX11, 22)) (rest := []) C (c_X11_known C.2.2.2.2.2.2.1  g13) (iM 0 (by decide)) rfl rfl hy_X11_known ⟨tw964, tw966, tw45, tw75, tw967⟩ (by decide) (by decide) rfl rfl (Nat.le_of_ble_eq_true rfl) dX11_call_50 ?_
          show Wx LM K s14 53 [(0, .ref (kad K 0)), (1, .int a1)] []
          refine x_aload_n C 0 dX11_call_53 rfl ?_
          refine x_iconst (v := 0) C dX11_call_54 rfl ?_
          refine x_iload_n C 1 dX11_call_55 rfl ?_
          obtain ⟨r15, s17, g16, h0⟩ := ob_bd h0
          refine x_callV (ar := 2) (q := (RX11, TX11, 22)) (rest := []) C (c_X11_calls C.2.2.2.2.2.2.1  g16) (iM 0 (by decide)) rfl rfl hy_X11_calls ⟨tw972, tw974, tw47, tw75, tw975⟩ (by decide) (by decide) rfl rfl (Nat.le_of_ble_eq_true rfl) dX11_call_56 ?_
          show Wx LM K s17 59 [(0, .ref (kad K 0)), (1, .int a1)] [.int r15]
          cases h0
          exact x_iret C R dX11_call_59
        · replace h0 := ob_pos c11 h0
          refine x_bipush (v := (-2)) C dX11_call_46 rfl ?_
          cases h0
          exact x_iret C R dX11_call_48
      · replace h0 := ob_pos c9 h0
        refine x_bipush (v := (-4)) C dX11_call_34 rfl ?_
        cases h0
        exact x_iret C R dX11_call_36
  · replace h0 := ob_pos c3 h0
    refine x_iconst (v := (-1)) C dX11_call_12 rfl ?_
    cases h0
    exact x_iret C R dX11_call_13
set_option maxHeartbeats 4000000 in
set_option maxRecDepth 100000 in
theorem c_X11_rub {l : Launch} {D : va_G} {ad : Nat → Nat} {cy : Nat → ClassId} (hJ : mJ LM ad) {σ τ : mS} {a1 : Int32} {a2 : Int32} {r : Int32}  (h0 : X11_rub σ a1 a2 = some (r, τ)) : MetG l LM D ad cy yX11_rub cX11_rub 3 (some .int) 2 [.ref (ad 0), .int a1, .int a2] σ (some (.int r)) τ := by
  refine MetG.of hJ (by decide +kernel) [(0, .ref (ad 0)), (1, .int a1), (2, .int a2)] rfl (Nat.le_of_ble_eq_true rfl) ?_
  intro K e1 e2 e3 e4 e5 C R
  subst e1
  subst e2
  subst e3
  subst e4
  unfold X11_rub at h0
  refine x_aload_n C 0 dX11_rub_0 rfl ?_
  refine x_iload_n C 1 dX11_rub_1 rfl ?_
  refine x_callV (ar := 1) (q := (RX11, TX11, 22)) (rest := []) C (c_X11_isPlayer C.2.2.2.2.2.2.1  rfl) (iM 0 (by decide)) rfl rfl hy_X11_isPlayer ⟨tw924, tw926, tw42, tw75, tw927⟩ (by decide) (by decide) rfl rfl (Nat.le_of_ble_eq_true rfl) dX11_rub_2 ?_
  show Wx LM K σ 5 [(0, .ref (kad K 0)), (1, .int a1), (2, .int a2)] [.int (X11_isPlayer σ a1)]
  refine x_ifeq C 20 dX11_rub_5 (by decide) (fun c3 => ?_) (fun c3 => ?_)
  · replace h0 := ob_pos c3 h0
    refine x_iconst (v := (-1)) C dX11_rub_20 rfl ?_
    cases h0
    exact x_iret C R dX11_rub_21
  · replace h0 := ob_neg c3 h0
    refine x_iload_n C 2 dX11_rub_8 rfl ?_
    refine x_i2l C dX11_rub_9 ?_
    refine x_lconst (v := 0) C dX11_rub_10 rfl ?_
    refine x_ldc2 C tw838 dX11_rub_11 ?_
    refine x_callS (ar := 3) (rest := []) C (c_X11_in C.2.2.2.2.2.2.1  rfl) hy_X11_in ⟨tw839, tw840, tw75, tw841⟩ (by decide) (by decide) rfl rfl (Nat.le_of_ble_eq_true rfl) dX11_rub_14 ?_
    show Wx LM K σ 17 [(0, .ref (kad K 0)), (1, .int a1), (2, .int a2)] [.int (X11_in ((a2).toInt64) (0) (5))]
    refine x_ifne C 22 dX11_rub_17 (by decide) (fun c6 => ?_) (fun c6 => ?_)
    · replace h0 := ob_neg c6 h0
      refine x_aload_n C 0 dX11_rub_22 rfl ?_
      refine x_getI (j := 12) (i := 127) (q := (RX11, TX11, 22)) C (iM 0 (by decide)) rfl rfl inBX11 (by decide) tw775 rfl dX11_rub_23 ?_
      refine x_bipush (v := 40) C dX11_rub_26 rfl ?_
      refine x_icmpne C 34 dX11_rub_28 (by decide) (fun c8 => ?_) (fun c8 => ?_)
      · replace h0 := ob_neg c8 h0
        refine x_aload_n C 0 dX11_rub_34 rfl ?_
        obtain ⟨r9, s11, g10, h0⟩ := ob_bd h0
        refine x_callV (ar := 0) (q := (RX11, TX11, 22)) (rest := []) C (c_X11_known C.2.2.2.2.2.2.1  g10) (iM 0 (by decide)) rfl rfl hy_X11_known ⟨tw964, tw966, tw45, tw75, tw967⟩ (by decide) (by decide) rfl rfl (Nat.le_of_ble_eq_true rfl) dX11_rub_35 ?_
        show Wx LM K s11 38 [(0, .ref (kad K 0)), (1, .int a1), (2, .int a2)] []
        refine x_aload_n C 0 dX11_rub_38 rfl ?_
        refine x_getR (j := 11) (i := 38) (q := (RX11, TX11, 22)) C 10 (iM 0 (by decide)) rfl rfl inBX11 (by decide) tw774 rfl dX11_rub_39 ?_
        refine x_iload_n C 1 dX11_rub_42 rfl ?_
        refine x_dup2 C dX11_rub_43 rfl rfl ?_
        obtain ⟨c12, h0⟩ := ob_if h0
        refine x_iald C (iM 10 (by decide)) rfl (vin_in c12) dX11_rub_44 ?_
        refine x_iconst (v := 1) C dX11_rub_45 rfl ?_
        refine x_iload_n C 2 dX11_rub_46 rfl ?_
        refine x_ishl C dX11_rub_47 ?_
        refine x_ixor C dX11_rub_48 ?_
        obtain ⟨c13, h0⟩ := ob_if h0
        refine x_iast C (iM 10 (by decide)) rfl (vin_in c13) dX11_rub_49 ?_
        refine x_aload_n C 0 dX11_rub_50 rfl ?_
        refine x_getR (j := 11) (i := 38) (q := (RX11, TX11, 22)) C 10 (iM 0 (by decide)) rfl rfl inBX11 (by decide) tw774 rfl dX11_rub_51 ?_
        refine x_iload_n C 1 dX11_rub_54 rfl ?_
        obtain ⟨c14, h0⟩ := ob_if h0
        refine x_iald C (iM 10 (by decide)) rfl (vin_in c14) dX11_rub_55 ?_
        cases h0
        exact x_iret C R dX11_rub_56
      · replace h0 := ob_pos c8 h0
        refine x_bipush (v := (-2)) C dX11_rub_31 rfl ?_
        cases h0
        exact x_iret C R dX11_rub_33
    · replace h0 := ob_pos c6 h0
      refine x_iconst (v := (-1)) C dX11_rub_20 rfl ?_
      cases h0
      exact x_iret C R dX11_rub_21
set_option maxHeartbeats 4000000 in
set_option maxRecDepth 100000 in
theorem c_X11_undo {l : Launch} {D : va_G} {ad : Nat → Nat} {cy : Nat → ClassId} (hJ : mJ LM ad) {σ τ : mS} {a1 : Int32} {r : Int32}  (h0 : X11_undo σ a1 = some (r, τ)) : MetG l LM D ad cy yX11_undo cX11_undo 3 (some .int) 1 [.ref (ad 0), .int a1] σ (some (.int r)) τ := by
  refine MetG.of hJ (by decide +kernel) [(0, .ref (ad 0)), (1, .int a1)] rfl (Nat.le_of_ble_eq_true rfl) ?_
  intro K e1 e2 e3 e4 e5 C R
  subst e1
  subst e2
  subst e3
  subst e4
  unfold X11_undo at h0
  refine x_iload_n C 1 dX11_undo_0 rfl ?_
  refine x_i2l C dX11_undo_1 ?_
  refine x_lconst (v := 0) C dX11_undo_2 rfl ?_
  refine x_aload_n C 0 dX11_undo_3 rfl ?_
  refine x_getI (j := 12) (i := 127) (q := (RX11, TX11, 22)) C (iM 0 (by decide)) rfl rfl inBX11 (by decide) tw775 rfl dX11_undo_4 ?_
  refine x_i2l C dX11_undo_7 ?_
  refine x_callS (ar := 3) (rest := []) C (c_X11_in C.2.2.2.2.2.2.1  rfl) hy_X11_in ⟨tw839, tw840, tw75, tw841⟩ (by decide) (by decide) rfl rfl (Nat.le_of_ble_eq_true rfl) dX11_undo_8 ?_
  show Wx LM K σ 11 [(0, .ref (kad K 0)), (1, .int a1)] [.int (X11_in ((a1).toInt64) (0) (((σ.1 0 12)).toInt64))]
  refine x_ifne C 16 dX11_undo_11 (by decide) (fun c3 => ?_) (fun c3 => ?_)
  · replace h0 := ob_neg c3 h0
    refine x_aload_n C 0 dX11_undo_16 rfl ?_
    refine x_getI (j := 12) (i := 127) (q := (RX11, TX11, 22)) C (iM 0 (by decide)) rfl rfl inBX11 (by decide) tw775 rfl dX11_undo_17 ?_
    refine x_iload_n C 1 dX11_undo_20 rfl ?_
    refine x_isub C dX11_undo_21 ?_
    refine x_istore_n (lv' := [(2, .int ((σ.1 0 12) - a1)), (0, .ref (kad K 0)), (1, .int a1)]) C dX11_undo_22 (by rw [e5]; decide) rfl ?_
    refine x_iload_n C 0 dX11_undo_23 rfl ?_
    refine x_ifle C 45 dX11_undo_24 (by decide) (fun c5 => ?_) (fun c5 => ?_)
    · replace h0 := ob_pos c5 h0
      refine x_iload_n C 0 dX11_undo_45 rfl ?_
      cases h0
      exact x_iret C R dX11_undo_46
    · replace h0 := ob_neg c5 h0
      refine x_aload_n C 1 dX11_undo_27 rfl ?_
      refine x_iload_n C 2 dX11_undo_28 rfl ?_
      refine x_iconst (v := 1) C dX11_undo_29 rfl ?_
      refine x_iadd C dX11_undo_30 ?_
      refine x_bipush (v := 8) C dX11_undo_31 rfl ?_
      refine x_imul C dX11_undo_33 ?_
      refine x_iconst (v := 0) C dX11_undo_34 rfl ?_
      refine x_bipush (v := 8) C dX11_undo_35 rfl ?_
      obtain ⟨r6, s8, g7, h0⟩ := ob_bd h0
      refine x_callV (ar := 3) (q := (RX11, TX11, 22)) (rest := []) C (c_X11_copies C.2.2.2.2.2.2.1  g7) (iM 0 (by decide)) rfl rfl hy_X11_copies ⟨tw968, tw970, tw46, tw75, tw971⟩ (by decide) (by decide) rfl rfl (Nat.le_of_ble_eq_true rfl) dX11_undo_37 ?_
      show Wx LM K s8 40 [(2, .int ((σ.1 0 12) - a1)), (0, .ref (kad K 0)), (1, .int a1)] []
      refine x_aload_n C 1 dX11_undo_40 rfl ?_
      refine x_iload_n C 2 dX11_undo_41 rfl ?_
      refine x_putI (j := 12) (i := 127) (q := (RX11, TX11, 22)) C tyX11 tyX11_ok nmX11 (iM 0 (by decide)) rfl rfl inBX11 (by decide) tw775 rfl (by decide +kernel) rfl dX11_undo_42 ?_
      refine x_iload_n C 0 dX11_undo_45 rfl ?_
      cases h0
      exact x_iret C R dX11_undo_46
  · replace h0 := ob_pos c3 h0
    refine x_iconst (v := (-1)) C dX11_undo_14 rfl ?_
    cases h0
    exact x_iret C R dX11_undo_15
set_option maxHeartbeats 4000000 in
set_option maxRecDepth 100000 in
theorem c_X11_keep {l : Launch} {D : va_G} {ad : Nat → Nat} {cy : Nat → ClassId} (hJ : mJ LM ad) {σ τ : mS} {a1 : Int32} {r : Int32}  (h0 : X11_keep σ a1 = some (r, τ)) : MetG l LM D ad cy yX11_keep cX11_keep 2 (some .int) 1 [.ref (ad 0), .int a1] σ (some (.int r)) τ := by
  refine MetG.of hJ (by decide +kernel) [(0, .ref (ad 0)), (1, .int a1)] rfl (Nat.le_of_ble_eq_true rfl) ?_
  intro K e1 e2 e3 e4 e5 C R
  subst e1
  subst e2
  subst e3
  subst e4
  unfold X11_keep at h0
  refine x_iload_n C 1 dX11_keep_0 rfl ?_
  refine x_i2l C dX11_keep_1 ?_
  refine x_lconst (v := 0) C dX11_keep_2 rfl ?_
  refine x_ldc2 C tw991 dX11_keep_3 ?_
  refine x_callS (ar := 3) (rest := []) C (c_X11_in C.2.2.2.2.2.2.1  rfl) hy_X11_in ⟨tw839, tw840, tw75, tw841⟩ (by decide) (by decide) rfl rfl (Nat.le_of_ble_eq_true rfl) dX11_keep_6 ?_
  show Wx LM K σ 9 [(0, .ref (kad K 0)), (1, .int a1)] [.int (X11_in ((a1).toInt64) (0) (2))]
  refine x_ifne C 14 dX11_keep_9 (by decide) (fun c3 => ?_) (fun c3 => ?_)
  · replace h0 := ob_neg c3 h0
    refine x_aload_n C 0 dX11_keep_14 rfl ?_
    refine x_getI (j := 5) (i := 124) (q := (RX11, TX11, 22)) C (iM 0 (by decide)) rfl rfl inBX11 (by decide) tw768 rfl dX11_keep_15 ?_
    refine x_ifne C 24 dX11_keep_18 (by decide) (fun c5 => ?_) (fun c5 => ?_)
    · replace h0 := ob_neg c5 h0
      refine x_aload_n C 0 dX11_keep_24 rfl ?_
      refine x_iconst (v := 0) C dX11_keep_25 rfl ?_
      refine x_sipush (v := 328) C dX11_keep_26 rfl ?_
      refine x_iload_n C 1 dX11_keep_29 rfl ?_
      refine x_iconst (v := 1) C dX11_keep_30 rfl ?_
      refine x_iadd C dX11_keep_31 ?_
      refine x_imul C dX11_keep_32 ?_
      refine x_sipush (v := 328) C dX11_keep_33 rfl ?_
      obtain ⟨r6, s8, g7, h0⟩ := ob_bd h0
      refine x_callV (ar := 3) (q := (RX11, TX11, 22)) (rest := []) C (c_X11_copies C.2.2.2.2.2.2.1  g7) (iM 0 (by decide)) rfl rfl hy_X11_copies ⟨tw968, tw970, tw46, tw75, tw971⟩ (by decide) (by decide) rfl rfl (Nat.le_of_ble_eq_true rfl) dX11_keep_36 ?_
      show Wx LM K s8 39 [(0, .ref (kad K 0)), (1, .int a1)] []
      refine x_aload_n C 0 dX11_keep_39 rfl ?_
      refine x_getR (j := 13) (i := 41) (q := (RX11, TX11, 22)) C 11 (iM 0 (by decide)) rfl rfl inBX11 (by decide) tw776 rfl dX11_keep_40 ?_
      refine x_iload_n C 1 dX11_keep_43 rfl ?_
      refine x_aload_n C 0 dX11_keep_44 rfl ?_
      refine x_getI (j := 12) (i := 127) (q := (RX11, TX11, 22)) C (iM 0 (by decide)) rfl rfl inBX11 (by decide) tw775 rfl dX11_keep_45 ?_
      obtain ⟨c9, h0⟩ := ob_if h0
      refine x_iast C (iM 11 (by decide)) rfl (vin_in c9) dX11_keep_48 ?_
      refine x_aload_n C 0 dX11_keep_49 rfl ?_
      refine x_getI (j := 12) (i := 127) (q := (RX11, TX11, 22)) C (iM 0 (by decide)) rfl rfl inBX11 (by decide) tw775 rfl dX11_keep_50 ?_
      cases h0
      exact x_iret C R dX11_keep_53
    · replace h0 := ob_pos c5 h0
      refine x_bipush (v := (-4)) C dX11_keep_21 rfl ?_
      cases h0
      exact x_iret C R dX11_keep_23
  · replace h0 := ob_pos c3 h0
    refine x_iconst (v := (-1)) C dX11_keep_12 rfl ?_
    cases h0
    exact x_iret C R dX11_keep_13
set_option maxHeartbeats 4000000 in
set_option maxRecDepth 100000 in
theorem c_X11_on {l : Launch} {D : va_G} {ad : Nat → Nat} {cy : Nat → ClassId} (hJ : mJ LM ad) {σ τ : mS} {a1 : Int32} {r : Int32}  (h0 : X11_on σ a1 = some (r, τ)) : MetG l LM D ad cy yX11_on cX11_on 2 (some .int) 1 [.ref (ad 0), .int a1] σ (some (.int r)) τ := by
  refine MetG.of hJ (by decide +kernel) [(0, .ref (ad 0)), (1, .int a1)] rfl (Nat.le_of_ble_eq_true rfl) ?_
  intro K e1 e2 e3 e4 e5 C R
  subst e1
  subst e2
  subst e3
  subst e4
  unfold X11_on at h0
  refine x_iload_n C 1 dX11_on_0 rfl ?_
  refine x_i2l C dX11_on_1 ?_
  refine x_lconst (v := 0) C dX11_on_2 rfl ?_
  refine x_ldc2 C tw991 dX11_on_3 ?_
  refine x_callS (ar := 3) (rest := []) C (c_X11_in C.2.2.2.2.2.2.1  rfl) hy_X11_in ⟨tw839, tw840, tw75, tw841⟩ (by decide) (by decide) rfl rfl (Nat.le_of_ble_eq_true rfl) dX11_on_6 ?_
  show Wx LM K σ 9 [(0, .ref (kad K 0)), (1, .int a1)] [.int (X11_in ((a1).toInt64) (0) (2))]
  refine x_ifne C 14 dX11_on_9 (by decide) (fun c3 => ?_) (fun c3 => ?_)
  · replace h0 := ob_neg c3 h0
    refine x_aload_n C 0 dX11_on_14 rfl ?_
    refine x_getR (j := 13) (i := 41) (q := (RX11, TX11, 22)) C 11 (iM 0 (by decide)) rfl rfl inBX11 (by decide) tw776 rfl dX11_on_15 ?_
    refine x_iload_n C 1 dX11_on_18 rfl ?_
    obtain ⟨c4, h0⟩ := ob_if h0
    refine x_iald C (iM 11 (by decide)) rfl (vin_in c4) dX11_on_19 ?_
    refine x_ifge C 29 dX11_on_20 (by decide) (fun c6 => ?_) (fun c6 => ?_)
    · replace h0 := ob_pos c6 h0
      refine x_aload_n C 0 dX11_on_29 rfl ?_
      refine x_sipush (v := 328) C dX11_on_30 rfl ?_
      refine x_iload_n C 1 dX11_on_33 rfl ?_
      refine x_iconst (v := 1) C dX11_on_34 rfl ?_
      refine x_iadd C dX11_on_35 ?_
      refine x_imul C dX11_on_36 ?_
      refine x_iconst (v := 0) C dX11_on_37 rfl ?_
      refine x_sipush (v := 328) C dX11_on_38 rfl ?_
      obtain ⟨r7, s9, g8, h0⟩ := ob_bd h0
      refine x_callV (ar := 3) (q := (RX11, TX11, 22)) (rest := []) C (c_X11_copies C.2.2.2.2.2.2.1  g8) (iM 0 (by decide)) rfl rfl hy_X11_copies ⟨tw968, tw970, tw46, tw75, tw971⟩ (by decide) (by decide) rfl rfl (Nat.le_of_ble_eq_true rfl) dX11_on_41 ?_
      show Wx LM K s9 44 [(0, .ref (kad K 0)), (1, .int a1)] []
      refine x_aload_n C 0 dX11_on_44 rfl ?_
      refine x_aload_n C 0 dX11_on_45 rfl ?_
      refine x_getR (j := 13) (i := 41) (q := (RX11, TX11, 22)) C 11 (iM 0 (by decide)) rfl rfl inBX11 (by decide) tw776 rfl dX11_on_46 ?_
      refine x_iload_n C 1 dX11_on_49 rfl ?_
      obtain ⟨c10, h0⟩ := ob_if h0
      refine x_iald C (iM 11 (by decide)) rfl (vin_in c10) dX11_on_50 ?_
      refine x_putI (j := 12) (i := 127) (q := (RX11, TX11, 22)) C tyX11 tyX11_ok nmX11 (iM 0 (by decide)) rfl rfl inBX11 (by decide) tw775 rfl (by decide +kernel) rfl dX11_on_51 ?_
      refine x_aload_n C 0 dX11_on_54 rfl ?_
      refine x_getI (j := 12) (i := 127) (q := (RX11, TX11, 22)) C (iM 0 (by decide)) rfl rfl inBX11 (by decide) tw775 rfl dX11_on_55 ?_
      cases h0
      exact x_iret C R dX11_on_58
    · replace h0 := ob_neg c6 h0
      refine x_aload_n C 0 dX11_on_23 rfl ?_
      refine x_iconst (v := 1) C dX11_on_24 rfl ?_
      obtain ⟨r11, s13, g12, h0⟩ := ob_bd h0
      refine x_callV (ar := 1) (q := (RX11, TX11, 22)) (rest := []) C (c_X11_finds C.2.2.2.2.2.2.1  g12) (iM 0 (by decide)) rfl rfl hy_X11_finds ⟨tw842, tw844, tw34, tw75, tw845⟩ (by decide) (by decide) rfl rfl (Nat.le_of_ble_eq_true rfl) dX11_on_25 ?_
      show Wx LM K s13 28 [(0, .ref (kad K 0)), (1, .int a1)] [.int r11]
      cases h0
      exact x_iret C R dX11_on_28
  · replace h0 := ob_pos c3 h0
    refine x_iconst (v := (-1)) C dX11_on_12 rfl ?_
    cases h0
    exact x_iret C R dX11_on_13
set_option maxHeartbeats 4000000 in
set_option maxRecDepth 100000 in
theorem c_X11_hears {l : Launch} {D : va_G} {ad : Nat → Nat} {cy : Nat → ClassId} (hJ : mJ LM ad) {σ : mS} {a1 : Int32} {a2 : Int32} {a3 : Int32} {a4 : Int32} {r : Int32}  (h0 : X11_hears σ a1 a2 a3 a4 = some r) : MetG l LM D ad cy yX11_hears cX11_hears 5 (some .int) 2 [.ref (ad 0), .int a1, .int a2, .int a3, .int a4] σ (some (.int r)) σ := by
  refine MetG.of hJ (by decide +kernel) [(0, .ref (ad 0)), (1, .int a1), (2, .int a2), (3, .int a3), (4, .int a4)] rfl (Nat.le_of_ble_eq_true rfl) ?_
  intro K e1 e2 e3 e4 e5 C R
  subst e1
  subst e2
  subst e3
  subst e4
  unfold X11_hears at h0
  refine x_aload_n C 0 dX11_hears_0 rfl ?_
  refine x_iload_n C 1 dX11_hears_1 rfl ?_
  refine x_callV (ar := 1) (q := (RX11, TX11, 22)) (rest := []) C (c_X11_isPlayer C.2.2.2.2.2.2.1  rfl) (iM 0 (by decide)) rfl rfl hy_X11_isPlayer ⟨tw924, tw926, tw42, tw75, tw927⟩ (by decide) (by decide) rfl rfl (Nat.le_of_ble_eq_true rfl) dX11_hears_2 ?_
  show Wx LM K σ 5 [(0, .ref (kad K 0)), (1, .int a1), (2, .int a2), (3, .int a3), (4, .int a4)] [.int (X11_isPlayer σ a1)]
  refine x_ifeq C 45 dX11_hears_5 (by decide) (fun c3 => ?_) (fun c3 => ?_)
  · replace h0 := ob_pos c3 h0
    refine x_iconst (v := (-1)) C dX11_hears_45 rfl ?_
    cases h0
    exact x_iret C R dX11_hears_46
  · replace h0 := ob_neg c3 h0
    refine x_iload_n C 2 dX11_hears_8 rfl ?_
    refine x_i2l C dX11_hears_9 ?_
    refine x_lconst (v := 1) C dX11_hears_10 rfl ?_
    refine x_ldc2 C tw911 dX11_hears_11 ?_
    refine x_callS (ar := 3) (rest := []) C (c_X11_in C.2.2.2.2.2.2.1  rfl) hy_X11_in ⟨tw839, tw840, tw75, tw841⟩ (by decide) (by decide) rfl rfl (Nat.le_of_ble_eq_true rfl) dX11_hears_14 ?_
    show Wx LM K σ 17 [(0, .ref (kad K 0)), (1, .int a1), (2, .int a2), (3, .int a3), (4, .int a4)] [.int (X11_in ((a2).toInt64) (1) (12))]
    refine x_ifeq C 45 dX11_hears_17 (by decide) (fun c6 => ?_) (fun c6 => ?_)
    · replace h0 := ob_pos c6 h0
      refine x_iconst (v := (-1)) C dX11_hears_45 rfl ?_
      cases h0
      exact x_iret C R dX11_hears_46
    · replace h0 := ob_neg c6 h0
      refine x_iload_n C 3 dX11_hears_20 rfl ?_
      refine x_i2l C dX11_hears_21 ?_
      refine x_lconst (v := 0) C dX11_hears_22 rfl ?_
      refine x_ldc2 C tw911 dX11_hears_23 ?_
      refine x_callS (ar := 3) (rest := []) C (c_X11_in C.2.2.2.2.2.2.1  rfl) hy_X11_in ⟨tw839, tw840, tw75, tw841⟩ (by decide) (by decide) rfl rfl (Nat.le_of_ble_eq_true rfl) dX11_hears_26 ?_
      show Wx LM K σ 29 [(0, .ref (kad K 0)), (1, .int a1), (2, .int a2), (3, .int a3), (4, .int a4)] [.int (X11_in ((a3).toInt64) (0) (12))]
      refine x_ifeq C 45 dX11_hears_29 (by decide) (fun c9 => ?_) (fun c9 => ?_)
      · replace h0 := ob_pos c9 h0
        refine x_iconst (v := (-1)) C dX11_hears_45 rfl ?_
        cases h0
        exact x_iret C R dX11_hears_46
      · replace h0 := ob_neg c9 h0
        refine x_iload C 4 dX11_hears_32 rfl ?_
        refine x_i2l C dX11_hears_34 ?_
        refine x_lconst (v := 0) C dX11_hears_35 rfl ?_
        refine x_ldc2 C tw1000 dX11_hears_36 ?_
        refine x_callS (ar := 3) (rest := []) C (c_X11_in C.2.2.2.2.2.2.1  rfl) hy_X11_in ⟨tw839, tw840, tw75, tw841⟩ (by decide) (by decide) rfl rfl (Nat.le_of_ble_eq_true rfl) dX11_hears_39 ?_
        show Wx LM K σ 42 [(0, .ref (kad K 0)), (1, .int a1), (2, .int a2), (3, .int a3), (4, .int a4)] [.int (X11_in ((a4).toInt64) (0) (99))]
        refine x_ifne C 47 dX11_hears_42 (by decide) (fun c12 => ?_) (fun c12 => ?_)
        · replace h0 := ob_neg c12 h0
          refine x_aload_n C 0 dX11_hears_47 rfl ?_
          refine x_getR (j := 6) (i := 26) (q := (RX11, TX11, 22)) C 6 (iM 0 (by decide)) rfl rfl inBX11 (by decide) tw769 rfl dX11_hears_48 ?_
          refine x_iload_n C 1 dX11_hears_51 rfl ?_
          obtain ⟨c13, h0⟩ := ob_if h0
          refine x_iald C (iM 6 (by decide)) rfl (vin_in c13) dX11_hears_52 ?_
          refine x_iload_n C 2 dX11_hears_53 rfl ?_
          refine x_iload_n C 3 dX11_hears_54 rfl ?_
          refine x_iload C 4 dX11_hears_55 rfl ?_
          refine x_callS (ar := 4) (rest := []) C (c_X11_heard C.2.2.2.2.2.2.1  rfl) hy_X11_heard ⟨tw976, tw977, tw75, tw978⟩ (by decide) (by decide) rfl rfl (Nat.le_of_ble_eq_true rfl) dX11_hears_57 ?_
          show Wx LM K σ 60 [(0, .ref (kad K 0)), (1, .int a1), (2, .int a2), (3, .int a3), (4, .int a4)] [.int (X11_heard (σ.1 6 a1.toNatClampNeg) a2 a3 a4)]
          cases h0
          exact x_iret C R dX11_hears_60
        · replace h0 := ob_pos c12 h0
          refine x_iconst (v := (-1)) C dX11_hears_45 rfl ?_
          cases h0
          exact x_iret C R dX11_hears_46
set_option maxHeartbeats 4000000 in
set_option maxRecDepth 100000 in
theorem c_X11_run {l : Launch} {D : va_G} {ad : Nat → Nat} {cy : Nat → ClassId} (hJ : mJ LM ad) {σ τ : mS} {a1 : Int32} {r : Int32}  (h0 : X11_run σ a1 = some (r, τ)) : MetG l LM D ad cy yX11_run cX11_run 3 (some .int) 3 [.ref (ad 0), .int a1] σ (some (.int r)) τ := by
  refine MetG.of hJ (by decide +kernel) [(0, .ref (ad 0)), (1, .int a1)] rfl (Nat.le_of_ble_eq_true rfl) ?_
  intro K e1 e2 e3 e4 e5 C R
  subst e1
  subst e2
  subst e3
  subst e4
  unfold X11_run at h0
  refine x_aload_n C 0 dX11_run_0 rfl ?_
  refine x_getI (j := 5) (i := 124) (q := (RX11, TX11, 22)) C (iM 0 (by decide)) rfl rfl inBX11 (by decide) tw768 rfl dX11_run_1 ?_
  refine x_ifne C 10 dX11_run_4 (by decide) (fun c2 => ?_) (fun c2 => ?_)
  · replace h0 := ob_neg c2 h0
    refine x_aload_n C 0 dX11_run_10 rfl ?_
    refine x_iload_n C 1 dX11_run_11 rfl ?_
    refine x_callV (ar := 1) (q := (RX11, TX11, 22)) (rest := []) C (c_X11_isRow C.2.2.2.2.2.2.1  rfl) (iM 0 (by decide)) rfl rfl hy_X11_isRow ⟨tw834, tw836, tw33, tw75, tw837⟩ (by decide) (by decide) rfl rfl (Nat.le_of_ble_eq_true rfl) dX11_run_12 ?_
    show Wx LM K σ 15 [(0, .ref (kad K 0)), (1, .int a1)] [.int (X11_isRow a1)]
    refine x_ifne C 20 dX11_run_15 (by decide) (fun c5 => ?_) (fun c5 => ?_)
    · replace h0 := ob_neg c5 h0
      refine x_aload_n C 0 dX11_run_20 rfl ?_
      refine x_getR (j := 0) (i := 7) (q := (RX11, TX11, 22)) C 1 (iM 0 (by decide)) rfl rfl inBX11 (by decide) tw763 rfl dX11_run_21 ?_
      refine x_iload_n C 1 dX11_run_24 rfl ?_
      obtain ⟨c6, h0⟩ := ob_if h0
      refine x_iald C (iM 1 (by decide)) rfl (vin_in c6) dX11_run_25 ?_
      refine x_ifge C 35 dX11_run_26 (by decide) (fun c8 => ?_) (fun c8 => ?_)
      · replace h0 := ob_pos c8 h0
        refine x_aload_n C 0 dX11_run_35 rfl ?_
        refine x_getR (j := 0) (i := 7) (q := (RX11, TX11, 22)) C 1 (iM 0 (by decide)) rfl rfl inBX11 (by decide) tw763 rfl dX11_run_36 ?_
        refine x_iload_n C 1 dX11_run_39 rfl ?_
        obtain ⟨c9, h0⟩ := ob_if h0
        refine x_iald C (iM 1 (by decide)) rfl (vin_in c9) dX11_run_40 ?_
        refine x_bipush (v := 12) C dX11_run_41 rfl ?_
        refine x_icmple C 52 dX11_run_43 (by decide) (fun c11 => ?_) (fun c11 => ?_)
        · replace h0 := ob_pos c11 h0
          refine x_iconst (v := 0) C dX11_run_52 rfl ?_
          refine x_istore_n (lv' := [(2, .int 0), (0, .ref (kad K 0)), (1, .int a1)]) C dX11_run_53 (by rw [e5]; decide) rfl ?_
          obtain ⟨e45, g46, h0⟩ := ob_bind h0
          have J1 : ∀ (u9 : Unit), .inl u9 = e45 → Wx LM K σ 98 [(0, .ref (kad K 0)), (1, .int a1)] [] := by
            intro u9 e9
            subst e9
            replace h0 := sm1_l h0
            refine x_aload_n C 0 dX11_run_98 rfl ?_
            refine x_iconst (v := 0) C dX11_run_99 rfl ?_
            refine x_sipush (v := 1312) C dX11_run_100 rfl ?_
            refine x_bipush (v := 8) C dX11_run_103 rfl ?_
            obtain ⟨r13, s15, g14, h0⟩ := ob_bd h0
            refine x_callV (ar := 3) (q := (RX11, TX11, 22)) (rest := []) C (c_X11_copies C.2.2.2.2.2.2.1  g14) (iM 0 (by decide)) rfl rfl hy_X11_copies ⟨tw968, tw970, tw46, tw75, tw971⟩ (by decide) (by decide) rfl rfl (Nat.le_of_ble_eq_true rfl) dX11_run_105 ?_
            show Wx LM K s15 108 [(0, .ref (kad K 0)), (1, .int a1)] []
            refine x_iconst (v := 0) C dX11_run_108 rfl ?_
            refine x_istore_n (lv' := [(2, .int 0), (0, .ref (kad K 0)), (1, .int a1)]) C dX11_run_109 (by rw [e5]; decide) rfl ?_
            obtain ⟨e33, g34, h0⟩ := ob_bind h0
            have J2 : ∀ (s18 : mS) (y19 : Int32), (s18, y19) = e33 → Wx LM K s18 170 [(2, .int y19), (0, .ref (kad K 0))] [] := by
              intro s18 y19 e9
              subst e9
              replace h0 := un2_l h0
              refine x_aload_n C 1 dX11_run_170 rfl ?_
              refine x_iload_n C 0 dX11_run_171 rfl ?_
              refine x_putI (j := 14) (i := 64) (q := (RX11, TX11, 22)) C tyX11 tyX11_ok nmX11 (iM 0 (by decide)) rfl rfl inBX11 (by decide) tw777 rfl (by decide +kernel) rfl dX11_run_172 ?_
              refine x_aload_n C 1 dX11_run_175 rfl ?_
              refine x_getR (j := 11) (i := 38) (q := (RX11, TX11, 22)) C 10 (iM 0 (by decide)) rfl rfl inBX11 (by decide) tw774 rfl dX11_run_176 ?_
              refine x_sipush (v := 1316) C dX11_run_179 rfl ?_
              obtain ⟨c20, h0⟩ := ob_if h0
              refine x_iald C (iM 10 (by decide)) rfl (vin_in c20) dX11_run_182 ?_
              cases h0
              exact x_iret C R dX11_run_183
            refine lp_G (G := fun q : mS × Int32 => Wx LM K q.1 110 [(2, .int q.2), (0, .ref (kad K 0)), (1, .int a1)] []) (fun q x h2 ihL2 ihR2 => ?_) big _ g34
            obtain ⟨s16, x17⟩ := q
            replace h2 : X11_run_b110 a1 s16 x17 = some x := h2
            unfold X11_run_b110 at h2
            show Wx LM K s16 110 [(2, .int x17), (0, .ref (kad K 0)), (1, .int a1)] []
            refine x_iload_n C 0 dX11_run_110 rfl ?_
            refine x_aload_n C 1 dX11_run_111 rfl ?_
            refine x_getR (j := 0) (i := 7) (q := (RX11, TX11, 22)) C 1 (iM 0 (by decide)) rfl rfl inBX11 (by decide) tw763 rfl dX11_run_112 ?_
            refine x_iload_n C 2 dX11_run_115 rfl ?_
            obtain ⟨c21, h2⟩ := ob_if h2
            refine x_iald C (iM 1 (by decide)) rfl (vin_in c21) dX11_run_116 ?_
            refine x_icmpge C 170 dX11_run_117 (by decide) (fun c23 => ?_) (fun c23 => ?_)
            · replace h2 := ob_pos c23 h2
              refine x_lv (lv' := [(2, .int x17), (0, .ref (kad K 0))]) [0, 1] rfl ?_
              exact J2 _ _ (ihR2 _ (Option.some.inj h2).symm)
            · replace h2 := ob_neg c23 h2
              refine x_aload_n C 1 dX11_run_120 rfl ?_
              refine x_getR (j := 11) (i := 38) (q := (RX11, TX11, 22)) C 10 (iM 0 (by decide)) rfl rfl inBX11 (by decide) tw774 rfl dX11_run_121 ?_
              refine x_sipush (v := 1317) C dX11_run_124 rfl ?_
              obtain ⟨c24, h2⟩ := ob_if h2
              refine x_iald C (iM 10 (by decide)) rfl (vin_in c24) dX11_run_127 ?_
              refine x_aload_n C 1 dX11_run_128 rfl ?_
              refine x_getR (j := 1) (i := 13) (q := (RX11, TX11, 22)) C 2 (iM 0 (by decide)) rfl rfl inBX11 (by decide) tw764 rfl dX11_run_129 ?_
              refine x_bipush (v := 40) C dX11_run_132 rfl ?_
              refine x_iload_n C 2 dX11_run_134 rfl ?_
              refine x_imul C dX11_run_135 ?_
              refine x_iload_n C 0 dX11_run_136 rfl ?_
              refine x_iadd C dX11_run_137 ?_
              obtain ⟨c25, h2⟩ := ob_if h2
              refine x_iald C (iM 2 (by decide)) rfl (vin_in c25) dX11_run_138 ?_
              refine x_callS (ar := 2) (rest := []) C (c_X11_has C.2.2.2.2.2.2.1  rfl) hy_X11_has ⟨tw957, tw958, tw75, tw959⟩ (by decide) (by decide) rfl rfl (Nat.le_of_ble_eq_true rfl) dX11_run_139 ?_
              show Wx LM K s16 142 [(2, .int x17), (0, .ref (kad K 0)), (1, .int a1)] [.int (X11_has (s16.1 10 (1317 : Int32).toNatClampNeg) (s16.1 2 (((40 : Int32) * a1) + x17).toNatClampNeg))]
              refine x_ifeq C 170 dX11_run_142 (by decide) (fun c28 => ?_) (fun c28 => ?_)
              · replace h2 := ob_pos c28 h2
                refine x_lv (lv' := [(2, .int x17), (0, .ref (kad K 0))]) [0, 1] rfl ?_
                exact J2 _ _ (ihR2 _ (Option.some.inj h2).symm)
              · replace h2 := ob_neg c28 h2
                refine x_aload_n C 1 dX11_run_145 rfl ?_
                refine x_sipush (v := 1312) C dX11_run_146 rfl ?_
                refine x_aload_n C 1 dX11_run_149 rfl ?_
                refine x_getR (j := 1) (i := 13) (q := (RX11, TX11, 22)) C 2 (iM 0 (by decide)) rfl rfl inBX11 (by decide) tw764 rfl dX11_run_150 ?_
                refine x_bipush (v := 40) C dX11_run_153 rfl ?_
                refine x_iload_n C 2 dX11_run_155 rfl ?_
                refine x_imul C dX11_run_156 ?_
                refine x_iload_n C 0 dX11_run_157 rfl ?_
                refine x_iadd C dX11_run_158 ?_
                obtain ⟨c29, h2⟩ := ob_if h2
                refine x_iald C (iM 2 (by decide)) rfl (vin_in c29) dX11_run_159 ?_
                obtain ⟨r30, s32, g31, h2⟩ := ob_bd h2
                refine x_callV (ar := 2) (q := (RX11, TX11, 22)) (rest := []) C (c_X11_calls C.2.2.2.2.2.2.1  g31) (iM 0 (by decide)) rfl rfl hy_X11_calls ⟨tw972, tw974, tw47, tw75, tw975⟩ (by decide) (by decide) rfl rfl (Nat.le_of_ble_eq_true rfl) dX11_run_160 ?_
                show Wx LM K s32 163 [(2, .int x17), (0, .ref (kad K 0)), (1, .int a1)] [.int r30]
                refine x_pop C dX11_run_163 rfl ?_
                refine x_iinc (v := (x17 + 1)) (lv' := [(2, .int (x17 + 1)), (0, .ref (kad K 0)), (1, .int a1)]) C 0 dX11_run_164 rfl rfl (by rw [e5]; decide) rfl ?_
                refine x_goto C 110 dX11_run_167 (by decide) ?_
                refine x_lv (lv' := [(2, .int (x17 + 1)), (0, .ref (kad K 0)), (1, .int a1)]) [0, 1, 2] rfl ?_
                exact ihL2 _ (Option.some.inj h2).symm
          refine lp_G (G := fun q : Int32 => Wx LM K σ 54 [(2, .int q), (0, .ref (kad K 0)), (1, .int a1)] []) (fun q x h1 ihL1 ihR1 => ?_) big _ g46
          obtain ⟨x12, rfl⟩ : ∃ z, z = q := ⟨_, rfl⟩
          replace h1 : X11_run_b54 σ a1 x12 = some x := h1
          unfold X11_run_b54 at h1
          show Wx LM K σ 54 [(2, .int x12), (0, .ref (kad K 0)), (1, .int a1)] []
          refine x_iload_n C 0 dX11_run_54 rfl ?_
          refine x_aload_n C 1 dX11_run_55 rfl ?_
          refine x_getR (j := 0) (i := 7) (q := (RX11, TX11, 22)) C 1 (iM 0 (by decide)) rfl rfl inBX11 (by decide) tw763 rfl dX11_run_56 ?_
          refine x_iload_n C 2 dX11_run_59 rfl ?_
          obtain ⟨c35, h1⟩ := ob_if h1
          refine x_iald C (iM 1 (by decide)) rfl (vin_in c35) dX11_run_60 ?_
          refine x_icmpge C 98 dX11_run_61 (by decide) (fun c37 => ?_) (fun c37 => ?_)
          · replace h1 := ob_pos c37 h1
            refine x_lv (lv' := [(0, .ref (kad K 0)), (1, .int a1)]) [1, 2] rfl ?_
            exact J1 _ (ihR1 _ (Option.some.inj h1).symm)
          · replace h1 := ob_neg c37 h1
            refine x_aload_n C 1 dX11_run_64 rfl ?_
            refine x_getR (j := 1) (i := 13) (q := (RX11, TX11, 22)) C 2 (iM 0 (by decide)) rfl rfl inBX11 (by decide) tw764 rfl dX11_run_65 ?_
            refine x_bipush (v := 40) C dX11_run_68 rfl ?_
            refine x_iload_n C 2 dX11_run_70 rfl ?_
            refine x_imul C dX11_run_71 ?_
            refine x_iload_n C 0 dX11_run_72 rfl ?_
            refine x_iadd C dX11_run_73 ?_
            obtain ⟨c38, h1⟩ := ob_if h1
            refine x_iald C (iM 2 (by decide)) rfl (vin_in c38) dX11_run_74 ?_
            refine x_i2l C dX11_run_75 ?_
            refine x_lconst (v := 1) C dX11_run_76 rfl ?_
            refine x_ldc2 C tw911 dX11_run_77 ?_
            refine x_callS (ar := 3) (rest := []) C (c_X11_in C.2.2.2.2.2.2.1  rfl) hy_X11_in ⟨tw839, tw840, tw75, tw841⟩ (by decide) (by decide) rfl rfl (Nat.le_of_ble_eq_true rfl) dX11_run_80 ?_
            show Wx LM K σ 83 [(2, .int x12), (0, .ref (kad K 0)), (1, .int a1)] [.int (X11_in (((σ.1 2 (((40 : Int32) * a1) + x12).toNatClampNeg)).toInt64) (1) (12))]
            refine x_ifne C 92 dX11_run_83 (by decide) (fun c41 => ?_) (fun c41 => ?_)
            · replace h1 := ob_neg c41 h1
              refine x_iinc (v := (x12 + 1)) (lv' := [(2, .int (x12 + 1)), (0, .ref (kad K 0)), (1, .int a1)]) C 0 dX11_run_92 rfl rfl (by rw [e5]; decide) rfl ?_
              refine x_goto C 54 dX11_run_95 (by decide) ?_
              refine x_lv (lv' := [(2, .int (x12 + 1)), (0, .ref (kad K 0)), (1, .int a1)]) [0, 1, 2] rfl ?_
              exact ihL1 _ (Option.some.inj h1).symm
            · replace h1 := ob_pos c41 h1
              refine x_aload_n C 1 dX11_run_86 rfl ?_
              refine x_iconst (v := 3) C dX11_run_87 rfl ?_
              obtain ⟨r42, s44, g43, h1⟩ := ob_bd h1
              refine x_callV (ar := 1) (q := (RX11, TX11, 22)) (rest := []) C (c_X11_finds C.2.2.2.2.2.2.1  g43) (iM 0 (by decide)) rfl rfl hy_X11_finds ⟨tw842, tw844, tw34, tw75, tw845⟩ (by decide) (by decide) rfl rfl (Nat.le_of_ble_eq_true rfl) dX11_run_88 ?_
              show Wx LM K s44 91 [(2, .int x12), (0, .ref (kad K 0)), (1, .int a1)] [.int r42]
              have e19 := ihR1 _ (Option.some.inj h1).symm
              subst e19
              replace h0 := sm1_r h0
              cases h0
              exact x_iret C R dX11_run_91
        · replace h0 := ob_neg c11 h0
          refine x_aload_n C 0 dX11_run_46 rfl ?_
          refine x_iconst (v := 5) C dX11_run_47 rfl ?_
          obtain ⟨r47, s49, g48, h0⟩ := ob_bd h0
          refine x_callV (ar := 1) (q := (RX11, TX11, 22)) (rest := []) C (c_X11_finds C.2.2.2.2.2.2.1  g48) (iM 0 (by decide)) rfl rfl hy_X11_finds ⟨tw842, tw844, tw34, tw75, tw845⟩ (by decide) (by decide) rfl rfl (Nat.le_of_ble_eq_true rfl) dX11_run_48 ?_
          show Wx LM K s49 51 [(0, .ref (kad K 0)), (1, .int a1)] [.int r47]
          cases h0
          exact x_iret C R dX11_run_51
      · replace h0 := ob_neg c8 h0
        refine x_aload_n C 0 dX11_run_29 rfl ?_
        refine x_iconst (v := 1) C dX11_run_30 rfl ?_
        obtain ⟨r50, s52, g51, h0⟩ := ob_bd h0
        refine x_callV (ar := 1) (q := (RX11, TX11, 22)) (rest := []) C (c_X11_finds C.2.2.2.2.2.2.1  g51) (iM 0 (by decide)) rfl rfl hy_X11_finds ⟨tw842, tw844, tw34, tw75, tw845⟩ (by decide) (by decide) rfl rfl (Nat.le_of_ble_eq_true rfl) dX11_run_31 ?_
        show Wx LM K s52 34 [(0, .ref (kad K 0)), (1, .int a1)] [.int r50]
        cases h0
        exact x_iret C R dX11_run_34
    · replace h0 := ob_pos c5 h0
      refine x_iconst (v := (-1)) C dX11_run_18 rfl ?_
      cases h0
      exact x_iret C R dX11_run_19
  · replace h0 := ob_pos c2 h0
    refine x_bipush (v := (-4)) C dX11_run_7 rfl ?_
    cases h0
    exact x_iret C R dX11_run_9
set_option maxHeartbeats 4000000 in
set_option maxRecDepth 100000 in
theorem c_X11_safe {l : Launch} {D : va_G} {ad : Nat → Nat} {cy : Nat → ClassId} (hJ : mJ LM ad) {σ τ : mS}  {r : Int32}  (h0 : X11_safe σ = some (r, τ)) : MetG l LM D ad cy yX11_safe cX11_safe 6 (some .int) 3 [.ref (ad 0)] σ (some (.int r)) τ := by
  refine MetG.of hJ (by decide +kernel) [(0, .ref (ad 0))] rfl (Nat.le_of_ble_eq_true rfl) ?_
  intro K e1 e2 e3 e4 e5 C R
  subst e1
  subst e2
  subst e3
  subst e4
  unfold X11_safe at h0
  refine x_aload_n C 0 dX11_safe_0 rfl ?_
  refine x_getI (j := 5) (i := 124) (q := (RX11, TX11, 22)) C (iM 0 (by decide)) rfl rfl inBX11 (by decide) tw768 rfl dX11_safe_1 ?_
  refine x_ifne C 10 dX11_safe_4 (by decide) (fun c2 => ?_) (fun c2 => ?_)
  · replace h0 := ob_neg c2 h0
    refine x_iconst (v := 0) C dX11_safe_10 rfl ?_
    refine x_istore_n (lv' := [(1, .int 0), (0, .ref (kad K 0))]) C dX11_safe_11 (by rw [e5]; decide) rfl ?_
    refine x_iconst (v := 0) C dX11_safe_12 rfl ?_
    refine x_istore_n (lv' := [(2, .int 0), (1, .int 0), (0, .ref (kad K 0))]) C dX11_safe_13 (by rw [e5]; decide) rfl ?_
    refine x_iconst (v := 0) C dX11_safe_14 rfl ?_
    refine x_istore_n (lv' := [(3, .int 0), (2, .int 0), (1, .int 0), (0, .ref (kad K 0))]) C dX11_safe_15 (by rw [e5]; decide) rfl ?_
    refine x_iconst (v := 1) C dX11_safe_16 rfl ?_
    refine x_istore (lv' := [(4, .int 1), (3, .int 0), (2, .int 0), (1, .int 0), (0, .ref (kad K 0))]) C dX11_safe_17 (by rw [e5]; decide) rfl ?_
    obtain ⟨e47, g48, h0⟩ := ob_bind h0
    have J1 : ∀ (s8 : mS) (y9 : Int32) (y10 : Int32), (s8, y9, y10) = e47 → Wx LM K s8 122 [(2, .int y10), (1, .int y9), (0, .ref (kad K 0))] [] := by
      intro s8 y9 y10 e9
      subst e9
      replace h0 := un3_l h0
      refine x_aload_n C 2 dX11_safe_122 rfl ?_
      refine x_iload_n C 0 dX11_safe_123 rfl ?_
      refine x_putI (j := 14) (i := 64) (q := (RX11, TX11, 22)) C tyX11 tyX11_ok nmX11 (iM 0 (by decide)) rfl rfl inBX11 (by decide) tw777 rfl (by decide +kernel) rfl dX11_safe_124 ?_
      refine x_iload_n C 1 dX11_safe_127 rfl ?_
      cases h0
      exact x_iret C R dX11_safe_128
    refine lp_G (G := fun q : mS × Int32 × Int32 × Int32 × Int32 => Wx LM K q.1 19 [(4, .int q.2.2.2.2), (3, .int q.2.2.2.1), (2, .int q.2.2.1), (1, .int q.2.1), (0, .ref (kad K 0))] []) (fun q x h1 ihL1 ihR1 => ?_) big _ g48
    obtain ⟨s3, x4, x5, x6, x7⟩ := q
    replace h1 : X11_safe_b19 s3 x4 x5 x6 x7 = some x := h1
    unfold X11_safe_b19 at h1
    show Wx LM K s3 19 [(4, .int x7), (3, .int x6), (2, .int x5), (1, .int x4), (0, .ref (kad K 0))] []
    refine x_iload C 0 dX11_safe_19 rfl ?_
    refine x_bipush (v := 13) C dX11_safe_21 rfl ?_
    refine x_icmpge C 122 dX11_safe_23 (by decide) (fun c12 => ?_) (fun c12 => ?_)
    · replace h1 := ob_pos c12 h1
      refine x_lv (lv' := [(2, .int x5), (1, .int x4), (0, .ref (kad K 0))]) [2, 3, 4] rfl ?_
      exact J1 _ _ _ (ihR1 _ (Option.some.inj h1).symm)
    · replace h1 := ob_neg c12 h1
      refine x_aload_n C 4 dX11_safe_26 rfl ?_
      refine x_getR (j := 11) (i := 38) (q := (RX11, TX11, 22)) C 10 (iM 0 (by decide)) rfl rfl inBX11 (by decide) tw774 rfl dX11_safe_27 ?_
      refine x_iconst (v := 5) C dX11_safe_30 rfl ?_
      obtain ⟨c13, h1⟩ := ob_if h1
      refine x_iald C (iM 10 (by decide)) rfl (vin_in c13) dX11_safe_31 ?_
      refine x_iload C 0 dX11_safe_32 rfl ?_
      refine x_callS (ar := 2) (rest := []) C (c_X11_has C.2.2.2.2.2.2.1  rfl) hy_X11_has ⟨tw957, tw958, tw75, tw959⟩ (by decide) (by decide) rfl rfl (Nat.le_of_ble_eq_true rfl) dX11_safe_34 ?_
      show Wx LM K s3 37 [(4, .int x7), (3, .int x6), (2, .int x5), (1, .int x4), (0, .ref (kad K 0))] [.int (X11_has (s3.1 10 (5 : Int32).toNatClampNeg) x7)]
      refine x_ifeq C 116 dX11_safe_37 (by decide) (fun c16 => ?_) (fun c16 => ?_)
      · replace h1 := ob_pos c16 h1
        refine x_iinc (v := (x7 + 1)) (lv' := [(4, .int (x7 + 1)), (3, .int x6), (2, .int x5), (1, .int x4), (0, .ref (kad K 0))]) C 0 dX11_safe_116 rfl rfl (by rw [e5]; decide) rfl ?_
        refine x_goto C 19 dX11_safe_119 (by decide) ?_
        refine x_lv (lv' := [(4, .int (x7 + 1)), (3, .int x6), (2, .int x5), (1, .int x4), (0, .ref (kad K 0))]) [0, 1, 2, 3, 4] rfl ?_
        exact ihL1 _ (Option.some.inj h1).symm
      · replace h1 := ob_neg c16 h1
        refine x_aload_n C 4 dX11_safe_40 rfl ?_
        refine x_iconst (v := 0) C dX11_safe_41 rfl ?_
        refine x_sipush (v := 1312) C dX11_safe_42 rfl ?_
        refine x_bipush (v := 8) C dX11_safe_45 rfl ?_
        obtain ⟨r17, s19, g18, h1⟩ := ob_bd h1
        refine x_callV (ar := 3) (q := (RX11, TX11, 22)) (rest := []) C (c_X11_copies C.2.2.2.2.2.2.1  g18) (iM 0 (by decide)) rfl rfl hy_X11_copies ⟨tw968, tw970, tw46, tw75, tw971⟩ (by decide) (by decide) rfl rfl (Nat.le_of_ble_eq_true rfl) dX11_safe_47 ?_
        show Wx LM K s19 50 [(4, .int x7), (3, .int x6), (2, .int x5), (1, .int x4), (0, .ref (kad K 0))] []
        refine x_aload_n C 4 dX11_safe_50 rfl ?_
        refine x_sipush (v := 1312) C dX11_safe_51 rfl ?_
        refine x_iload C 0 dX11_safe_54 rfl ?_
        obtain ⟨r20, s22, g21, h1⟩ := ob_bd h1
        refine x_callV (ar := 2) (q := (RX11, TX11, 22)) (rest := []) C (c_X11_calls C.2.2.2.2.2.2.1  g21) (iM 0 (by decide)) rfl rfl hy_X11_calls ⟨tw972, tw974, tw47, tw75, tw975⟩ (by decide) (by decide) rfl rfl (Nat.le_of_ble_eq_true rfl) dX11_safe_56 ?_
        show Wx LM K s22 59 [(4, .int x7), (3, .int x6), (2, .int x5), (1, .int x4), (0, .ref (kad K 0))] [.int r20]
        obtain ⟨r23, g24, h1⟩ := ob_bind h1
        refine x_callS (ar := 1) (rest := []) C (c_X11_bits C.2.2.2.2.2.2.1  g24) hy_X11_bits ⟨tw936, tw937, tw75, tw938⟩ (by decide) (by decide) rfl rfl (Nat.le_of_ble_eq_true rfl) dX11_safe_59 ?_
        show Wx LM K s22 62 [(4, .int x7), (3, .int x6), (2, .int x5), (1, .int x4), (0, .ref (kad K 0))] [.int r23]
        refine x_istore (lv' := [(5, .int r23), (4, .int x7), (3, .int x6), (2, .int x5), (1, .int x4), (0, .ref (kad K 0))]) C dX11_safe_62 (by rw [e5]; decide) rfl ?_
        refine x_iload_n C 4 dX11_safe_64 rfl ?_
        refine x_iload C 0 dX11_safe_65 rfl ?_
        obtain ⟨e44, g43, h1⟩ := ob_un h1
        have J45 : ∀ (v27 : Int32), v27 = e44 → Wx LM K s22 78 [(5, .int r23), (4, .int x7), (3, .int x6), (2, .int x5), (0, .ref (kad K 0))] [.int v27, .int x4] := by
          intro v27 e9
          subst e9
          replace h1 := un1_l h1
          refine x_ior C dX11_safe_78 ?_
          refine x_istore_n (lv' := [(1, .int (x4 ||| v27)), (5, .int r23), (4, .int x7), (3, .int x6), (2, .int x5), (0, .ref (kad K 0))]) C dX11_safe_79 (by rw [e5]; decide) rfl ?_
          refine x_iload C 1 dX11_safe_80 rfl ?_
          refine x_iload_n C 3 dX11_safe_82 rfl ?_
          obtain ⟨e40, g39, h1⟩ := ob_un h1
          have J41 : ∀ (v30 : Int32), v30 = e40 → Wx LM K s22 91 [(1, .int (x4 ||| v27)), (5, .int r23), (4, .int x7), (3, .int x6), (0, .ref (kad K 0))] [.int v30] := by
            intro v30 e9
            subst e9
            replace h1 := un1_l h1
            refine x_istore_n (lv' := [(2, .int v30), (1, .int (x4 ||| v27)), (5, .int r23), (4, .int x7), (3, .int x6), (0, .ref (kad K 0))]) C dX11_safe_91 (by rw [e5]; decide) rfl ?_
            refine x_iload_n C 0 dX11_safe_92 rfl ?_
            refine x_iload C 2 dX11_safe_93 rfl ?_
            refine x_iload_n C 4 dX11_safe_95 rfl ?_
            obtain ⟨e36, g35, h1⟩ := ob_un h1
            have J37 : ∀ (v33 : Int32), v33 = e36 → Wx LM K s22 107 [(1, .int (x4 ||| v27)), (5, .int r23), (4, .int x7), (3, .int x6), (0, .ref (kad K 0))] [.int v33, .int v30] := by
              intro v33 e9
              subst e9
              replace h1 := un1_l h1
              refine x_ior C dX11_safe_107 ?_
              refine x_istore_n (lv' := [(2, .int (v30 ||| v33)), (1, .int (x4 ||| v27)), (5, .int r23), (4, .int x7), (3, .int x6), (0, .ref (kad K 0))]) C dX11_safe_108 (by rw [e5]; decide) rfl ?_
              refine x_iload_n C 4 dX11_safe_109 rfl ?_
              refine x_iload C 2 dX11_safe_110 rfl ?_
              refine x_callS (ar := 2) (rest := []) C (c_X11_larger C.2.2.2.2.2.2.1  rfl) hy_X11_larger ⟨tw939, tw940, tw75, tw941⟩ (by decide) (by decide) rfl rfl (Nat.le_of_ble_eq_true rfl) dX11_safe_112 ?_
              show Wx LM K s22 115 [(2, .int (v30 ||| v33)), (1, .int (x4 ||| v27)), (5, .int r23), (4, .int x7), (3, .int x6), (0, .ref (kad K 0))] [.int (X11_larger x6 r23)]
              refine x_istore_n (lv' := [(3, .int (X11_larger x6 r23)), (2, .int (v30 ||| v33)), (1, .int (x4 ||| v27)), (5, .int r23), (4, .int x7), (0, .ref (kad K 0))]) C dX11_safe_115 (by rw [e5]; decide) rfl ?_
              refine x_iinc (v := (x7 + 1)) (lv' := [(4, .int (x7 + 1)), (3, .int (X11_larger x6 r23)), (2, .int (v30 ||| v33)), (1, .int (x4 ||| v27)), (5, .int r23), (0, .ref (kad K 0))]) C 4 dX11_safe_116 rfl rfl (by rw [e5]; decide) rfl ?_
              refine x_goto C 19 dX11_safe_119 (by decide) ?_
              refine x_lv (lv' := [(4, .int (x7 + 1)), (3, .int (X11_larger x6 r23)), (2, .int (v30 ||| v33)), (1, .int (x4 ||| v27)), (0, .ref (kad K 0))]) [0, 1, 2, 3, 5] rfl ?_
              exact ihL1 _ (Option.some.inj h1).symm
            refine x_icmplt C 106 dX11_safe_96 (by decide) (fun c38 => ?_) (fun c38 => ?_)
            · replace g35 := ob_pos c38 g35
              refine x_iconst (v := 0) C dX11_safe_106 rfl ?_
              refine x_lv (lv' := [(1, .int (x4 ||| v27)), (5, .int r23), (4, .int x7), (3, .int x6), (0, .ref (kad K 0))]) [1, 2, 3, 4, 5] rfl ?_
              exact J37 _ g35
            · replace g35 := ob_neg c38 g35
              refine x_iconst (v := 1) C dX11_safe_99 rfl ?_
              refine x_iload C 3 dX11_safe_100 rfl ?_
              refine x_ishl C dX11_safe_102 ?_
              refine x_goto C 107 dX11_safe_103 (by decide) ?_
              refine x_lv (lv' := [(1, .int (x4 ||| v27)), (5, .int r23), (4, .int x7), (3, .int x6), (0, .ref (kad K 0))]) [1, 2, 3, 4, 5] rfl ?_
              exact J37 _ g35
          refine x_icmple C 90 dX11_safe_83 (by decide) (fun c42 => ?_) (fun c42 => ?_)
          · replace g39 := ob_pos c42 g39
            refine x_iload_n C 4 dX11_safe_90 rfl ?_
            refine x_lv (lv' := [(1, .int (x4 ||| v27)), (5, .int r23), (4, .int x7), (3, .int x6), (0, .ref (kad K 0))]) [0, 1, 2, 3, 5] rfl ?_
            exact J41 _ g39
          · replace g39 := ob_neg c42 g39
            refine x_iconst (v := 0) C dX11_safe_86 rfl ?_
            refine x_goto C 91 dX11_safe_87 (by decide) ?_
            refine x_lv (lv' := [(1, .int (x4 ||| v27)), (5, .int r23), (4, .int x7), (3, .int x6), (0, .ref (kad K 0))]) [0, 1, 2, 3, 5] rfl ?_
            exact J41 _ g39
        refine x_ifne C 77 dX11_safe_67 (by decide) (fun c46 => ?_) (fun c46 => ?_)
        · replace g43 := ob_neg c46 g43
          refine x_iconst (v := 0) C dX11_safe_77 rfl ?_
          refine x_lv (lv' := [(5, .int r23), (4, .int x7), (3, .int x6), (2, .int x5), (0, .ref (kad K 0))]) [0, 1, 2, 3, 5] rfl ?_
          exact J45 _ g43
        · replace g43 := ob_pos c46 g43
          refine x_iconst (v := 1) C dX11_safe_70 rfl ?_
          refine x_iload C 1 dX11_safe_71 rfl ?_
          refine x_ishl C dX11_safe_73 ?_
          refine x_goto C 78 dX11_safe_74 (by decide) ?_
          refine x_lv (lv' := [(5, .int r23), (4, .int x7), (3, .int x6), (2, .int x5), (0, .ref (kad K 0))]) [0, 1, 2, 3, 5] rfl ?_
          exact J45 _ g43
  · replace h0 := ob_pos c2 h0
    refine x_bipush (v := (-4)) C dX11_safe_7 rfl ?_
    cases h0
    exact x_iret C R dX11_safe_9
set_option maxHeartbeats 4000000 in
set_option maxRecDepth 100000 in
theorem c_X11_follows {l : Launch} {D : va_G} {ad : Nat → Nat} {cy : Nat → ClassId} (hJ : mJ LM ad) {σ τ : mS} {a1 : Int32} {a2 : Int32} {r : Int32}  (h0 : X11_follows σ a1 a2 = some (r, τ)) : MetG l LM D ad cy yX11_follows cX11_follows 5 (some .boolean) 3 [.ref (ad 0), .int a1, .int a2] σ (some (.int r)) τ := by
  refine MetG.of hJ (by decide +kernel) [(0, .ref (ad 0)), (1, .int a1), (2, .int a2)] rfl (Nat.le_of_ble_eq_true rfl) ?_
  intro K e1 e2 e3 e4 e5 C R
  subst e1
  subst e2
  subst e3
  subst e4
  unfold X11_follows at h0
  refine x_iload_n C 2 dX11_follows_0 rfl ?_
  obtain ⟨e49, g48, h0⟩ := ob_un h0
  have J50 : ∀ (v3 : Int32), v3 = e49 → Wx LM K σ 11 [(0, .ref (kad K 0)), (1, .int a1), (2, .int a2)] [.int v3] := by
    intro v3 e9
    subst e9
    replace h0 := un1_l h0
    refine x_istore_n (lv' := [(3, .int v3), (0, .ref (kad K 0)), (1, .int a1), (2, .int a2)]) C dX11_follows_11 (by rw [e5]; decide) rfl ?_
    refine x_iload_n C 3 dX11_follows_12 rfl ?_
    obtain ⟨e41, g40, h0⟩ := ob_bind h0
    have J42 : ∀ (s6 : mS), s6 = e41 → Wx LM K s6 33 [(3, .int v3), (0, .ref (kad K 0)), (1, .int a1)] [] := by
      intro s6 e9
      subst e9
      replace h0 := un1_l h0
      obtain ⟨e38, g39, h0⟩ := ob_bind h0
      have J1 : ∀ (s9 : mS) (y10 : Int32), (s9, y10) = e38 → Wx LM K s9 163 [(3, .int y10), (1, .int a1)] [] := by
        intro s9 y10 e9
        subst e9
        replace h0 := un2_l h0
        refine x_iload_n C 0 dX11_follows_163 rfl ?_
        refine x_iload_n C 1 dX11_follows_164 rfl ?_
        refine x_icmpne C 172 dX11_follows_165 (by decide) (fun c12 => ?_) (fun c12 => ?_)
        · replace h0 := ob_neg c12 h0
          refine x_iconst (v := 0) C dX11_follows_172 rfl ?_
          cases h0
          exact x_zret C (Or.inl rfl) R dX11_follows_173
        · replace h0 := ob_pos c12 h0
          refine x_iconst (v := 1) C dX11_follows_168 rfl ?_
          refine x_goto C 173 dX11_follows_169 (by decide) ?_
          cases h0
          exact x_zret C (Or.inr rfl) R dX11_follows_173
      refine lp_G (G := fun q : mS × Int32 => Wx LM K q.1 33 [(3, .int q.2), (0, .ref (kad K 0)), (1, .int a1)] []) (fun q x h1 ihL1 ihR1 => ?_) big _ g39
      obtain ⟨s7, x8⟩ := q
      replace h1 : X11_follows_b33 a1 s7 x8 = some x := h1
      unfold X11_follows_b33 at h1
      show Wx LM K s7 33 [(3, .int x8), (0, .ref (kad K 0)), (1, .int a1)] []
      refine x_iload_n C 0 dX11_follows_33 rfl ?_
      refine x_iflt C 163 dX11_follows_34 (by decide) (fun c14 => ?_) (fun c14 => ?_)
      · replace h1 := ob_pos c14 h1
        refine x_lv (lv' := [(3, .int x8), (1, .int a1)]) [0, 2] rfl ?_
        exact J1 _ _ (ihR1 _ (Option.some.inj h1).symm)
      · replace h1 := ob_neg c14 h1
        refine x_iload_n C 0 dX11_follows_37 rfl ?_
        refine x_iload_n C 2 dX11_follows_38 rfl ?_
        refine x_icmpge C 163 dX11_follows_39 (by decide) (fun c16 => ?_) (fun c16 => ?_)
        · replace h1 := ob_pos c16 h1
          refine x_lv (lv' := [(3, .int x8), (1, .int a1)]) [0, 2] rfl ?_
          exact J1 _ _ (ihR1 _ (Option.some.inj h1).symm)
        · replace h1 := ob_neg c16 h1
          refine x_aload_n C 1 dX11_follows_42 rfl ?_
          refine x_getR (j := 19) (i := 51) (q := (RX11, TX11, 22)) C 13 (iM 0 (by decide)) rfl rfl inBX11 (by decide) tw782 rfl dX11_follows_43 ?_
          refine x_iload_n C 0 dX11_follows_46 rfl ?_
          obtain ⟨c17, h1⟩ := ob_if h1
          refine x_iald C (iM 13 (by decide)) rfl (vin_in c17) dX11_follows_47 ?_
          refine x_iconst (v := 1) C dX11_follows_48 rfl ?_
          refine x_iadd C dX11_follows_49 ?_
          refine x_istore (lv' := [(4, .int ((s7.1 13 x8.toNatClampNeg) + 1)), (3, .int x8), (0, .ref (kad K 0)), (1, .int a1)]) C dX11_follows_50 (by rw [e5]; decide) rfl ?_
          obtain ⟨e36, g37, h1⟩ := ob_bind h1
          have J2 : ∀ (y19 : Int32), y19 = e36 → Wx LM K s7 88 [(4, .int y19), (3, .int x8), (0, .ref (kad K 0)), (1, .int a1)] [] := by
            intro y19 e9
            subst e9
            replace h1 := un1_l h1
            refine x_iload C 0 dX11_follows_88 rfl ?_
            refine x_bipush (v := 12) C dX11_follows_90 rfl ?_
            refine x_icmple C 101 dX11_follows_92 (by decide) (fun c21 => ?_) (fun c21 => ?_)
            · replace h1 := ob_pos c21 h1
              refine x_aload_n C 2 dX11_follows_101 rfl ?_
              refine x_getR (j := 19) (i := 51) (q := (RX11, TX11, 22)) C 13 (iM 0 (by decide)) rfl rfl inBX11 (by decide) tw782 rfl dX11_follows_102 ?_
              refine x_iload_n C 1 dX11_follows_105 rfl ?_
              refine x_iload C 0 dX11_follows_106 rfl ?_
              obtain ⟨c22, h1⟩ := ob_if h1
              refine x_iast C (iM 13 (by decide)) rfl (vin_in c22) dX11_follows_108 ?_
              refine x_aload_n C 2 dX11_follows_109 rfl ?_
              refine x_sipush (v := 1312) C dX11_follows_110 rfl ?_
              refine x_iload_n C 1 dX11_follows_113 rfl ?_
              refine x_bipush (v := 8) C dX11_follows_114 rfl ?_
              refine x_imul C dX11_follows_116 ?_
              refine x_iadd C dX11_follows_117 ?_
              refine x_sipush (v := 1312) C dX11_follows_118 rfl ?_
              refine x_iload_n C 1 dX11_follows_121 rfl ?_
              refine x_iconst (v := 1) C dX11_follows_122 rfl ?_
              refine x_iadd C dX11_follows_123 ?_
              refine x_bipush (v := 8) C dX11_follows_124 rfl ?_
              refine x_imul C dX11_follows_126 ?_
              refine x_iadd C dX11_follows_127 ?_
              refine x_bipush (v := 8) C dX11_follows_128 rfl ?_
              obtain ⟨r23, s25, g24, h1⟩ := ob_bd h1
              refine x_callV (ar := 3) (q := (RX11, TX11, 22)) (rest := []) C (c_X11_copies C.2.2.2.2.2.2.1  g24) (iM 0 (by decide)) rfl rfl hy_X11_copies ⟨tw968, tw970, tw46, tw75, tw971⟩ (by decide) (by decide) rfl rfl (Nat.le_of_ble_eq_true rfl) dX11_follows_130 ?_
              show Wx LM K s25 133 [(4, .int y19), (3, .int x8), (0, .ref (kad K 0)), (1, .int a1)] []
              refine x_aload_n C 2 dX11_follows_133 rfl ?_
              refine x_sipush (v := 1312) C dX11_follows_134 rfl ?_
              refine x_iload_n C 1 dX11_follows_137 rfl ?_
              refine x_iconst (v := 1) C dX11_follows_138 rfl ?_
              refine x_iadd C dX11_follows_139 ?_
              refine x_bipush (v := 8) C dX11_follows_140 rfl ?_
              refine x_imul C dX11_follows_142 ?_
              refine x_iadd C dX11_follows_143 ?_
              refine x_iload C 0 dX11_follows_144 rfl ?_
              obtain ⟨r26, s28, g27, h1⟩ := ob_bd h1
              refine x_callV (ar := 2) (q := (RX11, TX11, 22)) (rest := []) C (c_X11_calls C.2.2.2.2.2.2.1  g27) (iM 0 (by decide)) rfl rfl hy_X11_calls ⟨tw972, tw974, tw47, tw75, tw975⟩ (by decide) (by decide) rfl rfl (Nat.le_of_ble_eq_true rfl) dX11_follows_146 ?_
              show Wx LM K s28 149 [(4, .int y19), (3, .int x8), (0, .ref (kad K 0)), (1, .int a1)] [.int r26]
              refine x_pop C dX11_follows_149 rfl ?_
              refine x_iinc (v := (x8 + 1)) (lv' := [(3, .int (x8 + 1)), (4, .int y19), (0, .ref (kad K 0)), (1, .int a1)]) C 1 dX11_follows_150 rfl rfl (by rw [e5]; decide) rfl ?_
              refine x_aload_n C 2 dX11_follows_153 rfl ?_
              refine x_getR (j := 19) (i := 51) (q := (RX11, TX11, 22)) C 13 (iM 0 (by decide)) rfl rfl inBX11 (by decide) tw782 rfl dX11_follows_154 ?_
              refine x_iload_n C 0 dX11_follows_157 rfl ?_
              refine x_iconst (v := 0) C dX11_follows_158 rfl ?_
              obtain ⟨c29, h1⟩ := ob_if h1
              refine x_iast C (iM 13 (by decide)) rfl (vin_in c29) dX11_follows_159 ?_
              refine x_goto C 33 dX11_follows_160 (by decide) ?_
              refine x_lv (lv' := [(3, .int (x8 + 1)), (0, .ref (kad K 0)), (1, .int a1)]) [0, 2, 3] rfl ?_
              exact ihL1 _ (Option.some.inj h1).symm
            · replace h1 := ob_neg c21 h1
              refine x_iinc (v := (x8 + (-1))) (lv' := [(3, .int (x8 + (-1))), (4, .int y19), (0, .ref (kad K 0)), (1, .int a1)]) C 1 dX11_follows_95 rfl rfl (by rw [e5]; decide) rfl ?_
              refine x_goto C 160 dX11_follows_98 (by decide) ?_
              refine x_goto C 33 dX11_follows_160 (by decide) ?_
              refine x_lv (lv' := [(3, .int (x8 + (-1))), (0, .ref (kad K 0)), (1, .int a1)]) [0, 2, 3] rfl ?_
              exact ihL1 _ (Option.some.inj h1).symm
          refine lp_G (G := fun q : Int32 => Wx LM K s7 52 [(4, .int q), (3, .int x8), (0, .ref (kad K 0)), (1, .int a1)] []) (fun q x h2 ihL2 ihR2 => ?_) big _ g37
          obtain ⟨x18, rfl⟩ : ∃ z, z = q := ⟨_, rfl⟩
          replace h2 : X11_follows_b52 s7 x8 x18 = some x := h2
          unfold X11_follows_b52 at h2
          show Wx LM K s7 52 [(4, .int x18), (3, .int x8), (0, .ref (kad K 0)), (1, .int a1)] []
          refine x_iload C 0 dX11_follows_52 rfl ?_
          refine x_bipush (v := 13) C dX11_follows_54 rfl ?_
          refine x_icmpge C 88 dX11_follows_56 (by decide) (fun c31 => ?_) (fun c31 => ?_)
          · replace h2 := ob_pos c31 h2
            refine x_lv (lv' := [(4, .int x18), (3, .int x8), (0, .ref (kad K 0)), (1, .int a1)]) [0, 1, 2, 3] rfl ?_
            exact J2 _ (ihR2 _ (Option.some.inj h2).symm)
          · replace h2 := ob_neg c31 h2
            refine x_aload_n C 2 dX11_follows_59 rfl ?_
            refine x_getR (j := 11) (i := 38) (q := (RX11, TX11, 22)) C 10 (iM 0 (by decide)) rfl rfl inBX11 (by decide) tw774 rfl dX11_follows_60 ?_
            refine x_sipush (v := 1312) C dX11_follows_63 rfl ?_
            refine x_iload_n C 1 dX11_follows_66 rfl ?_
            refine x_bipush (v := 8) C dX11_follows_67 rfl ?_
            refine x_imul C dX11_follows_69 ?_
            refine x_iadd C dX11_follows_70 ?_
            refine x_iconst (v := 5) C dX11_follows_71 rfl ?_
            refine x_iadd C dX11_follows_72 ?_
            obtain ⟨c32, h2⟩ := ob_if h2
            refine x_iald C (iM 10 (by decide)) rfl (vin_in c32) dX11_follows_73 ?_
            refine x_iload C 0 dX11_follows_74 rfl ?_
            refine x_callS (ar := 2) (rest := []) C (c_X11_has C.2.2.2.2.2.2.1  rfl) hy_X11_has ⟨tw957, tw958, tw75, tw959⟩ (by decide) (by decide) rfl rfl (Nat.le_of_ble_eq_true rfl) dX11_follows_76 ?_
            show Wx LM K s7 79 [(4, .int x18), (3, .int x8), (0, .ref (kad K 0)), (1, .int a1)] [.int (X11_has (s7.1 10 (((1312 : Int32) + (x8 * 8)) + 5).toNatClampNeg) x18)]
            refine x_ifne C 88 dX11_follows_79 (by decide) (fun c35 => ?_) (fun c35 => ?_)
            · replace h2 := ob_neg c35 h2
              refine x_lv (lv' := [(4, .int x18), (3, .int x8), (0, .ref (kad K 0)), (1, .int a1)]) [0, 1, 2, 3] rfl ?_
              exact J2 _ (ihR2 _ (Option.some.inj h2).symm)
            · replace h2 := ob_pos c35 h2
              refine x_iinc (v := (x18 + 1)) (lv' := [(4, .int (x18 + 1)), (3, .int x8), (0, .ref (kad K 0)), (1, .int a1)]) C 0 dX11_follows_82 rfl rfl (by rw [e5]; decide) rfl ?_
              refine x_goto C 52 dX11_follows_85 (by decide) ?_
              refine x_lv (lv' := [(4, .int (x18 + 1)), (3, .int x8), (0, .ref (kad K 0)), (1, .int a1)]) [0, 1, 2, 3] rfl ?_
              exact ihL2 _ (Option.some.inj h2).symm
    refine x_ifeq C 33 dX11_follows_13 (by decide) (fun c43 => ?_) (fun c43 => ?_)
    · replace g40 := ob_pos c43 g40
      refine x_lv (lv' := [(3, .int v3), (0, .ref (kad K 0)), (1, .int a1)]) [0, 1, 2] rfl ?_
      exact J42 _ (Option.some.inj g40)
    · replace g40 := ob_neg c43 g40
      refine x_aload_n C 1 dX11_follows_16 rfl ?_
      refine x_iconst (v := 0) C dX11_follows_17 rfl ?_
      refine x_sipush (v := 1312) C dX11_follows_18 rfl ?_
      refine x_bipush (v := 8) C dX11_follows_21 rfl ?_
      obtain ⟨r44, s46, g45, g40⟩ := ob_bd g40
      refine x_callV (ar := 3) (q := (RX11, TX11, 22)) (rest := []) C (c_X11_copies C.2.2.2.2.2.2.1  g45) (iM 0 (by decide)) rfl rfl hy_X11_copies ⟨tw968, tw970, tw46, tw75, tw971⟩ (by decide) (by decide) rfl rfl (Nat.le_of_ble_eq_true rfl) dX11_follows_23 ?_
      show Wx LM K s46 26 [(3, .int v3), (0, .ref (kad K 0)), (1, .int a1), (2, .int a2)] []
      refine x_aload_n C 1 dX11_follows_26 rfl ?_
      refine x_getR (j := 19) (i := 51) (q := (RX11, TX11, 22)) C 13 (iM 0 (by decide)) rfl rfl inBX11 (by decide) tw782 rfl dX11_follows_27 ?_
      refine x_iconst (v := 0) C dX11_follows_30 rfl ?_
      refine x_iconst (v := 0) C dX11_follows_31 rfl ?_
      obtain ⟨c47, g40⟩ := ob_if g40
      refine x_iast C (iM 13 (by decide)) rfl (vin_in c47) dX11_follows_32 ?_
      refine x_lv (lv' := [(3, .int v3), (0, .ref (kad K 0)), (1, .int a1)]) [0, 1, 2] rfl ?_
      exact J42 _ (Option.some.inj g40)
  refine x_ifeq C 8 dX11_follows_1 (by decide) (fun c51 => ?_) (fun c51 => ?_)
  · replace g48 := ob_pos c51 g48
    refine x_iload_n C 1 dX11_follows_8 rfl ?_
    refine x_iconst (v := 1) C dX11_follows_9 rfl ?_
    refine x_isub C dX11_follows_10 ?_
    refine x_lv (lv' := [(0, .ref (kad K 0)), (1, .int a1), (2, .int a2)]) [0, 1, 2] rfl ?_
    exact J50 _ g48
  · replace g48 := ob_neg c51 g48
    refine x_iconst (v := 0) C dX11_follows_4 rfl ?_
    refine x_goto C 11 dX11_follows_5 (by decide) ?_
    refine x_lv (lv' := [(0, .ref (kad K 0)), (1, .int a1), (2, .int a2)]) [0, 1, 2] rfl ?_
    exact J50 _ g48
set_option maxHeartbeats 4000000 in
set_option maxRecDepth 100000 in
theorem c_X11_comes {l : Launch} {D : va_G} {ad : Nat → Nat} {cy : Nat → ClassId} (hJ : mJ LM ad) {σ τ : mS} {a1 : Int32} {a2 : Int32} {r : Unit}  (h0 : X11_comes σ a1 a2 = some (r, τ)) : MetG l LM D ad cy yX11_comes cX11_comes 4 none 1 [.ref (ad 0), .int a1, .int a2] σ (none) τ := by
  refine MetG.of hJ (by decide +kernel) [(0, .ref (ad 0)), (1, .int a1), (2, .int a2)] rfl (Nat.le_of_ble_eq_true rfl) ?_
  intro K e1 e2 e3 e4 e5 C R
  subst e1
  subst e2
  subst e3
  subst e4
  unfold X11_comes at h0
  refine x_aload_n C 0 dX11_comes_0 rfl ?_
  refine x_iload_n C 1 dX11_comes_1 rfl ?_
  refine x_iload_n C 2 dX11_comes_2 rfl ?_
  obtain ⟨r1, s3, g2, h0⟩ := ob_bd h0
  refine x_callV (ar := 2) (q := (RX11, TX11, 22)) (rest := []) C (c_X11_anew C.2.2.2.2.2.2.1  g2) (iM 0 (by decide)) rfl rfl hy_X11_anew ⟨tw846, tw848, tw35, tw75, tw849⟩ (by decide) (by decide) rfl rfl (Nat.le_of_ble_eq_true rfl) dX11_comes_3 ?_
  show Wx LM K s3 6 [(0, .ref (kad K 0)), (1, .int a1), (2, .int a2)] []
  refine x_iconst (v := 0) C dX11_comes_6 rfl ?_
  refine x_istore_n (lv' := [(3, .int 0), (0, .ref (kad K 0)), (1, .int a1), (2, .int a2)]) C dX11_comes_7 (by rw [e5]; decide) rfl ?_
  obtain ⟨e11, g12, h0⟩ := ob_bind h0
  have J1 : ∀ (s6 : mS), s6 = e11 → Wx LM K s6 36 [] [] := by
    intro s6 e9
    subst e9
    replace h0 := un1_l h0
    cases h0
    exact x_vret C R dX11_comes_36
  refine lp_G (G := fun q : mS × Int32 => Wx LM K q.1 8 [(3, .int q.2), (0, .ref (kad K 0)), (1, .int a1), (2, .int a2)] []) (fun q x h1 ihL1 ihR1 => ?_) big _ g12
  obtain ⟨s4, x5⟩ := q
  replace h1 : X11_comes_b8 a1 a2 s4 x5 = some x := h1
  unfold X11_comes_b8 at h1
  show Wx LM K s4 8 [(3, .int x5), (0, .ref (kad K 0)), (1, .int a1), (2, .int a2)] []
  refine x_iload_n C 0 dX11_comes_8 rfl ?_
  refine x_iload_n C 3 dX11_comes_9 rfl ?_
  refine x_icmpge C 36 dX11_comes_10 (by decide) (fun c8 => ?_) (fun c8 => ?_)
  · replace h1 := ob_pos c8 h1
    refine x_lv (lv' := []) [] rfl ?_
    exact J1 _ (ihR1 _ (Option.some.inj h1).symm)
  · replace h1 := ob_neg c8 h1
    refine x_aload_n C 1 dX11_comes_13 rfl ?_
    refine x_getR (j := 1) (i := 13) (q := (RX11, TX11, 22)) C 2 (iM 0 (by decide)) rfl rfl inBX11 (by decide) tw764 rfl dX11_comes_14 ?_
    refine x_bipush (v := 40) C dX11_comes_17 rfl ?_
    refine x_iload_n C 2 dX11_comes_19 rfl ?_
    refine x_imul C dX11_comes_20 ?_
    refine x_iload_n C 0 dX11_comes_21 rfl ?_
    refine x_iadd C dX11_comes_22 ?_
    refine x_aload_n C 1 dX11_comes_23 rfl ?_
    refine x_getR (j := 20) (i := 54) (q := (RX11, TX11, 22)) C 14 (iM 0 (by decide)) rfl rfl inBX11 (by decide) tw783 rfl dX11_comes_24 ?_
    refine x_iload_n C 0 dX11_comes_27 rfl ?_
    obtain ⟨c9, h1⟩ := ob_if h1
    refine x_iald C (iM 14 (by decide)) rfl (vin_in c9) dX11_comes_28 ?_
    obtain ⟨c10, h1⟩ := ob_if h1
    refine x_iast C (iM 2 (by decide)) rfl (vin_in c10) dX11_comes_29 ?_
    refine x_iinc (v := (x5 + 1)) (lv' := [(3, .int (x5 + 1)), (0, .ref (kad K 0)), (1, .int a1), (2, .int a2)]) C 0 dX11_comes_30 rfl rfl (by rw [e5]; decide) rfl ?_
    refine x_goto C 8 dX11_comes_33 (by decide) ?_
    refine x_lv (lv' := [(3, .int (x5 + 1)), (0, .ref (kad K 0)), (1, .int a1), (2, .int a2)]) [0, 1, 2, 3] rfl ?_
    exact ihL1 _ (Option.some.inj h1).symm
set_option maxHeartbeats 4000000 in
set_option maxRecDepth 100000 in
theorem c_X11_takes {l : Launch} {D : va_G} {ad : Nat → Nat} {cy : Nat → ClassId} (hJ : mJ LM ad) {σ τ : mS} {a1 : Int32} {r : Unit}  (h0 : X11_takes σ a1 = some (r, τ)) : MetG l LM D ad cy yX11_takes cX11_takes 3 none 0 [.ref (ad 0), .int a1] σ (none) τ := by
  refine MetG.of hJ (by decide +kernel) [(0, .ref (ad 0)), (1, .int a1)] rfl (Nat.le_of_ble_eq_true rfl) ?_
  intro K e1 e2 e3 e4 e5 C R
  subst e1
  subst e2
  subst e3
  subst e4
  unfold X11_takes at h0
  refine x_iconst (v := 0) C dX11_takes_0 rfl ?_
  refine x_istore_n (lv' := [(2, .int 0), (0, .ref (kad K 0)), (1, .int a1)]) C dX11_takes_1 (by rw [e5]; decide) rfl ?_
  obtain ⟨e8, g9, h0⟩ := ob_bind h0
  have J1 : ∀ (s3 : mS), s3 = e8 → Wx LM K s3 25 [] [] := by
    intro s3 e9
    subst e9
    replace h0 := un1_l h0
    cases h0
    exact x_vret C R dX11_takes_25
  refine lp_G (G := fun q : mS × Int32 => Wx LM K q.1 2 [(2, .int q.2), (0, .ref (kad K 0)), (1, .int a1)] []) (fun q x h1 ihL1 ihR1 => ?_) big _ g9
  obtain ⟨s1, x2⟩ := q
  replace h1 : X11_takes_b2 a1 s1 x2 = some x := h1
  unfold X11_takes_b2 at h1
  show Wx LM K s1 2 [(2, .int x2), (0, .ref (kad K 0)), (1, .int a1)] []
  refine x_iload_n C 0 dX11_takes_2 rfl ?_
  refine x_iload_n C 2 dX11_takes_3 rfl ?_
  refine x_icmpge C 25 dX11_takes_4 (by decide) (fun c5 => ?_) (fun c5 => ?_)
  · replace h1 := ob_pos c5 h1
    refine x_lv (lv' := []) [] rfl ?_
    exact J1 _ (ihR1 _ (Option.some.inj h1).symm)
  · replace h1 := ob_neg c5 h1
    refine x_aload_n C 1 dX11_takes_7 rfl ?_
    refine x_getR (j := 20) (i := 54) (q := (RX11, TX11, 22)) C 14 (iM 0 (by decide)) rfl rfl inBX11 (by decide) tw783 rfl dX11_takes_8 ?_
    refine x_iload_n C 0 dX11_takes_11 rfl ?_
    refine x_aload_n C 1 dX11_takes_12 rfl ?_
    refine x_getR (j := 19) (i := 51) (q := (RX11, TX11, 22)) C 13 (iM 0 (by decide)) rfl rfl inBX11 (by decide) tw782 rfl dX11_takes_13 ?_
    refine x_iload_n C 0 dX11_takes_16 rfl ?_
    obtain ⟨c6, h1⟩ := ob_if h1
    refine x_iald C (iM 13 (by decide)) rfl (vin_in c6) dX11_takes_17 ?_
    obtain ⟨c7, h1⟩ := ob_if h1
    refine x_iast C (iM 14 (by decide)) rfl (vin_in c7) dX11_takes_18 ?_
    refine x_iinc (v := (x2 + 1)) (lv' := [(2, .int (x2 + 1)), (0, .ref (kad K 0)), (1, .int a1)]) C 0 dX11_takes_19 rfl rfl (by rw [e5]; decide) rfl ?_
    refine x_goto C 2 dX11_takes_22 (by decide) ?_
    refine x_lv (lv' := [(2, .int (x2 + 1)), (0, .ref (kad K 0)), (1, .int a1)]) [0, 1, 2] rfl ?_
    exact ihL1 _ (Option.some.inj h1).symm
set_option maxHeartbeats 4000000 in
set_option maxRecDepth 100000 in
theorem c_X11_fewest {l : Launch} {D : va_G} {ad : Nat → Nat} {cy : Nat → ClassId} (hJ : mJ LM ad) {σ τ : mS} {a1 : Int32} {a2 : Int32} {r : Int32}  (h0 : X11_fewest σ a1 a2 = some (r, τ)) : MetG l LM D ad cy yX11_fewest cX11_fewest 5 (some .int) 4 [.ref (ad 0), .int a1, .int a2] σ (some (.int r)) τ := by
  refine MetG.of hJ (by decide +kernel) [(0, .ref (ad 0)), (1, .int a1), (2, .int a2)] rfl (Nat.le_of_ble_eq_true rfl) ?_
  intro K e1 e2 e3 e4 e5 C R
  subst e1
  subst e2
  subst e3
  subst e4
  unfold X11_fewest at h0
  refine x_aload_n C 0 dX11_fewest_0 rfl ?_
  refine x_iload_n C 1 dX11_fewest_1 rfl ?_
  refine x_callV (ar := 1) (q := (RX11, TX11, 22)) (rest := []) C (c_X11_isPlayer C.2.2.2.2.2.2.1  rfl) (iM 0 (by decide)) rfl rfl hy_X11_isPlayer ⟨tw924, tw926, tw42, tw75, tw927⟩ (by decide) (by decide) rfl rfl (Nat.le_of_ble_eq_true rfl) dX11_fewest_2 ?_
  show Wx LM K σ 5 [(0, .ref (kad K 0)), (1, .int a1), (2, .int a2)] [.int (X11_isPlayer σ a1)]
  refine x_ifeq C 16 dX11_fewest_5 (by decide) (fun c3 => ?_) (fun c3 => ?_)
  · replace h0 := ob_pos c3 h0
    refine x_iconst (v := (-1)) C dX11_fewest_16 rfl ?_
    cases h0
    exact x_iret C R dX11_fewest_17
  · replace h0 := ob_neg c3 h0
    refine x_aload_n C 0 dX11_fewest_8 rfl ?_
    refine x_iload_n C 2 dX11_fewest_9 rfl ?_
    refine x_callV (ar := 1) (q := (RX11, TX11, 22)) (rest := []) C (c_X11_isRow C.2.2.2.2.2.2.1  rfl) (iM 0 (by decide)) rfl rfl hy_X11_isRow ⟨tw834, tw836, tw33, tw75, tw837⟩ (by decide) (by decide) rfl rfl (Nat.le_of_ble_eq_true rfl) dX11_fewest_10 ?_
    show Wx LM K σ 13 [(0, .ref (kad K 0)), (1, .int a1), (2, .int a2)] [.int (X11_isRow a2)]
    refine x_ifne C 18 dX11_fewest_13 (by decide) (fun c6 => ?_) (fun c6 => ?_)
    · replace h0 := ob_neg c6 h0
      refine x_aload_n C 0 dX11_fewest_18 rfl ?_
      refine x_getR (j := 11) (i := 38) (q := (RX11, TX11, 22)) C 10 (iM 0 (by decide)) rfl rfl inBX11 (by decide) tw774 rfl dX11_fewest_19 ?_
      refine x_iconst (v := 4) C dX11_fewest_22 rfl ?_
      obtain ⟨c7, h0⟩ := ob_if h0
      refine x_iald C (iM 10 (by decide)) rfl (vin_in c7) dX11_fewest_23 ?_
      refine x_iload_n C 1 dX11_fewest_24 rfl ?_
      refine x_callS (ar := 2) (rest := []) C (c_X11_has C.2.2.2.2.2.2.1  rfl) hy_X11_has ⟨tw957, tw958, tw75, tw959⟩ (by decide) (by decide) rfl rfl (Nat.le_of_ble_eq_true rfl) dX11_fewest_25 ?_
      show Wx LM K σ 28 [(0, .ref (kad K 0)), (1, .int a1), (2, .int a2)] [.int (X11_has (σ.1 10 (4 : Int32).toNatClampNeg) a1)]
      refine x_ifeq C 39 dX11_fewest_28 (by decide) (fun c10 => ?_) (fun c10 => ?_)
      · replace h0 := ob_pos c10 h0
        refine x_iconst (v := 1) C dX11_fewest_39 rfl ?_
        refine x_istore_n (lv' := [(3, .int 1), (0, .ref (kad K 0)), (1, .int a1), (2, .int a2)]) C dX11_fewest_40 (by rw [e5]; decide) rfl ?_
        obtain ⟨e39, g40, h0⟩ := ob_bind h0
        have J1 : ∀ (s13 : mS), .inl s13 = e39 → Wx LM K s13 111 [] [] := by
          intro s13 e9
          subst e9
          replace h0 := sm1_l h0
          refine x_bipush (v := (-9)) C dX11_fewest_111 rfl ?_
          cases h0
          exact x_iret C R dX11_fewest_113
        refine lp_G (G := fun q : mS × Int32 => Wx LM K q.1 41 [(3, .int q.2), (0, .ref (kad K 0)), (1, .int a1), (2, .int a2)] []) (fun q x h1 ihL1 ihR1 => ?_) big _ g40
        obtain ⟨s11, x12⟩ := q
        replace h1 : X11_fewest_b41 a1 a2 s11 x12 = some x := h1
        unfold X11_fewest_b41 at h1
        show Wx LM K s11 41 [(3, .int x12), (0, .ref (kad K 0)), (1, .int a1), (2, .int a2)] []
        refine x_iload_n C 0 dX11_fewest_41 rfl ?_
        refine x_iconst (v := 4) C dX11_fewest_42 rfl ?_
        refine x_icmpgt C 111 dX11_fewest_43 (by decide) (fun c15 => ?_) (fun c15 => ?_)
        · replace h1 := ob_pos c15 h1
          refine x_lv (lv' := []) [] rfl ?_
          exact J1 _ (ihR1 _ (Option.some.inj h1).symm)
        · replace h1 := ob_neg c15 h1
          refine x_aload_n C 1 dX11_fewest_46 rfl ?_
          refine x_iload_n C 0 dX11_fewest_47 rfl ?_
          refine x_iconst (v := 1) C dX11_fewest_48 rfl ?_
          obtain ⟨r16, s18, g17, h1⟩ := ob_bd h1
          refine x_callV (ar := 2) (q := (RX11, TX11, 22)) (rest := []) C (c_X11_follows C.2.2.2.2.2.2.1  g17) (iM 0 (by decide)) rfl rfl hy_X11_follows ⟨tw1013, tw1015, tw48, tw75, tw1016⟩ (by decide) (by decide) rfl rfl (Nat.le_of_ble_eq_true rfl) dX11_fewest_49 ?_
          show Wx LM K s18 52 [(3, .int x12), (0, .ref (kad K 0)), (1, .int a1), (2, .int a2)] [.int r16]
          refine x_istore (lv' := [(4, .int r16), (3, .int x12), (0, .ref (kad K 0)), (1, .int a1), (2, .int a2)]) C dX11_fewest_52 (by rw [e5]; decide) rfl ?_
          obtain ⟨e37, g38, h1⟩ := ob_bind h1
          have J2 : ∀ (s21 : mS), .inl s21 = e37 → Wx LM K s21 105 [(3, .int x12), (0, .ref (kad K 0)), (1, .int a1), (2, .int a2)] [] := by
            intro s21 e9
            subst e9
            replace h1 := sm1_l h1
            refine x_iinc (v := (x12 + 1)) (lv' := [(3, .int (x12 + 1)), (0, .ref (kad K 0)), (1, .int a1), (2, .int a2)]) C 0 dX11_fewest_105 rfl rfl (by rw [e5]; decide) rfl ?_
            refine x_goto C 41 dX11_fewest_108 (by decide) ?_
            refine x_lv (lv' := [(3, .int (x12 + 1)), (0, .ref (kad K 0)), (1, .int a1), (2, .int a2)]) [0, 1, 2, 3] rfl ?_
            exact ihL1 _ (Option.some.inj h1).symm
          refine lp_G (G := fun q : mS × Int32 => Wx LM K q.1 54 [(4, .int q.2), (3, .int x12), (0, .ref (kad K 0)), (1, .int a1), (2, .int a2)] []) (fun q x h2 ihL2 ihR2 => ?_) big _ g38
          obtain ⟨s19, x20⟩ := q
          replace h2 : X11_fewest_b54 a1 a2 x12 s19 x20 = some x := h2
          unfold X11_fewest_b54 at h2
          show Wx LM K s19 54 [(4, .int x20), (3, .int x12), (0, .ref (kad K 0)), (1, .int a1), (2, .int a2)] []
          refine x_iload C 0 dX11_fewest_54 rfl ?_
          refine x_ifeq C 105 dX11_fewest_56 (by decide) (fun c23 => ?_) (fun c23 => ?_)
          · replace h2 := ob_pos c23 h2
            refine x_lv (lv' := [(3, .int x12), (0, .ref (kad K 0)), (1, .int a1), (2, .int a2)]) [1, 2, 3, 4] rfl ?_
            exact J2 _ (ihR2 _ (Option.some.inj h2).symm)
          · replace h2 := ob_neg c23 h2
            refine x_aload_n C 2 dX11_fewest_59 rfl ?_
            refine x_getR (j := 11) (i := 38) (q := (RX11, TX11, 22)) C 10 (iM 0 (by decide)) rfl rfl inBX11 (by decide) tw774 rfl dX11_fewest_60 ?_
            refine x_sipush (v := 1312) C dX11_fewest_63 rfl ?_
            refine x_iload_n C 1 dX11_fewest_66 rfl ?_
            refine x_bipush (v := 8) C dX11_fewest_67 rfl ?_
            refine x_imul C dX11_fewest_69 ?_
            refine x_iadd C dX11_fewest_70 ?_
            refine x_iconst (v := 4) C dX11_fewest_71 rfl ?_
            refine x_iadd C dX11_fewest_72 ?_
            obtain ⟨c24, h2⟩ := ob_if h2
            refine x_iald C (iM 10 (by decide)) rfl (vin_in c24) dX11_fewest_73 ?_
            refine x_iload_n C 3 dX11_fewest_74 rfl ?_
            refine x_callS (ar := 2) (rest := []) C (c_X11_has C.2.2.2.2.2.2.1  rfl) hy_X11_has ⟨tw957, tw958, tw75, tw959⟩ (by decide) (by decide) rfl rfl (Nat.le_of_ble_eq_true rfl) dX11_fewest_75 ?_
            show Wx LM K s19 78 [(4, .int x20), (3, .int x12), (0, .ref (kad K 0)), (1, .int a1), (2, .int a2)] [.int (X11_has (s19.1 10 (((1312 : Int32) + (x12 * 8)) + 4).toNatClampNeg) a1)]
            refine x_ifeq C 94 dX11_fewest_78 (by decide) (fun c27 => ?_) (fun c27 => ?_)
            · replace h2 := ob_pos c27 h2
              refine x_aload_n C 2 dX11_fewest_94 rfl ?_
              refine x_iload_n C 1 dX11_fewest_95 rfl ?_
              refine x_iconst (v := 0) C dX11_fewest_96 rfl ?_
              obtain ⟨r28, s30, g29, h2⟩ := ob_bd h2
              refine x_callV (ar := 2) (q := (RX11, TX11, 22)) (rest := []) C (c_X11_follows C.2.2.2.2.2.2.1  g29) (iM 0 (by decide)) rfl rfl hy_X11_follows ⟨tw1013, tw1015, tw48, tw75, tw1016⟩ (by decide) (by decide) rfl rfl (Nat.le_of_ble_eq_true rfl) dX11_fewest_97 ?_
              show Wx LM K s30 100 [(4, .int x20), (3, .int x12), (0, .ref (kad K 0)), (1, .int a1), (2, .int a2)] [.int r28]
              refine x_istore (lv' := [(4, .int r28), (3, .int x12), (0, .ref (kad K 0)), (1, .int a1), (2, .int a2)]) C dX11_fewest_100 (by rw [e5]; decide) rfl ?_
              refine x_goto C 54 dX11_fewest_102 (by decide) ?_
              refine x_lv (lv' := [(4, .int r28), (3, .int x12), (0, .ref (kad K 0)), (1, .int a1), (2, .int a2)]) [0, 1, 2, 3, 4] rfl ?_
              exact ihL2 _ (Option.some.inj h2).symm
            · replace h2 := ob_neg c27 h2
              refine x_aload_n C 2 dX11_fewest_81 rfl ?_
              refine x_iload_n C 1 dX11_fewest_82 rfl ?_
              obtain ⟨r31, s33, g32, h2⟩ := ob_bd h2
              refine x_callV (ar := 1) (q := (RX11, TX11, 22)) (rest := []) C (c_X11_takes C.2.2.2.2.2.2.1  g32) (iM 0 (by decide)) rfl rfl hy_X11_takes ⟨tw1017, tw1019, tw49, tw75, tw1020⟩ (by decide) (by decide) rfl rfl (Nat.le_of_ble_eq_true rfl) dX11_fewest_83 ?_
              show Wx LM K s33 86 [(4, .int x20), (3, .int x12), (0, .ref (kad K 0)), (1, .int a1), (2, .int a2)] []
              refine x_aload_n C 2 dX11_fewest_86 rfl ?_
              refine x_iload_n C 4 dX11_fewest_87 rfl ?_
              refine x_iload_n C 1 dX11_fewest_88 rfl ?_
              obtain ⟨r34, s36, g35, h2⟩ := ob_bd h2
              refine x_callV (ar := 2) (q := (RX11, TX11, 22)) (rest := []) C (c_X11_comes C.2.2.2.2.2.2.1  g35) (iM 0 (by decide)) rfl rfl hy_X11_comes ⟨tw1021, tw1023, tw50, tw75, tw1024⟩ (by decide) (by decide) rfl rfl (Nat.le_of_ble_eq_true rfl) dX11_fewest_89 ?_
              show Wx LM K s36 92 [(4, .int x20), (3, .int x12), (0, .ref (kad K 0)), (1, .int a1), (2, .int a2)] []
              refine x_iload_n C 1 dX11_fewest_92 rfl ?_
              have e29 := ihR2 _ (Option.some.inj h2).symm
              subst e29
              replace h1 := sm1_r h1
              have e19 := ihR1 _ (Option.some.inj h1).symm
              subst e19
              replace h0 := sm1_r h0
              cases h0
              exact x_iret C R dX11_fewest_93
      · replace h0 := ob_neg c10 h0
        refine x_aload_n C 0 dX11_fewest_31 rfl ?_
        refine x_iload_n C 2 dX11_fewest_32 rfl ?_
        refine x_iconst (v := 0) C dX11_fewest_33 rfl ?_
        obtain ⟨r41, s43, g42, h0⟩ := ob_bd h0
        refine x_callV (ar := 2) (q := (RX11, TX11, 22)) (rest := []) C (c_X11_anew C.2.2.2.2.2.2.1  g42) (iM 0 (by decide)) rfl rfl hy_X11_anew ⟨tw846, tw848, tw35, tw75, tw849⟩ (by decide) (by decide) rfl rfl (Nat.le_of_ble_eq_true rfl) dX11_fewest_34 ?_
        show Wx LM K s43 37 [(0, .ref (kad K 0)), (1, .int a1), (2, .int a2)] []
        refine x_iconst (v := 0) C dX11_fewest_37 rfl ?_
        cases h0
        exact x_iret C R dX11_fewest_38
    · replace h0 := ob_pos c6 h0
      refine x_iconst (v := (-1)) C dX11_fewest_16 rfl ?_
      cases h0
      exact x_iret C R dX11_fewest_17
set_option maxHeartbeats 4000000 in
set_option maxRecDepth 100000 in
theorem c_X11_most {l : Launch} {D : va_G} {ad : Nat → Nat} {cy : Nat → ClassId} (hJ : mJ LM ad) {σ τ : mS} {a1 : Int32} {a2 : Int32} {r : Int32}  (h0 : X11_most σ a1 a2 = some (r, τ)) : MetG l LM D ad cy yX11_most cX11_most 7 (some .int) 4 [.ref (ad 0), .int a1, .int a2] σ (some (.int r)) τ := by
  refine MetG.of hJ (by decide +kernel) [(0, .ref (ad 0)), (1, .int a1), (2, .int a2)] rfl (Nat.le_of_ble_eq_true rfl) ?_
  intro K e1 e2 e3 e4 e5 C R
  subst e1
  subst e2
  subst e3
  subst e4
  unfold X11_most at h0
  refine x_iload_n C 1 dX11_most_0 rfl ?_
  refine x_i2l C dX11_most_1 ?_
  refine x_lconst (v := 0) C dX11_most_2 rfl ?_
  refine x_ldc2 C tw928 dX11_most_3 ?_
  refine x_callS (ar := 3) (rest := []) C (c_X11_in C.2.2.2.2.2.2.1  rfl) hy_X11_in ⟨tw839, tw840, tw75, tw841⟩ (by decide) (by decide) rfl rfl (Nat.le_of_ble_eq_true rfl) dX11_most_6 ?_
  show Wx LM K σ 9 [(0, .ref (kad K 0)), (1, .int a1), (2, .int a2)] [.int (X11_in ((a1).toInt64) (0) (4))]
  refine x_ifeq C 20 dX11_most_9 (by decide) (fun c3 => ?_) (fun c3 => ?_)
  · replace h0 := ob_pos c3 h0
    refine x_iconst (v := (-1)) C dX11_most_20 rfl ?_
    cases h0
    exact x_iret C R dX11_most_21
  · replace h0 := ob_neg c3 h0
    refine x_aload_n C 0 dX11_most_12 rfl ?_
    refine x_iload_n C 2 dX11_most_13 rfl ?_
    refine x_callV (ar := 1) (q := (RX11, TX11, 22)) (rest := []) C (c_X11_isRow C.2.2.2.2.2.2.1  rfl) (iM 0 (by decide)) rfl rfl hy_X11_isRow ⟨tw834, tw836, tw33, tw75, tw837⟩ (by decide) (by decide) rfl rfl (Nat.le_of_ble_eq_true rfl) dX11_most_14 ?_
    show Wx LM K σ 17 [(0, .ref (kad K 0)), (1, .int a1), (2, .int a2)] [.int (X11_isRow a2)]
    refine x_ifne C 22 dX11_most_17 (by decide) (fun c6 => ?_) (fun c6 => ?_)
    · replace h0 := ob_neg c6 h0
      refine x_aload_n C 0 dX11_most_22 rfl ?_
      refine x_getI (j := 5) (i := 124) (q := (RX11, TX11, 22)) C (iM 0 (by decide)) rfl rfl inBX11 (by decide) tw768 rfl dX11_most_23 ?_
      refine x_ifne C 32 dX11_most_26 (by decide) (fun c8 => ?_) (fun c8 => ?_)
      · replace h0 := ob_neg c8 h0
        refine x_iload_n C 1 dX11_most_32 rfl ?_
        refine x_aload_n C 0 dX11_most_33 rfl ?_
        refine x_getR (j := 11) (i := 38) (q := (RX11, TX11, 22)) C 10 (iM 0 (by decide)) rfl rfl inBX11 (by decide) tw774 rfl dX11_most_34 ?_
        refine x_iconst (v := 5) C dX11_most_37 rfl ?_
        obtain ⟨c9, h0⟩ := ob_if h0
        refine x_iald C (iM 10 (by decide)) rfl (vin_in c9) dX11_most_38 ?_
        obtain ⟨r10, g11, h0⟩ := ob_bind h0
        refine x_callS (ar := 1) (rest := [.int a1]) C (c_X11_bits C.2.2.2.2.2.2.1  g11) hy_X11_bits ⟨tw936, tw937, tw75, tw938⟩ (by decide) (by decide) rfl rfl (Nat.le_of_ble_eq_true rfl) dX11_most_39 ?_
        show Wx LM K σ 42 [(0, .ref (kad K 0)), (1, .int a1), (2, .int a2)] [.int r10, .int a1]
        refine x_callS (ar := 2) (rest := []) C (c_X11_lesser C.2.2.2.2.2.2.1  rfl) hy_X11_lesser ⟨tw908, tw909, tw75, tw910⟩ (by decide) (by decide) rfl rfl (Nat.le_of_ble_eq_true rfl) dX11_most_42 ?_
        show Wx LM K σ 45 [(0, .ref (kad K 0)), (1, .int a1), (2, .int a2)] [.int (X11_lesser a1 r10)]
        refine x_istore_n (lv' := [(3, .int (X11_lesser a1 r10)), (0, .ref (kad K 0)), (1, .int a1), (2, .int a2)]) C dX11_most_45 (by rw [e5]; decide) rfl ?_
        refine x_iload_n C 0 dX11_most_46 rfl ?_
        obtain ⟨e59, g58, h0⟩ := ob_bind h0
        have J60 : ∀ (v15 : Int32), v15 = e59 → Wx LM K σ 63 [(3, .int (X11_lesser a1 r10)), (0, .ref (kad K 0)), (2, .int a2)] [.int v15] := by
          intro v15 e9
          subst e9
          replace h0 := un1_l h0
          refine x_istore (lv' := [(4, .int v15), (3, .int (X11_lesser a1 r10)), (0, .ref (kad K 0)), (2, .int a2)]) C dX11_most_63 (by rw [e5]; decide) rfl ?_
          refine x_iload_n C 1 dX11_most_65 rfl ?_
          obtain ⟨e50, g49, h0⟩ := ob_bind h0
          have J51 : ∀ (s18 : mS) (v19 : Int32), (s18, v19) = e50 → Wx LM K s18 83 [(4, .int v15), (3, .int (X11_lesser a1 r10)), (0, .ref (kad K 0)), (2, .int a2)] [.int v19] := by
            intro s18 v19 e9
            subst e9
            replace h0 := un2_l h0
            refine x_istore (lv' := [(5, .int v19), (4, .int v15), (3, .int (X11_lesser a1 r10)), (0, .ref (kad K 0)), (2, .int a2)]) C dX11_most_83 (by rw [e5]; decide) rfl ?_
            obtain ⟨e47, g48, h0⟩ := ob_bind h0
            have J1 : ∀ (s23 : mS) (y24 : Int32), (s23, y24) = e47 → Wx LM K s23 137 [(4, .int y24), (3, .int (X11_lesser a1 r10)), (0, .ref (kad K 0)), (2, .int a2)] [] := by
              intro s23 y24 e9
              subst e9
              replace h0 := un2_l h0
              refine x_aload_n C 2 dX11_most_137 rfl ?_
              refine x_iload_n C 3 dX11_most_138 rfl ?_
              refine x_iload_n C 1 dX11_most_139 rfl ?_
              obtain ⟨r25, s27, g26, h0⟩ := ob_bd h0
              refine x_callV (ar := 2) (q := (RX11, TX11, 22)) (rest := []) C (c_X11_comes C.2.2.2.2.2.2.1  g26) (iM 0 (by decide)) rfl rfl hy_X11_comes ⟨tw1021, tw1023, tw50, tw75, tw1024⟩ (by decide) (by decide) rfl rfl (Nat.le_of_ble_eq_true rfl) dX11_most_140 ?_
              show Wx LM K s27 143 [(4, .int y24), (3, .int (X11_lesser a1 r10)), (0, .ref (kad K 0)), (2, .int a2)] []
              refine x_iload C 0 dX11_most_143 rfl ?_
              cases h0
              exact x_iret C R dX11_most_145
            refine lp_G (G := fun q : mS × Int32 × Int32 => Wx LM K q.1 85 [(5, .int q.2.2), (4, .int q.2.1), (3, .int (X11_lesser a1 r10)), (0, .ref (kad K 0)), (2, .int a2)] []) (fun q x h1 ihL1 ihR1 => ?_) big _ g48
            obtain ⟨s20, x21, x22⟩ := q
            replace h1 : X11_most_b85 a1 r10 s20 x21 x22 = some x := h1
            unfold X11_most_b85 at h1
            show Wx LM K s20 85 [(5, .int x22), (4, .int x21), (3, .int (X11_lesser a1 r10)), (0, .ref (kad K 0)), (2, .int a2)] []
            refine x_iload C 0 dX11_most_85 rfl ?_
            refine x_ifeq C 137 dX11_most_87 (by decide) (fun c29 => ?_) (fun c29 => ?_)
            · replace h1 := ob_pos c29 h1
              refine x_lv (lv' := [(4, .int x21), (3, .int (X11_lesser a1 r10)), (0, .ref (kad K 0)), (2, .int a2)]) [1, 2, 3, 4] rfl ?_
              exact J1 _ _ (ihR1 _ (Option.some.inj h1).symm)
            · replace h1 := ob_neg c29 h1
              refine x_aload_n C 3 dX11_most_90 rfl ?_
              refine x_getR (j := 11) (i := 38) (q := (RX11, TX11, 22)) C 10 (iM 0 (by decide)) rfl rfl inBX11 (by decide) tw774 rfl dX11_most_91 ?_
              refine x_sipush (v := 1312) C dX11_most_94 rfl ?_
              refine x_iload_n C 2 dX11_most_97 rfl ?_
              refine x_bipush (v := 8) C dX11_most_98 rfl ?_
              refine x_imul C dX11_most_100 ?_
              refine x_iadd C dX11_most_101 ?_
              refine x_iconst (v := 4) C dX11_most_102 rfl ?_
              refine x_iadd C dX11_most_103 ?_
              obtain ⟨c30, h1⟩ := ob_if h1
              refine x_iald C (iM 10 (by decide)) rfl (vin_in c30) dX11_most_104 ?_
              obtain ⟨r31, g32, h1⟩ := ob_bind h1
              refine x_callS (ar := 1) (rest := []) C (c_X11_bits C.2.2.2.2.2.2.1  g32) hy_X11_bits ⟨tw936, tw937, tw75, tw938⟩ (by decide) (by decide) rfl rfl (Nat.le_of_ble_eq_true rfl) dX11_most_105 ?_
              show Wx LM K s20 108 [(5, .int x22), (4, .int x21), (3, .int (X11_lesser a1 r10)), (0, .ref (kad K 0)), (2, .int a2)] [.int r31]
              refine x_istore (lv' := [(6, .int r31), (5, .int x22), (4, .int x21), (3, .int (X11_lesser a1 r10)), (0, .ref (kad K 0)), (2, .int a2)]) C dX11_most_108 (by rw [e5]; decide) rfl ?_
              refine x_iload C 0 dX11_most_110 rfl ?_
              refine x_iload C 2 dX11_most_112 rfl ?_
              obtain ⟨e41, g40, h1⟩ := ob_bind h1
              have J42 : ∀ (s35 : mS) (y36 : Int32), (s35, y36) = e41 → Wx LM K s35 126 [(4, .int y36), (3, .int (X11_lesser a1 r10)), (0, .ref (kad K 0)), (2, .int a2)] [] := by
                intro s35 y36 e9
                subst e9
                replace h1 := un2_l h1
                refine x_aload_n C 2 dX11_most_126 rfl ?_
                refine x_iload_n C 1 dX11_most_127 rfl ?_
                refine x_iconst (v := 0) C dX11_most_128 rfl ?_
                obtain ⟨r37, s39, g38, h1⟩ := ob_bd h1
                refine x_callV (ar := 2) (q := (RX11, TX11, 22)) (rest := []) C (c_X11_follows C.2.2.2.2.2.2.1  g38) (iM 0 (by decide)) rfl rfl hy_X11_follows ⟨tw1013, tw1015, tw48, tw75, tw1016⟩ (by decide) (by decide) rfl rfl (Nat.le_of_ble_eq_true rfl) dX11_most_129 ?_
                show Wx LM K s39 132 [(4, .int y36), (3, .int (X11_lesser a1 r10)), (0, .ref (kad K 0)), (2, .int a2)] [.int r37]
                refine x_istore (lv' := [(5, .int r37), (4, .int y36), (3, .int (X11_lesser a1 r10)), (0, .ref (kad K 0)), (2, .int a2)]) C dX11_most_132 (by rw [e5]; decide) rfl ?_
                refine x_goto C 85 dX11_most_134 (by decide) ?_
                refine x_lv (lv' := [(5, .int r37), (4, .int y36), (3, .int (X11_lesser a1 r10)), (0, .ref (kad K 0)), (2, .int a2)]) [0, 1, 2, 3, 4] rfl ?_
                exact ihL1 _ (Option.some.inj h1).symm
              refine x_icmple C 126 dX11_most_114 (by decide) (fun c43 => ?_) (fun c43 => ?_)
              · replace g40 := ob_pos c43 g40
                refine x_lv (lv' := [(4, .int x21), (3, .int (X11_lesser a1 r10)), (0, .ref (kad K 0)), (2, .int a2)]) [2, 3, 4, 5] rfl ?_
                exact J42 _ _ (Option.some.inj g40)
              · replace g40 := ob_neg c43 g40
                refine x_iload C 0 dX11_most_117 rfl ?_
                refine x_istore (lv' := [(4, .int r31), (6, .int r31), (5, .int x22), (3, .int (X11_lesser a1 r10)), (0, .ref (kad K 0)), (2, .int a2)]) C dX11_most_119 (by rw [e5]; decide) rfl ?_
                refine x_aload_n C 4 dX11_most_121 rfl ?_
                refine x_iload_n C 3 dX11_most_122 rfl ?_
                obtain ⟨r44, s46, g45, g40⟩ := ob_bd g40
                refine x_callV (ar := 1) (q := (RX11, TX11, 22)) (rest := []) C (c_X11_takes C.2.2.2.2.2.2.1  g45) (iM 0 (by decide)) rfl rfl hy_X11_takes ⟨tw1017, tw1019, tw49, tw75, tw1020⟩ (by decide) (by decide) rfl rfl (Nat.le_of_ble_eq_true rfl) dX11_most_123 ?_
                show Wx LM K s46 126 [(4, .int r31), (6, .int r31), (5, .int x22), (3, .int (X11_lesser a1 r10)), (0, .ref (kad K 0)), (2, .int a2)] []
                refine x_lv (lv' := [(4, .int r31), (3, .int (X11_lesser a1 r10)), (0, .ref (kad K 0)), (2, .int a2)]) [0, 3, 4, 5] rfl ?_
                exact J42 _ _ (Option.some.inj g40)
          refine x_ifle C 82 dX11_most_66 (by decide) (fun c52 => ?_) (fun c52 => ?_)
          · replace g49 := ob_pos c52 g49
            refine x_iconst (v := 0) C dX11_most_82 rfl ?_
            refine x_lv (lv' := [(4, .int v15), (3, .int (X11_lesser a1 r10)), (0, .ref (kad K 0)), (2, .int a2)]) [0, 1, 2, 3] rfl ?_
            exact J51 _ _ (Option.some.inj g49)
          · replace g49 := ob_neg c52 g49
            refine x_aload_n C 2 dX11_most_69 rfl ?_
            refine x_iload_n C 1 dX11_most_70 rfl ?_
            refine x_iconst (v := 1) C dX11_most_71 rfl ?_
            obtain ⟨r53, s55, g54, g49⟩ := ob_bd g49
            refine x_callV (ar := 2) (q := (RX11, TX11, 22)) (rest := []) C (c_X11_follows C.2.2.2.2.2.2.1  g54) (iM 0 (by decide)) rfl rfl hy_X11_follows ⟨tw1013, tw1015, tw48, tw75, tw1016⟩ (by decide) (by decide) rfl rfl (Nat.le_of_ble_eq_true rfl) dX11_most_72 ?_
            show Wx LM K s55 75 [(4, .int v15), (3, .int (X11_lesser a1 r10)), (0, .ref (kad K 0)), (2, .int a2)] [.int r53]
            refine x_ifeq C 82 dX11_most_75 (by decide) (fun c57 => ?_) (fun c57 => ?_)
            · replace g49 := ob_pos c57 g49
              refine x_iconst (v := 0) C dX11_most_82 rfl ?_
              refine x_lv (lv' := [(4, .int v15), (3, .int (X11_lesser a1 r10)), (0, .ref (kad K 0)), (2, .int a2)]) [0, 1, 2, 3] rfl ?_
              exact J51 _ _ (Option.some.inj g49)
            · replace g49 := ob_neg c57 g49
              refine x_iconst (v := 1) C dX11_most_78 rfl ?_
              refine x_goto C 83 dX11_most_79 (by decide) ?_
              refine x_lv (lv' := [(4, .int v15), (3, .int (X11_lesser a1 r10)), (0, .ref (kad K 0)), (2, .int a2)]) [0, 1, 2, 3] rfl ?_
              exact J51 _ _ (Option.some.inj g49)
        refine x_ifne C 62 dX11_most_47 (by decide) (fun c61 => ?_) (fun c61 => ?_)
        · replace g58 := ob_neg c61 g58
          refine x_iconst (v := (-1)) C dX11_most_62 rfl ?_
          refine x_lv (lv' := [(3, .int (X11_lesser a1 r10)), (0, .ref (kad K 0)), (2, .int a2)]) [0, 1, 3] rfl ?_
          exact J60 _ (Option.some.inj g58)
        · replace g58 := ob_pos c61 g58
          refine x_aload_n C 1 dX11_most_50 rfl ?_
          refine x_getR (j := 11) (i := 38) (q := (RX11, TX11, 22)) C 10 (iM 0 (by decide)) rfl rfl inBX11 (by decide) tw774 rfl dX11_most_51 ?_
          refine x_iconst (v := 4) C dX11_most_54 rfl ?_
          obtain ⟨c62, g58⟩ := ob_if g58
          refine x_iald C (iM 10 (by decide)) rfl (vin_in c62) dX11_most_55 ?_
          obtain ⟨r63, g64, g58⟩ := ob_bind g58
          refine x_callS (ar := 1) (rest := []) C (c_X11_bits C.2.2.2.2.2.2.1  g64) hy_X11_bits ⟨tw936, tw937, tw75, tw938⟩ (by decide) (by decide) rfl rfl (Nat.le_of_ble_eq_true rfl) dX11_most_56 ?_
          show Wx LM K σ 59 [(3, .int (X11_lesser a1 r10)), (0, .ref (kad K 0)), (1, .int a1), (2, .int a2)] [.int r63]
          refine x_goto C 63 dX11_most_59 (by decide) ?_
          refine x_lv (lv' := [(3, .int (X11_lesser a1 r10)), (0, .ref (kad K 0)), (2, .int a2)]) [0, 1, 3] rfl ?_
          exact J60 _ (Option.some.inj g58)
      · replace h0 := ob_pos c8 h0
        refine x_bipush (v := (-4)) C dX11_most_29 rfl ?_
        cases h0
        exact x_iret C R dX11_most_31
    · replace h0 := ob_pos c6 h0
      refine x_iconst (v := (-1)) C dX11_most_20 rfl ?_
      cases h0
      exact x_iret C R dX11_most_21
