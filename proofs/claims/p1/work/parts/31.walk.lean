set_option maxHeartbeats 4000000 in
set_option maxRecDepth 100000 in
theorem c_X10_reaches {l : Launch} {D : va_G} {ad : Nat → Nat} {cy : Nat → ClassId} (hJ : mJ LX ad) {σ : mS} {a1 : Int32} {a2 : Int32} {a3 : Int32} {r : Int32}  (h0 : X10_reaches σ a1 a2 a3 = some r) : MetG l LX D ad cy yX10_reaches cX10_reaches 4 (some .boolean) 0 [.ref (ad 0), .int a1, .int a2, .int a3] σ (some (.int r)) σ := by
  refine MetG.of hJ (by decide +kernel) [(0, .ref (ad 0)), (1, .int a1), (2, .int a2), (3, .int a3)] rfl (Nat.le_of_ble_eq_true rfl) ?_
  intro K e1 e2 e3 e4 e5 C R
  subst e1
  subst e2
  subst e3
  subst e4
  unfold X10_reaches at h0
  refine x_iload_n C 2 dX10_reaches_0 rfl ?_
  refine x_iflt C 24 dX10_reaches_1 (by decide) (fun c2 => ?_) (fun c2 => ?_)
  · replace h0 := ob_pos c2 h0
    refine x_iconst (v := 0) C dX10_reaches_24 rfl ?_
    cases h0
    exact x_zret C (Or.inl rfl) R dX10_reaches_25
  · replace h0 := ob_neg c2 h0
    refine x_iload_n C 2 dX10_reaches_4 rfl ?_
    refine x_i2l C dX10_reaches_5 ?_
    refine x_iload_n C 3 dX10_reaches_6 rfl ?_
    refine x_i2l C dX10_reaches_7 ?_
    refine x_ladd C dX10_reaches_8 ?_
    refine x_aload_n C 0 dX10_reaches_9 rfl ?_
    refine x_getR (j := 1) (i := 14) (q := (RX10, TX10, 18)) C 24 (iX 0 (by decide)) rfl rfl inBX10 (by decide) tw236 rfl dX10_reaches_10 ?_
    refine x_iload_n C 1 dX10_reaches_13 rfl ?_
    obtain ⟨c3, h0⟩ := ob_if h0
    refine x_iald C (iX 24 (by decide)) rfl (vin_in c3) dX10_reaches_14 ?_
    refine x_i2l C dX10_reaches_15 ?_
    refine x_lcmpgt C 24 dX10_reaches_16 dX10_reaches_17 (by decide) (fun c5 => ?_) (fun c5 => ?_)
    · replace h0 := ob_pos c5 h0
      refine x_iconst (v := 0) C dX10_reaches_24 rfl ?_
      cases h0
      exact x_zret C (Or.inl rfl) R dX10_reaches_25
    · replace h0 := ob_neg c5 h0
      refine x_iconst (v := 1) C dX10_reaches_20 rfl ?_
      refine x_goto C 25 dX10_reaches_21 (by decide) ?_
      cases h0
      exact x_zret C (Or.inr rfl) R dX10_reaches_25
set_option maxHeartbeats 4000000 in
set_option maxRecDepth 100000 in
theorem c_X10_copy {l : Launch} {D : va_G} {ad : Nat → Nat} {cy : Nat → ClassId} (hJ : mJ LX ad) {σ τ : mS} {a1 : Int32} {a2 : Int32} {a3 : Int32} {a4 : Int32} {a5 : Int32} {r : Int32}  (h0 : X10_copy σ a1 a2 a3 a4 a5 = some (r, τ)) : MetG l LX D ad cy yX10_copy cX10_copy 6 (some .int) 1 [.ref (ad 0), .int a1, .int a2, .int a3, .int a4, .int a5] σ (some (.int r)) τ := by
  refine MetG.of hJ (by decide +kernel) [(0, .ref (ad 0)), (1, .int a1), (2, .int a2), (3, .int a3), (4, .int a4), (5, .int a5)] rfl (Nat.le_of_ble_eq_true rfl) ?_
  intro K e1 e2 e3 e4 e5 C R
  subst e1
  subst e2
  subst e3
  subst e4
  unfold X10_copy at h0
  refine x_aload_n C 0 dX10_copy_0 rfl ?_
  refine x_iload_n C 1 dX10_copy_1 rfl ?_
  refine x_callV (ar := 1) (q := (RX10, TX10, 18)) (rest := []) C (c_X10_isRow C.2.2.2.2.2.2.1  rfl) (iX 0 (by decide)) rfl rfl hy_X10_isRow ⟨tw294, tw296, tw0, tw63, tw297⟩ (by decide) (by decide) rfl rfl (Nat.le_of_ble_eq_true rfl) dX10_copy_2 ?_
  show Wx LX K σ 5 [(0, .ref (kad K 0)), (1, .int a1), (2, .int a2), (3, .int a3), (4, .int a4), (5, .int a5)] [.int (X10_isRow a1)]
  refine x_ifeq C 16 dX10_copy_5 (by decide) (fun c3 => ?_) (fun c3 => ?_)
  · replace h0 := ob_pos c3 h0
    refine x_iconst (v := (-1)) C dX10_copy_16 rfl ?_
    cases h0
    exact x_iret C R dX10_copy_17
  · replace h0 := ob_neg c3 h0
    refine x_aload_n C 0 dX10_copy_8 rfl ?_
    refine x_iload_n C 3 dX10_copy_9 rfl ?_
    refine x_callV (ar := 1) (q := (RX10, TX10, 18)) (rest := []) C (c_X10_isRow C.2.2.2.2.2.2.1  rfl) (iX 0 (by decide)) rfl rfl hy_X10_isRow ⟨tw294, tw296, tw0, tw63, tw297⟩ (by decide) (by decide) rfl rfl (Nat.le_of_ble_eq_true rfl) dX10_copy_10 ?_
    show Wx LX K σ 13 [(0, .ref (kad K 0)), (1, .int a1), (2, .int a2), (3, .int a3), (4, .int a4), (5, .int a5)] [.int (X10_isRow a3)]
    refine x_ifne C 18 dX10_copy_13 (by decide) (fun c6 => ?_) (fun c6 => ?_)
    · replace h0 := ob_neg c6 h0
      refine x_iload C 5 dX10_copy_18 rfl ?_
      refine x_ifge C 29 dX10_copy_20 (by decide) (fun c8 => ?_) (fun c8 => ?_)
      · replace h0 := ob_pos c8 h0
        refine x_aload_n C 0 dX10_copy_29 rfl ?_
        refine x_getR (j := 1) (i := 14) (q := (RX10, TX10, 18)) C 24 (iX 0 (by decide)) rfl rfl inBX10 (by decide) tw236 rfl dX10_copy_30 ?_
        refine x_iload_n C 1 dX10_copy_33 rfl ?_
        obtain ⟨c9, h0⟩ := ob_if h0
        refine x_iald C (iX 24 (by decide)) rfl (vin_in c9) dX10_copy_34 ?_
        refine x_iflt C 47 dX10_copy_35 (by decide) (fun c11 => ?_) (fun c11 => ?_)
        · replace h0 := ob_pos c11 h0
          refine x_aload_n C 0 dX10_copy_47 rfl ?_
          refine x_iconst (v := 1) C dX10_copy_48 rfl ?_
          obtain ⟨r12, s14, g13, h0⟩ := ob_bd h0
          refine x_callV (ar := 1) (q := (RX10, TX10, 18)) (rest := []) C (c_X10_found C.2.2.2.2.2.2.1  g13) (iX 0 (by decide)) rfl rfl hy_X10_found ⟨tw298, tw300, tw1, tw63, tw301⟩ (by decide) (by decide) rfl rfl (Nat.le_of_ble_eq_true rfl) dX10_copy_49 ?_
          show Wx LX K s14 52 [(0, .ref (kad K 0)), (1, .int a1), (2, .int a2), (3, .int a3), (4, .int a4), (5, .int a5)] [.int r12]
          cases h0
          exact x_iret C R dX10_copy_52
        · replace h0 := ob_neg c11 h0
          refine x_aload_n C 0 dX10_copy_38 rfl ?_
          refine x_getR (j := 1) (i := 14) (q := (RX10, TX10, 18)) C 24 (iX 0 (by decide)) rfl rfl inBX10 (by decide) tw236 rfl dX10_copy_39 ?_
          refine x_iload_n C 3 dX10_copy_42 rfl ?_
          obtain ⟨c15, h0⟩ := ob_if h0
          refine x_iald C (iX 24 (by decide)) rfl (vin_in c15) dX10_copy_43 ?_
          refine x_ifge C 53 dX10_copy_44 (by decide) (fun c17 => ?_) (fun c17 => ?_)
          · replace h0 := ob_pos c17 h0
            refine x_aload_n C 0 dX10_copy_53 rfl ?_
            refine x_iload_n C 1 dX10_copy_54 rfl ?_
            refine x_iload_n C 2 dX10_copy_55 rfl ?_
            refine x_iload C 5 dX10_copy_56 rfl ?_
            obtain ⟨r18, g19, h0⟩ := ob_bind h0
            refine x_callV (ar := 3) (q := (RX10, TX10, 18)) (rest := []) C (c_X10_reaches C.2.2.2.2.2.2.1  g19) (iX 0 (by decide)) rfl rfl hy_X10_reaches ⟨tw326, tw328, tw4, tw63, tw329⟩ (by decide) (by decide) rfl rfl (Nat.le_of_ble_eq_true rfl) dX10_copy_58 ?_
            show Wx LX K σ 61 [(0, .ref (kad K 0)), (1, .int a1), (2, .int a2), (3, .int a3), (4, .int a4), (5, .int a5)] [.int r18]
            refine x_ifeq C 76 dX10_copy_61 (by decide) (fun c21 => ?_) (fun c21 => ?_)
            · replace h0 := ob_pos c21 h0
              refine x_aload_n C 0 dX10_copy_76 rfl ?_
              refine x_iconst (v := 2) C dX10_copy_77 rfl ?_
              obtain ⟨r22, s24, g23, h0⟩ := ob_bd h0
              refine x_callV (ar := 1) (q := (RX10, TX10, 18)) (rest := []) C (c_X10_found C.2.2.2.2.2.2.1  g23) (iX 0 (by decide)) rfl rfl hy_X10_found ⟨tw298, tw300, tw1, tw63, tw301⟩ (by decide) (by decide) rfl rfl (Nat.le_of_ble_eq_true rfl) dX10_copy_78 ?_
              show Wx LX K s24 81 [(0, .ref (kad K 0)), (1, .int a1), (2, .int a2), (3, .int a3), (4, .int a4), (5, .int a5)] [.int r22]
              cases h0
              exact x_iret C R dX10_copy_81
            · replace h0 := ob_neg c21 h0
              refine x_aload_n C 0 dX10_copy_64 rfl ?_
              refine x_iload_n C 3 dX10_copy_65 rfl ?_
              refine x_iload C 4 dX10_copy_66 rfl ?_
              refine x_iload C 5 dX10_copy_68 rfl ?_
              obtain ⟨r25, g26, h0⟩ := ob_bind h0
              refine x_callV (ar := 3) (q := (RX10, TX10, 18)) (rest := []) C (c_X10_reaches C.2.2.2.2.2.2.1  g26) (iX 0 (by decide)) rfl rfl hy_X10_reaches ⟨tw326, tw328, tw4, tw63, tw329⟩ (by decide) (by decide) rfl rfl (Nat.le_of_ble_eq_true rfl) dX10_copy_70 ?_
              show Wx LX K σ 73 [(0, .ref (kad K 0)), (1, .int a1), (2, .int a2), (3, .int a3), (4, .int a4), (5, .int a5)] [.int r25]
              refine x_ifne C 82 dX10_copy_73 (by decide) (fun c28 => ?_) (fun c28 => ?_)
              · replace h0 := ob_neg c28 h0
                refine x_aload_n C 0 dX10_copy_82 rfl ?_
                refine x_getR (j := 0) (i := 11) (q := (RX10, TX10, 18)) C 8 (iX 0 (by decide)) rfl rfl inBX10 (by decide) tw235 rfl dX10_copy_83 ?_
                refine x_iload_n C 1 dX10_copy_86 rfl ?_
                obtain ⟨c29, h0⟩ := ob_if h0
                refine x_aald C (iX 8 (by decide)) rfl rfl rfl (vin_in c29) dX10_copy_87 ?_
                refine x_iload_n C 2 dX10_copy_88 rfl ?_
                refine x_aload_n C 0 dX10_copy_89 rfl ?_
                refine x_getR (j := 0) (i := 11) (q := (RX10, TX10, 18)) C 8 (iX 0 (by decide)) rfl rfl inBX10 (by decide) tw235 rfl dX10_copy_90 ?_
                refine x_iload_n C 3 dX10_copy_93 rfl ?_
                obtain ⟨c30, h0⟩ := ob_if h0
                refine x_aald C (iX 8 (by decide)) rfl rfl rfl (vin_in c30) dX10_copy_94 ?_
                refine x_iload C 4 dX10_copy_95 rfl ?_
                refine x_iload C 5 dX10_copy_97 rfl ?_
                obtain ⟨c31, h0⟩ := ob_if h0
                refine x_acopy C (iX2 (vin_lt c29)) (lX2 (vin_lt c29)) (iX2 (vin_lt c30)) (lX2 (vin_lt c30)) (by decide) tw330 tw332 tw331 tw76 c31.1.1.1 c31.1.1.2 c31.1.2 c31.2.1 c31.2.2 (Nat.le_of_ble_eq_true rfl) dX10_copy_99 ?_
                refine x_iconst (v := 1) C dX10_copy_102 rfl ?_
                cases h0
                exact x_iret C R dX10_copy_103
              · replace h0 := ob_pos c28 h0
                refine x_aload_n C 0 dX10_copy_76 rfl ?_
                refine x_iconst (v := 2) C dX10_copy_77 rfl ?_
                obtain ⟨r32, s34, g33, h0⟩ := ob_bd h0
                refine x_callV (ar := 1) (q := (RX10, TX10, 18)) (rest := []) C (c_X10_found C.2.2.2.2.2.2.1  g33) (iX 0 (by decide)) rfl rfl hy_X10_found ⟨tw298, tw300, tw1, tw63, tw301⟩ (by decide) (by decide) rfl rfl (Nat.le_of_ble_eq_true rfl) dX10_copy_78 ?_
                show Wx LX K s34 81 [(0, .ref (kad K 0)), (1, .int a1), (2, .int a2), (3, .int a3), (4, .int a4), (5, .int a5)] [.int r32]
                cases h0
                exact x_iret C R dX10_copy_81
          · replace h0 := ob_neg c17 h0
            refine x_aload_n C 0 dX10_copy_47 rfl ?_
            refine x_iconst (v := 1) C dX10_copy_48 rfl ?_
            obtain ⟨r35, s37, g36, h0⟩ := ob_bd h0
            refine x_callV (ar := 1) (q := (RX10, TX10, 18)) (rest := []) C (c_X10_found C.2.2.2.2.2.2.1  g36) (iX 0 (by decide)) rfl rfl hy_X10_found ⟨tw298, tw300, tw1, tw63, tw301⟩ (by decide) (by decide) rfl rfl (Nat.le_of_ble_eq_true rfl) dX10_copy_49 ?_
            show Wx LX K s37 52 [(0, .ref (kad K 0)), (1, .int a1), (2, .int a2), (3, .int a3), (4, .int a4), (5, .int a5)] [.int r35]
            cases h0
            exact x_iret C R dX10_copy_52
      · replace h0 := ob_neg c8 h0
        refine x_aload_n C 0 dX10_copy_23 rfl ?_
        refine x_iconst (v := 5) C dX10_copy_24 rfl ?_
        obtain ⟨r38, s40, g39, h0⟩ := ob_bd h0
        refine x_callV (ar := 1) (q := (RX10, TX10, 18)) (rest := []) C (c_X10_found C.2.2.2.2.2.2.1  g39) (iX 0 (by decide)) rfl rfl hy_X10_found ⟨tw298, tw300, tw1, tw63, tw301⟩ (by decide) (by decide) rfl rfl (Nat.le_of_ble_eq_true rfl) dX10_copy_25 ?_
        show Wx LX K s40 28 [(0, .ref (kad K 0)), (1, .int a1), (2, .int a2), (3, .int a3), (4, .int a4), (5, .int a5)] [.int r38]
        cases h0
        exact x_iret C R dX10_copy_28
    · replace h0 := ob_pos c6 h0
      refine x_iconst (v := (-1)) C dX10_copy_16 rfl ?_
      cases h0
      exact x_iret C R dX10_copy_17
set_option maxHeartbeats 4000000 in
set_option maxRecDepth 100000 in
theorem c_X10_mean {l : Launch} {D : va_G} {ad : Nat → Nat} {cy : Nat → ClassId} (hJ : mJ LX ad) {σ τ : mS} {a1 : Int32} {r : Int32}  (h0 : X10_mean σ a1 = some (r, τ)) : MetG l LX D ad cy yX10_mean cX10_mean 7 (some .int) 2 [.ref (ad 0), .int a1] σ (some (.int r)) τ := by
  refine MetG.of hJ (by decide +kernel) [(0, .ref (ad 0)), (1, .int a1)] rfl (Nat.le_of_ble_eq_true rfl) ?_
  intro K e1 e2 e3 e4 e5 C R
  subst e1
  subst e2
  subst e3
  subst e4
  unfold X10_mean at h0
  refine x_aload_n C 0 dX10_mean_0 rfl ?_
  refine x_iload_n C 1 dX10_mean_1 rfl ?_
  obtain ⟨r1, s3, g2, h0⟩ := ob_bd h0
  refine x_callV (ar := 1) (q := (RX10, TX10, 18)) (rest := []) C (c_X10_refusedRow C.2.2.2.2.2.2.1  g2) (iX 0 (by decide)) rfl rfl hy_X10_refusedRow ⟨tw310, tw312, tw3, tw63, tw313⟩ (by decide) (by decide) rfl rfl (Nat.le_of_ble_eq_true rfl) dX10_mean_2 ?_
  show Wx LX K s3 5 [(0, .ref (kad K 0)), (1, .int a1)] [.int r1]
  refine x_istore_n (lv' := [(2, .int r1), (0, .ref (kad K 0)), (1, .int a1)]) C dX10_mean_5 (by rw [e5]; decide) rfl ?_
  refine x_iload_n C 0 dX10_mean_6 rfl ?_
  refine x_ifeq C 12 dX10_mean_7 (by decide) (fun c5 => ?_) (fun c5 => ?_)
  · replace h0 := ob_pos c5 h0
    refine x_aload_n C 1 dX10_mean_12 rfl ?_
    refine x_getR (j := 1) (i := 14) (q := (RX10, TX10, 18)) C 24 (iX 0 (by decide)) rfl rfl inBX10 (by decide) tw236 rfl dX10_mean_13 ?_
    refine x_iload_n C 2 dX10_mean_16 rfl ?_
    obtain ⟨c6, h0⟩ := ob_if h0
    refine x_iald C (iX 24 (by decide)) rfl (vin_in c6) dX10_mean_17 ?_
    refine x_istore_n (lv' := [(3, .int (s3.1 24 a1.toNatClampNeg)), (2, .int r1), (0, .ref (kad K 0)), (1, .int a1)]) C dX10_mean_18 (by rw [e5]; decide) rfl ?_
    refine x_iload_n C 0 dX10_mean_19 rfl ?_
    refine x_ifgt C 29 dX10_mean_20 (by decide) (fun c8 => ?_) (fun c8 => ?_)
    · replace h0 := ob_pos c8 h0
      refine x_lconst (v := 0) C dX10_mean_29 rfl ?_
      refine x_lstore (lv' := [(4, .long 0), (3, .int (s3.1 24 a1.toNatClampNeg)), (2, .int r1), (0, .ref (kad K 0)), (1, .int a1)]) C dX10_mean_30 (by rw [e5]; decide) rfl ?_
      refine x_iconst (v := 0) C dX10_mean_32 rfl ?_
      refine x_istore (lv' := [(6, .int 0), (4, .long 0), (3, .int (s3.1 24 a1.toNatClampNeg)), (2, .int r1), (0, .ref (kad K 0)), (1, .int a1)]) C dX10_mean_33 (by rw [e5]; decide) rfl ?_
      obtain ⟨e17, g18, h0⟩ := ob_bind h0
      have J1 : ∀ (y11 : Int64), y11 = e17 → Wx LX K s3 62 [(4, .long y11), (3, .int (s3.1 24 a1.toNatClampNeg)), (0, .ref (kad K 0))] [] := by
        intro y11 e9
        subst e9
        replace h0 := un1_l h0
        refine x_aload_n C 2 dX10_mean_62 rfl ?_
        refine x_lload C 0 dX10_mean_63 rfl ?_
        refine x_iload_n C 1 dX10_mean_65 rfl ?_
        refine x_i2l C dX10_mean_66 ?_
        obtain ⟨c12, h0⟩ := ob_if h0
        refine x_ldiv C dX10_mean_67 c12 ?_
        refine x_l2i C dX10_mean_68 ?_
        refine x_putI (j := 13) (i := 99) (q := (RX10, TX10, 18)) C tyX10 tyX10_ok nmX10 (iX 0 (by decide)) rfl rfl inBX10 (by decide) tw248 rfl (by decide +kernel) rfl dX10_mean_69 ?_
        refine x_iconst (v := 1) C dX10_mean_72 rfl ?_
        cases h0
        exact x_iret C R dX10_mean_73
      refine x_lv (lv' := [(6, .int 0), (4, .long 0), (3, .int (s3.1 24 a1.toNatClampNeg)), (0, .ref (kad K 0)), (1, .int a1)]) [0, 1, 2, 4, 5] rfl ?_
      refine lp_G (G := fun q : Int64 × Int32 => Wx LX K s3 35 [(6, .int q.2), (4, .long q.1), (3, .int (s3.1 24 a1.toNatClampNeg)), (0, .ref (kad K 0)), (1, .int a1)] []) (fun q x h1 ihL1 ihR1 => ?_) big _ g18
      obtain ⟨x9, x10⟩ := q
      replace h1 : X10_mean_b35 a1 s3 x9 x10 = some x := h1
      unfold X10_mean_b35 at h1
      show Wx LX K s3 35 [(6, .int x10), (4, .long x9), (3, .int (s3.1 24 a1.toNatClampNeg)), (0, .ref (kad K 0)), (1, .int a1)] []
      refine x_iload C 0 dX10_mean_35 rfl ?_
      refine x_iload_n C 2 dX10_mean_37 rfl ?_
      refine x_icmpge C 62 dX10_mean_38 (by decide) (fun c14 => ?_) (fun c14 => ?_)
      · replace h1 := ob_pos c14 h1
        refine x_lv (lv' := [(4, .long x9), (3, .int (s3.1 24 a1.toNatClampNeg)), (0, .ref (kad K 0))]) [1, 2, 3] rfl ?_
        exact J1 _ (ihR1 _ (Option.some.inj h1).symm)
      · replace h1 := ob_neg c14 h1
        refine x_lload C 1 dX10_mean_41 rfl ?_
        refine x_aload_n C 3 dX10_mean_43 rfl ?_
        refine x_getR (j := 0) (i := 11) (q := (RX10, TX10, 18)) C 8 (iX 0 (by decide)) rfl rfl inBX10 (by decide) tw235 rfl dX10_mean_44 ?_
        refine x_iload_n C 4 dX10_mean_47 rfl ?_
        obtain ⟨c15, h1⟩ := ob_if h1
        refine x_aald C (iX 8 (by decide)) rfl rfl rfl (vin_in c15) dX10_mean_48 ?_
        refine x_iload C 0 dX10_mean_49 rfl ?_
        obtain ⟨c16, h1⟩ := ob_if h1
        refine x_iald C (iX2 (vin_lt c15)) (lX2 (vin_lt c15)) (vin_in c16) dX10_mean_51 ?_
        refine x_i2l C dX10_mean_52 ?_
        refine x_ladd C dX10_mean_53 ?_
        refine x_lstore (lv' := [(4, .long (x9 + ((s3.1 (16 + a1.toNatClampNeg) x10.toNatClampNeg)).toInt64)), (6, .int x10), (3, .int (s3.1 24 a1.toNatClampNeg)), (0, .ref (kad K 0)), (1, .int a1)]) C dX10_mean_54 (by rw [e5]; decide) rfl ?_
        refine x_iinc (v := (x10 + 1)) (lv' := [(6, .int (x10 + 1)), (4, .long (x9 + ((s3.1 (16 + a1.toNatClampNeg) x10.toNatClampNeg)).toInt64)), (3, .int (s3.1 24 a1.toNatClampNeg)), (0, .ref (kad K 0)), (1, .int a1)]) C 1 dX10_mean_56 rfl rfl (by rw [e5]; decide) rfl ?_
        refine x_goto C 35 dX10_mean_59 (by decide) ?_
        refine x_lv (lv' := [(6, .int (x10 + 1)), (4, .long (x9 + ((s3.1 (16 + a1.toNatClampNeg) x10.toNatClampNeg)).toInt64)), (3, .int (s3.1 24 a1.toNatClampNeg)), (0, .ref (kad K 0)), (1, .int a1)]) [0, 1, 2, 3, 4] rfl ?_
        exact ihL1 _ (Option.some.inj h1).symm
    · replace h0 := ob_neg c8 h0
      refine x_aload_n C 2 dX10_mean_23 rfl ?_
      refine x_iconst (v := 4) C dX10_mean_24 rfl ?_
      obtain ⟨r19, s21, g20, h0⟩ := ob_bd h0
      refine x_callV (ar := 1) (q := (RX10, TX10, 18)) (rest := []) C (c_X10_found C.2.2.2.2.2.2.1  g20) (iX 0 (by decide)) rfl rfl hy_X10_found ⟨tw298, tw300, tw1, tw63, tw301⟩ (by decide) (by decide) rfl rfl (Nat.le_of_ble_eq_true rfl) dX10_mean_25 ?_
      show Wx LX K s21 28 [(3, .int (s3.1 24 a1.toNatClampNeg)), (2, .int r1), (0, .ref (kad K 0)), (1, .int a1)] [.int r19]
      cases h0
      exact x_iret C R dX10_mean_28
  · replace h0 := ob_neg c5 h0
    refine x_iload_n C 0 dX10_mean_10 rfl ?_
    cases h0
    exact x_iret C R dX10_mean_11
set_option maxHeartbeats 4000000 in
set_option maxRecDepth 100000 in
theorem c_X10_isText {l : Launch} {D : va_G} {ad : Nat → Nat} {cy : Nat → ClassId} (hJ : mJ LX ad) {σ : mS} {a1 : Int32} {r : Int32}  (h0 : X10_isText a1 = r) : MetG l LX D ad cy yX10_isText cX10_isText 2 (some .boolean) 0 [.ref (ad 0), .int a1] σ (some (.int r)) σ := by
  refine MetG.of hJ (by decide +kernel) [(0, .ref (ad 0)), (1, .int a1)] rfl (Nat.le_of_ble_eq_true rfl) ?_
  intro K e1 e2 e3 e4 e5 C R
  subst e1
  subst e2
  subst e3
  subst e4
  unfold X10_isText at h0
  refine x_iload_n C 1 dX10_isText_0 rfl ?_
  refine x_iflt C 13 dX10_isText_1 (by decide) (fun c2 => ?_) (fun c2 => ?_)
  · replace h0 := ob_pos c2 h0
    refine x_iconst (v := 0) C dX10_isText_13 rfl ?_
    subst h0
    exact x_zret C (Or.inl rfl) R dX10_isText_14
  · replace h0 := ob_neg c2 h0
    refine x_iload_n C 1 dX10_isText_4 rfl ?_
    refine x_iconst (v := 4) C dX10_isText_5 rfl ?_
    refine x_icmpge C 13 dX10_isText_6 (by decide) (fun c4 => ?_) (fun c4 => ?_)
    · replace h0 := ob_pos c4 h0
      refine x_iconst (v := 0) C dX10_isText_13 rfl ?_
      subst h0
      exact x_zret C (Or.inl rfl) R dX10_isText_14
    · replace h0 := ob_neg c4 h0
      refine x_iconst (v := 1) C dX10_isText_9 rfl ?_
      refine x_goto C 14 dX10_isText_10 (by decide) ?_
      subst h0
      exact x_zret C (Or.inr rfl) R dX10_isText_14
set_option maxHeartbeats 4000000 in
set_option maxRecDepth 100000 in
theorem c_J7_fill_031fb {l : Launch} {Y : mY} {D : va_G} {ad : Nat → Nat} {cy : Nat → ClassId} (hJ : mJ Y ad) {σ τ : mS} {k : Nat} {z : Nat} {a2 : Int32} {r : Unit} (hk : k ∈ Y.1) (hd : Y.2 k = .inr (.inl (1, z))) (h0 : J7_fill_031fb σ k z a2 = some (r, τ)) : MetG l Y D ad cy yJ7_fill_031fb cJ7_fill_031fb 4 none 0 [.ref (ad k), .int a2] σ (none) τ := by
  refine MetG.of hJ (by decide +kernel) [(0, .ref (ad k)), (1, .int a2)] rfl (Nat.le_of_ble_eq_true rfl) ?_
  intro K e1 e2 e3 e4 e5 C R
  subst e1
  subst e2
  subst e3
  subst e4
  unfold J7_fill_031fb at h0
  refine x_iconst (v := 0) C dJ7_fill_031fb_0 rfl ?_
  refine x_istore_n (lv' := [(2, .int 0), (0, .ref (kad K k)), (1, .int a2)]) C dJ7_fill_031fb_1 (by rw [e5]; decide) rfl ?_
  refine x_aload_n C 1 dJ7_fill_031fb_2 rfl ?_
  refine x_alen (b := 1) C hk hd rfl rfl dJ7_fill_031fb_3 ?_
  refine x_istore_n (lv' := [(3, .int (Int32.ofNat z)), (2, .int 0), (0, .ref (kad K k)), (1, .int a2)]) C dJ7_fill_031fb_4 (by rw [e5]; decide) rfl ?_
  obtain ⟨e7, g8, h0⟩ := ob_bind h0
  have J1 : ∀ (s3 : mS), s3 = e7 → Wx Y K s3 20 [] [] := by
    intro s3 e9
    subst e9
    replace h0 := un1_l h0
    cases h0
    exact x_vret C R dJ7_fill_031fb_20
  refine lp_G (G := fun q : mS × Int32 => Wx Y K q.1 5 [(3, .int (Int32.ofNat z)), (2, .int q.2), (0, .ref (kad K k)), (1, .int a2)] []) (fun q x h1 ihL1 ihR1 => ?_) big _ g8
  obtain ⟨s1, x2⟩ := q
  replace h1 : J7_fill_031fb_b5 k z a2 s1 x2 = some x := h1
  unfold J7_fill_031fb_b5 at h1
  show Wx Y K s1 5 [(3, .int (Int32.ofNat z)), (2, .int x2), (0, .ref (kad K k)), (1, .int a2)] []
  refine x_iload_n C 1 dJ7_fill_031fb_5 rfl ?_
  refine x_iload_n C 0 dJ7_fill_031fb_6 rfl ?_
  refine x_icmpge C 20 dJ7_fill_031fb_7 (by decide) (fun c5 => ?_) (fun c5 => ?_)
  · replace h1 := ob_pos c5 h1
    refine x_lv (lv' := []) [] rfl ?_
    exact J1 _ (ihR1 _ (Option.some.inj h1).symm)
  · replace h1 := ob_neg c5 h1
    refine x_aload_n C 2 dJ7_fill_031fb_10 rfl ?_
    refine x_iload_n C 1 dJ7_fill_031fb_11 rfl ?_
    refine x_iload_n C 3 dJ7_fill_031fb_12 rfl ?_
    obtain ⟨c6, h1⟩ := ob_if h1
    refine x_bast C hk hd (vin_in c6) dJ7_fill_031fb_13 ?_
    refine x_iinc (v := (x2 + 1)) (lv' := [(2, .int (x2 + 1)), (3, .int (Int32.ofNat z)), (0, .ref (kad K k)), (1, .int a2)]) C 1 dJ7_fill_031fb_14 rfl rfl (by rw [e5]; decide) rfl ?_
    refine x_goto C 5 dJ7_fill_031fb_17 (by decide) ?_
    refine x_lv (lv' := [(3, .int (Int32.ofNat z)), (2, .int (x2 + 1)), (0, .ref (kad K k)), (1, .int a2)]) [1, 0, 2, 3] rfl ?_
    exact ihL1 _ (Option.some.inj h1).symm
set_option maxHeartbeats 4000000 in
set_option maxRecDepth 100000 in
theorem c_X10_text {l : Launch} {D : va_G} {ad : Nat → Nat} {cy : Nat → ClassId} (hJ : mJ LX ad) {σ τ : mS} {a1 : Int32} {a2 : Int32} {r : Int32}  (h0 : X10_text σ a1 a2 = some (r, τ)) : MetG l LX D ad cy yX10_text cX10_text 3 (some .int) 1 [.ref (ad 0), .int a1, .int a2] σ (some (.int r)) τ := by
  refine MetG.of hJ (by decide +kernel) [(0, .ref (ad 0)), (1, .int a1), (2, .int a2)] rfl (Nat.le_of_ble_eq_true rfl) ?_
  intro K e1 e2 e3 e4 e5 C R
  subst e1
  subst e2
  subst e3
  subst e4
  unfold X10_text at h0
  refine x_aload_n C 0 dX10_text_0 rfl ?_
  refine x_iload_n C 1 dX10_text_1 rfl ?_
  refine x_callV (ar := 1) (q := (RX10, TX10, 18)) (rest := []) C (c_X10_isText C.2.2.2.2.2.2.1  rfl) (iX 0 (by decide)) rfl rfl hy_X10_isText ⟨tw341, tw343, tw5, tw63, tw344⟩ (by decide) (by decide) rfl rfl (Nat.le_of_ble_eq_true rfl) dX10_text_2 ?_
  show Wx LX K σ 5 [(0, .ref (kad K 0)), (1, .int a1), (2, .int a2)] [.int (X10_isText a1)]
  refine x_ifeq C 14 dX10_text_5 (by decide) (fun c3 => ?_) (fun c3 => ?_)
  · replace h0 := ob_pos c3 h0
    refine x_iconst (v := (-1)) C dX10_text_14 rfl ?_
    cases h0
    exact x_iret C R dX10_text_15
  · replace h0 := ob_neg c3 h0
    refine x_iload_n C 2 dX10_text_8 rfl ?_
    refine x_bipush (v := 60) C dX10_text_9 rfl ?_
    refine x_icmple C 16 dX10_text_11 (by decide) (fun c5 => ?_) (fun c5 => ?_)
    · replace h0 := ob_pos c5 h0
      refine x_iload_n C 2 dX10_text_16 rfl ?_
      refine x_ifge C 26 dX10_text_17 (by decide) (fun c7 => ?_) (fun c7 => ?_)
      · replace h0 := ob_pos c7 h0
        refine x_aload_n C 0 dX10_text_26 rfl ?_
        refine x_getR (j := 2) (i := 20) (q := (RX10, TX10, 18)) C 32 (iX 0 (by decide)) rfl rfl inBX10 (by decide) tw237 rfl dX10_text_27 ?_
        refine x_iload_n C 1 dX10_text_30 rfl ?_
        obtain ⟨c8, h0⟩ := ob_if h0
        refine x_aald C (iX 32 (by decide)) rfl rfl rfl (vin_in c8) dX10_text_31 ?_
        refine x_bipush (v := 32) C dX10_text_32 rfl ?_
        obtain ⟨r9, s11, g10, h0⟩ := ob_bd h0
        refine x_callS (ar := 2) (rest := []) C (c_J7_fill_031fb C.2.2.2.2.2.2.1 (iX5 (vin_lt c8)) (lX5 (vin_lt c8)) g10) hy_J7_fill_031fb ⟨tw345, tw346, tw74, tw347⟩ (by decide) (by decide) rfl rfl (Nat.le_of_ble_eq_true rfl) dX10_text_34 ?_
        show Wx LX K s11 37 [(0, .ref (kad K 0)), (1, .int a1), (2, .int a2)] []
        refine x_aload_n C 0 dX10_text_37 rfl ?_
        refine x_getR (j := 3) (i := 23) (q := (RX10, TX10, 18)) C 48 (iX 0 (by decide)) rfl rfl inBX10 (by decide) tw238 rfl dX10_text_38 ?_
        refine x_iload_n C 1 dX10_text_41 rfl ?_
        refine x_iload_n C 2 dX10_text_42 rfl ?_
        obtain ⟨c12, h0⟩ := ob_if h0
        refine x_iast C (iX 48 (by decide)) rfl (vin_in c12) dX10_text_43 ?_
        refine x_iload_n C 2 dX10_text_44 rfl ?_
        cases h0
        exact x_iret C R dX10_text_45
      · replace h0 := ob_neg c7 h0
        refine x_aload_n C 0 dX10_text_20 rfl ?_
        refine x_iconst (v := 5) C dX10_text_21 rfl ?_
        obtain ⟨r13, s15, g14, h0⟩ := ob_bd h0
        refine x_callV (ar := 1) (q := (RX10, TX10, 18)) (rest := []) C (c_X10_found C.2.2.2.2.2.2.1  g14) (iX 0 (by decide)) rfl rfl hy_X10_found ⟨tw298, tw300, tw1, tw63, tw301⟩ (by decide) (by decide) rfl rfl (Nat.le_of_ble_eq_true rfl) dX10_text_22 ?_
        show Wx LX K s15 25 [(0, .ref (kad K 0)), (1, .int a1), (2, .int a2)] [.int r13]
        cases h0
        exact x_iret C R dX10_text_25
    · replace h0 := ob_neg c5 h0
      refine x_iconst (v := (-1)) C dX10_text_14 rfl ?_
      cases h0
      exact x_iret C R dX10_text_15
set_option maxHeartbeats 4000000 in
set_option maxRecDepth 100000 in
theorem c_X10_refusedText {l : Launch} {D : va_G} {ad : Nat → Nat} {cy : Nat → ClassId} (hJ : mJ LX ad) {σ τ : mS} {a1 : Int32} {r : Int32}  (h0 : X10_refusedText σ a1 = some (r, τ)) : MetG l LX D ad cy yX10_refusedText cX10_refusedText 2 (some .int) 1 [.ref (ad 0), .int a1] σ (some (.int r)) τ := by
  refine MetG.of hJ (by decide +kernel) [(0, .ref (ad 0)), (1, .int a1)] rfl (Nat.le_of_ble_eq_true rfl) ?_
  intro K e1 e2 e3 e4 e5 C R
  subst e1
  subst e2
  subst e3
  subst e4
  unfold X10_refusedText at h0
  refine x_aload_n C 0 dX10_refusedText_0 rfl ?_
  refine x_iload_n C 1 dX10_refusedText_1 rfl ?_
  refine x_callV (ar := 1) (q := (RX10, TX10, 18)) (rest := []) C (c_X10_isText C.2.2.2.2.2.2.1  rfl) (iX 0 (by decide)) rfl rfl hy_X10_isText ⟨tw341, tw343, tw5, tw63, tw344⟩ (by decide) (by decide) rfl rfl (Nat.le_of_ble_eq_true rfl) dX10_refusedText_2 ?_
  show Wx LX K σ 5 [(0, .ref (kad K 0)), (1, .int a1)] [.int (X10_isText a1)]
  refine x_ifne C 10 dX10_refusedText_5 (by decide) (fun c3 => ?_) (fun c3 => ?_)
  · replace h0 := ob_neg c3 h0
    refine x_aload_n C 0 dX10_refusedText_10 rfl ?_
    refine x_getR (j := 3) (i := 23) (q := (RX10, TX10, 18)) C 48 (iX 0 (by decide)) rfl rfl inBX10 (by decide) tw238 rfl dX10_refusedText_11 ?_
    refine x_iload_n C 1 dX10_refusedText_14 rfl ?_
    obtain ⟨c4, h0⟩ := ob_if h0
    refine x_iald C (iX 48 (by decide)) rfl (vin_in c4) dX10_refusedText_15 ?_
    refine x_ifge C 27 dX10_refusedText_16 (by decide) (fun c6 => ?_) (fun c6 => ?_)
    · replace h0 := ob_pos c6 h0
      refine x_iconst (v := 0) C dX10_refusedText_27 rfl ?_
      cases h0
      exact x_iret C R dX10_refusedText_28
    · replace h0 := ob_neg c6 h0
      refine x_aload_n C 0 dX10_refusedText_19 rfl ?_
      refine x_iconst (v := 1) C dX10_refusedText_20 rfl ?_
      obtain ⟨r7, s9, g8, h0⟩ := ob_bd h0
      refine x_callV (ar := 1) (q := (RX10, TX10, 18)) (rest := []) C (c_X10_found C.2.2.2.2.2.2.1  g8) (iX 0 (by decide)) rfl rfl hy_X10_found ⟨tw298, tw300, tw1, tw63, tw301⟩ (by decide) (by decide) rfl rfl (Nat.le_of_ble_eq_true rfl) dX10_refusedText_21 ?_
      show Wx LX K s9 24 [(0, .ref (kad K 0)), (1, .int a1)] [.int r7]
      refine x_goto C 28 dX10_refusedText_24 (by decide) ?_
      cases h0
      exact x_iret C R dX10_refusedText_28
  · replace h0 := ob_pos c3 h0
    refine x_iconst (v := (-1)) C dX10_refusedText_8 rfl ?_
    cases h0
    exact x_iret C R dX10_refusedText_9
set_option maxHeartbeats 4000000 in
set_option maxRecDepth 100000 in
theorem c_X10_put {l : Launch} {D : va_G} {ad : Nat → Nat} {cy : Nat → ClassId} (hJ : mJ LX ad) {σ τ : mS} {a1 : Int32} {a2 : Int32} {a3 : Int32} {r : Int32}  (h0 : X10_put σ a1 a2 a3 = some (r, τ)) : MetG l LX D ad cy yX10_put cX10_put 6 (some .int) 2 [.ref (ad 0), .int a1, .int a2, .int a3] σ (some (.int r)) τ := by
  refine MetG.of hJ (by decide +kernel) [(0, .ref (ad 0)), (1, .int a1), (2, .int a2), (3, .int a3)] rfl (Nat.le_of_ble_eq_true rfl) ?_
  intro K e1 e2 e3 e4 e5 C R
  subst e1
  subst e2
  subst e3
  subst e4
  unfold X10_put at h0
  refine x_aload_n C 0 dX10_put_0 rfl ?_
  refine x_iload_n C 1 dX10_put_1 rfl ?_
  obtain ⟨r1, s3, g2, h0⟩ := ob_bd h0
  refine x_callV (ar := 1) (q := (RX10, TX10, 18)) (rest := []) C (c_X10_refusedText C.2.2.2.2.2.2.1  g2) (iX 0 (by decide)) rfl rfl hy_X10_refusedText ⟨tw352, tw354, tw6, tw63, tw355⟩ (by decide) (by decide) rfl rfl (Nat.le_of_ble_eq_true rfl) dX10_put_2 ?_
  show Wx LX K s3 5 [(0, .ref (kad K 0)), (1, .int a1), (2, .int a2), (3, .int a3)] [.int r1]
  refine x_istore (lv' := [(4, .int r1), (0, .ref (kad K 0)), (1, .int a1), (2, .int a2), (3, .int a3)]) C dX10_put_5 (by rw [e5]; decide) rfl ?_
  refine x_iload C 0 dX10_put_7 rfl ?_
  refine x_ifeq C 15 dX10_put_9 (by decide) (fun c5 => ?_) (fun c5 => ?_)
  · replace h0 := ob_pos c5 h0
    refine x_iload_n C 3 dX10_put_15 rfl ?_
    refine x_iflt C 29 dX10_put_16 (by decide) (fun c7 => ?_) (fun c7 => ?_)
    · replace h0 := ob_pos c7 h0
      refine x_aload_n C 1 dX10_put_29 rfl ?_
      refine x_iconst (v := 2) C dX10_put_30 rfl ?_
      obtain ⟨r8, s10, g9, h0⟩ := ob_bd h0
      refine x_callV (ar := 1) (q := (RX10, TX10, 18)) (rest := []) C (c_X10_found C.2.2.2.2.2.2.1  g9) (iX 0 (by decide)) rfl rfl hy_X10_found ⟨tw298, tw300, tw1, tw63, tw301⟩ (by decide) (by decide) rfl rfl (Nat.le_of_ble_eq_true rfl) dX10_put_31 ?_
      show Wx LX K s10 34 [(4, .int r1), (0, .ref (kad K 0)), (1, .int a1), (2, .int a2), (3, .int a3)] [.int r8]
      cases h0
      exact x_iret C R dX10_put_34
    · replace h0 := ob_neg c7 h0
      refine x_iload_n C 3 dX10_put_19 rfl ?_
      refine x_aload_n C 1 dX10_put_20 rfl ?_
      refine x_getR (j := 3) (i := 23) (q := (RX10, TX10, 18)) C 48 (iX 0 (by decide)) rfl rfl inBX10 (by decide) tw238 rfl dX10_put_21 ?_
      refine x_iload_n C 2 dX10_put_24 rfl ?_
      obtain ⟨c11, h0⟩ := ob_if h0
      refine x_iald C (iX 48 (by decide)) rfl (vin_in c11) dX10_put_25 ?_
      refine x_icmplt C 35 dX10_put_26 (by decide) (fun c13 => ?_) (fun c13 => ?_)
      · replace h0 := ob_pos c13 h0
        refine x_aload_n C 1 dX10_put_35 rfl ?_
        refine x_getR (j := 2) (i := 20) (q := (RX10, TX10, 18)) C 32 (iX 0 (by decide)) rfl rfl inBX10 (by decide) tw237 rfl dX10_put_36 ?_
        refine x_iload_n C 2 dX10_put_39 rfl ?_
        obtain ⟨c14, h0⟩ := ob_if h0
        refine x_aald C (iX 32 (by decide)) rfl rfl rfl (vin_in c14) dX10_put_40 ?_
        refine x_iload_n C 3 dX10_put_41 rfl ?_
        obtain ⟨c15, h0⟩ := ob_if h0
        refine x_bald C (iX5 (vin_lt c14)) (lX5 (vin_lt c14)) (vin_in c15) dX10_put_42 ?_
        refine x_istore (lv' := [(5, .int (s3.1 (40 + a1.toNatClampNeg) a2.toNatClampNeg)), (4, .int r1), (0, .ref (kad K 0)), (1, .int a1), (2, .int a2), (3, .int a3)]) C dX10_put_43 (by rw [e5]; decide) rfl ?_
        refine x_aload_n C 2 dX10_put_45 rfl ?_
        refine x_getR (j := 2) (i := 20) (q := (RX10, TX10, 18)) C 32 (iX 0 (by decide)) rfl rfl inBX10 (by decide) tw237 rfl dX10_put_46 ?_
        refine x_iload_n C 3 dX10_put_49 rfl ?_
        obtain ⟨c16, h0⟩ := ob_if h0
        refine x_aald C (iX 32 (by decide)) rfl rfl rfl (vin_in c16) dX10_put_50 ?_
        refine x_iload_n C 4 dX10_put_51 rfl ?_
        refine x_iload_n C 5 dX10_put_52 rfl ?_
        refine x_i2b C dX10_put_53 ?_
        obtain ⟨c17, h0⟩ := ob_if h0
        refine x_bast C (iX5 (vin_lt c16)) (lX5 (vin_lt c16)) (vin_in c17) dX10_put_54 ?_
        refine x_iload C 0 dX10_put_55 rfl ?_
        refine x_sipush (v := 1000) C dX10_put_57 rfl ?_
        refine x_iadd C dX10_put_60 ?_
        cases h0
        exact x_iret C R dX10_put_61
      · replace h0 := ob_neg c13 h0
        refine x_aload_n C 1 dX10_put_29 rfl ?_
        refine x_iconst (v := 2) C dX10_put_30 rfl ?_
        obtain ⟨r18, s20, g19, h0⟩ := ob_bd h0
        refine x_callV (ar := 1) (q := (RX10, TX10, 18)) (rest := []) C (c_X10_found C.2.2.2.2.2.2.1  g19) (iX 0 (by decide)) rfl rfl hy_X10_found ⟨tw298, tw300, tw1, tw63, tw301⟩ (by decide) (by decide) rfl rfl (Nat.le_of_ble_eq_true rfl) dX10_put_31 ?_
        show Wx LX K s20 34 [(4, .int r1), (0, .ref (kad K 0)), (1, .int a1), (2, .int a2), (3, .int a3)] [.int r18]
        cases h0
        exact x_iret C R dX10_put_34
  · replace h0 := ob_neg c5 h0
    refine x_iload C 0 dX10_put_12 rfl ?_
    cases h0
    exact x_iret C R dX10_put_14
set_option maxHeartbeats 4000000 in
set_option maxRecDepth 100000 in
theorem c_X10_fault {l : Launch} {D : va_G} {ad : Nat → Nat} {cy : Nat → ClassId} (hJ : mJ LX ad) {σ τ : mS} {a1 : Int32} {r : Int32}  (h0 : X10_fault σ a1 = some (r, τ)) : MetG l LX D ad cy yX10_fault cX10_fault 3 (some .int) 2 [.ref (ad 0), .int a1] σ (some (.int r)) τ := by
  refine MetG.of hJ (by decide +kernel) [(0, .ref (ad 0)), (1, .int a1)] rfl (Nat.le_of_ble_eq_true rfl) ?_
  intro K e1 e2 e3 e4 e5 C R
  subst e1
  subst e2
  subst e3
  subst e4
  unfold X10_fault at h0
  refine x_aload_n C 0 dX10_fault_0 rfl ?_
  refine x_iload_n C 1 dX10_fault_1 rfl ?_
  obtain ⟨r1, s3, g2, h0⟩ := ob_bd h0
  refine x_callV (ar := 1) (q := (RX10, TX10, 18)) (rest := []) C (c_X10_refusedText C.2.2.2.2.2.2.1  g2) (iX 0 (by decide)) rfl rfl hy_X10_refusedText ⟨tw352, tw354, tw6, tw63, tw355⟩ (by decide) (by decide) rfl rfl (Nat.le_of_ble_eq_true rfl) dX10_fault_2 ?_
  show Wx LX K s3 5 [(0, .ref (kad K 0)), (1, .int a1)] [.int r1]
  refine x_istore_n (lv' := [(2, .int r1), (0, .ref (kad K 0)), (1, .int a1)]) C dX10_fault_5 (by rw [e5]; decide) rfl ?_
  refine x_iload_n C 0 dX10_fault_6 rfl ?_
  refine x_ifeq C 12 dX10_fault_7 (by decide) (fun c5 => ?_) (fun c5 => ?_)
  · replace h0 := ob_pos c5 h0
    refine x_aload_n C 1 dX10_fault_12 rfl ?_
    refine x_getR (j := 4) (i := 29) (q := (RX10, TX10, 18)) C 56 (iX 0 (by decide)) rfl rfl inBX10 (by decide) tw239 rfl dX10_fault_13 ?_
    refine x_aload_n C 1 dX10_fault_16 rfl ?_
    refine x_getR (j := 2) (i := 20) (q := (RX10, TX10, 18)) C 32 (iX 0 (by decide)) rfl rfl inBX10 (by decide) tw237 rfl dX10_fault_17 ?_
    refine x_iload_n C 2 dX10_fault_20 rfl ?_
    obtain ⟨c6, h0⟩ := ob_if h0
    refine x_aald C (iX 32 (by decide)) rfl rfl rfl (vin_in c6) dX10_fault_21 ?_
    refine x_aload_n C 1 dX10_fault_22 rfl ?_
    refine x_getR (j := 3) (i := 23) (q := (RX10, TX10, 18)) C 48 (iX 0 (by decide)) rfl rfl inBX10 (by decide) tw238 rfl dX10_fault_23 ?_
    refine x_iload_n C 2 dX10_fault_26 rfl ?_
    obtain ⟨c7, h0⟩ := ob_if h0
    refine x_iald C (iX 48 (by decide)) rfl (vin_in c7) dX10_fault_27 ?_
    obtain ⟨r8, s10, g9, h0⟩ := ob_bd h0
    refine x_callV (ar := 2) (q := (RX6, TX6, 3)) (rest := []) C (c_X6_read C.2.2.2.2.2.2.1 (vin_lt c6) g9) (iX 56 (by decide)) rfl rfl hy_X6_read ⟨tw360, tw361, tw362, tw64, tw363⟩ (by decide) (by decide) rfl rfl (Nat.le_of_ble_eq_true rfl) dX10_fault_28 ?_
    show Wx LX K s10 31 [(2, .int r1), (0, .ref (kad K 0)), (1, .int a1)] [.int r8]
    cases h0
    exact x_iret C R dX10_fault_31
  · replace h0 := ob_neg c5 h0
    refine x_iload_n C 0 dX10_fault_10 rfl ?_
    cases h0
    exact x_iret C R dX10_fault_11
set_option maxHeartbeats 4000000 in
set_option maxRecDepth 100000 in
theorem c_X10_hall {l : Launch} {D : va_G} {ad : Nat → Nat} {cy : Nat → ClassId} (hJ : mJ LX ad) {σ τ : mS} {a1 : Int32} {r : Int32}  (h0 : X10_hall σ a1 = some (r, τ)) : MetG l LX D ad cy yX10_hall cX10_hall 4 (some .int) 2 [.ref (ad 0), .int a1] σ (some (.int r)) τ := by
  refine MetG.of hJ (by decide +kernel) [(0, .ref (ad 0)), (1, .int a1)] rfl (Nat.le_of_ble_eq_true rfl) ?_
  intro K e1 e2 e3 e4 e5 C R
  subst e1
  subst e2
  subst e3
  subst e4
  unfold X10_hall at h0
  refine x_aload_n C 0 dX10_hall_0 rfl ?_
  refine x_iload_n C 1 dX10_hall_1 rfl ?_
  obtain ⟨r1, s3, g2, h0⟩ := ob_bd h0
  refine x_callV (ar := 1) (q := (RX10, TX10, 18)) (rest := []) C (c_X10_refusedText C.2.2.2.2.2.2.1  g2) (iX 0 (by decide)) rfl rfl hy_X10_refusedText ⟨tw352, tw354, tw6, tw63, tw355⟩ (by decide) (by decide) rfl rfl (Nat.le_of_ble_eq_true rfl) dX10_hall_2 ?_
  show Wx LX K s3 5 [(0, .ref (kad K 0)), (1, .int a1)] [.int r1]
  refine x_istore_n (lv' := [(2, .int r1), (0, .ref (kad K 0)), (1, .int a1)]) C dX10_hall_5 (by rw [e5]; decide) rfl ?_
  refine x_iload_n C 0 dX10_hall_6 rfl ?_
  refine x_ifeq C 12 dX10_hall_7 (by decide) (fun c5 => ?_) (fun c5 => ?_)
  · replace h0 := ob_pos c5 h0
    refine x_aload_n C 1 dX10_hall_12 rfl ?_
    refine x_getR (j := 4) (i := 29) (q := (RX10, TX10, 18)) C 56 (iX 0 (by decide)) rfl rfl inBX10 (by decide) tw239 rfl dX10_hall_13 ?_
    refine x_aload_n C 1 dX10_hall_16 rfl ?_
    refine x_getR (j := 2) (i := 20) (q := (RX10, TX10, 18)) C 32 (iX 0 (by decide)) rfl rfl inBX10 (by decide) tw237 rfl dX10_hall_17 ?_
    refine x_iload_n C 2 dX10_hall_20 rfl ?_
    obtain ⟨c6, h0⟩ := ob_if h0
    refine x_aald C (iX 32 (by decide)) rfl rfl rfl (vin_in c6) dX10_hall_21 ?_
    refine x_aload_n C 1 dX10_hall_22 rfl ?_
    refine x_getR (j := 3) (i := 23) (q := (RX10, TX10, 18)) C 48 (iX 0 (by decide)) rfl rfl inBX10 (by decide) tw238 rfl dX10_hall_23 ?_
    refine x_iload_n C 2 dX10_hall_26 rfl ?_
    obtain ⟨c7, h0⟩ := ob_if h0
    refine x_iald C (iX 48 (by decide)) rfl (vin_in c7) dX10_hall_27 ?_
    obtain ⟨r8, s10, g9, h0⟩ := ob_bd h0
    refine x_callV (ar := 2) (q := (RX6, TX6, 3)) (rest := []) C (c_X6_read C.2.2.2.2.2.2.1 (vin_lt c6) g9) (iX 56 (by decide)) rfl rfl hy_X6_read ⟨tw360, tw361, tw362, tw64, tw363⟩ (by decide) (by decide) rfl rfl (Nat.le_of_ble_eq_true rfl) dX10_hall_28 ?_
    show Wx LX K s10 31 [(2, .int r1), (0, .ref (kad K 0)), (1, .int a1)] [.int r8]
    refine x_bipush (v := (-9)) C dX10_hall_31 rfl ?_
    refine x_icmpeq C 39 dX10_hall_33 (by decide) (fun c12 => ?_) (fun c12 => ?_)
    · replace h0 := ob_pos c12 h0
      refine x_aload_n C 1 dX10_hall_39 rfl ?_
      refine x_getR (j := 5) (i := 36) (q := (RX10, TX10, 18)) C 88 (iX 0 (by decide)) rfl rfl inBX10 (by decide) tw240 rfl dX10_hall_40 ?_
      refine x_aload_n C 1 dX10_hall_43 rfl ?_
      refine x_getR (j := 4) (i := 29) (q := (RX10, TX10, 18)) C 56 (iX 0 (by decide)) rfl rfl inBX10 (by decide) tw239 rfl dX10_hall_44 ?_
      obtain ⟨r13, s15, g14, h0⟩ := ob_bd h0
      refine x_callV (ar := 1) (q := (RX7, TX7, 5)) (rest := []) C (c_X7_fillBy C.2.2.2.2.2.2.1  g14) (iX 88 (by decide)) rfl rfl hy_X7_fillBy ⟨tw377, tw378, tw379, tw65, tw380⟩ (by decide) (by decide) rfl rfl (Nat.le_of_ble_eq_true rfl) dX10_hall_47 ?_
      show Wx LX K s15 50 [(2, .int r1), (0, .ref (kad K 0)), (1, .int a1)] []
      refine x_aload_n C 1 dX10_hall_50 rfl ?_
      refine x_getR (j := 7) (i := 52) (q := (RX10, TX10, 18)) C (160 + 3) (iX 0 (by decide)) rfl rfl inBX10 (by decide) tw242 rfl dX10_hall_51 ?_
      refine x_iconst (v := 0) C dX10_hall_54 rfl ?_
      refine x_putIN (j := 1) (i := 83) (q := (RX1, TX1, 2)) (host := "CalledNumbers") C tyX1 tyX1_ok nmX1 (iX20 (by decide)) (lX20 (by decide)) rfl inBX1 (by decide) twN223 rfl (by decide +kernel) rfl dX10_hall_55 ?_
      refine x_iconst (v := 0) C dX10_hall_58 rfl ?_
      refine x_istore_n (lv' := [(3, .int 0), (2, .int r1), (0, .ref (kad K 0)), (1, .int a1)]) C dX10_hall_59 (by rw [e5]; decide) rfl ?_
      obtain ⟨e25, g26, h0⟩ := ob_bind h0
      have J1 : ∀ (s18 : mS), s18 = e25 → Wx LX K s18 81 [(0, .ref (kad K 0))] [] := by
        intro s18 e9
        subst e9
        replace h0 := un1_l h0
        refine x_aload_n C 0 dX10_hall_81 rfl ?_
        refine x_getR (j := 6) (i := 45) (q := (RX10, TX10, 18)) C (144 + 5) (iX 0 (by decide)) rfl rfl inBX10 (by decide) tw241 rfl dX10_hall_82 ?_
        obtain ⟨r19, s21, g20, h0⟩ := ob_bd h0
        refine x_callV (ar := 0) (q := (RX2, TX2, 6)) (rest := []) C (c_X2_begin C.2.2.2.2.2.2.1 (by decide) g20) (iX18 (by decide)) (lX18 (by decide)) rfl hy_X2_begin ⟨tw381, tw382, tw383, tw72, tw384⟩ (by decide) (by decide) rfl rfl (Nat.le_of_ble_eq_true rfl) dX10_hall_85 ?_
        show Wx LX K s21 88 [(0, .ref (kad K 0))] []
        refine x_aload_n C 0 dX10_hall_88 rfl ?_
        refine x_getR (j := 5) (i := 36) (q := (RX10, TX10, 18)) C 88 (iX 0 (by decide)) rfl rfl inBX10 (by decide) tw240 rfl dX10_hall_89 ?_
        refine x_getIN (j := 4) (i := 135) (q := (RX7, TX7, 5)) (host := "CalledNumbers") C (iX 88 (by decide)) rfl rfl inBX7 (by decide) twN173 rfl dX10_hall_92 ?_
        cases h0
        exact x_iret C R dX10_hall_95
      refine x_lv (lv' := [(3, .int 0), (0, .ref (kad K 0))]) [0, 2] rfl ?_
      refine lp_G (G := fun q : mS × Int32 => Wx LX K q.1 60 [(3, .int q.2), (0, .ref (kad K 0))] []) (fun q x h1 ihL1 ihR1 => ?_) big _ g26
      obtain ⟨s16, x17⟩ := q
      replace h1 : X10_hall_b60 s16 x17 = some x := h1
      unfold X10_hall_b60 at h1
      show Wx LX K s16 60 [(3, .int x17), (0, .ref (kad K 0))] []
      refine x_iload_n C 0 dX10_hall_60 rfl ?_
      refine x_iconst (v := 3) C dX10_hall_61 rfl ?_
      refine x_icmpge C 81 dX10_hall_62 (by decide) (fun c23 => ?_) (fun c23 => ?_)
      · replace h1 := ob_pos c23 h1
        refine x_lv (lv' := [(0, .ref (kad K 0))]) [1] rfl ?_
        exact J1 _ (ihR1 _ (Option.some.inj h1).symm)
      · replace h1 := ob_neg c23 h1
        refine x_aload_n C 1 dX10_hall_65 rfl ?_
        refine x_getR (j := 8) (i := 56) (q := (RX10, TX10, 18)) C 176 (iX 0 (by decide)) rfl rfl inBX10 (by decide) tw243 rfl dX10_hall_66 ?_
        refine x_iload_n C 0 dX10_hall_69 rfl ?_
        obtain ⟨c24, h1⟩ := ob_if h1
        refine x_aald C (iX 176 (by decide)) rfl rfl rfl (vin_in c24) dX10_hall_70 ?_
        refine x_iconst (v := (-1)) C dX10_hall_71 rfl ?_
        refine x_putIN (j := 1) (i := 83) (q := (RX1, TX1, 2)) (host := "CalledNumbers") C tyX1 tyX1_ok nmX1 (iX20 (Nat.lt_of_lt_of_le (vin_lt c24) (by decide))) (lX20 (Nat.lt_of_lt_of_le (vin_lt c24) (by decide))) rfl inBX1 (by decide) twN223 rfl (by decide +kernel) rfl dX10_hall_72 ?_
        refine x_iinc (v := (x17 + 1)) (lv' := [(3, .int (x17 + 1)), (0, .ref (kad K 0))]) C 0 dX10_hall_75 rfl rfl (by rw [e5]; decide) rfl ?_
        refine x_goto C 60 dX10_hall_78 (by decide) ?_
        refine x_lv (lv' := [(3, .int (x17 + 1)), (0, .ref (kad K 0))]) [0, 1] rfl ?_
        exact ihL1 _ (Option.some.inj h1).symm
    · replace h0 := ob_neg c12 h0
      refine x_bipush (v := (-4)) C dX10_hall_36 rfl ?_
      cases h0
      exact x_iret C R dX10_hall_38
  · replace h0 := ob_neg c5 h0
    refine x_iload_n C 0 dX10_hall_10 rfl ?_
    cases h0
    exact x_iret C R dX10_hall_11
set_option maxHeartbeats 4000000 in
set_option maxRecDepth 100000 in
theorem c_X10_isPlayer {l : Launch} {D : va_G} {ad : Nat → Nat} {cy : Nat → ClassId} (hJ : mJ LX ad) {σ : mS} {a1 : Int32} {r : Int32}  (h0 : X10_isPlayer σ a1 = r) : MetG l LX D ad cy yX10_isPlayer cX10_isPlayer 2 (some .boolean) 0 [.ref (ad 0), .int a1] σ (some (.int r)) σ := by
  refine MetG.of hJ (by decide +kernel) [(0, .ref (ad 0)), (1, .int a1)] rfl (Nat.le_of_ble_eq_true rfl) ?_
  intro K e1 e2 e3 e4 e5 C R
  subst e1
  subst e2
  subst e3
  subst e4
  unfold X10_isPlayer at h0
  refine x_iload_n C 1 dX10_isPlayer_0 rfl ?_
  refine x_iflt C 19 dX10_isPlayer_1 (by decide) (fun c2 => ?_) (fun c2 => ?_)
  · replace h0 := ob_pos c2 h0
    refine x_iconst (v := 0) C dX10_isPlayer_19 rfl ?_
    subst h0
    exact x_zret C (Or.inl rfl) R dX10_isPlayer_20
  · replace h0 := ob_neg c2 h0
    refine x_iload_n C 1 dX10_isPlayer_4 rfl ?_
    refine x_aload_n C 0 dX10_isPlayer_5 rfl ?_
    refine x_getR (j := 5) (i := 36) (q := (RX10, TX10, 18)) C 88 (iX 0 (by decide)) rfl rfl inBX10 (by decide) tw240 rfl dX10_isPlayer_6 ?_
    refine x_getIN (j := 4) (i := 135) (q := (RX7, TX7, 5)) (host := "CalledNumbers") C (iX 88 (by decide)) rfl rfl inBX7 (by decide) twN173 rfl dX10_isPlayer_9 ?_
    refine x_icmpge C 19 dX10_isPlayer_12 (by decide) (fun c4 => ?_) (fun c4 => ?_)
    · replace h0 := ob_pos c4 h0
      refine x_iconst (v := 0) C dX10_isPlayer_19 rfl ?_
      subst h0
      exact x_zret C (Or.inl rfl) R dX10_isPlayer_20
    · replace h0 := ob_neg c4 h0
      refine x_iconst (v := 1) C dX10_isPlayer_15 rfl ?_
      refine x_goto C 20 dX10_isPlayer_16 (by decide) ?_
      subst h0
      exact x_zret C (Or.inr rfl) R dX10_isPlayer_20
set_option maxHeartbeats 4000000 in
set_option maxRecDepth 100000 in
theorem c_X10_ofPlayer {l : Launch} {D : va_G} {ad : Nat → Nat} {cy : Nat → ClassId} (hJ : mJ LX ad) {σ : mS} {a1 : Int32} {a2 : Int32} {r : Int32}  (h0 : X10_ofPlayer σ a1 a2 = some r) : MetG l LX D ad cy yX10_ofPlayer cX10_ofPlayer 4 (some .int) 1 [.ref (ad 0), .int a1, .int a2] σ (some (.int r)) σ := by
  refine MetG.of hJ (by decide +kernel) [(0, .ref (ad 0)), (1, .int a1), (2, .int a2)] rfl (Nat.le_of_ble_eq_true rfl) ?_
  intro K e1 e2 e3 e4 e5 C R
  subst e1
  subst e2
  subst e3
  subst e4
  unfold X10_ofPlayer at h0
  refine x_aload_n C 0 dX10_ofPlayer_0 rfl ?_
  refine x_getR (j := 5) (i := 36) (q := (RX10, TX10, 18)) C 88 (iX 0 (by decide)) rfl rfl inBX10 (by decide) tw240 rfl dX10_ofPlayer_1 ?_
  refine x_iload_n C 1 dX10_ofPlayer_4 rfl ?_
  obtain ⟨r1, g2, h0⟩ := ob_bind h0
  refine x_callV (ar := 1) (q := (RX7, TX7, 5)) (rest := []) C (c_X7_kindAt C.2.2.2.2.2.2.1  g2) (iX 88 (by decide)) rfl rfl hy_X7_kindAt ⟨tw398, tw399, tw400, tw65, tw401⟩ (by decide) (by decide) rfl rfl (Nat.le_of_ble_eq_true rfl) dX10_ofPlayer_5 ?_
  show Wx LX K σ 8 [(0, .ref (kad K 0)), (1, .int a1), (2, .int a2)] [.ref (kad K (104 + r1))]
  refine x_aload_n C 0 dX10_ofPlayer_8 rfl ?_
  refine x_getR (j := 6) (i := 45) (q := (RX10, TX10, 18)) C (144 + 5) (iX 0 (by decide)) rfl rfl inBX10 (by decide) tw241 rfl dX10_ofPlayer_9 ?_
  refine x_getRN (j := 1) (i := 156) (q := (RX2, TX2, 6)) (host := "CalledNumbers") C (152 + 5) (iX18 (by decide)) (lX18 (by decide)) rfl inBX2 (by decide) twN193 rfl dX10_ofPlayer_12 ?_
  refine x_iload_n C 1 dX10_ofPlayer_15 rfl ?_
  obtain ⟨c3, h0⟩ := ob_if h0
  refine x_iald C (iX19 (by decide)) (lX19 (by decide)) (vin_in c3) dX10_ofPlayer_16 ?_
  cases h0
set_option maxHeartbeats 4000000 in
set_option maxRecDepth 100000 in
theorem c_X10_player {l : Launch} {D : va_G} {ad : Nat → Nat} {cy : Nat → ClassId} (hJ : mJ LX ad) {σ τ : mS} {a1 : Int32} {a2 : Int32} {r : Int32}  (h0 : X10_player σ a1 a2 = some (r, τ)) : MetG l LX D ad cy yX10_player cX10_player 3 (some .int) 2 [.ref (ad 0), .int a1, .int a2] σ (some (.int r)) τ := by
  refine MetG.of hJ (by decide +kernel) [(0, .ref (ad 0)), (1, .int a1), (2, .int a2)] rfl (Nat.le_of_ble_eq_true rfl) ?_
  intro K e1 e2 e3 e4 e5 C R
  subst e1
  subst e2
  subst e3
  subst e4
  unfold X10_player at h0
  refine x_aload_n C 0 dX10_player_0 rfl ?_
  refine x_iload_n C 1 dX10_player_1 rfl ?_
  refine x_callV (ar := 1) (q := (RX10, TX10, 18)) (rest := []) C (c_X10_isPlayer C.2.2.2.2.2.2.1  rfl) (iX 0 (by decide)) rfl rfl hy_X10_isPlayer ⟨tw390, tw392, tw8, tw63, tw393⟩ (by decide) (by decide) rfl rfl (Nat.le_of_ble_eq_true rfl) dX10_player_2 ?_
  show Wx LX K σ 5 [(0, .ref (kad K 0)), (1, .int a1), (2, .int a2)] [.int (X10_isPlayer σ a1)]
  refine x_ifeq C 17 dX10_player_5 (by decide) (fun c3 => ?_) (fun c3 => ?_)
  · replace h0 := ob_pos c3 h0
    refine x_iconst (v := (-1)) C dX10_player_17 rfl ?_
    cases h0
    exact x_iret C R dX10_player_18
  · replace h0 := ob_neg c3 h0
    refine x_iload_n C 2 dX10_player_8 rfl ?_
    refine x_iflt C 17 dX10_player_9 (by decide) (fun c5 => ?_) (fun c5 => ?_)
    · replace h0 := ob_pos c5 h0
      refine x_iconst (v := (-1)) C dX10_player_17 rfl ?_
      cases h0
      exact x_iret C R dX10_player_18
    · replace h0 := ob_neg c5 h0
      refine x_iload_n C 2 dX10_player_12 rfl ?_
      refine x_iconst (v := 4) C dX10_player_13 rfl ?_
      refine x_icmple C 19 dX10_player_14 (by decide) (fun c7 => ?_) (fun c7 => ?_)
      · replace h0 := ob_pos c7 h0
        refine x_aload_n C 0 dX10_player_19 rfl ?_
        refine x_aload_n C 0 dX10_player_20 rfl ?_
        refine x_iload_n C 1 dX10_player_21 rfl ?_
        refine x_iload_n C 2 dX10_player_22 rfl ?_
        obtain ⟨r8, g9, h0⟩ := ob_bind h0
        refine x_callV (ar := 2) (q := (RX10, TX10, 18)) (rest := [.ref (kad K 0)]) C (c_X10_ofPlayer C.2.2.2.2.2.2.1  g9) (iX 0 (by decide)) rfl rfl hy_X10_ofPlayer ⟨tw394, tw396, tw9, tw63, tw397⟩ (by decide) (by decide) rfl rfl (Nat.le_of_ble_eq_true rfl) dX10_player_23 ?_
        show Wx LX K σ 26 [(0, .ref (kad K 0)), (1, .int a1), (2, .int a2)] [.int r8, .ref (kad K 0)]
        refine x_putI (j := 13) (i := 99) (q := (RX10, TX10, 18)) C tyX10 tyX10_ok nmX10 (iX 0 (by decide)) rfl rfl inBX10 (by decide) tw248 rfl (by decide +kernel) rfl dX10_player_26 ?_
        refine x_iconst (v := 1) C dX10_player_29 rfl ?_
        cases h0
        exact x_iret C R dX10_player_30
      · replace h0 := ob_neg c7 h0
        refine x_iconst (v := (-1)) C dX10_player_17 rfl ?_
        cases h0
        exact x_iret C R dX10_player_18
set_option maxHeartbeats 4000000 in
set_option maxRecDepth 100000 in
theorem c_X10_isPlace {l : Launch} {D : va_G} {ad : Nat → Nat} {cy : Nat → ClassId} (hJ : mJ LX ad) {σ : mS} {a1 : Int32} {r : Int32}  (h0 : X10_isPlace a1 = r) : MetG l LX D ad cy yX10_isPlace cX10_isPlace 2 (some .boolean) 0 [.ref (ad 0), .int a1] σ (some (.int r)) σ := by
  refine MetG.of hJ (by decide +kernel) [(0, .ref (ad 0)), (1, .int a1)] rfl (Nat.le_of_ble_eq_true rfl) ?_
  intro K e1 e2 e3 e4 e5 C R
  subst e1
  subst e2
  subst e3
  subst e4
  unfold X10_isPlace at h0
  refine x_iload_n C 1 dX10_isPlace_0 rfl ?_
  refine x_iflt C 14 dX10_isPlace_1 (by decide) (fun c2 => ?_) (fun c2 => ?_)
  · replace h0 := ob_pos c2 h0
    refine x_iconst (v := 0) C dX10_isPlace_14 rfl ?_
    subst h0
    exact x_zret C (Or.inl rfl) R dX10_isPlace_15
  · replace h0 := ob_neg c2 h0
    refine x_iload_n C 1 dX10_isPlace_4 rfl ?_
    refine x_bipush (v := 6) C dX10_isPlace_5 rfl ?_
    refine x_icmpge C 14 dX10_isPlace_7 (by decide) (fun c4 => ?_) (fun c4 => ?_)
    · replace h0 := ob_pos c4 h0
      refine x_iconst (v := 0) C dX10_isPlace_14 rfl ?_
      subst h0
      exact x_zret C (Or.inl rfl) R dX10_isPlace_15
    · replace h0 := ob_neg c4 h0
      refine x_iconst (v := 1) C dX10_isPlace_10 rfl ?_
      refine x_goto C 15 dX10_isPlace_11 (by decide) ?_
      subst h0
      exact x_zret C (Or.inr rfl) R dX10_isPlace_15
set_option maxHeartbeats 4000000 in
set_option maxRecDepth 100000 in
theorem c_X10_card {l : Launch} {D : va_G} {ad : Nat → Nat} {cy : Nat → ClassId} (hJ : mJ LX ad) {σ τ : mS} {a1 : Int32} {a2 : Int32} {r : Int32}  (h0 : X10_card σ a1 a2 = some (r, τ)) : MetG l LX D ad cy yX10_card cX10_card 3 (some .int) 1 [.ref (ad 0), .int a1, .int a2] σ (some (.int r)) τ := by
  refine MetG.of hJ (by decide +kernel) [(0, .ref (ad 0)), (1, .int a1), (2, .int a2)] rfl (Nat.le_of_ble_eq_true rfl) ?_
  intro K e1 e2 e3 e4 e5 C R
  subst e1
  subst e2
  subst e3
  subst e4
  unfold X10_card at h0
  refine x_aload_n C 0 dX10_card_0 rfl ?_
  refine x_iload_n C 1 dX10_card_1 rfl ?_
  refine x_callV (ar := 1) (q := (RX10, TX10, 18)) (rest := []) C (c_X10_isPlayer C.2.2.2.2.2.2.1  rfl) (iX 0 (by decide)) rfl rfl hy_X10_isPlayer ⟨tw390, tw392, tw8, tw63, tw393⟩ (by decide) (by decide) rfl rfl (Nat.le_of_ble_eq_true rfl) dX10_card_2 ?_
  show Wx LX K σ 5 [(0, .ref (kad K 0)), (1, .int a1), (2, .int a2)] [.int (X10_isPlayer σ a1)]
  refine x_ifeq C 16 dX10_card_5 (by decide) (fun c3 => ?_) (fun c3 => ?_)
  · replace h0 := ob_pos c3 h0
    refine x_iconst (v := (-1)) C dX10_card_16 rfl ?_
    cases h0
    exact x_iret C R dX10_card_17
  · replace h0 := ob_neg c3 h0
    refine x_aload_n C 0 dX10_card_8 rfl ?_
    refine x_iload_n C 2 dX10_card_9 rfl ?_
    refine x_callV (ar := 1) (q := (RX10, TX10, 18)) (rest := []) C (c_X10_isPlace C.2.2.2.2.2.2.1  rfl) (iX 0 (by decide)) rfl rfl hy_X10_isPlace ⟨tw456, tw458, tw10, tw63, tw459⟩ (by decide) (by decide) rfl rfl (Nat.le_of_ble_eq_true rfl) dX10_card_10 ?_
    show Wx LX K σ 13 [(0, .ref (kad K 0)), (1, .int a1), (2, .int a2)] [.int (X10_isPlace a2)]
    refine x_ifne C 18 dX10_card_13 (by decide) (fun c6 => ?_) (fun c6 => ?_)
    · replace h0 := ob_neg c6 h0
      refine x_aload_n C 0 dX10_card_18 rfl ?_
      refine x_aload_n C 0 dX10_card_19 rfl ?_
      refine x_getR (j := 5) (i := 36) (q := (RX10, TX10, 18)) C 88 (iX 0 (by decide)) rfl rfl inBX10 (by decide) tw240 rfl dX10_card_20 ?_
      refine x_getRN (j := 2) (i := 147) (q := (RX7, TX7, 5)) (host := "CalledNumbers") C 120 (iX 88 (by decide)) rfl rfl inBX7 (by decide) twN168 rfl dX10_card_23 ?_
      refine x_iload_n C 1 dX10_card_26 rfl ?_
      obtain ⟨c7, h0⟩ := ob_if h0
      refine x_aald C (iX 120 (by decide)) rfl rfl rfl (vin_in c7) dX10_card_27 ?_
      refine x_iload_n C 2 dX10_card_28 rfl ?_
      obtain ⟨c8, h0⟩ := ob_if h0
      refine x_iald C (iX16 (vin_lt c7)) (lX16 (vin_lt c7)) (vin_in c8) dX10_card_29 ?_
      refine x_putI (j := 13) (i := 99) (q := (RX10, TX10, 18)) C tyX10 tyX10_ok nmX10 (iX 0 (by decide)) rfl rfl inBX10 (by decide) tw248 rfl (by decide +kernel) rfl dX10_card_30 ?_
      refine x_iconst (v := 1) C dX10_card_33 rfl ?_
      cases h0
      exact x_iret C R dX10_card_34
    · replace h0 := ob_pos c6 h0
      refine x_iconst (v := (-1)) C dX10_card_16 rfl ?_
      cases h0
      exact x_iret C R dX10_card_17
set_option maxHeartbeats 4000000 in
set_option maxRecDepth 100000 in
theorem c_X10_mark {l : Launch} {D : va_G} {ad : Nat → Nat} {cy : Nat → ClassId} (hJ : mJ LX ad) {σ τ : mS} {a1 : Int32} {a2 : Int32} {r : Int32}  (h0 : X10_mark σ a1 a2 = some (r, τ)) : MetG l LX D ad cy yX10_mark cX10_mark 5 (some .int) 1 [.ref (ad 0), .int a1, .int a2] σ (some (.int r)) τ := by
  refine MetG.of hJ (by decide +kernel) [(0, .ref (ad 0)), (1, .int a1), (2, .int a2)] rfl (Nat.le_of_ble_eq_true rfl) ?_
  intro K e1 e2 e3 e4 e5 C R
  subst e1
  subst e2
  subst e3
  subst e4
  unfold X10_mark at h0
  refine x_aload_n C 0 dX10_mark_0 rfl ?_
  refine x_iload_n C 1 dX10_mark_1 rfl ?_
  refine x_callV (ar := 1) (q := (RX10, TX10, 18)) (rest := []) C (c_X10_isPlayer C.2.2.2.2.2.2.1  rfl) (iX 0 (by decide)) rfl rfl hy_X10_isPlayer ⟨tw390, tw392, tw8, tw63, tw393⟩ (by decide) (by decide) rfl rfl (Nat.le_of_ble_eq_true rfl) dX10_mark_2 ?_
  show Wx LX K σ 5 [(0, .ref (kad K 0)), (1, .int a1), (2, .int a2)] [.int (X10_isPlayer σ a1)]
  refine x_ifeq C 18 dX10_mark_5 (by decide) (fun c3 => ?_) (fun c3 => ?_)
  · replace h0 := ob_pos c3 h0
    refine x_iconst (v := (-1)) C dX10_mark_18 rfl ?_
    cases h0
    exact x_iret C R dX10_mark_19
  · replace h0 := ob_neg c3 h0
    refine x_iload_n C 2 dX10_mark_8 rfl ?_
    refine x_iconst (v := 1) C dX10_mark_9 rfl ?_
    refine x_icmplt C 18 dX10_mark_10 (by decide) (fun c5 => ?_) (fun c5 => ?_)
    · replace h0 := ob_pos c5 h0
      refine x_iconst (v := (-1)) C dX10_mark_18 rfl ?_
      cases h0
      exact x_iret C R dX10_mark_19
    · replace h0 := ob_neg c5 h0
      refine x_iload_n C 2 dX10_mark_13 rfl ?_
      refine x_iconst (v := 5) C dX10_mark_14 rfl ?_
      refine x_icmple C 20 dX10_mark_15 (by decide) (fun c7 => ?_) (fun c7 => ?_)
      · replace h0 := ob_pos c7 h0
        refine x_aload_n C 0 dX10_mark_20 rfl ?_
        refine x_getR (j := 5) (i := 36) (q := (RX10, TX10, 18)) C 88 (iX 0 (by decide)) rfl rfl inBX10 (by decide) tw240 rfl dX10_mark_21 ?_
        refine x_iload_n C 1 dX10_mark_24 rfl ?_
        obtain ⟨r8, g9, h0⟩ := ob_bind h0
        refine x_callV (ar := 1) (q := (RX7, TX7, 5)) (rest := []) C (c_X7_kindAt C.2.2.2.2.2.2.1  g9) (iX 88 (by decide)) rfl rfl hy_X7_kindAt ⟨tw398, tw399, tw400, tw65, tw401⟩ (by decide) (by decide) rfl rfl (Nat.le_of_ble_eq_true rfl) dX10_mark_25 ?_
        show Wx LX K σ 28 [(0, .ref (kad K 0)), (1, .int a1), (2, .int a2)] [.ref (kad K (104 + r8))]
        refine x_astore_n (lv' := [(3, .ref (kad K (104 + r8))), (0, .ref (kad K 0)), (1, .int a1), (2, .int a2)]) C dX10_mark_28 (by rw [e5]; decide) rfl ?_
        refine x_iload_n C 3 dX10_mark_29 rfl ?_
        refine x_iconst (v := 1) C dX10_mark_30 rfl ?_
        refine x_icmpne C 62 dX10_mark_31 (by decide) (fun c11 => ?_) (fun c11 => ?_)
        · replace h0 := ob_neg c11 h0
          refine x_iload_n C 3 dX10_mark_62 rfl ?_
          refine x_iconst (v := 2) C dX10_mark_63 rfl ?_
          refine x_icmpne C 93 dX10_mark_64 (by decide) (fun c13 => ?_) (fun c13 => ?_)
          · replace h0 := ob_neg c13 h0
            refine x_iload_n C 3 dX10_mark_93 rfl ?_
            refine x_iconst (v := 3) C dX10_mark_94 rfl ?_
            refine x_icmpne C 126 dX10_mark_95 (by decide) (fun c15 => ?_) (fun c15 => ?_)
            · replace h0 := ob_neg c15 h0
              refine x_iload_n C 3 dX10_mark_126 rfl ?_
              refine x_iconst (v := 4) C dX10_mark_127 rfl ?_
              refine x_icmpne C 146 dX10_mark_128 (by decide) (fun c17 => ?_) (fun c17 => ?_)
              · replace h0 := ob_neg c17 h0
                refine x_iload_n C 3 dX10_mark_146 rfl ?_
                refine x_iconst (v := 5) C dX10_mark_147 rfl ?_
                refine x_icmpne C 179 dX10_mark_148 (by decide) (fun c19 => ?_) (fun c19 => ?_)
                · replace h0 := ob_neg c19 h0
                  refine x_aload_n C 1 dX10_mark_179 rfl ?_
                  refine x_iconst (v := 3) C dX10_mark_180 rfl ?_
                  obtain ⟨r20, s22, g21, h0⟩ := ob_bd h0
                  refine x_callV (ar := 1) (q := (RX10, TX10, 18)) (rest := []) C (c_X10_found C.2.2.2.2.2.2.1  g21) (iX 0 (by decide)) rfl rfl hy_X10_found ⟨tw298, tw300, tw1, tw63, tw301⟩ (by decide) (by decide) rfl rfl (Nat.le_of_ble_eq_true rfl) dX10_mark_181 ?_
                  show Wx LX K s22 184 [(3, .ref (kad K (104 + r8))), (0, .ref (kad K 0)), (1, .int a1), (2, .int a2)] [.int r20]
                  cases h0
                  exact x_iret C R dX10_mark_184
                · replace h0 := ob_pos c19 h0
                  refine x_aload_n C 0 dX10_mark_151 rfl ?_
                  cases h0
              · replace h0 := ob_pos c17 h0
                refine x_aload_n C 0 dX10_mark_131 rfl ?_
                cases h0
            · replace h0 := ob_pos c15 h0
              refine x_aload_n C 0 dX10_mark_98 rfl ?_
              cases h0
          · replace h0 := ob_pos c13 h0
            refine x_aload_n C 0 dX10_mark_67 rfl ?_
            cases h0
        · replace h0 := ob_pos c11 h0
          refine x_aload_n C 0 dX10_mark_34 rfl ?_
          cases h0
      · replace h0 := ob_neg c7 h0
        refine x_iconst (v := (-1)) C dX10_mark_18 rfl ?_
        cases h0
        exact x_iret C R dX10_mark_19
set_option maxHeartbeats 4000000 in
set_option maxRecDepth 100000 in
theorem c_X10_isNumber {l : Launch} {D : va_G} {ad : Nat → Nat} {cy : Nat → ClassId} (hJ : mJ LX ad) {σ : mS} {a1 : Int32} {r : Int32}  (h0 : X10_isNumber a1 = r) : MetG l LX D ad cy yX10_isNumber cX10_isNumber 2 (some .boolean) 0 [.ref (ad 0), .int a1] σ (some (.int r)) σ := by
  refine MetG.of hJ (by decide +kernel) [(0, .ref (ad 0)), (1, .int a1)] rfl (Nat.le_of_ble_eq_true rfl) ?_
  intro K e1 e2 e3 e4 e5 C R
  subst e1
  subst e2
  subst e3
  subst e4
  unfold X10_isNumber at h0
  refine x_iload_n C 1 dX10_isNumber_0 rfl ?_
  refine x_iconst (v := 1) C dX10_isNumber_1 rfl ?_
  refine x_icmplt C 15 dX10_isNumber_2 (by decide) (fun c2 => ?_) (fun c2 => ?_)
  · replace h0 := ob_pos c2 h0
    refine x_iconst (v := 0) C dX10_isNumber_15 rfl ?_
    subst h0
    exact x_zret C (Or.inl rfl) R dX10_isNumber_16
  · replace h0 := ob_neg c2 h0
    refine x_iload_n C 1 dX10_isNumber_5 rfl ?_
    refine x_bipush (v := 12) C dX10_isNumber_6 rfl ?_
    refine x_icmpgt C 15 dX10_isNumber_8 (by decide) (fun c4 => ?_) (fun c4 => ?_)
    · replace h0 := ob_pos c4 h0
      refine x_iconst (v := 0) C dX10_isNumber_15 rfl ?_
      subst h0
      exact x_zret C (Or.inl rfl) R dX10_isNumber_16
    · replace h0 := ob_neg c4 h0
      refine x_iconst (v := 1) C dX10_isNumber_11 rfl ?_
      refine x_goto C 16 dX10_isNumber_12 (by decide) ?_
      subst h0
      exact x_zret C (Or.inr rfl) R dX10_isNumber_16
set_option maxHeartbeats 4000000 in
set_option maxRecDepth 100000 in
theorem c_X10_doCall {l : Launch} {D : va_G} {ad : Nat → Nat} {cy : Nat → ClassId} (hJ : mJ LX ad) {σ τ : mS} {a1 : Int32} {r : Int32}  (h0 : X10_doCall σ a1 = some (r, τ)) : MetG l LX D ad cy yX10_doCall cX10_doCall 2 (some .int) 2 [.ref (ad 0), .int a1] σ (some (.int r)) τ := by
  refine MetG.of hJ (by decide +kernel) [(0, .ref (ad 0)), (1, .int a1)] rfl (Nat.le_of_ble_eq_true rfl) ?_
  intro K e1 e2 e3 e4 e5 C R
  subst e1
  subst e2
  subst e3
  subst e4
  unfold X10_doCall at h0
  refine x_aload_n C 0 dX10_doCall_0 rfl ?_
  refine x_getR (j := 7) (i := 52) (q := (RX10, TX10, 18)) C (160 + 3) (iX 0 (by decide)) rfl rfl inBX10 (by decide) tw242 rfl dX10_doCall_1 ?_
  refine x_iload_n C 1 dX10_doCall_4 rfl ?_
  obtain ⟨r1, s3, g2, h0⟩ := ob_bd h0
  refine x_callV (ar := 1) (q := (RX1, TX1, 2)) (rest := []) C (c_X1_add C.2.2.2.2.2.2.1 (by decide) g2) (iX20 (by decide)) (lX20 (by decide)) rfl hy_X1_add ⟨tw503, tw504, tw505, tw73, tw506⟩ (by decide) (by decide) rfl rfl (Nat.le_of_ble_eq_true rfl) dX10_doCall_5 ?_
  show Wx LX K s3 8 [(0, .ref (kad K 0)), (1, .int a1)] []
  refine x_aload_n C 0 dX10_doCall_8 rfl ?_
  refine x_getR (j := 6) (i := 45) (q := (RX10, TX10, 18)) C (144 + 5) (iX 0 (by decide)) rfl rfl inBX10 (by decide) tw241 rfl dX10_doCall_9 ?_
  refine x_iload_n C 1 dX10_doCall_12 rfl ?_
  refine x_bipush (v := 15) C dX10_doCall_13 rfl ?_
  obtain ⟨r4, s6, g5, h0⟩ := ob_bd h0
  refine x_callV (ar := 2) (q := (RX2, TX2, 6)) (rest := []) C (c_X2_ring C.2.2.2.2.2.2.1 (by decide) g5) (iX18 (by decide)) (lX18 (by decide)) rfl hy_X2_ring ⟨tw507, tw508, tw509, tw72, tw510⟩ (by decide) (by decide) rfl rfl (Nat.le_of_ble_eq_true rfl) dX10_doCall_15 ?_
  show Wx LX K s6 18 [(0, .ref (kad K 0)), (1, .int a1)] [.int r4]
  cases h0
  exact x_iret C R dX10_doCall_18
set_option maxHeartbeats 4000000 in
set_option maxRecDepth 100000 in
theorem c_X10_call {l : Launch} {D : va_G} {ad : Nat → Nat} {cy : Nat → ClassId} (hJ : mJ LX ad) {σ τ : mS} {a1 : Int32} {r : Int32}  (h0 : X10_call σ a1 = some (r, τ)) : MetG l LX D ad cy yX10_call cX10_call 2 (some .int) 3 [.ref (ad 0), .int a1] σ (some (.int r)) τ := by
  refine MetG.of hJ (by decide +kernel) [(0, .ref (ad 0)), (1, .int a1)] rfl (Nat.le_of_ble_eq_true rfl) ?_
  intro K e1 e2 e3 e4 e5 C R
  subst e1
  subst e2
  subst e3
  subst e4
  unfold X10_call at h0
  refine x_aload_n C 0 dX10_call_0 rfl ?_
  refine x_iload_n C 1 dX10_call_1 rfl ?_
  refine x_callV (ar := 1) (q := (RX10, TX10, 18)) (rest := []) C (c_X10_isNumber C.2.2.2.2.2.2.1  rfl) (iX 0 (by decide)) rfl rfl hy_X10_isNumber ⟨tw491, tw493, tw11, tw63, tw494⟩ (by decide) (by decide) rfl rfl (Nat.le_of_ble_eq_true rfl) dX10_call_2 ?_
  show Wx LX K σ 5 [(0, .ref (kad K 0)), (1, .int a1)] [.int (X10_isNumber a1)]
  refine x_ifne C 10 dX10_call_5 (by decide) (fun c3 => ?_) (fun c3 => ?_)
  · replace h0 := ob_neg c3 h0
    refine x_aload_n C 0 dX10_call_10 rfl ?_
    refine x_getR (j := 5) (i := 36) (q := (RX10, TX10, 18)) C 88 (iX 0 (by decide)) rfl rfl inBX10 (by decide) tw240 rfl dX10_call_11 ?_
    refine x_getIN (j := 4) (i := 135) (q := (RX7, TX7, 5)) (host := "CalledNumbers") C (iX 88 (by decide)) rfl rfl inBX7 (by decide) twN173 rfl dX10_call_14 ?_
    refine x_ifeq C 31 dX10_call_17 (by decide) (fun c5 => ?_) (fun c5 => ?_)
    · replace h0 := ob_pos c5 h0
      refine x_bipush (v := (-4)) C dX10_call_31 rfl ?_
      cases h0
      exact x_iret C R dX10_call_33
    · replace h0 := ob_neg c5 h0
      refine x_aload_n C 0 dX10_call_20 rfl ?_
      refine x_getR (j := 6) (i := 45) (q := (RX10, TX10, 18)) C (144 + 5) (iX 0 (by decide)) rfl rfl inBX10 (by decide) tw241 rfl dX10_call_21 ?_
      refine x_iload_n C 1 dX10_call_24 rfl ?_
      refine x_callV (ar := 1) (q := (RX2, TX2, 6)) (rest := []) C (c_X2_holds C.2.2.2.2.2.2.1 (by decide) rfl) (iX18 (by decide)) (lX18 (by decide)) rfl hy_X2_holds ⟨tw495, tw496, tw497, tw72, tw498⟩ (by decide) (by decide) rfl rfl (Nat.le_of_ble_eq_true rfl) dX10_call_25 ?_
      show Wx LX K σ 28 [(0, .ref (kad K 0)), (1, .int a1)] [.int (X2_holds σ 5 a1)]
      refine x_ifne C 34 dX10_call_28 (by decide) (fun c8 => ?_) (fun c8 => ?_)
      · replace h0 := ob_neg c8 h0
        refine x_aload_n C 0 dX10_call_34 rfl ?_
        refine x_getR (j := 7) (i := 52) (q := (RX10, TX10, 18)) C (160 + 3) (iX 0 (by decide)) rfl rfl inBX10 (by decide) tw242 rfl dX10_call_35 ?_
        refine x_getIN (j := 1) (i := 83) (q := (RX1, TX1, 2)) (host := "CalledNumbers") C (iX20 (by decide)) (lX20 (by decide)) rfl inBX1 (by decide) twN223 rfl dX10_call_38 ?_
        refine x_bipush (v := 40) C dX10_call_41 rfl ?_
        refine x_icmplt C 49 dX10_call_43 (by decide) (fun c10 => ?_) (fun c10 => ?_)
        · replace h0 := ob_pos c10 h0
          refine x_aload_n C 0 dX10_call_49 rfl ?_
          refine x_iload_n C 1 dX10_call_50 rfl ?_
          obtain ⟨r11, s13, g12, h0⟩ := ob_bd h0
          refine x_callV (ar := 1) (q := (RX10, TX10, 18)) (rest := []) C (c_X10_doCall C.2.2.2.2.2.2.1  g12) (iX 0 (by decide)) rfl rfl hy_X10_doCall ⟨tw499, tw501, tw12, tw63, tw502⟩ (by decide) (by decide) rfl rfl (Nat.le_of_ble_eq_true rfl) dX10_call_51 ?_
          show Wx LX K s13 54 [(0, .ref (kad K 0)), (1, .int a1)] [.int r11]
          cases h0
          exact x_iret C R dX10_call_54
        · replace h0 := ob_neg c10 h0
          refine x_bipush (v := (-2)) C dX10_call_46 rfl ?_
          cases h0
          exact x_iret C R dX10_call_48
      · replace h0 := ob_pos c8 h0
        refine x_bipush (v := (-4)) C dX10_call_31 rfl ?_
        cases h0
        exact x_iret C R dX10_call_33
  · replace h0 := ob_pos c3 h0
    refine x_iconst (v := (-1)) C dX10_call_8 rfl ?_
    cases h0
    exact x_iret C R dX10_call_9
set_option maxHeartbeats 4000000 in
set_option maxRecDepth 100000 in
theorem c_X10_doRub {l : Launch} {D : va_G} {ad : Nat → Nat} {cy : Nat → ClassId} (hJ : mJ LX ad) {σ τ : mS} {a1 : Int32} {a2 : Int32} {r : Unit}  (h0 : X10_doRub σ a1 a2 = some (r, τ)) : MetG l LX D ad cy yX10_doRub cX10_doRub 3 none 1 [.ref (ad 0), .int a1, .int a2] σ (none) τ := by
  refine MetG.of hJ (by decide +kernel) [(0, .ref (ad 0)), (1, .int a1), (2, .int a2)] rfl (Nat.le_of_ble_eq_true rfl) ?_
  intro K e1 e2 e3 e4 e5 C R
  subst e1
  subst e2
  subst e3
  subst e4
  unfold X10_doRub at h0
  refine x_aload_n C 0 dX10_doRub_0 rfl ?_
  refine x_getR (j := 7) (i := 52) (q := (RX10, TX10, 18)) C (160 + 3) (iX 0 (by decide)) rfl rfl inBX10 (by decide) tw242 rfl dX10_doRub_1 ?_
  refine x_bipush (v := 16) C dX10_doRub_4 rfl ?_
  refine x_iload_n C 1 dX10_doRub_6 rfl ?_
  refine x_bipush (v := 6) C dX10_doRub_7 rfl ?_
  refine x_imul C dX10_doRub_9 ?_
  refine x_iadd C dX10_doRub_10 ?_
  refine x_iload_n C 2 dX10_doRub_11 rfl ?_
  refine x_iadd C dX10_doRub_12 ?_
  obtain ⟨r1, s3, g2, h0⟩ := ob_bd h0
  refine x_callV (ar := 1) (q := (RX1, TX1, 2)) (rest := []) C (c_X1_add C.2.2.2.2.2.2.1 (by decide) g2) (iX20 (by decide)) (lX20 (by decide)) rfl hy_X1_add ⟨tw503, tw504, tw505, tw73, tw506⟩ (by decide) (by decide) rfl rfl (Nat.le_of_ble_eq_true rfl) dX10_doRub_13 ?_
  show Wx LX K s3 16 [(0, .ref (kad K 0)), (1, .int a1), (2, .int a2)] []
  refine x_aload_n C 0 dX10_doRub_16 rfl ?_
  refine x_getR (j := 6) (i := 45) (q := (RX10, TX10, 18)) C (144 + 5) (iX 0 (by decide)) rfl rfl inBX10 (by decide) tw241 rfl dX10_doRub_17 ?_
  refine x_iload_n C 1 dX10_doRub_20 rfl ?_
  refine x_iload_n C 2 dX10_doRub_21 rfl ?_
  obtain ⟨r4, s6, g5, h0⟩ := ob_bd h0
  refine x_callV (ar := 2) (q := (RX2, TX2, 6)) (rest := []) C (c_X2_turn C.2.2.2.2.2.2.1 (by decide) g5) (iX18 (by decide)) (lX18 (by decide)) rfl hy_X2_turn ⟨tw542, tw543, tw544, tw72, tw545⟩ (by decide) (by decide) rfl rfl (Nat.le_of_ble_eq_true rfl) dX10_doRub_22 ?_
  show Wx LX K s6 25 [(0, .ref (kad K 0)), (1, .int a1), (2, .int a2)] []
  cases h0
  exact x_vret C R dX10_doRub_25
set_option maxHeartbeats 4000000 in
set_option maxRecDepth 100000 in
theorem c_X10_rub {l : Launch} {D : va_G} {ad : Nat → Nat} {cy : Nat → ClassId} (hJ : mJ LX ad) {σ τ : mS} {a1 : Int32} {a2 : Int32} {r : Int32}  (h0 : X10_rub σ a1 a2 = some (r, τ)) : MetG l LX D ad cy yX10_rub cX10_rub 3 (some .int) 2 [.ref (ad 0), .int a1, .int a2] σ (some (.int r)) τ := by
  refine MetG.of hJ (by decide +kernel) [(0, .ref (ad 0)), (1, .int a1), (2, .int a2)] rfl (Nat.le_of_ble_eq_true rfl) ?_
  intro K e1 e2 e3 e4 e5 C R
  subst e1
  subst e2
  subst e3
  subst e4
  unfold X10_rub at h0
  refine x_aload_n C 0 dX10_rub_0 rfl ?_
  refine x_iload_n C 1 dX10_rub_1 rfl ?_
  refine x_callV (ar := 1) (q := (RX10, TX10, 18)) (rest := []) C (c_X10_isPlayer C.2.2.2.2.2.2.1  rfl) (iX 0 (by decide)) rfl rfl hy_X10_isPlayer ⟨tw390, tw392, tw8, tw63, tw393⟩ (by decide) (by decide) rfl rfl (Nat.le_of_ble_eq_true rfl) dX10_rub_2 ?_
  show Wx LX K σ 5 [(0, .ref (kad K 0)), (1, .int a1), (2, .int a2)] [.int (X10_isPlayer σ a1)]
  refine x_ifeq C 16 dX10_rub_5 (by decide) (fun c3 => ?_) (fun c3 => ?_)
  · replace h0 := ob_pos c3 h0
    refine x_iconst (v := (-1)) C dX10_rub_16 rfl ?_
    cases h0
    exact x_iret C R dX10_rub_17
  · replace h0 := ob_neg c3 h0
    refine x_aload_n C 0 dX10_rub_8 rfl ?_
    refine x_iload_n C 2 dX10_rub_9 rfl ?_
    refine x_callV (ar := 1) (q := (RX10, TX10, 18)) (rest := []) C (c_X10_isPlace C.2.2.2.2.2.2.1  rfl) (iX 0 (by decide)) rfl rfl hy_X10_isPlace ⟨tw456, tw458, tw10, tw63, tw459⟩ (by decide) (by decide) rfl rfl (Nat.le_of_ble_eq_true rfl) dX10_rub_10 ?_
    show Wx LX K σ 13 [(0, .ref (kad K 0)), (1, .int a1), (2, .int a2)] [.int (X10_isPlace a2)]
    refine x_ifne C 18 dX10_rub_13 (by decide) (fun c6 => ?_) (fun c6 => ?_)
    · replace h0 := ob_neg c6 h0
      refine x_aload_n C 0 dX10_rub_18 rfl ?_
      refine x_getR (j := 7) (i := 52) (q := (RX10, TX10, 18)) C (160 + 3) (iX 0 (by decide)) rfl rfl inBX10 (by decide) tw242 rfl dX10_rub_19 ?_
      refine x_getIN (j := 1) (i := 83) (q := (RX1, TX1, 2)) (host := "CalledNumbers") C (iX20 (by decide)) (lX20 (by decide)) rfl inBX1 (by decide) twN223 rfl dX10_rub_22 ?_
      refine x_bipush (v := 40) C dX10_rub_25 rfl ?_
      refine x_icmplt C 33 dX10_rub_27 (by decide) (fun c8 => ?_) (fun c8 => ?_)
      · replace h0 := ob_pos c8 h0
        refine x_aload_n C 0 dX10_rub_33 rfl ?_
        refine x_iload_n C 1 dX10_rub_34 rfl ?_
        refine x_iload_n C 2 dX10_rub_35 rfl ?_
        obtain ⟨r9, s11, g10, h0⟩ := ob_bd h0
        refine x_callV (ar := 2) (q := (RX10, TX10, 18)) (rest := []) C (c_X10_doRub C.2.2.2.2.2.2.1  g10) (iX 0 (by decide)) rfl rfl hy_X10_doRub ⟨tw538, tw540, tw13, tw63, tw541⟩ (by decide) (by decide) rfl rfl (Nat.le_of_ble_eq_true rfl) dX10_rub_36 ?_
        show Wx LX K s11 39 [(0, .ref (kad K 0)), (1, .int a1), (2, .int a2)] []
        refine x_aload_n C 0 dX10_rub_39 rfl ?_
        refine x_getR (j := 6) (i := 45) (q := (RX10, TX10, 18)) C (144 + 5) (iX 0 (by decide)) rfl rfl inBX10 (by decide) tw241 rfl dX10_rub_40 ?_
        refine x_getRN (j := 1) (i := 156) (q := (RX2, TX2, 6)) (host := "CalledNumbers") C (152 + 5) (iX18 (by decide)) (lX18 (by decide)) rfl inBX2 (by decide) twN193 rfl dX10_rub_43 ?_
        refine x_iload_n C 1 dX10_rub_46 rfl ?_
        obtain ⟨c12, h0⟩ := ob_if h0
        refine x_iald C (iX19 (by decide)) (lX19 (by decide)) (vin_in c12) dX10_rub_47 ?_
        cases h0
        exact x_iret C R dX10_rub_48
      · replace h0 := ob_neg c8 h0
        refine x_bipush (v := (-2)) C dX10_rub_30 rfl ?_
        cases h0
        exact x_iret C R dX10_rub_32
    · replace h0 := ob_pos c6 h0
      refine x_iconst (v := (-1)) C dX10_rub_16 rfl ?_
      cases h0
      exact x_iret C R dX10_rub_17
set_option maxHeartbeats 4000000 in
set_option maxRecDepth 100000 in
theorem c_X10_doAgain {l : Launch} {D : va_G} {ad : Nat → Nat} {cy : Nat → ClassId} (hJ : mJ LX ad) {σ τ : mS}  {r : Unit}  (h0 : X10_doAgain σ = some (r, τ)) : MetG l LX D ad cy yX10_doAgain cX10_doAgain 3 none 2 [.ref (ad 0)] σ (none) τ := by
  refine MetG.of hJ (by decide +kernel) [(0, .ref (ad 0))] rfl (Nat.le_of_ble_eq_true rfl) ?_
  intro K e1 e2 e3 e4 e5 C R
  subst e1
  subst e2
  subst e3
  subst e4
  unfold X10_doAgain at h0
  refine x_aload_n C 0 dX10_doAgain_0 rfl ?_
  refine x_getR (j := 6) (i := 45) (q := (RX10, TX10, 18)) C (144 + 5) (iX 0 (by decide)) rfl rfl inBX10 (by decide) tw241 rfl dX10_doAgain_1 ?_
  obtain ⟨r1, s3, g2, h0⟩ := ob_bd h0
  refine x_callV (ar := 0) (q := (RX2, TX2, 6)) (rest := []) C (c_X2_begin C.2.2.2.2.2.2.1 (by decide) g2) (iX18 (by decide)) (lX18 (by decide)) rfl hy_X2_begin ⟨tw381, tw382, tw383, tw72, tw384⟩ (by decide) (by decide) rfl rfl (Nat.le_of_ble_eq_true rfl) dX10_doAgain_4 ?_
  show Wx LX K s3 7 [(0, .ref (kad K 0))] []
  refine x_iconst (v := 0) C dX10_doAgain_7 rfl ?_
  refine x_istore_n (lv' := [(1, .int 0), (0, .ref (kad K 0))]) C dX10_doAgain_8 (by rw [e5]; decide) rfl ?_
  obtain ⟨e18, g19, h0⟩ := ob_bind h0
  have J1 : ∀ (s6 : mS), s6 = e18 → Wx LX K s6 77 [] [] := by
    intro s6 e9
    subst e9
    replace h0 := un1_l h0
    cases h0
    exact x_vret C R dX10_doAgain_77
  refine lp_G (G := fun q : mS × Int32 => Wx LX K q.1 9 [(1, .int q.2), (0, .ref (kad K 0))] []) (fun q x h1 ihL1 ihR1 => ?_) big _ g19
  obtain ⟨s4, x5⟩ := q
  replace h1 : X10_doAgain_b9 s4 x5 = some x := h1
  unfold X10_doAgain_b9 at h1
  show Wx LX K s4 9 [(1, .int x5), (0, .ref (kad K 0))] []
  refine x_iload_n C 0 dX10_doAgain_9 rfl ?_
  refine x_aload_n C 1 dX10_doAgain_10 rfl ?_
  refine x_getR (j := 7) (i := 52) (q := (RX10, TX10, 18)) C (160 + 3) (iX 0 (by decide)) rfl rfl inBX10 (by decide) tw242 rfl dX10_doAgain_11 ?_
  refine x_getIN (j := 1) (i := 83) (q := (RX1, TX1, 2)) (host := "CalledNumbers") C (iX20 (by decide)) (lX20 (by decide)) rfl inBX1 (by decide) twN223 rfl dX10_doAgain_14 ?_
  refine x_icmpge C 77 dX10_doAgain_17 (by decide) (fun c8 => ?_) (fun c8 => ?_)
  · replace h1 := ob_pos c8 h1
    refine x_lv (lv' := []) [] rfl ?_
    exact J1 _ (ihR1 _ (Option.some.inj h1).symm)
  · replace h1 := ob_neg c8 h1
    refine x_aload_n C 1 dX10_doAgain_20 rfl ?_
    refine x_getR (j := 7) (i := 52) (q := (RX10, TX10, 18)) C (160 + 3) (iX 0 (by decide)) rfl rfl inBX10 (by decide) tw242 rfl dX10_doAgain_21 ?_
    refine x_getRN (j := 0) (i := 321) (q := (RX1, TX1, 2)) (host := "CalledNumbers") C (168 + 3) (iX20 (by decide)) (lX20 (by decide)) rfl inBX1 (by decide) twN222 rfl dX10_doAgain_24 ?_
    refine x_iload_n C 0 dX10_doAgain_27 rfl ?_
    obtain ⟨c9, h1⟩ := ob_if h1
    refine x_iald C (iX21 (by decide)) (lX21 (by decide)) (vin_in c9) dX10_doAgain_28 ?_
    refine x_istore_n (lv' := [(2, .int (s4.1 (168 + 3) x5.toNatClampNeg)), (1, .int x5), (0, .ref (kad K 0))]) C dX10_doAgain_29 (by rw [e5]; decide) rfl ?_
    refine x_iload_n C 0 dX10_doAgain_30 rfl ?_
    refine x_bipush (v := 16) C dX10_doAgain_31 rfl ?_
    refine x_icmpge C 50 dX10_doAgain_33 (by decide) (fun c11 => ?_) (fun c11 => ?_)
    · replace h1 := ob_pos c11 h1
      refine x_aload_n C 2 dX10_doAgain_50 rfl ?_
      refine x_getR (j := 6) (i := 45) (q := (RX10, TX10, 18)) C (144 + 5) (iX 0 (by decide)) rfl rfl inBX10 (by decide) tw241 rfl dX10_doAgain_51 ?_
      refine x_iload_n C 0 dX10_doAgain_54 rfl ?_
      refine x_bipush (v := 16) C dX10_doAgain_55 rfl ?_
      refine x_isub C dX10_doAgain_57 ?_
      refine x_bipush (v := 6) C dX10_doAgain_58 rfl ?_
      refine x_idiv C dX10_doAgain_60 (by decide) ?_
      refine x_iload_n C 0 dX10_doAgain_61 rfl ?_
      refine x_bipush (v := 16) C dX10_doAgain_62 rfl ?_
      refine x_isub C dX10_doAgain_64 ?_
      refine x_bipush (v := 6) C dX10_doAgain_65 rfl ?_
      refine x_irem C dX10_doAgain_67 (by decide) ?_
      obtain ⟨r12, s14, g13, h1⟩ := ob_bd h1
      refine x_callV (ar := 2) (q := (RX2, TX2, 6)) (rest := []) C (c_X2_turn C.2.2.2.2.2.2.1 (by decide) g13) (iX18 (by decide)) (lX18 (by decide)) rfl hy_X2_turn ⟨tw542, tw543, tw544, tw72, tw545⟩ (by decide) (by decide) rfl rfl (Nat.le_of_ble_eq_true rfl) dX10_doAgain_68 ?_
      show Wx LX K s14 71 [(2, .int (s4.1 (168 + 3) x5.toNatClampNeg)), (1, .int x5), (0, .ref (kad K 0))] []
      refine x_iinc (v := (x5 + 1)) (lv' := [(1, .int (x5 + 1)), (2, .int (s4.1 (168 + 3) x5.toNatClampNeg)), (0, .ref (kad K 0))]) C 1 dX10_doAgain_71 rfl rfl (by rw [e5]; decide) rfl ?_
      refine x_goto C 9 dX10_doAgain_74 (by decide) ?_
      refine x_lv (lv' := [(1, .int (x5 + 1)), (0, .ref (kad K 0))]) [0, 2] rfl ?_
      exact ihL1 _ (Option.some.inj h1).symm
    · replace h1 := ob_neg c11 h1
      refine x_aload_n C 2 dX10_doAgain_36 rfl ?_
      refine x_getR (j := 6) (i := 45) (q := (RX10, TX10, 18)) C (144 + 5) (iX 0 (by decide)) rfl rfl inBX10 (by decide) tw241 rfl dX10_doAgain_37 ?_
      refine x_iload_n C 0 dX10_doAgain_40 rfl ?_
      refine x_bipush (v := 15) C dX10_doAgain_41 rfl ?_
      obtain ⟨r15, s17, g16, h1⟩ := ob_bd h1
      refine x_callV (ar := 2) (q := (RX2, TX2, 6)) (rest := []) C (c_X2_ring C.2.2.2.2.2.2.1 (by decide) g16) (iX18 (by decide)) (lX18 (by decide)) rfl hy_X2_ring ⟨tw507, tw508, tw509, tw72, tw510⟩ (by decide) (by decide) rfl rfl (Nat.le_of_ble_eq_true rfl) dX10_doAgain_43 ?_
      show Wx LX K s17 46 [(2, .int (s4.1 (168 + 3) x5.toNatClampNeg)), (1, .int x5), (0, .ref (kad K 0))] [.int r15]
      refine x_pop C dX10_doAgain_46 rfl ?_
      refine x_goto C 71 dX10_doAgain_47 (by decide) ?_
      refine x_iinc (v := (x5 + 1)) (lv' := [(1, .int (x5 + 1)), (2, .int (s4.1 (168 + 3) x5.toNatClampNeg)), (0, .ref (kad K 0))]) C 1 dX10_doAgain_71 rfl rfl (by rw [e5]; decide) rfl ?_
      refine x_goto C 9 dX10_doAgain_74 (by decide) ?_
      refine x_lv (lv' := [(1, .int (x5 + 1)), (0, .ref (kad K 0))]) [0, 2] rfl ?_
      exact ihL1 _ (Option.some.inj h1).symm
set_option maxHeartbeats 4000000 in
set_option maxRecDepth 100000 in
theorem c_X10_undo {l : Launch} {D : va_G} {ad : Nat → Nat} {cy : Nat → ClassId} (hJ : mJ LX ad) {σ τ : mS} {a1 : Int32} {r : Int32}  (h0 : X10_undo σ a1 = some (r, τ)) : MetG l LX D ad cy yX10_undo cX10_undo 3 (some .int) 3 [.ref (ad 0), .int a1] σ (some (.int r)) τ := by
  refine MetG.of hJ (by decide +kernel) [(0, .ref (ad 0)), (1, .int a1)] rfl (Nat.le_of_ble_eq_true rfl) ?_
  intro K e1 e2 e3 e4 e5 C R
  subst e1
  subst e2
  subst e3
  subst e4
  unfold X10_undo at h0
  refine x_iload_n C 1 dX10_undo_0 rfl ?_
  refine x_iflt C 15 dX10_undo_1 (by decide) (fun c2 => ?_) (fun c2 => ?_)
  · replace h0 := ob_pos c2 h0
    refine x_iconst (v := (-1)) C dX10_undo_15 rfl ?_
    cases h0
    exact x_iret C R dX10_undo_16
  · replace h0 := ob_neg c2 h0
    refine x_iload_n C 1 dX10_undo_4 rfl ?_
    refine x_aload_n C 0 dX10_undo_5 rfl ?_
    refine x_getR (j := 7) (i := 52) (q := (RX10, TX10, 18)) C (160 + 3) (iX 0 (by decide)) rfl rfl inBX10 (by decide) tw242 rfl dX10_undo_6 ?_
    refine x_getIN (j := 1) (i := 83) (q := (RX1, TX1, 2)) (host := "CalledNumbers") C (iX20 (by decide)) (lX20 (by decide)) rfl inBX1 (by decide) twN223 rfl dX10_undo_9 ?_
    refine x_icmple C 17 dX10_undo_12 (by decide) (fun c4 => ?_) (fun c4 => ?_)
    · replace h0 := ob_pos c4 h0
      refine x_aload_n C 0 dX10_undo_17 rfl ?_
      refine x_getR (j := 7) (i := 52) (q := (RX10, TX10, 18)) C (160 + 3) (iX 0 (by decide)) rfl rfl inBX10 (by decide) tw242 rfl dX10_undo_18 ?_
      refine x_getIN (j := 1) (i := 83) (q := (RX1, TX1, 2)) (host := "CalledNumbers") C (iX20 (by decide)) (lX20 (by decide)) rfl inBX1 (by decide) twN223 rfl dX10_undo_21 ?_
      refine x_iload_n C 1 dX10_undo_24 rfl ?_
      refine x_isub C dX10_undo_25 ?_
      refine x_istore_n (lv' := [(2, .int ((σ.1 (160 + 3) 1) - a1)), (0, .ref (kad K 0)), (1, .int a1)]) C dX10_undo_26 (by rw [e5]; decide) rfl ?_
      refine x_aload_n C 1 dX10_undo_27 rfl ?_
      refine x_getR (j := 7) (i := 52) (q := (RX10, TX10, 18)) C (160 + 3) (iX 0 (by decide)) rfl rfl inBX10 (by decide) tw242 rfl dX10_undo_28 ?_
      refine x_iload_n C 2 dX10_undo_31 rfl ?_
      refine x_putIN (j := 1) (i := 83) (q := (RX1, TX1, 2)) (host := "CalledNumbers") C tyX1 tyX1_ok nmX1 (iX20 (by decide)) (lX20 (by decide)) rfl inBX1 (by decide) twN223 rfl (by decide +kernel) rfl dX10_undo_32 ?_
      refine x_aload_n C 1 dX10_undo_35 rfl ?_
      obtain ⟨r5, s7, g6, h0⟩ := ob_bd h0
      refine x_callV (ar := 0) (q := (RX10, TX10, 18)) (rest := []) C (c_X10_doAgain C.2.2.2.2.2.2.1  g6) (iX 0 (by decide)) rfl rfl hy_X10_doAgain ⟨tw550, tw552, tw14, tw63, tw553⟩ (by decide) (by decide) rfl rfl (Nat.le_of_ble_eq_true rfl) dX10_undo_36 ?_
      show Wx LX K s7 39 [(2, .int ((σ.1 (160 + 3) 1) - a1)), (0, .ref (kad K 0)), (1, .int a1)] []
      refine x_iload_n C 0 dX10_undo_39 rfl ?_
      cases h0
      exact x_iret C R dX10_undo_40
    · replace h0 := ob_neg c4 h0
      refine x_iconst (v := (-1)) C dX10_undo_15 rfl ?_
      cases h0
      exact x_iret C R dX10_undo_16
set_option maxHeartbeats 4000000 in
set_option maxRecDepth 100000 in
theorem c_X10_isKeptPlace {l : Launch} {D : va_G} {ad : Nat → Nat} {cy : Nat → ClassId} (hJ : mJ LX ad) {σ : mS} {a1 : Int32} {r : Int32}  (h0 : X10_isKeptPlace a1 = r) : MetG l LX D ad cy yX10_isKeptPlace cX10_isKeptPlace 2 (some .boolean) 0 [.ref (ad 0), .int a1] σ (some (.int r)) σ := by
  refine MetG.of hJ (by decide +kernel) [(0, .ref (ad 0)), (1, .int a1)] rfl (Nat.le_of_ble_eq_true rfl) ?_
  intro K e1 e2 e3 e4 e5 C R
  subst e1
  subst e2
  subst e3
  subst e4
  unfold X10_isKeptPlace at h0
  refine x_iload_n C 1 dX10_isKeptPlace_0 rfl ?_
  refine x_iflt C 13 dX10_isKeptPlace_1 (by decide) (fun c2 => ?_) (fun c2 => ?_)
  · replace h0 := ob_pos c2 h0
    refine x_iconst (v := 0) C dX10_isKeptPlace_13 rfl ?_
    subst h0
    exact x_zret C (Or.inl rfl) R dX10_isKeptPlace_14
  · replace h0 := ob_neg c2 h0
    refine x_iload_n C 1 dX10_isKeptPlace_4 rfl ?_
    refine x_iconst (v := 3) C dX10_isKeptPlace_5 rfl ?_
    refine x_icmpge C 13 dX10_isKeptPlace_6 (by decide) (fun c4 => ?_) (fun c4 => ?_)
    · replace h0 := ob_pos c4 h0
      refine x_iconst (v := 0) C dX10_isKeptPlace_13 rfl ?_
      subst h0
      exact x_zret C (Or.inl rfl) R dX10_isKeptPlace_14
    · replace h0 := ob_neg c4 h0
      refine x_iconst (v := 1) C dX10_isKeptPlace_9 rfl ?_
      refine x_goto C 14 dX10_isKeptPlace_10 (by decide) ?_
      subst h0
      exact x_zret C (Or.inr rfl) R dX10_isKeptPlace_14
set_option maxHeartbeats 4000000 in
set_option maxRecDepth 100000 in
theorem c_X10_keep {l : Launch} {D : va_G} {ad : Nat → Nat} {cy : Nat → ClassId} (hJ : mJ LX ad) {σ τ : mS} {a1 : Int32} {r : Int32}  (h0 : X10_keep σ a1 = some (r, τ)) : MetG l LX D ad cy yX10_keep cX10_keep 2 (some .int) 1 [.ref (ad 0), .int a1] σ (some (.int r)) τ := by
  refine MetG.of hJ (by decide +kernel) [(0, .ref (ad 0)), (1, .int a1)] rfl (Nat.le_of_ble_eq_true rfl) ?_
  intro K e1 e2 e3 e4 e5 C R
  subst e1
  subst e2
  subst e3
  subst e4
  unfold X10_keep at h0
  refine x_aload_n C 0 dX10_keep_0 rfl ?_
  refine x_iload_n C 1 dX10_keep_1 rfl ?_
  refine x_callV (ar := 1) (q := (RX10, TX10, 18)) (rest := []) C (c_X10_isKeptPlace C.2.2.2.2.2.2.1  rfl) (iX 0 (by decide)) rfl rfl hy_X10_isKeptPlace ⟨tw558, tw560, tw15, tw63, tw561⟩ (by decide) (by decide) rfl rfl (Nat.le_of_ble_eq_true rfl) dX10_keep_2 ?_
  show Wx LX K σ 5 [(0, .ref (kad K 0)), (1, .int a1)] [.int (X10_isKeptPlace a1)]
  refine x_ifne C 10 dX10_keep_5 (by decide) (fun c3 => ?_) (fun c3 => ?_)
  · replace h0 := ob_neg c3 h0
    refine x_aload_n C 0 dX10_keep_10 rfl ?_
    refine x_getR (j := 5) (i := 36) (q := (RX10, TX10, 18)) C 88 (iX 0 (by decide)) rfl rfl inBX10 (by decide) tw240 rfl dX10_keep_11 ?_
    refine x_getIN (j := 4) (i := 135) (q := (RX7, TX7, 5)) (host := "CalledNumbers") C (iX 88 (by decide)) rfl rfl inBX7 (by decide) twN173 rfl dX10_keep_14 ?_
    refine x_ifne C 23 dX10_keep_17 (by decide) (fun c5 => ?_) (fun c5 => ?_)
    · replace h0 := ob_neg c5 h0
      refine x_aload_n C 0 dX10_keep_23 rfl ?_
      refine x_getR (j := 8) (i := 56) (q := (RX10, TX10, 18)) C 176 (iX 0 (by decide)) rfl rfl inBX10 (by decide) tw243 rfl dX10_keep_24 ?_
      refine x_iload_n C 1 dX10_keep_27 rfl ?_
      obtain ⟨c6, h0⟩ := ob_if h0
      refine x_aald C (iX 176 (by decide)) rfl rfl rfl (vin_in c6) dX10_keep_28 ?_
      refine x_aload_n C 0 dX10_keep_29 rfl ?_
      refine x_getR (j := 7) (i := 52) (q := (RX10, TX10, 18)) C (160 + 3) (iX 0 (by decide)) rfl rfl inBX10 (by decide) tw242 rfl dX10_keep_30 ?_
      obtain ⟨r7, s9, g8, h0⟩ := ob_bd h0
      refine x_callV (ar := 1) (q := (RX1, TX1, 2)) (rest := []) C (c_X1_take C.2.2.2.2.2.2.1 (Nat.lt_of_lt_of_le (vin_lt c6) (by decide)) (by decide) g8) (iX20 (Nat.lt_of_lt_of_le (vin_lt c6) (by decide))) (lX20 (Nat.lt_of_lt_of_le (vin_lt c6) (by decide))) rfl hy_X1_take ⟨tw562, tw563, tw564, tw73, tw565⟩ (by decide) (by decide) rfl rfl (Nat.le_of_ble_eq_true rfl) dX10_keep_33 ?_
      show Wx LX K s9 36 [(0, .ref (kad K 0)), (1, .int a1)] []
      refine x_aload_n C 0 dX10_keep_36 rfl ?_
      refine x_getR (j := 7) (i := 52) (q := (RX10, TX10, 18)) C (160 + 3) (iX 0 (by decide)) rfl rfl inBX10 (by decide) tw242 rfl dX10_keep_37 ?_
      refine x_getIN (j := 1) (i := 83) (q := (RX1, TX1, 2)) (host := "CalledNumbers") C (iX20 (by decide)) (lX20 (by decide)) rfl inBX1 (by decide) twN223 rfl dX10_keep_40 ?_
      cases h0
      exact x_iret C R dX10_keep_43
    · replace h0 := ob_pos c5 h0
      refine x_bipush (v := (-4)) C dX10_keep_20 rfl ?_
      cases h0
      exact x_iret C R dX10_keep_22
  · replace h0 := ob_pos c3 h0
    refine x_iconst (v := (-1)) C dX10_keep_8 rfl ?_
    cases h0
    exact x_iret C R dX10_keep_9
set_option maxHeartbeats 4000000 in
set_option maxRecDepth 100000 in
theorem c_X10_on {l : Launch} {D : va_G} {ad : Nat → Nat} {cy : Nat → ClassId} (hJ : mJ LX ad) {σ τ : mS} {a1 : Int32} {r : Int32}  (h0 : X10_on σ a1 = some (r, τ)) : MetG l LX D ad cy yX10_on cX10_on 2 (some .int) 3 [.ref (ad 0), .int a1] σ (some (.int r)) τ := by
  refine MetG.of hJ (by decide +kernel) [(0, .ref (ad 0)), (1, .int a1)] rfl (Nat.le_of_ble_eq_true rfl) ?_
  intro K e1 e2 e3 e4 e5 C R
  subst e1
  subst e2
  subst e3
  subst e4
  unfold X10_on at h0
  refine x_aload_n C 0 dX10_on_0 rfl ?_
  refine x_iload_n C 1 dX10_on_1 rfl ?_
  refine x_callV (ar := 1) (q := (RX10, TX10, 18)) (rest := []) C (c_X10_isKeptPlace C.2.2.2.2.2.2.1  rfl) (iX 0 (by decide)) rfl rfl hy_X10_isKeptPlace ⟨tw558, tw560, tw15, tw63, tw561⟩ (by decide) (by decide) rfl rfl (Nat.le_of_ble_eq_true rfl) dX10_on_2 ?_
  show Wx LX K σ 5 [(0, .ref (kad K 0)), (1, .int a1)] [.int (X10_isKeptPlace a1)]
  refine x_ifne C 10 dX10_on_5 (by decide) (fun c3 => ?_) (fun c3 => ?_)
  · replace h0 := ob_neg c3 h0
    refine x_aload_n C 0 dX10_on_10 rfl ?_
    refine x_getR (j := 8) (i := 56) (q := (RX10, TX10, 18)) C 176 (iX 0 (by decide)) rfl rfl inBX10 (by decide) tw243 rfl dX10_on_11 ?_
    refine x_iload_n C 1 dX10_on_14 rfl ?_
    obtain ⟨c4, h0⟩ := ob_if h0
    refine x_aald C (iX 176 (by decide)) rfl rfl rfl (vin_in c4) dX10_on_15 ?_
    refine x_getIN (j := 1) (i := 83) (q := (RX1, TX1, 2)) (host := "CalledNumbers") C (iX20 (Nat.lt_of_lt_of_le (vin_lt c4) (by decide))) (lX20 (Nat.lt_of_lt_of_le (vin_lt c4) (by decide))) rfl inBX1 (by decide) twN223 rfl dX10_on_16 ?_
    refine x_ifge C 28 dX10_on_19 (by decide) (fun c6 => ?_) (fun c6 => ?_)
    · replace h0 := ob_pos c6 h0
      refine x_aload_n C 0 dX10_on_28 rfl ?_
      refine x_getR (j := 7) (i := 52) (q := (RX10, TX10, 18)) C (160 + 3) (iX 0 (by decide)) rfl rfl inBX10 (by decide) tw242 rfl dX10_on_29 ?_
      refine x_aload_n C 0 dX10_on_32 rfl ?_
      refine x_getR (j := 8) (i := 56) (q := (RX10, TX10, 18)) C 176 (iX 0 (by decide)) rfl rfl inBX10 (by decide) tw243 rfl dX10_on_33 ?_
      refine x_iload_n C 1 dX10_on_36 rfl ?_
      obtain ⟨c7, h0⟩ := ob_if h0
      refine x_aald C (iX 176 (by decide)) rfl rfl rfl (vin_in c7) dX10_on_37 ?_
      obtain ⟨r8, s10, g9, h0⟩ := ob_bd h0
      refine x_callV (ar := 1) (q := (RX1, TX1, 2)) (rest := []) C (c_X1_take C.2.2.2.2.2.2.1 (by decide) (Nat.lt_of_lt_of_le (vin_lt c7) (by decide)) g9) (iX20 (by decide)) (lX20 (by decide)) rfl hy_X1_take ⟨tw562, tw563, tw564, tw73, tw565⟩ (by decide) (by decide) rfl rfl (Nat.le_of_ble_eq_true rfl) dX10_on_38 ?_
      show Wx LX K s10 41 [(0, .ref (kad K 0)), (1, .int a1)] []
      refine x_aload_n C 0 dX10_on_41 rfl ?_
      obtain ⟨r11, s13, g12, h0⟩ := ob_bd h0
      refine x_callV (ar := 0) (q := (RX10, TX10, 18)) (rest := []) C (c_X10_doAgain C.2.2.2.2.2.2.1  g12) (iX 0 (by decide)) rfl rfl hy_X10_doAgain ⟨tw550, tw552, tw14, tw63, tw553⟩ (by decide) (by decide) rfl rfl (Nat.le_of_ble_eq_true rfl) dX10_on_42 ?_
      show Wx LX K s13 45 [(0, .ref (kad K 0)), (1, .int a1)] []
      refine x_aload_n C 0 dX10_on_45 rfl ?_
      refine x_getR (j := 7) (i := 52) (q := (RX10, TX10, 18)) C (160 + 3) (iX 0 (by decide)) rfl rfl inBX10 (by decide) tw242 rfl dX10_on_46 ?_
      refine x_getIN (j := 1) (i := 83) (q := (RX1, TX1, 2)) (host := "CalledNumbers") C (iX20 (by decide)) (lX20 (by decide)) rfl inBX1 (by decide) twN223 rfl dX10_on_49 ?_
      cases h0
      exact x_iret C R dX10_on_52
    · replace h0 := ob_neg c6 h0
      refine x_aload_n C 0 dX10_on_22 rfl ?_
      refine x_iconst (v := 1) C dX10_on_23 rfl ?_
      obtain ⟨r14, s16, g15, h0⟩ := ob_bd h0
      refine x_callV (ar := 1) (q := (RX10, TX10, 18)) (rest := []) C (c_X10_found C.2.2.2.2.2.2.1  g15) (iX 0 (by decide)) rfl rfl hy_X10_found ⟨tw298, tw300, tw1, tw63, tw301⟩ (by decide) (by decide) rfl rfl (Nat.le_of_ble_eq_true rfl) dX10_on_24 ?_
      show Wx LX K s16 27 [(0, .ref (kad K 0)), (1, .int a1)] [.int r14]
      cases h0
      exact x_iret C R dX10_on_27
  · replace h0 := ob_pos c3 h0
    refine x_iconst (v := (-1)) C dX10_on_8 rfl ?_
    cases h0
    exact x_iret C R dX10_on_9
set_option maxHeartbeats 4000000 in
set_option maxRecDepth 100000 in
theorem c_X10_hears {l : Launch} {D : va_G} {ad : Nat → Nat} {cy : Nat → ClassId} (hJ : mJ LX ad) {σ : mS} {a1 : Int32} {a2 : Int32} {a3 : Int32} {a4 : Int32} {r : Int32}  (h0 : X10_hears σ a1 a2 a3 a4 = some r) : MetG l LX D ad cy yX10_hears cX10_hears 5 (some .int) 1 [.ref (ad 0), .int a1, .int a2, .int a3, .int a4] σ (some (.int r)) σ := by
  refine MetG.of hJ (by decide +kernel) [(0, .ref (ad 0)), (1, .int a1), (2, .int a2), (3, .int a3), (4, .int a4)] rfl (Nat.le_of_ble_eq_true rfl) ?_
  intro K e1 e2 e3 e4 e5 C R
  subst e1
  subst e2
  subst e3
  subst e4
  unfold X10_hears at h0
  refine x_aload_n C 0 dX10_hears_0 rfl ?_
  refine x_iload_n C 1 dX10_hears_1 rfl ?_
  refine x_callV (ar := 1) (q := (RX10, TX10, 18)) (rest := []) C (c_X10_isPlayer C.2.2.2.2.2.2.1  rfl) (iX 0 (by decide)) rfl rfl hy_X10_isPlayer ⟨tw390, tw392, tw8, tw63, tw393⟩ (by decide) (by decide) rfl rfl (Nat.le_of_ble_eq_true rfl) dX10_hears_2 ?_
  show Wx LX K σ 5 [(0, .ref (kad K 0)), (1, .int a1), (2, .int a2), (3, .int a3), (4, .int a4)] [.int (X10_isPlayer σ a1)]
  refine x_ifeq C 26 dX10_hears_5 (by decide) (fun c3 => ?_) (fun c3 => ?_)
  · replace h0 := ob_pos c3 h0
    refine x_iconst (v := (-1)) C dX10_hears_26 rfl ?_
    cases h0
    exact x_iret C R dX10_hears_27
  · replace h0 := ob_neg c3 h0
    refine x_aload_n C 0 dX10_hears_8 rfl ?_
    refine x_iload_n C 2 dX10_hears_9 rfl ?_
    refine x_callV (ar := 1) (q := (RX10, TX10, 18)) (rest := []) C (c_X10_isNumber C.2.2.2.2.2.2.1  rfl) (iX 0 (by decide)) rfl rfl hy_X10_isNumber ⟨tw491, tw493, tw11, tw63, tw494⟩ (by decide) (by decide) rfl rfl (Nat.le_of_ble_eq_true rfl) dX10_hears_10 ?_
    show Wx LX K σ 13 [(0, .ref (kad K 0)), (1, .int a1), (2, .int a2), (3, .int a3), (4, .int a4)] [.int (X10_isNumber a2)]
    refine x_ifeq C 26 dX10_hears_13 (by decide) (fun c6 => ?_) (fun c6 => ?_)
    · replace h0 := ob_pos c6 h0
      refine x_iconst (v := (-1)) C dX10_hears_26 rfl ?_
      cases h0
      exact x_iret C R dX10_hears_27
    · replace h0 := ob_neg c6 h0
      refine x_iload_n C 3 dX10_hears_16 rfl ?_
      refine x_iflt C 26 dX10_hears_17 (by decide) (fun c8 => ?_) (fun c8 => ?_)
      · replace h0 := ob_pos c8 h0
        refine x_iconst (v := (-1)) C dX10_hears_26 rfl ?_
        cases h0
        exact x_iret C R dX10_hears_27
      · replace h0 := ob_neg c8 h0
        refine x_iload_n C 3 dX10_hears_20 rfl ?_
        refine x_bipush (v := 12) C dX10_hears_21 rfl ?_
        refine x_icmple C 28 dX10_hears_23 (by decide) (fun c10 => ?_) (fun c10 => ?_)
        · replace h0 := ob_pos c10 h0
          refine x_iload_n C 3 dX10_hears_28 rfl ?_
          refine x_iload_n C 2 dX10_hears_29 rfl ?_
          refine x_icmpeq C 45 dX10_hears_30 (by decide) (fun c12 => ?_) (fun c12 => ?_)
          · replace h0 := ob_pos c12 h0
            refine x_iconst (v := (-1)) C dX10_hears_45 rfl ?_
            cases h0
            exact x_iret C R dX10_hears_46
          · replace h0 := ob_neg c12 h0
            refine x_iload C 4 dX10_hears_33 rfl ?_
            refine x_iflt C 45 dX10_hears_35 (by decide) (fun c14 => ?_) (fun c14 => ?_)
            · replace h0 := ob_pos c14 h0
              refine x_iconst (v := (-1)) C dX10_hears_45 rfl ?_
              cases h0
              exact x_iret C R dX10_hears_46
            · replace h0 := ob_neg c14 h0
              refine x_iload C 4 dX10_hears_38 rfl ?_
              refine x_bipush (v := 99) C dX10_hears_40 rfl ?_
              refine x_icmple C 47 dX10_hears_42 (by decide) (fun c16 => ?_) (fun c16 => ?_)
              · replace h0 := ob_pos c16 h0
                refine x_aload_n C 0 dX10_hears_47 rfl ?_
                refine x_getR (j := 5) (i := 36) (q := (RX10, TX10, 18)) C 88 (iX 0 (by decide)) rfl rfl inBX10 (by decide) tw240 rfl dX10_hears_48 ?_
                refine x_iload_n C 1 dX10_hears_51 rfl ?_
                obtain ⟨r17, g18, h0⟩ := ob_bind h0
                refine x_callV (ar := 1) (q := (RX7, TX7, 5)) (rest := []) C (c_X7_kindAt C.2.2.2.2.2.2.1  g18) (iX 88 (by decide)) rfl rfl hy_X7_kindAt ⟨tw398, tw399, tw400, tw65, tw401⟩ (by decide) (by decide) rfl rfl (Nat.le_of_ble_eq_true rfl) dX10_hears_52 ?_
                show Wx LX K σ 55 [(0, .ref (kad K 0)), (1, .int a1), (2, .int a2), (3, .int a3), (4, .int a4)] [.ref (kad K (104 + r17))]
                refine x_iload_n C 2 dX10_hears_55 rfl ?_
                refine x_iload_n C 3 dX10_hears_56 rfl ?_
                refine x_iload C 4 dX10_hears_57 rfl ?_
                cases h0
              · replace h0 := ob_neg c16 h0
                refine x_iconst (v := (-1)) C dX10_hears_45 rfl ?_
                cases h0
                exact x_iret C R dX10_hears_46
        · replace h0 := ob_neg c10 h0
          refine x_iconst (v := (-1)) C dX10_hears_26 rfl ?_
          cases h0
          exact x_iret C R dX10_hears_27
set_option maxHeartbeats 4000000 in
set_option maxRecDepth 100000 in
theorem c_X10_run {l : Launch} {D : va_G} {ad : Nat → Nat} {cy : Nat → ClassId} (hJ : mJ LX ad) {σ τ : mS} {a1 : Int32} {r : Int32}  (h0 : X10_run σ a1 = some (r, τ)) : MetG l LX D ad cy yX10_run cX10_run 6 (some .int) 2 [.ref (ad 0), .int a1] σ (some (.int r)) τ := by
  refine MetG.of hJ (by decide +kernel) [(0, .ref (ad 0)), (1, .int a1)] rfl (Nat.le_of_ble_eq_true rfl) ?_
  intro K e1 e2 e3 e4 e5 C R
  subst e1
  subst e2
  subst e3
  subst e4
  unfold X10_run at h0
  refine x_aload_n C 0 dX10_run_0 rfl ?_
  refine x_getR (j := 5) (i := 36) (q := (RX10, TX10, 18)) C 88 (iX 0 (by decide)) rfl rfl inBX10 (by decide) tw240 rfl dX10_run_1 ?_
  refine x_getIN (j := 4) (i := 135) (q := (RX7, TX7, 5)) (host := "CalledNumbers") C (iX 88 (by decide)) rfl rfl inBX7 (by decide) twN173 rfl dX10_run_4 ?_
  refine x_ifne C 13 dX10_run_7 (by decide) (fun c2 => ?_) (fun c2 => ?_)
  · replace h0 := ob_neg c2 h0
    refine x_aload_n C 0 dX10_run_13 rfl ?_
    refine x_iload_n C 1 dX10_run_14 rfl ?_
    obtain ⟨r3, s5, g4, h0⟩ := ob_bd h0
    refine x_callV (ar := 1) (q := (RX10, TX10, 18)) (rest := []) C (c_X10_refusedRow C.2.2.2.2.2.2.1  g4) (iX 0 (by decide)) rfl rfl hy_X10_refusedRow ⟨tw310, tw312, tw3, tw63, tw313⟩ (by decide) (by decide) rfl rfl (Nat.le_of_ble_eq_true rfl) dX10_run_15 ?_
    show Wx LX K s5 18 [(0, .ref (kad K 0)), (1, .int a1)] [.int r3]
    refine x_istore_n (lv' := [(2, .int r3), (0, .ref (kad K 0)), (1, .int a1)]) C dX10_run_18 (by rw [e5]; decide) rfl ?_
    refine x_iload_n C 0 dX10_run_19 rfl ?_
    refine x_ifeq C 25 dX10_run_20 (by decide) (fun c7 => ?_) (fun c7 => ?_)
    · replace h0 := ob_pos c7 h0
      refine x_aload_n C 1 dX10_run_25 rfl ?_
      refine x_getR (j := 1) (i := 14) (q := (RX10, TX10, 18)) C 24 (iX 0 (by decide)) rfl rfl inBX10 (by decide) tw236 rfl dX10_run_26 ?_
      refine x_iload_n C 2 dX10_run_29 rfl ?_
      obtain ⟨c8, h0⟩ := ob_if h0
      refine x_iald C (iX 24 (by decide)) rfl (vin_in c8) dX10_run_30 ?_
      refine x_istore_n (lv' := [(3, .int (s5.1 24 a1.toNatClampNeg)), (2, .int r3), (0, .ref (kad K 0)), (1, .int a1)]) C dX10_run_31 (by rw [e5]; decide) rfl ?_
      refine x_iload_n C 0 dX10_run_32 rfl ?_
      refine x_bipush (v := 12) C dX10_run_33 rfl ?_
      refine x_icmple C 44 dX10_run_35 (by decide) (fun c10 => ?_) (fun c10 => ?_)
      · replace h0 := ob_pos c10 h0
        refine x_iconst (v := 0) C dX10_run_44 rfl ?_
        refine x_istore (lv' := [(4, .int 0), (3, .int (s5.1 24 a1.toNatClampNeg)), (2, .int r3), (0, .ref (kad K 0)), (1, .int a1)]) C dX10_run_45 (by rw [e5]; decide) rfl ?_
        obtain ⟨e44, g45, h0⟩ := ob_bind h0
        have J1 : ∀ (u9 : Unit), .inl u9 = e44 → Wx LX K s5 81 [(3, .int (s5.1 24 a1.toNatClampNeg)), (0, .ref (kad K 0)), (1, .int a1)] [] := by
          intro u9 e9
          subst e9
          replace h0 := sm1_l h0
          refine x_aload_n C 1 dX10_run_81 rfl ?_
          refine x_getR (j := 9) (i := 60) (q := (RX10, TX10, 18)) C 184 (iX 0 (by decide)) rfl rfl inBX10 (by decide) tw244 rfl dX10_run_82 ?_
          refine x_iconst (v := 0) C dX10_run_85 rfl ?_
          obtain ⟨c12, h0⟩ := ob_if h0
          refine x_aald C (iX 184 (by decide)) rfl rfl rfl (vin_in c12) dX10_run_86 ?_
          refine x_astore (lv' := [(4, .ref (kad K (144 + (0 : Int32).toNatClampNeg))), (3, .int (s5.1 24 a1.toNatClampNeg)), (0, .ref (kad K 0)), (1, .int a1)]) C dX10_run_87 (by rw [e5]; decide) rfl ?_
          refine x_aload C 0 dX10_run_89 rfl ?_
          refine x_aload_n C 2 dX10_run_91 rfl ?_
          refine x_getR (j := 6) (i := 45) (q := (RX10, TX10, 18)) C (144 + 5) (iX 0 (by decide)) rfl rfl inBX10 (by decide) tw241 rfl dX10_run_92 ?_
          obtain ⟨r13, s15, g14, h0⟩ := ob_bd h0
          refine x_callV (ar := 1) (q := (RX2, TX2, 6)) (rest := []) C (c_X2_take C.2.2.2.2.2.2.1 (Nat.lt_of_lt_of_le (vin_lt c12) (by decide)) (by decide) g14) (iX18 (Nat.lt_of_lt_of_le (vin_lt c12) (by decide))) (lX18 (Nat.lt_of_lt_of_le (vin_lt c12) (by decide))) rfl hy_X2_take ⟨tw579, tw580, tw581, tw72, tw582⟩ (by decide) (by decide) rfl rfl (Nat.le_of_ble_eq_true rfl) dX10_run_95 ?_
          show Wx LX K s15 98 [(4, .ref (kad K (144 + (0 : Int32).toNatClampNeg))), (3, .int (s5.1 24 a1.toNatClampNeg)), (0, .ref (kad K 0)), (1, .int a1)] []
          refine x_iconst (v := 0) C dX10_run_98 rfl ?_
          refine x_istore (lv' := [(5, .int 0), (4, .ref (kad K (144 + (0 : Int32).toNatClampNeg))), (3, .int (s5.1 24 a1.toNatClampNeg)), (0, .ref (kad K 0)), (1, .int a1)]) C dX10_run_99 (by rw [e5]; decide) rfl ?_
          obtain ⟨e32, g33, h0⟩ := ob_bind h0
          have J2 : ∀ (s18 : mS) (y19 : Int32), (s18, y19) = e32 → Wx LX K s18 147 [(5, .int y19), (4, .ref (kad K (144 + (0 : Int32).toNatClampNeg))), (0, .ref (kad K 0))] [] := by
            intro s18 y19 e9
            subst e9
            replace h0 := un2_l h0
            refine x_aload_n C 2 dX10_run_147 rfl ?_
            refine x_iload C 0 dX10_run_148 rfl ?_
            refine x_putI (j := 13) (i := 99) (q := (RX10, TX10, 18)) C tyX10 tyX10_ok nmX10 (iX 0 (by decide)) rfl rfl inBX10 (by decide) tw248 rfl (by decide +kernel) rfl dX10_run_150 ?_
            refine x_aload C 1 dX10_run_153 rfl ?_
            refine x_getIN (j := 2) (i := 223) (q := (RX2, TX2, 6)) (host := "CalledNumbers") C (iX18 (Nat.lt_of_lt_of_le (vin_lt c12) (by decide))) (lX18 (Nat.lt_of_lt_of_le (vin_lt c12) (by decide))) rfl inBX2 (by decide) twN195 rfl dX10_run_155 ?_
            cases h0
            exact x_iret C R dX10_run_158
          refine lp_G (G := fun q : mS × Int32 => Wx LX K q.1 101 [(5, .int q.2), (4, .ref (kad K (144 + (0 : Int32).toNatClampNeg))), (3, .int (s5.1 24 a1.toNatClampNeg)), (0, .ref (kad K 0)), (1, .int a1)] []) (fun q x h2 ihL2 ihR2 => ?_) big _ g33
          obtain ⟨s16, x17⟩ := q
          replace h2 : X10_run_b101 a1 s5 s16 x17 = some x := h2
          unfold X10_run_b101 at h2
          show Wx LX K s16 101 [(5, .int x17), (4, .ref (kad K (144 + (0 : Int32).toNatClampNeg))), (3, .int (s5.1 24 a1.toNatClampNeg)), (0, .ref (kad K 0)), (1, .int a1)] []
          refine x_iload C 0 dX10_run_101 rfl ?_
          refine x_iload_n C 2 dX10_run_103 rfl ?_
          refine x_icmpge C 147 dX10_run_104 (by decide) (fun c21 => ?_) (fun c21 => ?_)
          · replace h2 := ob_pos c21 h2
            refine x_lv (lv' := [(5, .int x17), (4, .ref (kad K (144 + (0 : Int32).toNatClampNeg))), (0, .ref (kad K 0))]) [0, 1, 3] rfl ?_
            exact J2 _ _ (ihR2 _ (Option.some.inj h2).symm)
          · replace h2 := ob_neg c21 h2
            refine x_aload C 1 dX10_run_107 rfl ?_
            refine x_aload_n C 3 dX10_run_109 rfl ?_
            refine x_getR (j := 0) (i := 11) (q := (RX10, TX10, 18)) C 8 (iX 0 (by decide)) rfl rfl inBX10 (by decide) tw235 rfl dX10_run_110 ?_
            refine x_iload_n C 4 dX10_run_113 rfl ?_
            obtain ⟨c22, h2⟩ := ob_if h2
            refine x_aald C (iX 8 (by decide)) rfl rfl rfl (vin_in c22) dX10_run_114 ?_
            refine x_iload C 0 dX10_run_115 rfl ?_
            obtain ⟨c23, h2⟩ := ob_if h2
            refine x_iald C (iX2 (vin_lt c22)) (lX2 (vin_lt c22)) (vin_in c23) dX10_run_117 ?_
            refine x_callV (ar := 1) (q := (RX2, TX2, 6)) (rest := []) C (c_X2_holds C.2.2.2.2.2.2.1 (Nat.lt_of_lt_of_le (vin_lt c12) (by decide)) rfl) (iX18 (Nat.lt_of_lt_of_le (vin_lt c12) (by decide))) (lX18 (Nat.lt_of_lt_of_le (vin_lt c12) (by decide))) rfl hy_X2_holds ⟨tw495, tw496, tw497, tw72, tw498⟩ (by decide) (by decide) rfl rfl (Nat.le_of_ble_eq_true rfl) dX10_run_118 ?_
            show Wx LX K s16 121 [(5, .int x17), (4, .ref (kad K (144 + (0 : Int32).toNatClampNeg))), (3, .int (s5.1 24 a1.toNatClampNeg)), (0, .ref (kad K 0)), (1, .int a1)] [.int (X2_holds s16 ((0 : Int32).toNatClampNeg) (s16.1 (16 + a1.toNatClampNeg) x17.toNatClampNeg))]
            refine x_ifeq C 147 dX10_run_121 (by decide) (fun c26 => ?_) (fun c26 => ?_)
            · replace h2 := ob_pos c26 h2
              refine x_lv (lv' := [(5, .int x17), (4, .ref (kad K (144 + (0 : Int32).toNatClampNeg))), (0, .ref (kad K 0))]) [0, 1, 3] rfl ?_
              exact J2 _ _ (ihR2 _ (Option.some.inj h2).symm)
            · replace h2 := ob_neg c26 h2
              refine x_aload C 1 dX10_run_124 rfl ?_
              refine x_aload_n C 3 dX10_run_126 rfl ?_
              refine x_getR (j := 0) (i := 11) (q := (RX10, TX10, 18)) C 8 (iX 0 (by decide)) rfl rfl inBX10 (by decide) tw235 rfl dX10_run_127 ?_
              refine x_iload_n C 4 dX10_run_130 rfl ?_
              obtain ⟨c27, h2⟩ := ob_if h2
              refine x_aald C (iX 8 (by decide)) rfl rfl rfl (vin_in c27) dX10_run_131 ?_
              refine x_iload C 0 dX10_run_132 rfl ?_
              obtain ⟨c28, h2⟩ := ob_if h2
              refine x_iald C (iX2 (vin_lt c27)) (lX2 (vin_lt c27)) (vin_in c28) dX10_run_134 ?_
              refine x_bipush (v := 15) C dX10_run_135 rfl ?_
              obtain ⟨r29, s31, g30, h2⟩ := ob_bd h2
              refine x_callV (ar := 2) (q := (RX2, TX2, 6)) (rest := []) C (c_X2_ring C.2.2.2.2.2.2.1 (Nat.lt_of_lt_of_le (vin_lt c12) (by decide)) g30) (iX18 (Nat.lt_of_lt_of_le (vin_lt c12) (by decide))) (lX18 (Nat.lt_of_lt_of_le (vin_lt c12) (by decide))) rfl hy_X2_ring ⟨tw507, tw508, tw509, tw72, tw510⟩ (by decide) (by decide) rfl rfl (Nat.le_of_ble_eq_true rfl) dX10_run_137 ?_
              show Wx LX K s31 140 [(5, .int x17), (4, .ref (kad K (144 + (0 : Int32).toNatClampNeg))), (3, .int (s5.1 24 a1.toNatClampNeg)), (0, .ref (kad K 0)), (1, .int a1)] [.int r29]
              refine x_pop C dX10_run_140 rfl ?_
              refine x_iinc (v := (x17 + 1)) (lv' := [(5, .int (x17 + 1)), (4, .ref (kad K (144 + (0 : Int32).toNatClampNeg))), (3, .int (s5.1 24 a1.toNatClampNeg)), (0, .ref (kad K 0)), (1, .int a1)]) C 0 dX10_run_141 rfl rfl (by rw [e5]; decide) rfl ?_
              refine x_goto C 101 dX10_run_144 (by decide) ?_
              refine x_lv (lv' := [(5, .int (x17 + 1)), (4, .ref (kad K (144 + (0 : Int32).toNatClampNeg))), (3, .int (s5.1 24 a1.toNatClampNeg)), (0, .ref (kad K 0)), (1, .int a1)]) [0, 1, 2, 3, 4] rfl ?_
              exact ihL2 _ (Option.some.inj h2).symm
        refine x_lv (lv' := [(4, .int 0), (3, .int (s5.1 24 a1.toNatClampNeg)), (0, .ref (kad K 0)), (1, .int a1)]) [0, 1, 3, 4] rfl ?_
        refine lp_G (G := fun q : Int32 => Wx LX K s5 47 [(4, .int q), (3, .int (s5.1 24 a1.toNatClampNeg)), (0, .ref (kad K 0)), (1, .int a1)] []) (fun q x h1 ihL1 ihR1 => ?_) big _ g45
        obtain ⟨x11, rfl⟩ : ∃ z, z = q := ⟨_, rfl⟩
        replace h1 : X10_run_b47 a1 s5 x11 = some x := h1
        unfold X10_run_b47 at h1
        show Wx LX K s5 47 [(4, .int x11), (3, .int (s5.1 24 a1.toNatClampNeg)), (0, .ref (kad K 0)), (1, .int a1)] []
        refine x_iload C 0 dX10_run_47 rfl ?_
        refine x_iload_n C 1 dX10_run_49 rfl ?_
        refine x_icmpge C 81 dX10_run_50 (by decide) (fun c35 => ?_) (fun c35 => ?_)
        · replace h1 := ob_pos c35 h1
          refine x_lv (lv' := [(3, .int (s5.1 24 a1.toNatClampNeg)), (0, .ref (kad K 0)), (1, .int a1)]) [1, 2, 3] rfl ?_
          exact J1 _ (ihR1 _ (Option.some.inj h1).symm)
        · replace h1 := ob_neg c35 h1
          refine x_aload_n C 2 dX10_run_53 rfl ?_
          refine x_aload_n C 2 dX10_run_54 rfl ?_
          refine x_getR (j := 0) (i := 11) (q := (RX10, TX10, 18)) C 8 (iX 0 (by decide)) rfl rfl inBX10 (by decide) tw235 rfl dX10_run_55 ?_
          refine x_iload_n C 3 dX10_run_58 rfl ?_
          obtain ⟨c36, h1⟩ := ob_if h1
          refine x_aald C (iX 8 (by decide)) rfl rfl rfl (vin_in c36) dX10_run_59 ?_
          refine x_iload C 0 dX10_run_60 rfl ?_
          obtain ⟨c37, h1⟩ := ob_if h1
          refine x_iald C (iX2 (vin_lt c36)) (lX2 (vin_lt c36)) (vin_in c37) dX10_run_62 ?_
          refine x_callV (ar := 1) (q := (RX10, TX10, 18)) (rest := []) C (c_X10_isNumber C.2.2.2.2.2.2.1  rfl) (iX 0 (by decide)) rfl rfl hy_X10_isNumber ⟨tw491, tw493, tw11, tw63, tw494⟩ (by decide) (by decide) rfl rfl (Nat.le_of_ble_eq_true rfl) dX10_run_63 ?_
          show Wx LX K s5 66 [(4, .int x11), (3, .int (s5.1 24 a1.toNatClampNeg)), (0, .ref (kad K 0)), (1, .int a1)] [.int (X10_isNumber (s5.1 (16 + a1.toNatClampNeg) x11.toNatClampNeg))]
          refine x_ifne C 75 dX10_run_66 (by decide) (fun c40 => ?_) (fun c40 => ?_)
          · replace h1 := ob_neg c40 h1
            refine x_iinc (v := (x11 + 1)) (lv' := [(4, .int (x11 + 1)), (3, .int (s5.1 24 a1.toNatClampNeg)), (0, .ref (kad K 0)), (1, .int a1)]) C 0 dX10_run_75 rfl rfl (by rw [e5]; decide) rfl ?_
            refine x_goto C 47 dX10_run_78 (by decide) ?_
            refine x_lv (lv' := [(4, .int (x11 + 1)), (3, .int (s5.1 24 a1.toNatClampNeg)), (0, .ref (kad K 0)), (1, .int a1)]) [0, 1, 2, 3] rfl ?_
            exact ihL1 _ (Option.some.inj h1).symm
          · replace h1 := ob_pos c40 h1
            refine x_aload_n C 2 dX10_run_69 rfl ?_
            refine x_iconst (v := 3) C dX10_run_70 rfl ?_
            obtain ⟨r41, s43, g42, h1⟩ := ob_bd h1
            refine x_callV (ar := 1) (q := (RX10, TX10, 18)) (rest := []) C (c_X10_found C.2.2.2.2.2.2.1  g42) (iX 0 (by decide)) rfl rfl hy_X10_found ⟨tw298, tw300, tw1, tw63, tw301⟩ (by decide) (by decide) rfl rfl (Nat.le_of_ble_eq_true rfl) dX10_run_71 ?_
            show Wx LX K s43 74 [(4, .int x11), (3, .int (s5.1 24 a1.toNatClampNeg)), (0, .ref (kad K 0)), (1, .int a1)] [.int r41]
            have e19 := ihR1 _ (Option.some.inj h1).symm
            subst e19
            replace h0 := sm1_r h0
            cases h0
            exact x_iret C R dX10_run_74
      · replace h0 := ob_neg c10 h0
        refine x_aload_n C 2 dX10_run_38 rfl ?_
        refine x_iconst (v := 5) C dX10_run_39 rfl ?_
        obtain ⟨r46, s48, g47, h0⟩ := ob_bd h0
        refine x_callV (ar := 1) (q := (RX10, TX10, 18)) (rest := []) C (c_X10_found C.2.2.2.2.2.2.1  g47) (iX 0 (by decide)) rfl rfl hy_X10_found ⟨tw298, tw300, tw1, tw63, tw301⟩ (by decide) (by decide) rfl rfl (Nat.le_of_ble_eq_true rfl) dX10_run_40 ?_
        show Wx LX K s48 43 [(3, .int (s5.1 24 a1.toNatClampNeg)), (2, .int r3), (0, .ref (kad K 0)), (1, .int a1)] [.int r46]
        cases h0
        exact x_iret C R dX10_run_43
    · replace h0 := ob_neg c7 h0
      refine x_iload_n C 0 dX10_run_23 rfl ?_
      cases h0
      exact x_iret C R dX10_run_24
  · replace h0 := ob_pos c2 h0
    refine x_bipush (v := (-4)) C dX10_run_10 rfl ?_
    cases h0
    exact x_iret C R dX10_run_12
set_option maxHeartbeats 4000000 in
set_option maxRecDepth 100000 in
theorem c_X10_stepAhead {l : Launch} {D : va_G} {ad : Nat → Nat} {cy : Nat → ClassId} (hJ : mJ LX ad) {σ τ : mS} {a1 : Int32} {a2 : Int32} {a3 : Int32} {r : Int32}  (h0 : X10_stepAhead σ a1 a2 a3 = some (r, τ)) : MetG l LX D ad cy yX10_stepAhead cX10_stepAhead 4 (some .int) 2 [.ref (ad 0), .int a1, .int a2, .int a3] σ (some (.int r)) τ := by
  refine MetG.of hJ (by decide +kernel) [(0, .ref (ad 0)), (1, .int a1), (2, .int a2), (3, .int a3)] rfl (Nat.le_of_ble_eq_true rfl) ?_
  intro K e1 e2 e3 e4 e5 C R
  subst e1
  subst e2
  subst e3
  subst e4
  unfold X10_stepAhead at h0
  refine x_aload_n C 0 dX10_stepAhead_0 rfl ?_
  refine x_getR (j := 10) (i := 64) (q := (RX10, TX10, 18)) C 192 (iX 0 (by decide)) rfl rfl inBX10 (by decide) tw245 rfl dX10_stepAhead_1 ?_
  refine x_iload_n C 1 dX10_stepAhead_4 rfl ?_
  refine x_iload_n C 2 dX10_stepAhead_5 rfl ?_
  obtain ⟨c1, h0⟩ := ob_if h0
  refine x_iast C (iX 192 (by decide)) rfl (vin_in c1) dX10_stepAhead_6 ?_
  refine x_aload_n C 0 dX10_stepAhead_7 rfl ?_
  refine x_getR (j := 9) (i := 60) (q := (RX10, TX10, 18)) C 184 (iX 0 (by decide)) rfl rfl inBX10 (by decide) tw244 rfl dX10_stepAhead_8 ?_
  refine x_iload_n C 1 dX10_stepAhead_11 rfl ?_
  refine x_iconst (v := 1) C dX10_stepAhead_12 rfl ?_
  refine x_iadd C dX10_stepAhead_13 ?_
  obtain ⟨c2, h0⟩ := ob_if h0
  refine x_aald C (iX 184 (by decide)) rfl rfl rfl (vin_in c2) dX10_stepAhead_14 ?_
  refine x_aload_n C 0 dX10_stepAhead_15 rfl ?_
  refine x_getR (j := 9) (i := 60) (q := (RX10, TX10, 18)) C 184 (iX 0 (by decide)) rfl rfl inBX10 (by decide) tw244 rfl dX10_stepAhead_16 ?_
  refine x_iload_n C 1 dX10_stepAhead_19 rfl ?_
  obtain ⟨c3, h0⟩ := ob_if h0
  refine x_aald C (iX 184 (by decide)) rfl rfl rfl (vin_in c3) dX10_stepAhead_20 ?_
  obtain ⟨r4, s6, g5, h0⟩ := ob_bd h0
  refine x_callV (ar := 1) (q := (RX2, TX2, 6)) (rest := []) C (c_X2_take C.2.2.2.2.2.2.1 (Nat.lt_of_lt_of_le (vin_lt c2) (by decide)) (Nat.lt_of_lt_of_le (vin_lt c3) (by decide)) g5) (iX18 (Nat.lt_of_lt_of_le (vin_lt c2) (by decide))) (lX18 (Nat.lt_of_lt_of_le (vin_lt c2) (by decide))) rfl hy_X2_take ⟨tw579, tw580, tw581, tw72, tw582⟩ (by decide) (by decide) rfl rfl (Nat.le_of_ble_eq_true rfl) dX10_stepAhead_21 ?_
  show Wx LX K s6 24 [(0, .ref (kad K 0)), (1, .int a1), (2, .int a2), (3, .int a3)] []
  refine x_aload_n C 0 dX10_stepAhead_24 rfl ?_
  refine x_getR (j := 9) (i := 60) (q := (RX10, TX10, 18)) C 184 (iX 0 (by decide)) rfl rfl inBX10 (by decide) tw244 rfl dX10_stepAhead_25 ?_
  refine x_iload_n C 1 dX10_stepAhead_28 rfl ?_
  refine x_iconst (v := 1) C dX10_stepAhead_29 rfl ?_
  refine x_iadd C dX10_stepAhead_30 ?_
  obtain ⟨c7, h0⟩ := ob_if h0
  refine x_aald C (iX 184 (by decide)) rfl rfl rfl (vin_in c7) dX10_stepAhead_31 ?_
  refine x_iload_n C 2 dX10_stepAhead_32 rfl ?_
  refine x_iload_n C 3 dX10_stepAhead_33 rfl ?_
  obtain ⟨r8, s10, g9, h0⟩ := ob_bd h0
  refine x_callV (ar := 2) (q := (RX2, TX2, 6)) (rest := []) C (c_X2_ring C.2.2.2.2.2.2.1 (Nat.lt_of_lt_of_le (vin_lt c7) (by decide)) g9) (iX18 (Nat.lt_of_lt_of_le (vin_lt c7) (by decide))) (lX18 (Nat.lt_of_lt_of_le (vin_lt c7) (by decide))) rfl hy_X2_ring ⟨tw507, tw508, tw509, tw72, tw510⟩ (by decide) (by decide) rfl rfl (Nat.le_of_ble_eq_true rfl) dX10_stepAhead_34 ?_
  show Wx LX K s10 37 [(0, .ref (kad K 0)), (1, .int a1), (2, .int a2), (3, .int a3)] [.int r8]
  cases h0
  exact x_iret C R dX10_stepAhead_37
set_option maxHeartbeats 4000000 in
set_option maxRecDepth 100000 in
theorem c_X10_safe {l : Launch} {D : va_G} {ad : Nat → Nat} {cy : Nat → ClassId} (hJ : mJ LX ad) {σ τ : mS}  {r : Int32}  (h0 : X10_safe σ = some (r, τ)) : MetG l LX D ad cy yX10_safe cX10_safe 6 (some .int) 3 [.ref (ad 0)] σ (some (.int r)) τ := by
  refine MetG.of hJ (by decide +kernel) [(0, .ref (ad 0))] rfl (Nat.le_of_ble_eq_true rfl) ?_
  intro K e1 e2 e3 e4 e5 C R
  subst e1
  subst e2
  subst e3
  subst e4
  unfold X10_safe at h0
  refine x_aload_n C 0 dX10_safe_0 rfl ?_
  refine x_getR (j := 5) (i := 36) (q := (RX10, TX10, 18)) C 88 (iX 0 (by decide)) rfl rfl inBX10 (by decide) tw240 rfl dX10_safe_1 ?_
  refine x_getIN (j := 4) (i := 135) (q := (RX7, TX7, 5)) (host := "CalledNumbers") C (iX 88 (by decide)) rfl rfl inBX7 (by decide) twN173 rfl dX10_safe_4 ?_
  refine x_ifne C 13 dX10_safe_7 (by decide) (fun c2 => ?_) (fun c2 => ?_)
  · replace h0 := ob_neg c2 h0
    refine x_iconst (v := 0) C dX10_safe_13 rfl ?_
    refine x_istore_n (lv' := [(1, .int 0), (0, .ref (kad K 0))]) C dX10_safe_14 (by rw [e5]; decide) rfl ?_
    refine x_iconst (v := 0) C dX10_safe_15 rfl ?_
    refine x_istore_n (lv' := [(2, .int 0), (1, .int 0), (0, .ref (kad K 0))]) C dX10_safe_16 (by rw [e5]; decide) rfl ?_
    refine x_iconst (v := 0) C dX10_safe_17 rfl ?_
    refine x_istore_n (lv' := [(3, .int 0), (2, .int 0), (1, .int 0), (0, .ref (kad K 0))]) C dX10_safe_18 (by rw [e5]; decide) rfl ?_
    refine x_aload_n C 3 dX10_safe_19 rfl ?_
    refine x_getR (j := 9) (i := 60) (q := (RX10, TX10, 18)) C 184 (iX 0 (by decide)) rfl rfl inBX10 (by decide) tw244 rfl dX10_safe_20 ?_
    refine x_iconst (v := 0) C dX10_safe_23 rfl ?_
    obtain ⟨c3, h0⟩ := ob_if h0
    refine x_aald C (iX 184 (by decide)) rfl rfl rfl (vin_in c3) dX10_safe_24 ?_
    refine x_aload_n C 3 dX10_safe_25 rfl ?_
    refine x_getR (j := 6) (i := 45) (q := (RX10, TX10, 18)) C (144 + 5) (iX 0 (by decide)) rfl rfl inBX10 (by decide) tw241 rfl dX10_safe_26 ?_
    obtain ⟨r4, s6, g5, h0⟩ := ob_bd h0
    refine x_callV (ar := 1) (q := (RX2, TX2, 6)) (rest := []) C (c_X2_take C.2.2.2.2.2.2.1 (Nat.lt_of_lt_of_le (vin_lt c3) (by decide)) (by decide) g5) (iX18 (Nat.lt_of_lt_of_le (vin_lt c3) (by decide))) (lX18 (Nat.lt_of_lt_of_le (vin_lt c3) (by decide))) rfl hy_X2_take ⟨tw579, tw580, tw581, tw72, tw582⟩ (by decide) (by decide) rfl rfl (Nat.le_of_ble_eq_true rfl) dX10_safe_29 ?_
    show Wx LX K s6 32 [(3, .int 0), (2, .int 0), (1, .int 0), (0, .ref (kad K 0))] []
    refine x_iconst (v := 1) C dX10_safe_32 rfl ?_
    refine x_istore (lv' := [(4, .int 1), (3, .int 0), (2, .int 0), (1, .int 0), (0, .ref (kad K 0))]) C dX10_safe_33 (by rw [e5]; decide) rfl ?_
    obtain ⟨e41, g42, h0⟩ := ob_bind h0
    have J1 : ∀ (s12 : mS) (y13 : Int32) (y14 : Int32), (s12, y13, y14) = e41 → Wx LX K s12 110 [(3, .int y14), (1, .int y13), (0, .ref (kad K 0))] [] := by
      intro s12 y13 y14 e9
      subst e9
      replace h0 := un3_l h0
      refine x_aload_n C 2 dX10_safe_110 rfl ?_
      refine x_iload_n C 0 dX10_safe_111 rfl ?_
      refine x_putI (j := 13) (i := 99) (q := (RX10, TX10, 18)) C tyX10 tyX10_ok nmX10 (iX 0 (by decide)) rfl rfl inBX10 (by decide) tw248 rfl (by decide +kernel) rfl dX10_safe_112 ?_
      refine x_iload_n C 1 dX10_safe_115 rfl ?_
      cases h0
      exact x_iret C R dX10_safe_116
    refine lp_G (G := fun q : mS × Int32 × Int32 × Int32 × Int32 => Wx LX K q.1 35 [(4, .int q.2.2.2.2), (3, .int q.2.2.2.1), (2, .int q.2.2.1), (1, .int q.2.1), (0, .ref (kad K 0))] []) (fun q x h1 ihL1 ihR1 => ?_) big _ g42
    obtain ⟨s7, x8, x9, x10, x11⟩ := q
    replace h1 : X10_safe_b35 s7 x8 x9 x10 x11 = some x := h1
    unfold X10_safe_b35 at h1
    show Wx LX K s7 35 [(4, .int x11), (3, .int x10), (2, .int x9), (1, .int x8), (0, .ref (kad K 0))] []
    refine x_iload C 0 dX10_safe_35 rfl ?_
    refine x_bipush (v := 12) C dX10_safe_37 rfl ?_
    refine x_icmpgt C 110 dX10_safe_39 (by decide) (fun c16 => ?_) (fun c16 => ?_)
    · replace h1 := ob_pos c16 h1
      refine x_lv (lv' := [(3, .int x10), (1, .int x8), (0, .ref (kad K 0))]) [1, 3, 4] rfl ?_
      exact J1 _ _ _ (ihR1 _ (Option.some.inj h1).symm)
    · replace h1 := ob_neg c16 h1
      refine x_aload_n C 4 dX10_safe_42 rfl ?_
      refine x_getR (j := 6) (i := 45) (q := (RX10, TX10, 18)) C (144 + 5) (iX 0 (by decide)) rfl rfl inBX10 (by decide) tw241 rfl dX10_safe_43 ?_
      refine x_iload C 0 dX10_safe_46 rfl ?_
      refine x_callV (ar := 1) (q := (RX2, TX2, 6)) (rest := []) C (c_X2_holds C.2.2.2.2.2.2.1 (by decide) rfl) (iX18 (by decide)) (lX18 (by decide)) rfl hy_X2_holds ⟨tw495, tw496, tw497, tw72, tw498⟩ (by decide) (by decide) rfl rfl (Nat.le_of_ble_eq_true rfl) dX10_safe_48 ?_
      show Wx LX K s7 51 [(4, .int x11), (3, .int x10), (2, .int x9), (1, .int x8), (0, .ref (kad K 0))] [.int (X2_holds s7 5 x11)]
      refine x_ifeq C 104 dX10_safe_51 (by decide) (fun c19 => ?_) (fun c19 => ?_)
      · replace h1 := ob_pos c19 h1
        refine x_iinc (v := (x11 + 1)) (lv' := [(4, .int (x11 + 1)), (3, .int x10), (2, .int x9), (1, .int x8), (0, .ref (kad K 0))]) C 0 dX10_safe_104 rfl rfl (by rw [e5]; decide) rfl ?_
        refine x_goto C 35 dX10_safe_107 (by decide) ?_
        refine x_lv (lv' := [(4, .int (x11 + 1)), (3, .int x10), (2, .int x9), (1, .int x8), (0, .ref (kad K 0))]) [0, 1, 2, 3, 4] rfl ?_
        exact ihL1 _ (Option.some.inj h1).symm
      · replace h1 := ob_neg c19 h1
        refine x_aload_n C 4 dX10_safe_54 rfl ?_
        refine x_iconst (v := 0) C dX10_safe_55 rfl ?_
        refine x_iload C 0 dX10_safe_56 rfl ?_
        refine x_bipush (v := 15) C dX10_safe_58 rfl ?_
        obtain ⟨r20, s22, g21, h1⟩ := ob_bd h1
        refine x_callV (ar := 3) (q := (RX10, TX10, 18)) (rest := []) C (c_X10_stepAhead C.2.2.2.2.2.2.1  g21) (iX 0 (by decide)) rfl rfl hy_X10_stepAhead ⟨tw587, tw589, tw16, tw63, tw590⟩ (by decide) (by decide) rfl rfl (Nat.le_of_ble_eq_true rfl) dX10_safe_60 ?_
        show Wx LX K s22 63 [(4, .int x11), (3, .int x10), (2, .int x9), (1, .int x8), (0, .ref (kad K 0))] [.int r20]
        refine x_callS (ar := 1) (rest := []) C (c_J6_bitCount_0f7a4 C.2.2.2.2.2.2.1  rfl) hy_J6_bitCount_0f7a4 ⟨tw591, tw417, tw77, tw418⟩ (by decide) (by decide) rfl rfl (Nat.le_of_ble_eq_true rfl) dX10_safe_63 ?_
        show Wx LX K s22 66 [(4, .int x11), (3, .int x10), (2, .int x9), (1, .int x8), (0, .ref (kad K 0))] [.int (J6_bitCount_0f7a4 r20)]
        refine x_istore (lv' := [(5, .int (J6_bitCount_0f7a4 r20)), (4, .int x11), (3, .int x10), (2, .int x9), (1, .int x8), (0, .ref (kad K 0))]) C dX10_safe_66 (by rw [e5]; decide) rfl ?_
        refine x_iload C 0 dX10_safe_68 rfl ?_
        obtain ⟨e38, g37, h1⟩ := ob_un h1
        have J39 : ∀ (y26 : Int32), y26 = e38 → Wx LX K s22 80 [(5, .int (J6_bitCount_0f7a4 r20)), (4, .int x11), (3, .int x10), (2, .int x9), (1, .int y26), (0, .ref (kad K 0))] [] := by
          intro y26 e9
          subst e9
          replace h1 := un1_l h1
          refine x_iload C 0 dX10_safe_80 rfl ?_
          refine x_iload_n C 3 dX10_safe_82 rfl ?_
          obtain ⟨e34, g33, h1⟩ := ob_un h1
          have J35 : ∀ (y29 : Int32) (y30 : Int32), (y29, y30) = e34 → Wx LX K s22 91 [(5, .int (J6_bitCount_0f7a4 r20)), (4, .int x11), (3, .int y30), (2, .int y29), (1, .int y26), (0, .ref (kad K 0))] [] := by
            intro y29 y30 e9
            subst e9
            replace h1 := un2_l h1
            refine x_iload C 0 dX10_safe_91 rfl ?_
            refine x_iload_n C 3 dX10_safe_93 rfl ?_
            refine x_icmpne C 104 dX10_safe_94 (by decide) (fun c32 => ?_) (fun c32 => ?_)
            · replace h1 := ob_neg c32 h1
              refine x_iinc (v := (x11 + 1)) (lv' := [(4, .int (x11 + 1)), (5, .int (J6_bitCount_0f7a4 r20)), (3, .int y30), (2, .int y29), (1, .int y26), (0, .ref (kad K 0))]) C 1 dX10_safe_104 rfl rfl (by rw [e5]; decide) rfl ?_
              refine x_goto C 35 dX10_safe_107 (by decide) ?_
              refine x_lv (lv' := [(4, .int (x11 + 1)), (3, .int y30), (2, .int y29), (1, .int y26), (0, .ref (kad K 0))]) [0, 2, 3, 4, 5] rfl ?_
              exact ihL1 _ (Option.some.inj h1).symm
            · replace h1 := ob_pos c32 h1
              refine x_iload_n C 2 dX10_safe_97 rfl ?_
              refine x_iconst (v := 1) C dX10_safe_98 rfl ?_
              refine x_iload C 1 dX10_safe_99 rfl ?_
              refine x_ishl C dX10_safe_101 ?_
              refine x_ior C dX10_safe_102 ?_
              refine x_istore_n (lv' := [(3, .int (y30 ||| ((1 : Int32) <<< (x11 &&& 31)))), (5, .int (J6_bitCount_0f7a4 r20)), (4, .int x11), (2, .int y29), (1, .int y26), (0, .ref (kad K 0))]) C dX10_safe_103 (by rw [e5]; decide) rfl ?_
              refine x_iinc (v := (x11 + 1)) (lv' := [(4, .int (x11 + 1)), (3, .int (y30 ||| ((1 : Int32) <<< (x11 &&& 31)))), (5, .int (J6_bitCount_0f7a4 r20)), (2, .int y29), (1, .int y26), (0, .ref (kad K 0))]) C 2 dX10_safe_104 rfl rfl (by rw [e5]; decide) rfl ?_
              refine x_goto C 35 dX10_safe_107 (by decide) ?_
              refine x_lv (lv' := [(4, .int (x11 + 1)), (3, .int (y30 ||| ((1 : Int32) <<< (x11 &&& 31)))), (2, .int y29), (1, .int y26), (0, .ref (kad K 0))]) [0, 1, 3, 4, 5] rfl ?_
              exact ihL1 _ (Option.some.inj h1).symm
          refine x_icmple C 91 dX10_safe_83 (by decide) (fun c36 => ?_) (fun c36 => ?_)
          · replace g33 := ob_pos c36 g33
            refine x_lv (lv' := [(5, .int (J6_bitCount_0f7a4 r20)), (4, .int x11), (3, .int x10), (2, .int x9), (1, .int y26), (0, .ref (kad K 0))]) [0, 1, 2, 3, 4, 5] rfl ?_
            exact J35 _ _ g33
          · replace g33 := ob_neg c36 g33
            refine x_iload C 0 dX10_safe_86 rfl ?_
            refine x_istore_n (lv' := [(2, .int (J6_bitCount_0f7a4 r20)), (5, .int (J6_bitCount_0f7a4 r20)), (4, .int x11), (3, .int x10), (1, .int y26), (0, .ref (kad K 0))]) C dX10_safe_88 (by rw [e5]; decide) rfl ?_
            refine x_iconst (v := 0) C dX10_safe_89 rfl ?_
            refine x_istore_n (lv' := [(3, .int 0), (2, .int (J6_bitCount_0f7a4 r20)), (5, .int (J6_bitCount_0f7a4 r20)), (4, .int x11), (1, .int y26), (0, .ref (kad K 0))]) C dX10_safe_90 (by rw [e5]; decide) rfl ?_
            refine x_lv (lv' := [(5, .int (J6_bitCount_0f7a4 r20)), (4, .int x11), (3, .int 0), (2, .int (J6_bitCount_0f7a4 r20)), (1, .int y26), (0, .ref (kad K 0))]) [2, 3, 0, 1, 4, 5] rfl ?_
            exact J35 _ _ g33
        refine x_ifne C 80 dX10_safe_70 (by decide) (fun c40 => ?_) (fun c40 => ?_)
        · replace g37 := ob_neg c40 g37
          refine x_lv (lv' := [(5, .int (J6_bitCount_0f7a4 r20)), (4, .int x11), (3, .int x10), (2, .int x9), (1, .int x8), (0, .ref (kad K 0))]) [0, 1, 2, 3, 4, 5] rfl ?_
          exact J39 _ g37
        · replace g37 := ob_pos c40 g37
          refine x_iload_n C 4 dX10_safe_73 rfl ?_
          refine x_iconst (v := 1) C dX10_safe_74 rfl ?_
          refine x_iload C 1 dX10_safe_75 rfl ?_
          refine x_ishl C dX10_safe_77 ?_
          refine x_ior C dX10_safe_78 ?_
          refine x_istore_n (lv' := [(1, .int (x8 ||| ((1 : Int32) <<< (x11 &&& 31)))), (5, .int (J6_bitCount_0f7a4 r20)), (4, .int x11), (3, .int x10), (2, .int x9), (0, .ref (kad K 0))]) C dX10_safe_79 (by rw [e5]; decide) rfl ?_
          refine x_lv (lv' := [(5, .int (J6_bitCount_0f7a4 r20)), (4, .int x11), (3, .int x10), (2, .int x9), (1, .int (x8 ||| ((1 : Int32) <<< (x11 &&& 31)))), (0, .ref (kad K 0))]) [1, 2, 3, 4, 0, 5] rfl ?_
          exact J39 _ g37
  · replace h0 := ob_pos c2 h0
    refine x_bipush (v := (-4)) C dX10_safe_10 rfl ?_
    cases h0
    exact x_iret C R dX10_safe_12
