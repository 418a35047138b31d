set_option maxHeartbeats 4000000 in
set_option maxRecDepth 100000 in
theorem c_X11_faultOf {l : Launch} {D : va_G} {ad : Nat → Nat} {cy : Nat → ClassId} (hJ : mJ LM ad) {σ τ : mS} {a1 : Int32} {r : Int32}  (h0 : X11_faultOf σ a1 = some (r, τ)) : MetG l LM D ad cy yX11_faultOf cX11_faultOf 5 (some .int) 3 [.ref (ad 0), .int a1] σ (some (.int r)) τ := by
  refine MetG.of hJ (by decide +kernel) [(0, .ref (ad 0)), (1, .int a1)] rfl (Nat.le_of_ble_eq_true rfl) ?_
  intro K e1 e2 e3 e4 e5 C R
  subst e1
  subst e2
  subst e3
  subst e4
  unfold X11_faultOf at h0
  refine x_aload_n C 0 dX11_faultOf_0 rfl ?_
  refine x_iconst (v := 0) C dX11_faultOf_1 rfl ?_
  refine x_putI (j := 8) (i := 111) (q := (RX11, TX11, 22)) C tyX11 tyX11_ok nmX11 (iM 0 (by decide)) rfl rfl inBX11 (by decide) tw771 rfl (by decide +kernel) rfl dX11_faultOf_2 ?_
  refine x_iconst (v := 0) C dX11_faultOf_5 rfl ?_
  refine x_istore_n (lv' := [(2, .int 0), (0, .ref (kad K 0)), (1, .int a1)]) C dX11_faultOf_6 (by rw [e5]; decide) rfl ?_
  obtain ⟨e25, g26, h0⟩ := ob_bind h0
  have J1 : ∀ (s3 : mS), .inl s3 = e25 → Wx LM K s3 118 [(0, .ref (kad K 0)), (1, .int a1)] [] := by
    intro s3 e9
    subst e9
    replace h0 := sm1_l h0
    refine x_aload_n C 0 dX11_faultOf_118 rfl ?_
    refine x_getI (j := 8) (i := 111) (q := (RX11, TX11, 22)) C (iM 0 (by decide)) rfl rfl inBX11 (by decide) tw771 rfl dX11_faultOf_119 ?_
    refine x_ifne C 134 dX11_faultOf_122 (by decide) (fun c5 => ?_) (fun c5 => ?_)
    · replace h0 := ob_neg c5 h0
      refine x_bipush (v := (-9)) C dX11_faultOf_134 rfl ?_
      cases h0
      exact x_iret C R dX11_faultOf_136
    · replace h0 := ob_pos c5 h0
      refine x_aload_n C 0 dX11_faultOf_125 rfl ?_
      refine x_getR (j := 3) (i := 19) (q := (RX11, TX11, 22)) C 4 (iM 0 (by decide)) rfl rfl inBX11 (by decide) tw766 rfl dX11_faultOf_126 ?_
      refine x_iload_n C 1 dX11_faultOf_129 rfl ?_
      obtain ⟨c6, h0⟩ := ob_if h0
      refine x_iald C (iM 4 (by decide)) rfl (vin_in c6) dX11_faultOf_130 ?_
      refine x_goto C 136 dX11_faultOf_131 (by decide) ?_
      cases h0
      exact x_iret C R dX11_faultOf_136
  refine lp_G (G := fun q : mS × Int32 => Wx LM K q.1 7 [(2, .int q.2), (0, .ref (kad K 0)), (1, .int a1)] []) (fun q x h1 ihL1 ihR1 => ?_) big _ g26
  obtain ⟨s1, x2⟩ := q
  replace h1 : X11_faultOf_b7 a1 s1 x2 = some x := h1
  unfold X11_faultOf_b7 at h1
  show Wx LM K s1 7 [(2, .int x2), (0, .ref (kad K 0)), (1, .int a1)] []
  refine x_iload_n C 0 dX11_faultOf_7 rfl ?_
  refine x_aload_n C 1 dX11_faultOf_8 rfl ?_
  refine x_getR (j := 3) (i := 19) (q := (RX11, TX11, 22)) C 4 (iM 0 (by decide)) rfl rfl inBX11 (by decide) tw766 rfl dX11_faultOf_9 ?_
  refine x_iload_n C 2 dX11_faultOf_12 rfl ?_
  obtain ⟨c7, h1⟩ := ob_if h1
  refine x_iald C (iM 4 (by decide)) rfl (vin_in c7) dX11_faultOf_13 ?_
  refine x_icmpge C 118 dX11_faultOf_14 (by decide) (fun c9 => ?_) (fun c9 => ?_)
  · replace h1 := ob_pos c9 h1
    refine x_lv (lv' := [(0, .ref (kad K 0)), (1, .int a1)]) [1, 2] rfl ?_
    exact J1 _ (ihR1 _ (Option.some.inj h1).symm)
  · replace h1 := ob_neg c9 h1
    refine x_aload_n C 1 dX11_faultOf_17 rfl ?_
    refine x_getR (j := 4) (i := 22) (q := (RX11, TX11, 22)) C 5 (iM 0 (by decide)) rfl rfl inBX11 (by decide) tw767 rfl dX11_faultOf_18 ?_
    refine x_bipush (v := 60) C dX11_faultOf_21 rfl ?_
    refine x_iload_n C 2 dX11_faultOf_23 rfl ?_
    refine x_imul C dX11_faultOf_24 ?_
    refine x_iload_n C 0 dX11_faultOf_25 rfl ?_
    refine x_iadd C dX11_faultOf_26 ?_
    obtain ⟨c10, h1⟩ := ob_if h1
    refine x_bald C (iM 5 (by decide)) rfl (vin_in c10) dX11_faultOf_27 ?_
    refine x_bipush (v := 32) C dX11_faultOf_28 rfl ?_
    refine x_icmpne C 39 dX11_faultOf_30 (by decide) (fun c12 => ?_) (fun c12 => ?_)
    · replace h1 := ob_neg c12 h1
      refine x_aload_n C 1 dX11_faultOf_39 rfl ?_
      refine x_getR (j := 4) (i := 22) (q := (RX11, TX11, 22)) C 5 (iM 0 (by decide)) rfl rfl inBX11 (by decide) tw767 rfl dX11_faultOf_40 ?_
      refine x_bipush (v := 60) C dX11_faultOf_43 rfl ?_
      refine x_iload_n C 2 dX11_faultOf_45 rfl ?_
      refine x_imul C dX11_faultOf_46 ?_
      refine x_iload_n C 0 dX11_faultOf_47 rfl ?_
      refine x_iadd C dX11_faultOf_48 ?_
      obtain ⟨c13, h1⟩ := ob_if h1
      refine x_bald C (iM 5 (by decide)) rfl (vin_in c13) dX11_faultOf_49 ?_
      refine x_callS (ar := 1) (rest := []) C (c_X11_kindOf C.2.2.2.2.2.2.1  rfl) hy_X11_kindOf ⟨tw895, tw896, tw75, tw897⟩ (by decide) (by decide) rfl rfl (Nat.le_of_ble_eq_true rfl) dX11_faultOf_50 ?_
      show Wx LM K s1 53 [(2, .int x2), (0, .ref (kad K 0)), (1, .int a1)] [.int (X11_kindOf (s1.1 5 (((60 : Int32) * a1) + x2).toNatClampNeg))]
      refine x_istore_n (lv' := [(3, .int (X11_kindOf (s1.1 5 (((60 : Int32) * a1) + x2).toNatClampNeg))), (2, .int x2), (0, .ref (kad K 0)), (1, .int a1)]) C dX11_faultOf_53 (by rw [e5]; decide) rfl ?_
      refine x_iload_n C 0 dX11_faultOf_54 rfl ?_
      refine x_iflt C 66 dX11_faultOf_55 (by decide) (fun c16 => ?_) (fun c16 => ?_)
      · replace h1 := ob_pos c16 h1
        refine x_iload_n C 1 dX11_faultOf_66 rfl ?_
        have e19 := ihR1 _ (Option.some.inj h1).symm
        subst e19
        replace h0 := sm1_r h0
        cases h0
        exact x_iret C R dX11_faultOf_67
      · replace h1 := ob_neg c16 h1
        refine x_aload_n C 2 dX11_faultOf_58 rfl ?_
        refine x_getI (j := 8) (i := 111) (q := (RX11, TX11, 22)) C (iM 0 (by decide)) rfl rfl inBX11 (by decide) tw771 rfl dX11_faultOf_59 ?_
        refine x_iconst (v := 4) C dX11_faultOf_62 rfl ?_
        refine x_icmpne C 68 dX11_faultOf_63 (by decide) (fun c18 => ?_) (fun c18 => ?_)
        · replace h1 := ob_neg c18 h1
          refine x_aload_n C 2 dX11_faultOf_68 rfl ?_
          refine x_iload_n C 3 dX11_faultOf_69 rfl ?_
          refine x_aload_n C 2 dX11_faultOf_70 rfl ?_
          refine x_getI (j := 8) (i := 111) (q := (RX11, TX11, 22)) C (iM 0 (by decide)) rfl rfl inBX11 (by decide) tw771 rfl dX11_faultOf_71 ?_
          refine x_iload_n C 1 dX11_faultOf_74 rfl ?_
          refine x_iconst (v := 1) C dX11_faultOf_75 rfl ?_
          refine x_iadd C dX11_faultOf_76 ?_
          obtain ⟨r19, s21, g20, h1⟩ := ob_bd h1
          refine x_callV (ar := 3) (q := (RX11, TX11, 22)) (rest := []) C (c_X11_numbers C.2.2.2.2.2.2.1  g20) (iM 0 (by decide)) rfl rfl hy_X11_numbers ⟨tw898, tw900, tw39, tw75, tw901⟩ (by decide) (by decide) rfl rfl (Nat.le_of_ble_eq_true rfl) dX11_faultOf_77 ?_
          show Wx LM K s21 80 [(3, .int (X11_kindOf (s1.1 5 (((60 : Int32) * a1) + x2).toNatClampNeg))), (2, .int x2), (0, .ref (kad K 0)), (1, .int a1)] [.int r19]
          refine x_istore (lv' := [(4, .int r19), (3, .int (X11_kindOf (s1.1 5 (((60 : Int32) * a1) + x2).toNatClampNeg))), (2, .int x2), (0, .ref (kad K 0)), (1, .int a1)]) C dX11_faultOf_80 (by rw [e5]; decide) rfl ?_
          refine x_iload C 0 dX11_faultOf_82 rfl ?_
          refine x_bipush (v := (-9)) C dX11_faultOf_84 rfl ?_
          refine x_icmpeq C 92 dX11_faultOf_86 (by decide) (fun c23 => ?_) (fun c23 => ?_)
          · replace h1 := ob_pos c23 h1
            refine x_aload_n C 3 dX11_faultOf_92 rfl ?_
            refine x_getR (j := 9) (i := 32) (q := (RX11, TX11, 22)) C 8 (iM 0 (by decide)) rfl rfl inBX11 (by decide) tw772 rfl dX11_faultOf_93 ?_
            refine x_aload_n C 3 dX11_faultOf_96 rfl ?_
            refine x_getI (j := 8) (i := 111) (q := (RX11, TX11, 22)) C (iM 0 (by decide)) rfl rfl inBX11 (by decide) tw771 rfl dX11_faultOf_97 ?_
            refine x_iload_n C 1 dX11_faultOf_100 rfl ?_
            obtain ⟨c24, h1⟩ := ob_if h1
            refine x_iast C (iM 8 (by decide)) rfl (vin_in c24) dX11_faultOf_101 ?_
            refine x_aload_n C 3 dX11_faultOf_102 rfl ?_
            refine x_dup C dX11_faultOf_103 rfl ?_
            refine x_getI (j := 8) (i := 111) (q := (RX11, TX11, 22)) C (iM 0 (by decide)) rfl rfl inBX11 (by decide) tw771 rfl dX11_faultOf_104 ?_
            refine x_iconst (v := 1) C dX11_faultOf_107 rfl ?_
            refine x_iadd C dX11_faultOf_108 ?_
            refine x_putI (j := 8) (i := 111) (q := (RX11, TX11, 22)) C tyX11 tyX11_ok nmX11 (iM 0 (by decide)) rfl rfl inBX11 (by decide) tw771 rfl (by decide +kernel) rfl dX11_faultOf_109 ?_
            refine x_iinc (v := (x2 + 13)) (lv' := [(2, .int (x2 + 13)), (4, .int r19), (3, .int (X11_kindOf (s1.1 5 (((60 : Int32) * a1) + x2).toNatClampNeg))), (0, .ref (kad K 0)), (1, .int a1)]) C 2 dX11_faultOf_112 rfl rfl (by rw [e5]; decide) rfl ?_
            refine x_goto C 7 dX11_faultOf_115 (by decide) ?_
            refine x_lv (lv' := [(2, .int (x2 + 13)), (0, .ref (kad K 0)), (1, .int a1)]) [0, 3, 4] rfl ?_
            exact ihL1 _ (Option.some.inj h1).symm
          · replace h1 := ob_neg c23 h1
            refine x_iload C 0 dX11_faultOf_89 rfl ?_
            have e19 := ihR1 _ (Option.some.inj h1).symm
            subst e19
            replace h0 := sm1_r h0
            cases h0
            exact x_iret C R dX11_faultOf_91
        · replace h1 := ob_pos c18 h1
          refine x_iload_n C 1 dX11_faultOf_66 rfl ?_
          have e19 := ihR1 _ (Option.some.inj h1).symm
          subst e19
          replace h0 := sm1_r h0
          cases h0
          exact x_iret C R dX11_faultOf_67
    · replace h1 := ob_pos c12 h1
      refine x_iinc (v := (x2 + 1)) (lv' := [(2, .int (x2 + 1)), (0, .ref (kad K 0)), (1, .int a1)]) C 0 dX11_faultOf_33 rfl rfl (by rw [e5]; decide) rfl ?_
      refine x_goto C 7 dX11_faultOf_36 (by decide) ?_
      refine x_lv (lv' := [(2, .int (x2 + 1)), (0, .ref (kad K 0)), (1, .int a1)]) [0, 1, 2] rfl ?_
      exact ihL1 _ (Option.some.inj h1).symm
set_option maxHeartbeats 4000000 in
set_option maxRecDepth 100000 in
theorem c_X11_fault {l : Launch} {D : va_G} {ad : Nat → Nat} {cy : Nat → ClassId} (hJ : mJ LM ad) {σ τ : mS} {a1 : Int32} {r : Int32}  (h0 : X11_fault σ a1 = some (r, τ)) : MetG l LM D ad cy yX11_fault cX11_fault 2 (some .int) 4 [.ref (ad 0), .int a1] σ (some (.int r)) τ := by
  refine MetG.of hJ (by decide +kernel) [(0, .ref (ad 0)), (1, .int a1)] rfl (Nat.le_of_ble_eq_true rfl) ?_
  intro K e1 e2 e3 e4 e5 C R
  subst e1
  subst e2
  subst e3
  subst e4
  unfold X11_fault at h0
  refine x_aload_n C 0 dX11_fault_0 rfl ?_
  refine x_iload_n C 1 dX11_fault_1 rfl ?_
  refine x_callV (ar := 1) (q := (RX11, TX11, 22)) (rest := []) C (c_X11_isText C.2.2.2.2.2.2.1  rfl) (iM 0 (by decide)) rfl rfl hy_X11_isText ⟨tw878, tw880, tw37, tw75, tw881⟩ (by decide) (by decide) rfl rfl (Nat.le_of_ble_eq_true rfl) dX11_fault_2 ?_
  show Wx LM K σ 5 [(0, .ref (kad K 0)), (1, .int a1)] [.int (X11_isText a1)]
  refine x_ifne C 10 dX11_fault_5 (by decide) (fun c3 => ?_) (fun c3 => ?_)
  · replace h0 := ob_neg c3 h0
    refine x_aload_n C 0 dX11_fault_10 rfl ?_
    refine x_getR (j := 3) (i := 19) (q := (RX11, TX11, 22)) C 4 (iM 0 (by decide)) rfl rfl inBX11 (by decide) tw766 rfl dX11_fault_11 ?_
    refine x_iload_n C 1 dX11_fault_14 rfl ?_
    obtain ⟨c4, h0⟩ := ob_if h0
    refine x_iald C (iM 4 (by decide)) rfl (vin_in c4) dX11_fault_15 ?_
    refine x_ifge C 27 dX11_fault_16 (by decide) (fun c6 => ?_) (fun c6 => ?_)
    · replace h0 := ob_pos c6 h0
      refine x_aload_n C 0 dX11_fault_27 rfl ?_
      refine x_iload_n C 1 dX11_fault_28 rfl ?_
      obtain ⟨r7, s9, g8, h0⟩ := ob_bd h0
      refine x_callV (ar := 1) (q := (RX11, TX11, 22)) (rest := []) C (c_X11_faultOf C.2.2.2.2.2.2.1  g8) (iM 0 (by decide)) rfl rfl hy_X11_faultOf ⟨tw891, tw893, tw38, tw75, tw894⟩ (by decide) (by decide) rfl rfl (Nat.le_of_ble_eq_true rfl) dX11_fault_29 ?_
      show Wx LM K s9 32 [(0, .ref (kad K 0)), (1, .int a1)] [.int r7]
      cases h0
      exact x_iret C R dX11_fault_32
    · replace h0 := ob_neg c6 h0
      refine x_aload_n C 0 dX11_fault_19 rfl ?_
      refine x_iconst (v := 1) C dX11_fault_20 rfl ?_
      obtain ⟨r10, s12, g11, h0⟩ := ob_bd h0
      refine x_callV (ar := 1) (q := (RX11, TX11, 22)) (rest := []) C (c_X11_finds C.2.2.2.2.2.2.1  g11) (iM 0 (by decide)) rfl rfl hy_X11_finds ⟨tw842, tw844, tw34, tw75, tw845⟩ (by decide) (by decide) rfl rfl (Nat.le_of_ble_eq_true rfl) dX11_fault_21 ?_
      show Wx LM K s12 24 [(0, .ref (kad K 0)), (1, .int a1)] [.int r10]
      refine x_goto C 32 dX11_fault_24 (by decide) ?_
      cases h0
      exact x_iret C R dX11_fault_32
  · replace h0 := ob_pos c3 h0
    refine x_iconst (v := (-1)) C dX11_fault_8 rfl ?_
    cases h0
    exact x_iret C R dX11_fault_9
set_option maxHeartbeats 4000000 in
set_option maxRecDepth 100000 in
theorem c_X11_hall {l : Launch} {D : va_G} {ad : Nat → Nat} {cy : Nat → ClassId} (hJ : mJ LM ad) {σ τ : mS} {a1 : Int32} {r : Int32}  (h0 : X11_hall σ a1 = some (r, τ)) : MetG l LM D ad cy yX11_hall cX11_hall 3 (some .int) 4 [.ref (ad 0), .int a1] σ (some (.int r)) τ := by
  refine MetG.of hJ (by decide +kernel) [(0, .ref (ad 0)), (1, .int a1)] rfl (Nat.le_of_ble_eq_true rfl) ?_
  intro K e1 e2 e3 e4 e5 C R
  subst e1
  subst e2
  subst e3
  subst e4
  unfold X11_hall at h0
  refine x_aload_n C 0 dX11_hall_0 rfl ?_
  refine x_iload_n C 1 dX11_hall_1 rfl ?_
  refine x_callV (ar := 1) (q := (RX11, TX11, 22)) (rest := []) C (c_X11_isText C.2.2.2.2.2.2.1  rfl) (iM 0 (by decide)) rfl rfl hy_X11_isText ⟨tw878, tw880, tw37, tw75, tw881⟩ (by decide) (by decide) rfl rfl (Nat.le_of_ble_eq_true rfl) dX11_hall_2 ?_
  show Wx LM K σ 5 [(0, .ref (kad K 0)), (1, .int a1)] [.int (X11_isText a1)]
  refine x_ifne C 10 dX11_hall_5 (by decide) (fun c3 => ?_) (fun c3 => ?_)
  · replace h0 := ob_neg c3 h0
    refine x_aload_n C 0 dX11_hall_10 rfl ?_
    refine x_getR (j := 3) (i := 19) (q := (RX11, TX11, 22)) C 4 (iM 0 (by decide)) rfl rfl inBX11 (by decide) tw766 rfl dX11_hall_11 ?_
    refine x_iload_n C 1 dX11_hall_14 rfl ?_
    obtain ⟨c4, h0⟩ := ob_if h0
    refine x_iald C (iM 4 (by decide)) rfl (vin_in c4) dX11_hall_15 ?_
    refine x_ifge C 25 dX11_hall_16 (by decide) (fun c6 => ?_) (fun c6 => ?_)
    · replace h0 := ob_pos c6 h0
      refine x_aload_n C 0 dX11_hall_25 rfl ?_
      refine x_iload_n C 1 dX11_hall_26 rfl ?_
      obtain ⟨r7, s9, g8, h0⟩ := ob_bd h0
      refine x_callV (ar := 1) (q := (RX11, TX11, 22)) (rest := []) C (c_X11_faultOf C.2.2.2.2.2.2.1  g8) (iM 0 (by decide)) rfl rfl hy_X11_faultOf ⟨tw891, tw893, tw38, tw75, tw894⟩ (by decide) (by decide) rfl rfl (Nat.le_of_ble_eq_true rfl) dX11_hall_27 ?_
      show Wx LM K s9 30 [(0, .ref (kad K 0)), (1, .int a1)] [.int r7]
      refine x_bipush (v := (-9)) C dX11_hall_30 rfl ?_
      refine x_icmpeq C 38 dX11_hall_32 (by decide) (fun c11 => ?_) (fun c11 => ?_)
      · replace h0 := ob_pos c11 h0
        refine x_aload_n C 0 dX11_hall_38 rfl ?_
        refine x_aload_n C 0 dX11_hall_39 rfl ?_
        refine x_getI (j := 8) (i := 111) (q := (RX11, TX11, 22)) C (iM 0 (by decide)) rfl rfl inBX11 (by decide) tw771 rfl dX11_hall_40 ?_
        refine x_putI (j := 5) (i := 124) (q := (RX11, TX11, 22)) C tyX11 tyX11_ok nmX11 (iM 0 (by decide)) rfl rfl inBX11 (by decide) tw768 rfl (by decide +kernel) rfl dX11_hall_43 ?_
        refine x_iconst (v := 0) C dX11_hall_46 rfl ?_
        refine x_istore_n (lv' := [(2, .int 0), (0, .ref (kad K 0)), (1, .int a1)]) C dX11_hall_47 (by rw [e5]; decide) rfl ?_
        obtain ⟨e47, g48, h0⟩ := ob_bind h0
        have J1 : ∀ (s14 : mS), s14 = e47 → Wx LM K s14 74 [(0, .ref (kad K 0))] [] := by
          intro s14 e9
          subst e9
          replace h0 := un1_l h0
          refine x_iconst (v := 0) C dX11_hall_74 rfl ?_
          refine x_istore_n (lv' := [(2, .int 0), (0, .ref (kad K 0))]) C dX11_hall_75 (by rw [e5]; decide) rfl ?_
          obtain ⟨e41, g42, h0⟩ := ob_bind h0
          have J2 : ∀ (s17 : mS), s17 = e41 → Wx LM K s17 100 [(0, .ref (kad K 0))] [] := by
            intro s17 e9
            subst e9
            replace h0 := un1_l h0
            refine x_iconst (v := 0) C dX11_hall_100 rfl ?_
            refine x_istore_n (lv' := [(2, .int 0), (0, .ref (kad K 0))]) C dX11_hall_101 (by rw [e5]; decide) rfl ?_
            obtain ⟨e35, g36, h0⟩ := ob_bind h0
            have J3 : ∀ (s20 : mS), s20 = e35 → Wx LM K s20 132 [(0, .ref (kad K 0))] [] := by
              intro s20 e9
              subst e9
              replace h0 := un1_l h0
              refine x_aload_n C 0 dX11_hall_132 rfl ?_
              refine x_iconst (v := 0) C dX11_hall_133 rfl ?_
              refine x_putI (j := 12) (i := 127) (q := (RX11, TX11, 22)) C tyX11 tyX11_ok nmX11 (iM 0 (by decide)) rfl rfl inBX11 (by decide) tw775 rfl (by decide +kernel) rfl dX11_hall_134 ?_
              refine x_iconst (v := 0) C dX11_hall_137 rfl ?_
              refine x_istore_n (lv' := [(2, .int 0), (0, .ref (kad K 0))]) C dX11_hall_138 (by rw [e5]; decide) rfl ?_
              obtain ⟨e27, g28, h0⟩ := ob_bind h0
              have J4 : ∀ (s23 : mS), s23 = e27 → Wx LM K s23 157 [(0, .ref (kad K 0))] [] := by
                intro s23 e9
                subst e9
                replace h0 := un1_l h0
                refine x_aload_n C 0 dX11_hall_157 rfl ?_
                refine x_getI (j := 5) (i := 124) (q := (RX11, TX11, 22)) C (iM 0 (by decide)) rfl rfl inBX11 (by decide) tw768 rfl dX11_hall_158 ?_
                cases h0
                exact x_iret C R dX11_hall_161
              refine lp_G (G := fun q : mS × Int32 => Wx LM K q.1 139 [(2, .int q.2), (0, .ref (kad K 0))] []) (fun q x h4 ihL4 ihR4 => ?_) big _ g28
              obtain ⟨s21, x22⟩ := q
              replace h4 : X11_hall_b139 s21 x22 = some x := h4
              unfold X11_hall_b139 at h4
              show Wx LM K s21 139 [(2, .int x22), (0, .ref (kad K 0))] []
              refine x_iload_n C 0 dX11_hall_139 rfl ?_
              refine x_iconst (v := 3) C dX11_hall_140 rfl ?_
              refine x_icmpge C 157 dX11_hall_141 (by decide) (fun c25 => ?_) (fun c25 => ?_)
              · replace h4 := ob_pos c25 h4
                refine x_lv (lv' := [(0, .ref (kad K 0))]) [1] rfl ?_
                exact J4 _ (ihR4 _ (Option.some.inj h4).symm)
              · replace h4 := ob_neg c25 h4
                refine x_aload_n C 1 dX11_hall_144 rfl ?_
                refine x_getR (j := 13) (i := 41) (q := (RX11, TX11, 22)) C 11 (iM 0 (by decide)) rfl rfl inBX11 (by decide) tw776 rfl dX11_hall_145 ?_
                refine x_iload_n C 0 dX11_hall_148 rfl ?_
                refine x_iconst (v := (-1)) C dX11_hall_149 rfl ?_
                obtain ⟨c26, h4⟩ := ob_if h4
                refine x_iast C (iM 11 (by decide)) rfl (vin_in c26) dX11_hall_150 ?_
                refine x_iinc (v := (x22 + 1)) (lv' := [(2, .int (x22 + 1)), (0, .ref (kad K 0))]) C 0 dX11_hall_151 rfl rfl (by rw [e5]; decide) rfl ?_
                refine x_goto C 139 dX11_hall_154 (by decide) ?_
                refine x_lv (lv' := [(2, .int (x22 + 1)), (0, .ref (kad K 0))]) [0, 1] rfl ?_
                exact ihL4 _ (Option.some.inj h4).symm
            refine lp_G (G := fun q : mS × Int32 => Wx LM K q.1 102 [(2, .int q.2), (0, .ref (kad K 0))] []) (fun q x h3 ihL3 ihR3 => ?_) big _ g36
            obtain ⟨s18, x19⟩ := q
            replace h3 : X11_hall_b102 s18 x19 = some x := h3
            unfold X11_hall_b102 at h3
            show Wx LM K s18 102 [(2, .int x19), (0, .ref (kad K 0))] []
            refine x_iload_n C 0 dX11_hall_102 rfl ?_
            refine x_bipush (v := 8) C dX11_hall_103 rfl ?_
            refine x_icmpge C 132 dX11_hall_105 (by decide) (fun c30 => ?_) (fun c30 => ?_)
            · replace h3 := ob_pos c30 h3
              refine x_lv (lv' := [(0, .ref (kad K 0))]) [1] rfl ?_
              exact J3 _ (ihR3 _ (Option.some.inj h3).symm)
            · replace h3 := ob_neg c30 h3
              refine x_aload_n C 1 dX11_hall_108 rfl ?_
              refine x_getR (j := 11) (i := 38) (q := (RX11, TX11, 22)) C 10 (iM 0 (by decide)) rfl rfl inBX11 (by decide) tw774 rfl dX11_hall_109 ?_
              refine x_iload_n C 0 dX11_hall_112 rfl ?_
              refine x_iload_n C 0 dX11_hall_113 rfl ?_
              refine x_iconst (v := 5) C dX11_hall_114 rfl ?_
              refine x_icmpne C 124 dX11_hall_115 (by decide) (fun c32 => ?_) (fun c32 => ?_)
              · replace h3 := ob_neg c32 h3
                refine x_iconst (v := 0) C dX11_hall_124 rfl ?_
                obtain ⟨c33, h3⟩ := ob_if h3
                refine x_iast C (iM 10 (by decide)) rfl (vin_in c33) dX11_hall_125 ?_
                refine x_iinc (v := (x19 + 1)) (lv' := [(2, .int (x19 + 1)), (0, .ref (kad K 0))]) C 0 dX11_hall_126 rfl rfl (by rw [e5]; decide) rfl ?_
                refine x_goto C 102 dX11_hall_129 (by decide) ?_
                refine x_lv (lv' := [(2, .int (x19 + 1)), (0, .ref (kad K 0))]) [0, 1] rfl ?_
                exact ihL3 _ (Option.some.inj h3).symm
              · replace h3 := ob_pos c32 h3
                refine x_sipush (v := 8190) C dX11_hall_118 rfl ?_
                refine x_goto C 125 dX11_hall_121 (by decide) ?_
                obtain ⟨c34, h3⟩ := ob_if h3
                refine x_iast C (iM 10 (by decide)) rfl (vin_in c34) dX11_hall_125 ?_
                refine x_iinc (v := (x19 + 1)) (lv' := [(2, .int (x19 + 1)), (0, .ref (kad K 0))]) C 0 dX11_hall_126 rfl rfl (by rw [e5]; decide) rfl ?_
                refine x_goto C 102 dX11_hall_129 (by decide) ?_
                refine x_lv (lv' := [(2, .int (x19 + 1)), (0, .ref (kad K 0))]) [0, 1] rfl ?_
                exact ihL3 _ (Option.some.inj h3).symm
          refine lp_G (G := fun q : mS × Int32 => Wx LM K q.1 76 [(2, .int q.2), (0, .ref (kad K 0))] []) (fun q x h2 ihL2 ihR2 => ?_) big _ g42
          obtain ⟨s15, x16⟩ := q
          replace h2 : X11_hall_b76 s15 x16 = some x := h2
          unfold X11_hall_b76 at h2
          show Wx LM K s15 76 [(2, .int x16), (0, .ref (kad K 0))] []
          refine x_iload_n C 0 dX11_hall_76 rfl ?_
          refine x_bipush (v := 24) C dX11_hall_77 rfl ?_
          refine x_icmpge C 100 dX11_hall_79 (by decide) (fun c38 => ?_) (fun c38 => ?_)
          · replace h2 := ob_pos c38 h2
            refine x_lv (lv' := [(0, .ref (kad K 0))]) [1] rfl ?_
            exact J2 _ (ihR2 _ (Option.some.inj h2).symm)
          · replace h2 := ob_neg c38 h2
            refine x_aload_n C 1 dX11_hall_82 rfl ?_
            refine x_getR (j := 7) (i := 29) (q := (RX11, TX11, 22)) C 7 (iM 0 (by decide)) rfl rfl inBX11 (by decide) tw770 rfl dX11_hall_83 ?_
            refine x_iload_n C 0 dX11_hall_86 rfl ?_
            refine x_aload_n C 1 dX11_hall_87 rfl ?_
            refine x_getR (j := 10) (i := 35) (q := (RX11, TX11, 22)) C 9 (iM 0 (by decide)) rfl rfl inBX11 (by decide) tw773 rfl dX11_hall_88 ?_
            refine x_iload_n C 0 dX11_hall_91 rfl ?_
            obtain ⟨c39, h2⟩ := ob_if h2
            refine x_iald C (iM 9 (by decide)) rfl (vin_in c39) dX11_hall_92 ?_
            obtain ⟨c40, h2⟩ := ob_if h2
            refine x_iast C (iM 7 (by decide)) rfl (vin_in c40) dX11_hall_93 ?_
            refine x_iinc (v := (x16 + 1)) (lv' := [(2, .int (x16 + 1)), (0, .ref (kad K 0))]) C 0 dX11_hall_94 rfl rfl (by rw [e5]; decide) rfl ?_
            refine x_goto C 76 dX11_hall_97 (by decide) ?_
            refine x_lv (lv' := [(2, .int (x16 + 1)), (0, .ref (kad K 0))]) [0, 1] rfl ?_
            exact ihL2 _ (Option.some.inj h2).symm
        refine x_lv (lv' := [(2, .int 0), (0, .ref (kad K 0))]) [0, 1] rfl ?_
        refine lp_G (G := fun q : mS × Int32 => Wx LM K q.1 48 [(2, .int q.2), (0, .ref (kad K 0))] []) (fun q x h1 ihL1 ihR1 => ?_) big _ g48
        obtain ⟨s12, x13⟩ := q
        replace h1 : X11_hall_b48 s12 x13 = some x := h1
        unfold X11_hall_b48 at h1
        show Wx LM K s12 48 [(2, .int x13), (0, .ref (kad K 0))] []
        refine x_iload_n C 0 dX11_hall_48 rfl ?_
        refine x_aload_n C 1 dX11_hall_49 rfl ?_
        refine x_getI (j := 5) (i := 124) (q := (RX11, TX11, 22)) C (iM 0 (by decide)) rfl rfl inBX11 (by decide) tw768 rfl dX11_hall_50 ?_
        refine x_icmpge C 74 dX11_hall_53 (by decide) (fun c44 => ?_) (fun c44 => ?_)
        · replace h1 := ob_pos c44 h1
          refine x_lv (lv' := [(0, .ref (kad K 0))]) [1] rfl ?_
          exact J1 _ (ihR1 _ (Option.some.inj h1).symm)
        · replace h1 := ob_neg c44 h1
          refine x_aload_n C 1 dX11_hall_56 rfl ?_
          refine x_getR (j := 6) (i := 26) (q := (RX11, TX11, 22)) C 6 (iM 0 (by decide)) rfl rfl inBX11 (by decide) tw769 rfl dX11_hall_57 ?_
          refine x_iload_n C 0 dX11_hall_60 rfl ?_
          refine x_aload_n C 1 dX11_hall_61 rfl ?_
          refine x_getR (j := 9) (i := 32) (q := (RX11, TX11, 22)) C 8 (iM 0 (by decide)) rfl rfl inBX11 (by decide) tw772 rfl dX11_hall_62 ?_
          refine x_iload_n C 0 dX11_hall_65 rfl ?_
          obtain ⟨c45, h1⟩ := ob_if h1
          refine x_iald C (iM 8 (by decide)) rfl (vin_in c45) dX11_hall_66 ?_
          obtain ⟨c46, h1⟩ := ob_if h1
          refine x_iast C (iM 6 (by decide)) rfl (vin_in c46) dX11_hall_67 ?_
          refine x_iinc (v := (x13 + 1)) (lv' := [(2, .int (x13 + 1)), (0, .ref (kad K 0))]) C 0 dX11_hall_68 rfl rfl (by rw [e5]; decide) rfl ?_
          refine x_goto C 48 dX11_hall_71 (by decide) ?_
          refine x_lv (lv' := [(2, .int (x13 + 1)), (0, .ref (kad K 0))]) [0, 1] rfl ?_
          exact ihL1 _ (Option.some.inj h1).symm
      · replace h0 := ob_neg c11 h0
        refine x_bipush (v := (-4)) C dX11_hall_35 rfl ?_
        cases h0
        exact x_iret C R dX11_hall_37
    · replace h0 := ob_neg c6 h0
      refine x_aload_n C 0 dX11_hall_19 rfl ?_
      refine x_iconst (v := 1) C dX11_hall_20 rfl ?_
      obtain ⟨r49, s51, g50, h0⟩ := ob_bd h0
      refine x_callV (ar := 1) (q := (RX11, TX11, 22)) (rest := []) C (c_X11_finds C.2.2.2.2.2.2.1  g50) (iM 0 (by decide)) rfl rfl hy_X11_finds ⟨tw842, tw844, tw34, tw75, tw845⟩ (by decide) (by decide) rfl rfl (Nat.le_of_ble_eq_true rfl) dX11_hall_21 ?_
      show Wx LM K s51 24 [(0, .ref (kad K 0)), (1, .int a1)] [.int r49]
      cases h0
      exact x_iret C R dX11_hall_24
  · replace h0 := ob_pos c3 h0
    refine x_iconst (v := (-1)) C dX11_hall_8 rfl ?_
    cases h0
    exact x_iret C R dX11_hall_9
set_option maxHeartbeats 4000000 in
set_option maxRecDepth 100000 in
theorem c_X11_isPlayer {l : Launch} {D : va_G} {ad : Nat → Nat} {cy : Nat → ClassId} (hJ : mJ LM ad) {σ : mS} {a1 : Int32} {r : Int32}  (h0 : X11_isPlayer σ a1 = r) : MetG l LM D ad cy yX11_isPlayer cX11_isPlayer 2 (some .boolean) 1 [.ref (ad 0), .int a1] σ (some (.int r)) σ := by
  refine MetG.of hJ (by decide +kernel) [(0, .ref (ad 0)), (1, .int a1)] rfl (Nat.le_of_ble_eq_true rfl) ?_
  intro K e1 e2 e3 e4 e5 C R
  subst e1
  subst e2
  subst e3
  subst e4
  unfold X11_isPlayer at h0
  refine x_iload_n C 1 dX11_isPlayer_0 rfl ?_
  refine x_i2l C dX11_isPlayer_1 ?_
  refine x_lconst (v := 0) C dX11_isPlayer_2 rfl ?_
  refine x_aload_n C 0 dX11_isPlayer_3 rfl ?_
  refine x_getI (j := 5) (i := 124) (q := (RX11, TX11, 22)) C (iM 0 (by decide)) rfl rfl inBX11 (by decide) tw768 rfl dX11_isPlayer_4 ?_
  refine x_iconst (v := 1) C dX11_isPlayer_7 rfl ?_
  refine x_isub C dX11_isPlayer_8 ?_
  refine x_i2l C dX11_isPlayer_9 ?_
  refine x_callS (ar := 3) (rest := []) C (c_X11_in C.2.2.2.2.2.2.1  rfl) hy_X11_in ⟨tw839, tw840, tw75, tw841⟩ (by decide) (by decide) rfl rfl (Nat.le_of_ble_eq_true rfl) dX11_isPlayer_10 ?_
  show Wx LM K σ 13 [(0, .ref (kad K 0)), (1, .int a1)] [.int (X11_in ((a1).toInt64) (0) ((((σ.1 0 5) - 1)).toInt64))]
  subst h0
  exact x_zret C (zb_X11_in ..) R dX11_isPlayer_13
set_option maxHeartbeats 4000000 in
set_option maxRecDepth 100000 in
theorem c_X11_isA {l : Launch} {D : va_G} {ad : Nat → Nat} {cy : Nat → ClassId} (hJ : mJ LM ad) {σ : mS} {a1 : Int32} {a2 : Int32} {r : Int32}  (h0 : X11_isA a1 a2 = r) : MetG l LM D ad cy yX11_isA cX11_isA 2 (some .boolean) 0 [.int a1, .int a2] σ (some (.int r)) σ := by
  refine MetG.of hJ (by decide +kernel) [(0, .int a1), (1, .int a2)] rfl (Nat.le_of_ble_eq_true rfl) ?_
  intro K e1 e2 e3 e4 e5 C R
  subst e1
  subst e2
  subst e3
  subst e4
  unfold X11_isA at h0
  refine x_iload_n C 0 dX11_isA_0 rfl ?_
  refine x_iload_n C 1 dX11_isA_1 rfl ?_
  refine x_icmpeq C 29 dX11_isA_2 (by decide) (fun c2 => ?_) (fun c2 => ?_)
  · replace h0 := ob_pos c2 h0
    refine x_iconst (v := 1) C dX11_isA_29 rfl ?_
    refine x_goto C 34 dX11_isA_30 (by decide) ?_
    subst h0
    exact x_zret C (Or.inr rfl) R dX11_isA_34
  · replace h0 := ob_neg c2 h0
    refine x_iload_n C 1 dX11_isA_5 rfl ?_
    refine x_ifeq C 29 dX11_isA_6 (by decide) (fun c4 => ?_) (fun c4 => ?_)
    · replace h0 := ob_pos c4 h0
      refine x_iconst (v := 1) C dX11_isA_29 rfl ?_
      refine x_goto C 34 dX11_isA_30 (by decide) ?_
      subst h0
      exact x_zret C (Or.inr rfl) R dX11_isA_34
    · replace h0 := ob_neg c4 h0
      refine x_iload_n C 1 dX11_isA_9 rfl ?_
      refine x_iconst (v := 1) C dX11_isA_10 rfl ?_
      refine x_icmpne C 19 dX11_isA_11 (by decide) (fun c6 => ?_) (fun c6 => ?_)
      · replace h0 := ob_neg c6 h0
        refine x_iload_n C 1 dX11_isA_19 rfl ?_
        refine x_iconst (v := 2) C dX11_isA_20 rfl ?_
        refine x_icmpne C 33 dX11_isA_21 (by decide) (fun c8 => ?_) (fun c8 => ?_)
        · replace h0 := ob_neg c8 h0
          refine x_iconst (v := 0) C dX11_isA_33 rfl ?_
          subst h0
          exact x_zret C (Or.inl rfl) R dX11_isA_34
        · replace h0 := ob_pos c8 h0
          refine x_iload_n C 0 dX11_isA_24 rfl ?_
          refine x_iconst (v := 5) C dX11_isA_25 rfl ?_
          refine x_icmpne C 33 dX11_isA_26 (by decide) (fun c10 => ?_) (fun c10 => ?_)
          · replace h0 := ob_neg c10 h0
            refine x_iconst (v := 0) C dX11_isA_33 rfl ?_
            subst h0
            exact x_zret C (Or.inl rfl) R dX11_isA_34
          · replace h0 := ob_pos c10 h0
            refine x_iconst (v := 1) C dX11_isA_29 rfl ?_
            refine x_goto C 34 dX11_isA_30 (by decide) ?_
            subst h0
            exact x_zret C (Or.inr rfl) R dX11_isA_34
      · replace h0 := ob_pos c6 h0
        refine x_iload_n C 0 dX11_isA_14 rfl ?_
        refine x_iconst (v := 4) C dX11_isA_15 rfl ?_
        refine x_icmpeq C 29 dX11_isA_16 (by decide) (fun c12 => ?_) (fun c12 => ?_)
        · replace h0 := ob_pos c12 h0
          refine x_iconst (v := 1) C dX11_isA_29 rfl ?_
          refine x_goto C 34 dX11_isA_30 (by decide) ?_
          subst h0
          exact x_zret C (Or.inr rfl) R dX11_isA_34
        · replace h0 := ob_neg c12 h0
          refine x_iload_n C 1 dX11_isA_19 rfl ?_
          refine x_iconst (v := 2) C dX11_isA_20 rfl ?_
          refine x_icmpne C 33 dX11_isA_21 (by decide) (fun c14 => ?_) (fun c14 => ?_)
          · replace h0 := ob_neg c14 h0
            refine x_iconst (v := 0) C dX11_isA_33 rfl ?_
            subst h0
            exact x_zret C (Or.inl rfl) R dX11_isA_34
          · replace h0 := ob_pos c14 h0
            refine x_iload_n C 0 dX11_isA_24 rfl ?_
            refine x_iconst (v := 5) C dX11_isA_25 rfl ?_
            refine x_icmpne C 33 dX11_isA_26 (by decide) (fun c16 => ?_) (fun c16 => ?_)
            · replace h0 := ob_neg c16 h0
              refine x_iconst (v := 0) C dX11_isA_33 rfl ?_
              subst h0
              exact x_zret C (Or.inl rfl) R dX11_isA_34
            · replace h0 := ob_pos c16 h0
              refine x_iconst (v := 1) C dX11_isA_29 rfl ?_
              refine x_goto C 34 dX11_isA_30 (by decide) ?_
              subst h0
              exact x_zret C (Or.inr rfl) R dX11_isA_34
set_option maxHeartbeats 4000000 in
set_option maxRecDepth 100000 in
theorem c_X11_heard {l : Launch} {D : va_G} {ad : Nat → Nat} {cy : Nat → ClassId} (hJ : mJ LM ad) {σ : mS} {a1 : Int32} {a2 : Int32} {a3 : Int32} {a4 : Int32} {r : Int32}  (h0 : X11_heard a1 a2 a3 a4 = r) : MetG l LM D ad cy yX11_heard cX11_heard 4 (some .int) 1 [.int a1, .int a2, .int a3, .int a4] σ (some (.int r)) σ := by
  refine MetG.of hJ (by decide +kernel) [(0, .int a1), (1, .int a2), (2, .int a3), (3, .int a4)] rfl (Nat.le_of_ble_eq_true rfl) ?_
  intro K e1 e2 e3 e4 e5 C R
  subst e1
  subst e2
  subst e3
  subst e4
  unfold X11_heard at h0
  refine x_iload_n C 0 dX11_heard_0 rfl ?_
  refine x_iconst (v := 4) C dX11_heard_1 rfl ?_
  refine x_icmpne C 17 dX11_heard_2 (by decide) (fun c2 => ?_) (fun c2 => ?_)
  · replace h0 := ob_neg c2 h0
    refine x_iload_n C 0 dX11_heard_17 rfl ?_
    refine x_iconst (v := 2) C dX11_heard_18 rfl ?_
    refine x_callS (ar := 2) (rest := []) C (c_X11_isA C.2.2.2.2.2.2.1  rfl) hy_X11_isA ⟨tw942, tw943, tw75, tw944⟩ (by decide) (by decide) rfl rfl (Nat.le_of_ble_eq_true rfl) dX11_heard_19 ?_
    show Wx LM K σ 22 [(0, .int a1), (1, .int a2), (2, .int a3), (3, .int a4)] [.int (X11_isA a1 (2))]
    refine x_ifeq C 34 dX11_heard_22 (by decide) (fun c5 => ?_) (fun c5 => ?_)
    · replace h0 := ob_pos c5 h0
      refine x_iload_n C 0 dX11_heard_34 rfl ?_
      refine x_iconst (v := 5) C dX11_heard_35 rfl ?_
      refine x_icmpne C 54 dX11_heard_36 (by decide) (fun c7 => ?_) (fun c7 => ?_)
      · replace h0 := ob_neg c7 h0
        refine x_iconst (v := 1) C dX11_heard_54 rfl ?_
        refine x_iload_n C 1 dX11_heard_55 rfl ?_
        refine x_ishl C dX11_heard_56 ?_
        subst h0
        exact x_iret C R dX11_heard_57
      · replace h0 := ob_pos c7 h0
        refine x_iconst (v := 1) C dX11_heard_39 rfl ?_
        refine x_iload_n C 1 dX11_heard_40 rfl ?_
        refine x_ishl C dX11_heard_41 ?_
        refine x_iconst (v := 1) C dX11_heard_42 rfl ?_
        refine x_iload_n C 1 dX11_heard_43 rfl ?_
        refine x_bipush (v := 12) C dX11_heard_44 rfl ?_
        refine x_irem C dX11_heard_46 (by decide) ?_
        refine x_iconst (v := 1) C dX11_heard_47 rfl ?_
        refine x_iadd C dX11_heard_48 ?_
        refine x_ishl C dX11_heard_49 ?_
        refine x_ior C dX11_heard_50 ?_
        refine x_goto C 57 dX11_heard_51 (by decide) ?_
        subst h0
        exact x_iret C R dX11_heard_57
    · replace h0 := ob_neg c5 h0
      refine x_iload_n C 3 dX11_heard_25 rfl ?_
      refine x_iconst (v := 3) C dX11_heard_26 rfl ?_
      refine x_irem C dX11_heard_27 (by decide) ?_
      refine x_iconst (v := 2) C dX11_heard_28 rfl ?_
      refine x_icmpne C 34 dX11_heard_29 (by decide) (fun c9 => ?_) (fun c9 => ?_)
      · replace h0 := ob_neg c9 h0
        refine x_iload_n C 0 dX11_heard_34 rfl ?_
        refine x_iconst (v := 5) C dX11_heard_35 rfl ?_
        refine x_icmpne C 54 dX11_heard_36 (by decide) (fun c11 => ?_) (fun c11 => ?_)
        · replace h0 := ob_neg c11 h0
          refine x_iconst (v := 1) C dX11_heard_54 rfl ?_
          refine x_iload_n C 1 dX11_heard_55 rfl ?_
          refine x_ishl C dX11_heard_56 ?_
          subst h0
          exact x_iret C R dX11_heard_57
        · replace h0 := ob_pos c11 h0
          refine x_iconst (v := 1) C dX11_heard_39 rfl ?_
          refine x_iload_n C 1 dX11_heard_40 rfl ?_
          refine x_ishl C dX11_heard_41 ?_
          refine x_iconst (v := 1) C dX11_heard_42 rfl ?_
          refine x_iload_n C 1 dX11_heard_43 rfl ?_
          refine x_bipush (v := 12) C dX11_heard_44 rfl ?_
          refine x_irem C dX11_heard_46 (by decide) ?_
          refine x_iconst (v := 1) C dX11_heard_47 rfl ?_
          refine x_iadd C dX11_heard_48 ?_
          refine x_ishl C dX11_heard_49 ?_
          refine x_ior C dX11_heard_50 ?_
          refine x_goto C 57 dX11_heard_51 (by decide) ?_
          subst h0
          exact x_iret C R dX11_heard_57
      · replace h0 := ob_pos c9 h0
        refine x_iconst (v := 0) C dX11_heard_32 rfl ?_
        subst h0
        exact x_iret C R dX11_heard_33
  · replace h0 := ob_pos c2 h0
    refine x_iload_n C 2 dX11_heard_5 rfl ?_
    refine x_ifne C 13 dX11_heard_6 (by decide) (fun c13 => ?_) (fun c13 => ?_)
    · replace h0 := ob_neg c13 h0
      refine x_iconst (v := 1) C dX11_heard_13 rfl ?_
      refine x_iload_n C 2 dX11_heard_14 rfl ?_
      refine x_ishl C dX11_heard_15 ?_
      subst h0
      exact x_iret C R dX11_heard_16
    · replace h0 := ob_pos c13 h0
      refine x_iconst (v := 0) C dX11_heard_9 rfl ?_
      refine x_goto C 16 dX11_heard_10 (by decide) ?_
      subst h0
      exact x_iret C R dX11_heard_16
set_option maxHeartbeats 4000000 in
set_option maxRecDepth 100000 in
theorem c_X11_needs {l : Launch} {D : va_G} {ad : Nat → Nat} {cy : Nat → ClassId} (hJ : mJ LM ad) {σ : mS} {a1 : Int32} {a2 : Int32} {r : Int32}  (h0 : X11_needs a1 a2 = some r) : MetG l LM D ad cy yX11_needs cX11_needs 6 (some .int) 1 [.int a1, .int a2] σ (some (.int r)) σ := by
  refine MetG.of hJ (by decide +kernel) [(0, .int a1), (1, .int a2)] rfl (Nat.le_of_ble_eq_true rfl) ?_
  intro K e1 e2 e3 e4 e5 C R
  subst e1
  subst e2
  subst e3
  subst e4
  unfold X11_needs at h0
  refine x_iconst (v := 3) C dX11_needs_0 rfl ?_
  refine x_iload_n C 1 dX11_needs_1 rfl ?_
  refine x_bipush (v := 7) C dX11_needs_2 rfl ?_
  refine x_iand C dX11_needs_4 ?_
  obtain ⟨r1, g2, h0⟩ := ob_bind h0
  refine x_callS (ar := 1) (rest := [.int 3]) C (c_X11_bits C.2.2.2.2.2.2.1  g2) hy_X11_bits ⟨tw936, tw937, tw75, tw938⟩ (by decide) (by decide) rfl rfl (Nat.le_of_ble_eq_true rfl) dX11_needs_5 ?_
  show Wx LM K σ 8 [(0, .int a1), (1, .int a2)] [.int r1, .int 3]
  refine x_isub C dX11_needs_8 ?_
  refine x_istore_n (lv' := [(2, .int ((3 : Int32) - r1)), (0, .int a1), (1, .int a2)]) C dX11_needs_9 (by rw [e5]; decide) rfl ?_
  refine x_iconst (v := 3) C dX11_needs_10 rfl ?_
  refine x_iload_n C 2 dX11_needs_11 rfl ?_
  refine x_iconst (v := 3) C dX11_needs_12 rfl ?_
  refine x_ishr C dX11_needs_13 ?_
  obtain ⟨r3, g4, h0⟩ := ob_bind h0
  refine x_callS (ar := 1) (rest := [.int 3]) C (c_X11_bits C.2.2.2.2.2.2.1  g4) hy_X11_bits ⟨tw936, tw937, tw75, tw938⟩ (by decide) (by decide) rfl rfl (Nat.le_of_ble_eq_true rfl) dX11_needs_14 ?_
  show Wx LM K σ 17 [(2, .int ((3 : Int32) - r1)), (0, .int a1), (1, .int a2)] [.int r3, .int 3]
  refine x_isub C dX11_needs_17 ?_
  refine x_istore_n (lv' := [(3, .int ((3 : Int32) - r3)), (2, .int ((3 : Int32) - r1)), (0, .int a1), (1, .int a2)]) C dX11_needs_18 (by rw [e5]; decide) rfl ?_
  refine x_iload_n C 1 dX11_needs_19 rfl ?_
  refine x_iload_n C 0 dX11_needs_20 rfl ?_
  refine x_callS (ar := 2) (rest := []) C (c_X11_lesser C.2.2.2.2.2.2.1  rfl) hy_X11_lesser ⟨tw908, tw909, tw75, tw910⟩ (by decide) (by decide) rfl rfl (Nat.le_of_ble_eq_true rfl) dX11_needs_21 ?_
  show Wx LM K σ 24 [(3, .int ((3 : Int32) - r3)), (2, .int ((3 : Int32) - r1)), (0, .int a1), (1, .int a2)] [.int (X11_lesser ((3 : Int32) - r1) ((3 : Int32) - r3))]
  refine x_istore (lv' := [(4, .int (X11_lesser ((3 : Int32) - r1) ((3 : Int32) - r3))), (3, .int ((3 : Int32) - r3)), (2, .int ((3 : Int32) - r1)), (0, .int a1), (1, .int a2)]) C dX11_needs_24 (by rw [e5]; decide) rfl ?_
  refine x_iconst (v := 0) C dX11_needs_26 rfl ?_
  refine x_iload_n C 2 dX11_needs_27 rfl ?_
  refine x_iconst (v := 1) C dX11_needs_28 rfl ?_
  refine x_isub C dX11_needs_29 ?_
  refine x_callS (ar := 2) (rest := []) C (c_X11_larger C.2.2.2.2.2.2.1  rfl) hy_X11_larger ⟨tw939, tw940, tw75, tw941⟩ (by decide) (by decide) rfl rfl (Nat.le_of_ble_eq_true rfl) dX11_needs_30 ?_
  show Wx LM K σ 33 [(4, .int (X11_lesser ((3 : Int32) - r1) ((3 : Int32) - r3))), (3, .int ((3 : Int32) - r3)), (2, .int ((3 : Int32) - r1)), (0, .int a1), (1, .int a2)] [.int (X11_larger (0) (((3 : Int32) - r1) - 1))]
  refine x_iconst (v := 0) C dX11_needs_33 rfl ?_
  refine x_iload_n C 1 dX11_needs_34 rfl ?_
  refine x_iconst (v := 1) C dX11_needs_35 rfl ?_
  refine x_isub C dX11_needs_36 ?_
  refine x_callS (ar := 2) (rest := [.int (X11_larger (0) (((3 : Int32) - r1) - 1))]) C (c_X11_larger C.2.2.2.2.2.2.1  rfl) hy_X11_larger ⟨tw939, tw940, tw75, tw941⟩ (by decide) (by decide) rfl rfl (Nat.le_of_ble_eq_true rfl) dX11_needs_37 ?_
  show Wx LM K σ 40 [(4, .int (X11_lesser ((3 : Int32) - r1) ((3 : Int32) - r3))), (3, .int ((3 : Int32) - r3)), (2, .int ((3 : Int32) - r1)), (0, .int a1), (1, .int a2)] [.int (X11_larger (0) (((3 : Int32) - r3) - 1)), .int (X11_larger (0) (((3 : Int32) - r1) - 1))]
  refine x_iadd C dX11_needs_40 ?_
  refine x_istore (lv' := [(5, .int ((X11_larger (0) (((3 : Int32) - r1) - 1)) + (X11_larger (0) (((3 : Int32) - r3) - 1)))), (4, .int (X11_lesser ((3 : Int32) - r1) ((3 : Int32) - r3))), (3, .int ((3 : Int32) - r3)), (2, .int ((3 : Int32) - r1)), (0, .int a1), (1, .int a2)]) C dX11_needs_41 (by rw [e5]; decide) rfl ?_
  refine x_iload_n C 4 dX11_needs_43 rfl ?_
  refine x_iconst (v := 1) C dX11_needs_44 rfl ?_
  refine x_callS (ar := 2) (rest := []) C (c_X11_isA C.2.2.2.2.2.2.1  rfl) hy_X11_isA ⟨tw942, tw943, tw75, tw944⟩ (by decide) (by decide) rfl rfl (Nat.le_of_ble_eq_true rfl) dX11_needs_45 ?_
  show Wx LM K σ 48 [(5, .int ((X11_larger (0) (((3 : Int32) - r1) - 1)) + (X11_larger (0) (((3 : Int32) - r3) - 1)))), (4, .int (X11_lesser ((3 : Int32) - r1) ((3 : Int32) - r3))), (3, .int ((3 : Int32) - r3)), (2, .int ((3 : Int32) - r1)), (0, .int a1), (1, .int a2)] [.int (X11_isA a1 (1))]
  refine x_ifeq C 57 dX11_needs_48 (by decide) (fun c10 => ?_) (fun c10 => ?_)
  · replace h0 := ob_pos c10 h0
    refine x_iload_n C 4 dX11_needs_57 rfl ?_
    refine x_iconst (v := 3) C dX11_needs_58 rfl ?_
    refine x_icmpne C 72 dX11_needs_59 (by decide) (fun c12 => ?_) (fun c12 => ?_)
    · replace h0 := ob_neg c12 h0
      refine x_iload C 1 dX11_needs_72 rfl ?_
      cases h0
      exact x_iret C R dX11_needs_74
    · replace h0 := ob_pos c12 h0
      refine x_iload C 1 dX11_needs_62 rfl ?_
      refine x_iload C 0 dX11_needs_64 rfl ?_
      refine x_callS (ar := 2) (rest := []) C (c_X11_lesser C.2.2.2.2.2.2.1  rfl) hy_X11_lesser ⟨tw908, tw909, tw75, tw910⟩ (by decide) (by decide) rfl rfl (Nat.le_of_ble_eq_true rfl) dX11_needs_66 ?_
      show Wx LM K σ 69 [(5, .int ((X11_larger (0) (((3 : Int32) - r1) - 1)) + (X11_larger (0) (((3 : Int32) - r3) - 1)))), (4, .int (X11_lesser ((3 : Int32) - r1) ((3 : Int32) - r3))), (3, .int ((3 : Int32) - r3)), (2, .int ((3 : Int32) - r1)), (0, .int a1), (1, .int a2)] [.int (X11_lesser (X11_lesser ((3 : Int32) - r1) ((3 : Int32) - r3)) ((X11_larger (0) (((3 : Int32) - r1) - 1)) + (X11_larger (0) (((3 : Int32) - r3) - 1))))]
      refine x_goto C 74 dX11_needs_69 (by decide) ?_
      cases h0
      exact x_iret C R dX11_needs_74
  · replace h0 := ob_neg c10 h0
    refine x_iload_n C 3 dX11_needs_51 rfl ?_
    refine x_iload_n C 2 dX11_needs_52 rfl ?_
    refine x_iadd C dX11_needs_53 ?_
    refine x_goto C 74 dX11_needs_54 (by decide) ?_
    cases h0
    exact x_iret C R dX11_needs_74
set_option maxHeartbeats 4000000 in
set_option maxRecDepth 100000 in
theorem c_X11_marksBy {l : Launch} {D : va_G} {ad : Nat → Nat} {cy : Nat → ClassId} (hJ : mJ LM ad) {σ : mS} {a1 : Int32} {a2 : Int32} {r : Int32}  (h0 : X11_marksBy σ a1 a2 = some r) : MetG l LM D ad cy yX11_marksBy cX11_marksBy 5 (some .int) 1 [.ref (ad 0), .int a1, .int a2] σ (some (.int r)) σ := by
  refine MetG.of hJ (by decide +kernel) [(0, .ref (ad 0)), (1, .int a1), (2, .int a2)] rfl (Nat.le_of_ble_eq_true rfl) ?_
  intro K e1 e2 e3 e4 e5 C R
  subst e1
  subst e2
  subst e3
  subst e4
  unfold X11_marksBy at h0
  refine x_iconst (v := 0) C dX11_marksBy_0 rfl ?_
  refine x_istore_n (lv' := [(3, .int 0), (0, .ref (kad K 0)), (1, .int a1), (2, .int a2)]) C dX11_marksBy_1 (by rw [e5]; decide) rfl ?_
  refine x_iconst (v := 0) C dX11_marksBy_2 rfl ?_
  refine x_istore (lv' := [(4, .int 0), (3, .int 0), (0, .ref (kad K 0)), (1, .int a1), (2, .int a2)]) C dX11_marksBy_3 (by rw [e5]; decide) rfl ?_
  obtain ⟨e10, g11, h0⟩ := ob_bind h0
  have J1 : ∀ (y3 : Int32), y3 = e10 → Wx LM K σ 48 [(3, .int y3)] [] := by
    intro y3 e9
    subst e9
    replace h0 := un1_l h0
    refine x_iload_n C 0 dX11_marksBy_48 rfl ?_
    cases h0
    exact x_iret C R dX11_marksBy_49
  refine lp_G (G := fun q : Int32 × Int32 => Wx LM K σ 5 [(4, .int q.2), (3, .int q.1), (0, .ref (kad K 0)), (1, .int a1), (2, .int a2)] []) (fun q x h1 ihL1 ihR1 => ?_) big _ g11
  obtain ⟨x1, x2⟩ := q
  replace h1 : X11_marksBy_b5 σ a1 a2 x1 x2 = some x := h1
  unfold X11_marksBy_b5 at h1
  show Wx LM K σ 5 [(4, .int x2), (3, .int x1), (0, .ref (kad K 0)), (1, .int a1), (2, .int a2)] []
  refine x_iload C 0 dX11_marksBy_5 rfl ?_
  refine x_bipush (v := 6) C dX11_marksBy_7 rfl ?_
  refine x_icmpge C 48 dX11_marksBy_9 (by decide) (fun c5 => ?_) (fun c5 => ?_)
  · replace h1 := ob_pos c5 h1
    refine x_lv (lv' := [(3, .int x1)]) [1] rfl ?_
    exact J1 _ (ihR1 _ (Option.some.inj h1).symm)
  · replace h1 := ob_neg c5 h1
    refine x_iload_n C 1 dX11_marksBy_12 rfl ?_
    refine x_iload_n C 4 dX11_marksBy_13 rfl ?_
    refine x_aload_n C 2 dX11_marksBy_14 rfl ?_
    refine x_getR (j := 7) (i := 29) (q := (RX11, TX11, 22)) C 7 (iM 0 (by decide)) rfl rfl inBX11 (by decide) tw770 rfl dX11_marksBy_15 ?_
    refine x_bipush (v := 6) C dX11_marksBy_18 rfl ?_
    refine x_iload_n C 3 dX11_marksBy_20 rfl ?_
    refine x_imul C dX11_marksBy_21 ?_
    refine x_iload C 0 dX11_marksBy_22 rfl ?_
    refine x_iadd C dX11_marksBy_24 ?_
    obtain ⟨c6, h1⟩ := ob_if h1
    refine x_iald C (iM 7 (by decide)) rfl (vin_in c6) dX11_marksBy_25 ?_
    refine x_callS (ar := 2) (rest := [.int x1]) C (c_X11_has C.2.2.2.2.2.2.1  rfl) hy_X11_has ⟨tw957, tw958, tw75, tw959⟩ (by decide) (by decide) rfl rfl (Nat.le_of_ble_eq_true rfl) dX11_marksBy_26 ?_
    show Wx LM K σ 29 [(4, .int x2), (3, .int x1), (0, .ref (kad K 0)), (1, .int a1), (2, .int a2)] [.int (X11_has a2 (σ.1 7 (((6 : Int32) * a1) + x2).toNatClampNeg)), .int x1]
    refine x_ifeq C 39 dX11_marksBy_29 (by decide) (fun c9 => ?_) (fun c9 => ?_)
    · replace h1 := ob_pos c9 h1
      refine x_iconst (v := 0) C dX11_marksBy_39 rfl ?_
      refine x_ior C dX11_marksBy_40 ?_
      refine x_istore_n (lv' := [(3, .int (x1 ||| 0)), (4, .int x2), (0, .ref (kad K 0)), (1, .int a1), (2, .int a2)]) C dX11_marksBy_41 (by rw [e5]; decide) rfl ?_
      refine x_iinc (v := (x2 + 1)) (lv' := [(4, .int (x2 + 1)), (3, .int (x1 ||| 0)), (0, .ref (kad K 0)), (1, .int a1), (2, .int a2)]) C 1 dX11_marksBy_42 rfl rfl (by rw [e5]; decide) rfl ?_
      refine x_goto C 5 dX11_marksBy_45 (by decide) ?_
      refine x_lv (lv' := [(4, .int (x2 + 1)), (3, .int (x1 ||| 0)), (0, .ref (kad K 0)), (1, .int a1), (2, .int a2)]) [0, 1, 2, 3, 4] rfl ?_
      exact ihL1 _ (Option.some.inj h1).symm
    · replace h1 := ob_neg c9 h1
      refine x_iconst (v := 1) C dX11_marksBy_32 rfl ?_
      refine x_iload C 0 dX11_marksBy_33 rfl ?_
      refine x_ishl C dX11_marksBy_35 ?_
      refine x_goto C 40 dX11_marksBy_36 (by decide) ?_
      refine x_ior C dX11_marksBy_40 ?_
      refine x_istore_n (lv' := [(3, .int (x1 ||| ((1 : Int32) <<< (x2 &&& 31)))), (4, .int x2), (0, .ref (kad K 0)), (1, .int a1), (2, .int a2)]) C dX11_marksBy_41 (by rw [e5]; decide) rfl ?_
      refine x_iinc (v := (x2 + 1)) (lv' := [(4, .int (x2 + 1)), (3, .int (x1 ||| ((1 : Int32) <<< (x2 &&& 31)))), (0, .ref (kad K 0)), (1, .int a1), (2, .int a2)]) C 1 dX11_marksBy_42 rfl rfl (by rw [e5]; decide) rfl ?_
      refine x_goto C 5 dX11_marksBy_45 (by decide) ?_
      refine x_lv (lv' := [(4, .int (x2 + 1)), (3, .int (x1 ||| ((1 : Int32) <<< (x2 &&& 31)))), (0, .ref (kad K 0)), (1, .int a1), (2, .int a2)]) [0, 1, 2, 3, 4] rfl ?_
      exact ihL1 _ (Option.some.inj h1).symm
set_option maxHeartbeats 4000000 in
set_option maxRecDepth 100000 in
theorem c_X11_calls {l : Launch} {D : va_G} {ad : Nat → Nat} {cy : Nat → ClassId} (hJ : mJ LM ad) {σ τ : mS} {a1 : Int32} {a2 : Int32} {r : Int32}  (h0 : X11_calls σ a1 a2 = some (r, τ)) : MetG l LM D ad cy yX11_calls cX11_calls 6 (some .int) 2 [.ref (ad 0), .int a1, .int a2] σ (some (.int r)) τ := by
  refine MetG.of hJ (by decide +kernel) [(0, .ref (ad 0)), (1, .int a1), (2, .int a2)] rfl (Nat.le_of_ble_eq_true rfl) ?_
  intro K e1 e2 e3 e4 e5 C R
  subst e1
  subst e2
  subst e3
  subst e4
  unfold X11_calls at h0
  refine x_iconst (v := 0) C dX11_calls_0 rfl ?_
  refine x_istore_n (lv' := [(3, .int 0), (0, .ref (kad K 0)), (1, .int a1), (2, .int a2)]) C dX11_calls_1 (by rw [e5]; decide) rfl ?_
  refine x_iconst (v := 0) C dX11_calls_2 rfl ?_
  refine x_istore (lv' := [(4, .int 0), (3, .int 0), (0, .ref (kad K 0)), (1, .int a1), (2, .int a2)]) C dX11_calls_3 (by rw [e5]; decide) rfl ?_
  obtain ⟨e30, g31, h0⟩ := ob_bind h0
  have J1 : ∀ (s4 : mS) (y5 : Int32), (s4, y5) = e30 → Wx LM K s4 104 [(3, .int y5), (0, .ref (kad K 0)), (1, .int a1), (2, .int a2)] [] := by
    intro s4 y5 e9
    subst e9
    replace h0 := un2_l h0
    refine x_iload_n C 0 dX11_calls_104 rfl ?_
    refine x_aload_n C 1 dX11_calls_105 rfl ?_
    refine x_getR (j := 11) (i := 38) (q := (RX11, TX11, 22)) C 10 (iM 0 (by decide)) rfl rfl inBX11 (by decide) tw774 rfl dX11_calls_106 ?_
    refine x_iload_n C 2 dX11_calls_109 rfl ?_
    refine x_iconst (v := 4) C dX11_calls_110 rfl ?_
    refine x_iadd C dX11_calls_111 ?_
    obtain ⟨c6, h0⟩ := ob_if h0
    refine x_iald C (iM 10 (by decide)) rfl (vin_in c6) dX11_calls_112 ?_
    refine x_iconst (v := (-1)) C dX11_calls_113 rfl ?_
    refine x_ixor C dX11_calls_114 ?_
    refine x_iand C dX11_calls_115 ?_
    refine x_istore (lv' := [(4, .int (y5 &&& ((s4.1 10 (a1 + 4).toNatClampNeg) ^^^ (-1)))), (3, .int y5), (0, .ref (kad K 0)), (1, .int a1), (2, .int a2)]) C dX11_calls_116 (by rw [e5]; decide) rfl ?_
    refine x_aload_n C 2 dX11_calls_118 rfl ?_
    refine x_getR (j := 11) (i := 38) (q := (RX11, TX11, 22)) C 10 (iM 0 (by decide)) rfl rfl inBX11 (by decide) tw774 rfl dX11_calls_119 ?_
    refine x_iload_n C 3 dX11_calls_122 rfl ?_
    refine x_iconst (v := 4) C dX11_calls_123 rfl ?_
    refine x_iadd C dX11_calls_124 ?_
    refine x_dup2 C dX11_calls_125 rfl rfl ?_
    obtain ⟨c7, h0⟩ := ob_if h0
    refine x_iald C (iM 10 (by decide)) rfl (vin_in c7) dX11_calls_126 ?_
    refine x_iload_n C 1 dX11_calls_127 rfl ?_
    refine x_ior C dX11_calls_128 ?_
    obtain ⟨c8, h0⟩ := ob_if h0
    refine x_iast C (iM 10 (by decide)) rfl (vin_in c8) dX11_calls_129 ?_
    refine x_aload_n C 2 dX11_calls_130 rfl ?_
    refine x_getR (j := 11) (i := 38) (q := (RX11, TX11, 22)) C 10 (iM 0 (by decide)) rfl rfl inBX11 (by decide) tw774 rfl dX11_calls_131 ?_
    refine x_iload_n C 3 dX11_calls_134 rfl ?_
    refine x_iconst (v := 5) C dX11_calls_135 rfl ?_
    refine x_iadd C dX11_calls_136 ?_
    refine x_dup2 C dX11_calls_137 rfl rfl ?_
    obtain ⟨c9, h0⟩ := ob_if h0
    refine x_iald C (iM 10 (by decide)) rfl (vin_in c9) dX11_calls_138 ?_
    refine x_iconst (v := 1) C dX11_calls_139 rfl ?_
    refine x_iload_n C 4 dX11_calls_140 rfl ?_
    refine x_ishl C dX11_calls_141 ?_
    refine x_iconst (v := (-1)) C dX11_calls_142 rfl ?_
    refine x_ixor C dX11_calls_143 ?_
    refine x_iand C dX11_calls_144 ?_
    obtain ⟨c10, h0⟩ := ob_if h0
    refine x_iast C (iM 10 (by decide)) rfl (vin_in c10) dX11_calls_145 ?_
    refine x_aload_n C 2 dX11_calls_146 rfl ?_
    refine x_getR (j := 11) (i := 38) (q := (RX11, TX11, 22)) C 10 (iM 0 (by decide)) rfl rfl inBX11 (by decide) tw774 rfl dX11_calls_147 ?_
    refine x_iload_n C 3 dX11_calls_150 rfl ?_
    refine x_bipush (v := 6) C dX11_calls_151 rfl ?_
    refine x_iadd C dX11_calls_153 ?_
    refine x_dup2 C dX11_calls_154 rfl rfl ?_
    obtain ⟨c11, h0⟩ := ob_if h0
    refine x_iald C (iM 10 (by decide)) rfl (vin_in c11) dX11_calls_155 ?_
    refine x_iconst (v := 1) C dX11_calls_156 rfl ?_
    refine x_iadd C dX11_calls_157 ?_
    obtain ⟨c12, h0⟩ := ob_if h0
    refine x_iast C (iM 10 (by decide)) rfl (vin_in c12) dX11_calls_158 ?_
    refine x_aload_n C 2 dX11_calls_159 rfl ?_
    refine x_getR (j := 11) (i := 38) (q := (RX11, TX11, 22)) C 10 (iM 0 (by decide)) rfl rfl inBX11 (by decide) tw774 rfl dX11_calls_160 ?_
    refine x_iload_n C 3 dX11_calls_163 rfl ?_
    refine x_bipush (v := 7) C dX11_calls_164 rfl ?_
    refine x_iadd C dX11_calls_166 ?_
    refine x_iload_n C 4 dX11_calls_167 rfl ?_
    obtain ⟨c13, h0⟩ := ob_if h0
    refine x_iast C (iM 10 (by decide)) rfl (vin_in c13) dX11_calls_168 ?_
    refine x_iload C 0 dX11_calls_169 rfl ?_
    cases h0
    exact x_iret C R dX11_calls_171
  refine lp_G (G := fun q : mS × Int32 × Int32 => Wx LM K q.1 5 [(4, .int q.2.2), (3, .int q.2.1), (0, .ref (kad K 0)), (1, .int a1), (2, .int a2)] []) (fun q x h1 ihL1 ihR1 => ?_) big _ g31
  obtain ⟨s1, x2, x3⟩ := q
  replace h1 : X11_calls_b5 a1 a2 s1 x2 x3 = some x := h1
  unfold X11_calls_b5 at h1
  show Wx LM K s1 5 [(4, .int x3), (3, .int x2), (0, .ref (kad K 0)), (1, .int a1), (2, .int a2)] []
  refine x_iload C 0 dX11_calls_5 rfl ?_
  refine x_aload_n C 2 dX11_calls_7 rfl ?_
  refine x_getI (j := 5) (i := 124) (q := (RX11, TX11, 22)) C (iM 0 (by decide)) rfl rfl inBX11 (by decide) tw768 rfl dX11_calls_8 ?_
  refine x_icmpge C 104 dX11_calls_11 (by decide) (fun c15 => ?_) (fun c15 => ?_)
  · replace h1 := ob_pos c15 h1
    refine x_lv (lv' := [(3, .int x2), (0, .ref (kad K 0)), (1, .int a1), (2, .int a2)]) [1, 2, 3, 4] rfl ?_
    exact J1 _ _ (ihR1 _ (Option.some.inj h1).symm)
  · replace h1 := ob_neg c15 h1
    refine x_aload_n C 2 dX11_calls_14 rfl ?_
    refine x_getR (j := 6) (i := 26) (q := (RX11, TX11, 22)) C 6 (iM 0 (by decide)) rfl rfl inBX11 (by decide) tw769 rfl dX11_calls_15 ?_
    refine x_iload C 0 dX11_calls_18 rfl ?_
    obtain ⟨c16, h1⟩ := ob_if h1
    refine x_iald C (iM 6 (by decide)) rfl (vin_in c16) dX11_calls_20 ?_
    refine x_iload_n C 4 dX11_calls_21 rfl ?_
    refine x_aload_n C 2 dX11_calls_22 rfl ?_
    refine x_getR (j := 11) (i := 38) (q := (RX11, TX11, 22)) C 10 (iM 0 (by decide)) rfl rfl inBX11 (by decide) tw774 rfl dX11_calls_23 ?_
    refine x_iload_n C 3 dX11_calls_26 rfl ?_
    refine x_bipush (v := 7) C dX11_calls_27 rfl ?_
    refine x_iadd C dX11_calls_29 ?_
    obtain ⟨c17, h1⟩ := ob_if h1
    refine x_iald C (iM 10 (by decide)) rfl (vin_in c17) dX11_calls_30 ?_
    refine x_aload_n C 2 dX11_calls_31 rfl ?_
    refine x_getR (j := 11) (i := 38) (q := (RX11, TX11, 22)) C 10 (iM 0 (by decide)) rfl rfl inBX11 (by decide) tw774 rfl dX11_calls_32 ?_
    refine x_iload_n C 3 dX11_calls_35 rfl ?_
    refine x_bipush (v := 6) C dX11_calls_36 rfl ?_
    refine x_iadd C dX11_calls_38 ?_
    obtain ⟨c18, h1⟩ := ob_if h1
    refine x_iald C (iM 10 (by decide)) rfl (vin_in c18) dX11_calls_39 ?_
    refine x_callS (ar := 4) (rest := []) C (c_X11_heard C.2.2.2.2.2.2.1  rfl) hy_X11_heard ⟨tw976, tw977, tw75, tw978⟩ (by decide) (by decide) rfl rfl (Nat.le_of_ble_eq_true rfl) dX11_calls_40 ?_
    show Wx LM K s1 43 [(4, .int x3), (3, .int x2), (0, .ref (kad K 0)), (1, .int a1), (2, .int a2)] [.int (X11_heard (s1.1 6 x3.toNatClampNeg) a2 (s1.1 10 (a1 + 7).toNatClampNeg) (s1.1 10 (a1 + 6).toNatClampNeg))]
    refine x_istore (lv' := [(5, .int (X11_heard (s1.1 6 x3.toNatClampNeg) a2 (s1.1 10 (a1 + 7).toNatClampNeg) (s1.1 10 (a1 + 6).toNatClampNeg))), (4, .int x3), (3, .int x2), (0, .ref (kad K 0)), (1, .int a1), (2, .int a2)]) C dX11_calls_43 (by rw [e5]; decide) rfl ?_
    refine x_aload_n C 3 dX11_calls_45 rfl ?_
    refine x_getR (j := 11) (i := 38) (q := (RX11, TX11, 22)) C 10 (iM 0 (by decide)) rfl rfl inBX11 (by decide) tw774 rfl dX11_calls_46 ?_
    refine x_iload_n C 4 dX11_calls_49 rfl ?_
    refine x_iload C 1 dX11_calls_50 rfl ?_
    refine x_iadd C dX11_calls_52 ?_
    refine x_dup2 C dX11_calls_53 rfl rfl ?_
    obtain ⟨c20, h1⟩ := ob_if h1
    refine x_iald C (iM 10 (by decide)) rfl (vin_in c20) dX11_calls_54 ?_
    refine x_aload_n C 3 dX11_calls_55 rfl ?_
    refine x_iload C 1 dX11_calls_56 rfl ?_
    refine x_iload C 0 dX11_calls_58 rfl ?_
    obtain ⟨r21, g22, h1⟩ := ob_bind h1
    refine x_callV (ar := 2) (q := (RX11, TX11, 22)) (rest := [.int (s1.1 10 (a1 + x3).toNatClampNeg), .int (a1 + x3), .ref (kad K 10)]) C (c_X11_marksBy C.2.2.2.2.2.2.1  g22) (iM 0 (by decide)) rfl rfl hy_X11_marksBy ⟨tw953, tw955, tw44, tw75, tw956⟩ (by decide) (by decide) rfl rfl (Nat.le_of_ble_eq_true rfl) dX11_calls_60 ?_
    show Wx LM K s1 63 [(5, .int (X11_heard (s1.1 6 x3.toNatClampNeg) a2 (s1.1 10 (a1 + 7).toNatClampNeg) (s1.1 10 (a1 + 6).toNatClampNeg))), (4, .int x3), (3, .int x2), (0, .ref (kad K 0)), (1, .int a1), (2, .int a2)] [.int r21, .int (s1.1 10 (a1 + x3).toNatClampNeg), .int (a1 + x3), .ref (kad K 10)]
    refine x_ior C dX11_calls_63 ?_
    obtain ⟨c23, h1⟩ := ob_if h1
    refine x_iast C (iM 10 (by decide)) rfl (vin_in c23) dX11_calls_64 ?_
    refine x_iload_n C 2 dX11_calls_65 rfl ?_
    refine x_aload_n C 3 dX11_calls_66 rfl ?_
    refine x_getR (j := 6) (i := 26) (q := (RX11, TX11, 22)) C 6 (iM 0 (by decide)) rfl rfl inBX11 (by decide) tw769 rfl dX11_calls_67 ?_
    refine x_iload C 1 dX11_calls_70 rfl ?_
    obtain ⟨c24, h1⟩ := ob_if h1
    refine x_iald C (iM 6 (by decide)) rfl (vin_in c24) dX11_calls_72 ?_
    refine x_aload_n C 3 dX11_calls_73 rfl ?_
    refine x_getR (j := 11) (i := 38) (q := (RX11, TX11, 22)) C 10 (iM 0 (by decide)) rfl rfl inBX11 (by decide) tw774 rfl dX11_calls_74 ?_
    refine x_iload_n C 4 dX11_calls_77 rfl ?_
    refine x_iload C 1 dX11_calls_78 rfl ?_
    refine x_iadd C dX11_calls_80 ?_
    obtain ⟨c25, h1⟩ := ob_if h1
    refine x_iald C (iM 10 (by decide)) rfl (vin_in c25) dX11_calls_81 ?_
    obtain ⟨r26, g27, h1⟩ := ob_bind h1
    refine x_callS (ar := 2) (rest := [.int x2]) C (c_X11_needs C.2.2.2.2.2.2.1  g27) hy_X11_needs ⟨tw933, tw934, tw75, tw935⟩ (by decide) (by decide) rfl rfl (Nat.le_of_ble_eq_true rfl) dX11_calls_82 ?_
    show Wx LM K (mwI s1 10 (a1 + x3).toNatClampNeg ((s1.1 10 (a1 + x3).toNatClampNeg) ||| r21)) 85 [(5, .int (X11_heard (s1.1 6 x3.toNatClampNeg) a2 (s1.1 10 (a1 + 7).toNatClampNeg) (s1.1 10 (a1 + 6).toNatClampNeg))), (4, .int x3), (3, .int x2), (0, .ref (kad K 0)), (1, .int a1), (2, .int a2)] [.int r26, .int x2]
    refine x_ifne C 95 dX11_calls_85 (by decide) (fun c29 => ?_) (fun c29 => ?_)
    · replace h1 := ob_neg c29 h1
      refine x_iconst (v := 0) C dX11_calls_95 rfl ?_
      refine x_ior C dX11_calls_96 ?_
      refine x_istore_n (lv' := [(3, .int (x2 ||| 0)), (5, .int (X11_heard (s1.1 6 x3.toNatClampNeg) a2 (s1.1 10 (a1 + 7).toNatClampNeg) (s1.1 10 (a1 + 6).toNatClampNeg))), (4, .int x3), (0, .ref (kad K 0)), (1, .int a1), (2, .int a2)]) C dX11_calls_97 (by rw [e5]; decide) rfl ?_
      refine x_iinc (v := (x3 + 1)) (lv' := [(4, .int (x3 + 1)), (3, .int (x2 ||| 0)), (5, .int (X11_heard (s1.1 6 x3.toNatClampNeg) a2 (s1.1 10 (a1 + 7).toNatClampNeg) (s1.1 10 (a1 + 6).toNatClampNeg))), (0, .ref (kad K 0)), (1, .int a1), (2, .int a2)]) C 2 dX11_calls_98 rfl rfl (by rw [e5]; decide) rfl ?_
      refine x_goto C 5 dX11_calls_101 (by decide) ?_
      refine x_lv (lv' := [(4, .int (x3 + 1)), (3, .int (x2 ||| 0)), (0, .ref (kad K 0)), (1, .int a1), (2, .int a2)]) [0, 1, 3, 4, 5] rfl ?_
      exact ihL1 _ (Option.some.inj h1).symm
    · replace h1 := ob_pos c29 h1
      refine x_iconst (v := 1) C dX11_calls_88 rfl ?_
      refine x_iload C 1 dX11_calls_89 rfl ?_
      refine x_ishl C dX11_calls_91 ?_
      refine x_goto C 96 dX11_calls_92 (by decide) ?_
      refine x_ior C dX11_calls_96 ?_
      refine x_istore_n (lv' := [(3, .int (x2 ||| ((1 : Int32) <<< (x3 &&& 31)))), (5, .int (X11_heard (s1.1 6 x3.toNatClampNeg) a2 (s1.1 10 (a1 + 7).toNatClampNeg) (s1.1 10 (a1 + 6).toNatClampNeg))), (4, .int x3), (0, .ref (kad K 0)), (1, .int a1), (2, .int a2)]) C dX11_calls_97 (by rw [e5]; decide) rfl ?_
      refine x_iinc (v := (x3 + 1)) (lv' := [(4, .int (x3 + 1)), (3, .int (x2 ||| ((1 : Int32) <<< (x3 &&& 31)))), (5, .int (X11_heard (s1.1 6 x3.toNatClampNeg) a2 (s1.1 10 (a1 + 7).toNatClampNeg) (s1.1 10 (a1 + 6).toNatClampNeg))), (0, .ref (kad K 0)), (1, .int a1), (2, .int a2)]) C 2 dX11_calls_98 rfl rfl (by rw [e5]; decide) rfl ?_
      refine x_goto C 5 dX11_calls_101 (by decide) ?_
      refine x_lv (lv' := [(4, .int (x3 + 1)), (3, .int (x2 ||| ((1 : Int32) <<< (x3 &&& 31)))), (0, .ref (kad K 0)), (1, .int a1), (2, .int a2)]) [0, 1, 3, 4, 5] rfl ?_
      exact ihL1 _ (Option.some.inj h1).symm
set_option maxHeartbeats 4000000 in
set_option maxRecDepth 100000 in
theorem c_X11_told {l : Launch} {D : va_G} {ad : Nat → Nat} {cy : Nat → ClassId} (hJ : mJ LM ad) {σ : mS} {a1 : Int32} {a2 : Int32} {r : Int32}  (h0 : X11_told σ a1 a2 = some r) : MetG l LM D ad cy yX11_told cX11_told 3 (some .int) 2 [.ref (ad 0), .int a1, .int a2] σ (some (.int r)) σ := by
  refine MetG.of hJ (by decide +kernel) [(0, .ref (ad 0)), (1, .int a1), (2, .int a2)] rfl (Nat.le_of_ble_eq_true rfl) ?_
  intro K e1 e2 e3 e4 e5 C R
  subst e1
  subst e2
  subst e3
  subst e4
  unfold X11_told at h0
  refine x_iload_n C 2 dX11_told_0 rfl ?_
  refine x_ifne C 13 dX11_told_1 (by decide) (fun c2 => ?_) (fun c2 => ?_)
  · replace h0 := ob_neg c2 h0
    refine x_iload_n C 2 dX11_told_13 rfl ?_
    refine x_iconst (v := 1) C dX11_told_14 rfl ?_
    refine x_icmpne C 27 dX11_told_15 (by decide) (fun c4 => ?_) (fun c4 => ?_)
    · replace h0 := ob_neg c4 h0
      refine x_iload_n C 2 dX11_told_27 rfl ?_
      refine x_iconst (v := 2) C dX11_told_28 rfl ?_
      refine x_icmpne C 45 dX11_told_29 (by decide) (fun c6 => ?_) (fun c6 => ?_)
      · replace h0 := ob_neg c6 h0
        refine x_iload_n C 2 dX11_told_45 rfl ?_
        refine x_iconst (v := 3) C dX11_told_46 rfl ?_
        refine x_icmpne C 76 dX11_told_47 (by decide) (fun c8 => ?_) (fun c8 => ?_)
        · replace h0 := ob_neg c8 h0
          refine x_aload_n C 0 dX11_told_76 rfl ?_
          refine x_getR (j := 6) (i := 26) (q := (RX11, TX11, 22)) C 6 (iM 0 (by decide)) rfl rfl inBX11 (by decide) tw769 rfl dX11_told_77 ?_
          refine x_iload_n C 1 dX11_told_80 rfl ?_
          obtain ⟨c9, h0⟩ := ob_if h0
          refine x_iald C (iM 6 (by decide)) rfl (vin_in c9) dX11_told_81 ?_
          refine x_aload_n C 0 dX11_told_82 rfl ?_
          refine x_getR (j := 11) (i := 38) (q := (RX11, TX11, 22)) C 10 (iM 0 (by decide)) rfl rfl inBX11 (by decide) tw774 rfl dX11_told_83 ?_
          refine x_iload_n C 1 dX11_told_86 rfl ?_
          obtain ⟨c10, h0⟩ := ob_if h0
          refine x_iald C (iM 10 (by decide)) rfl (vin_in c10) dX11_told_87 ?_
          obtain ⟨r11, g12, h0⟩ := ob_bind h0
          refine x_callS (ar := 2) (rest := []) C (c_X11_needs C.2.2.2.2.2.2.1  g12) hy_X11_needs ⟨tw933, tw934, tw75, tw935⟩ (by decide) (by decide) rfl rfl (Nat.le_of_ble_eq_true rfl) dX11_told_88 ?_
          show Wx LM K σ 91 [(0, .ref (kad K 0)), (1, .int a1), (2, .int a2)] [.int r11]
          cases h0
          exact x_iret C R dX11_told_91
        · replace h0 := ob_pos c8 h0
          refine x_aload_n C 0 dX11_told_50 rfl ?_
          refine x_getR (j := 6) (i := 26) (q := (RX11, TX11, 22)) C 6 (iM 0 (by decide)) rfl rfl inBX11 (by decide) tw769 rfl dX11_told_51 ?_
          refine x_iload_n C 1 dX11_told_54 rfl ?_
          obtain ⟨c13, h0⟩ := ob_if h0
          refine x_iald C (iM 6 (by decide)) rfl (vin_in c13) dX11_told_55 ?_
          refine x_aload_n C 0 dX11_told_56 rfl ?_
          refine x_getR (j := 11) (i := 38) (q := (RX11, TX11, 22)) C 10 (iM 0 (by decide)) rfl rfl inBX11 (by decide) tw774 rfl dX11_told_57 ?_
          refine x_iload_n C 1 dX11_told_60 rfl ?_
          obtain ⟨c14, h0⟩ := ob_if h0
          refine x_iald C (iM 10 (by decide)) rfl (vin_in c14) dX11_told_61 ?_
          obtain ⟨r15, g16, h0⟩ := ob_bind h0
          refine x_callS (ar := 2) (rest := []) C (c_X11_needs C.2.2.2.2.2.2.1  g16) hy_X11_needs ⟨tw933, tw934, tw75, tw935⟩ (by decide) (by decide) rfl rfl (Nat.le_of_ble_eq_true rfl) dX11_told_62 ?_
          show Wx LM K σ 65 [(0, .ref (kad K 0)), (1, .int a1), (2, .int a2)] [.int r15]
          refine x_ifne C 72 dX11_told_65 (by decide) (fun c18 => ?_) (fun c18 => ?_)
          · replace h0 := ob_neg c18 h0
            refine x_iconst (v := 0) C dX11_told_72 rfl ?_
            refine x_goto C 91 dX11_told_73 (by decide) ?_
            cases h0
            exact x_iret C R dX11_told_91
          · replace h0 := ob_pos c18 h0
            refine x_iconst (v := 1) C dX11_told_68 rfl ?_
            refine x_goto C 91 dX11_told_69 (by decide) ?_
            cases h0
            exact x_iret C R dX11_told_91
      · replace h0 := ob_pos c6 h0
        refine x_aload_n C 0 dX11_told_32 rfl ?_
        refine x_getR (j := 11) (i := 38) (q := (RX11, TX11, 22)) C 10 (iM 0 (by decide)) rfl rfl inBX11 (by decide) tw774 rfl dX11_told_33 ?_
        refine x_iconst (v := 4) C dX11_told_36 rfl ?_
        obtain ⟨c19, h0⟩ := ob_if h0
        refine x_iald C (iM 10 (by decide)) rfl (vin_in c19) dX11_told_37 ?_
        refine x_iload_n C 1 dX11_told_38 rfl ?_
        refine x_ishr C dX11_told_39 ?_
        refine x_iconst (v := 1) C dX11_told_40 rfl ?_
        refine x_iand C dX11_told_41 ?_
        refine x_goto C 91 dX11_told_42 (by decide) ?_
        cases h0
        exact x_iret C R dX11_told_91
    · replace h0 := ob_pos c4 h0
      refine x_aload_n C 0 dX11_told_18 rfl ?_
      refine x_getR (j := 11) (i := 38) (q := (RX11, TX11, 22)) C 10 (iM 0 (by decide)) rfl rfl inBX11 (by decide) tw774 rfl dX11_told_19 ?_
      refine x_iload_n C 1 dX11_told_22 rfl ?_
      obtain ⟨c20, h0⟩ := ob_if h0
      refine x_iald C (iM 10 (by decide)) rfl (vin_in c20) dX11_told_23 ?_
      refine x_goto C 91 dX11_told_24 (by decide) ?_
      cases h0
      exact x_iret C R dX11_told_91
  · replace h0 := ob_pos c2 h0
    refine x_aload_n C 0 dX11_told_4 rfl ?_
    refine x_getR (j := 6) (i := 26) (q := (RX11, TX11, 22)) C 6 (iM 0 (by decide)) rfl rfl inBX11 (by decide) tw769 rfl dX11_told_5 ?_
    refine x_iload_n C 1 dX11_told_8 rfl ?_
    obtain ⟨c21, h0⟩ := ob_if h0
    refine x_iald C (iM 6 (by decide)) rfl (vin_in c21) dX11_told_9 ?_
    refine x_goto C 91 dX11_told_10 (by decide) ?_
    cases h0
    exact x_iret C R dX11_told_91
set_option maxHeartbeats 4000000 in
set_option maxRecDepth 100000 in
theorem c_X11_player {l : Launch} {D : va_G} {ad : Nat → Nat} {cy : Nat → ClassId} (hJ : mJ LM ad) {σ τ : mS} {a1 : Int32} {a2 : Int32} {r : Int32}  (h0 : X11_player σ a1 a2 = some (r, τ)) : MetG l LM D ad cy yX11_player cX11_player 3 (some .int) 3 [.ref (ad 0), .int a1, .int a2] σ (some (.int r)) τ := by
  refine MetG.of hJ (by decide +kernel) [(0, .ref (ad 0)), (1, .int a1), (2, .int a2)] rfl (Nat.le_of_ble_eq_true rfl) ?_
  intro K e1 e2 e3 e4 e5 C R
  subst e1
  subst e2
  subst e3
  subst e4
  unfold X11_player at h0
  refine x_aload_n C 0 dX11_player_0 rfl ?_
  refine x_iload_n C 1 dX11_player_1 rfl ?_
  refine x_callV (ar := 1) (q := (RX11, TX11, 22)) (rest := []) C (c_X11_isPlayer C.2.2.2.2.2.2.1  rfl) (iM 0 (by decide)) rfl rfl hy_X11_isPlayer ⟨tw924, tw926, tw42, tw75, tw927⟩ (by decide) (by decide) rfl rfl (Nat.le_of_ble_eq_true rfl) dX11_player_2 ?_
  show Wx LM K σ 5 [(0, .ref (kad K 0)), (1, .int a1), (2, .int a2)] [.int (X11_isPlayer σ a1)]
  refine x_ifeq C 33 dX11_player_5 (by decide) (fun c3 => ?_) (fun c3 => ?_)
  · replace h0 := ob_pos c3 h0
    refine x_iconst (v := (-1)) C dX11_player_33 rfl ?_
    cases h0
    exact x_iret C R dX11_player_34
  · replace h0 := ob_neg c3 h0
    refine x_iload_n C 2 dX11_player_8 rfl ?_
    refine x_i2l C dX11_player_9 ?_
    refine x_lconst (v := 0) C dX11_player_10 rfl ?_
    refine x_ldc2 C tw928 dX11_player_11 ?_
    refine x_callS (ar := 3) (rest := []) C (c_X11_in C.2.2.2.2.2.2.1  rfl) hy_X11_in ⟨tw839, tw840, tw75, tw841⟩ (by decide) (by decide) rfl rfl (Nat.le_of_ble_eq_true rfl) dX11_player_14 ?_
    show Wx LM K σ 17 [(0, .ref (kad K 0)), (1, .int a1), (2, .int a2)] [.int (X11_in ((a2).toInt64) (0) (4))]
    refine x_ifeq C 33 dX11_player_17 (by decide) (fun c6 => ?_) (fun c6 => ?_)
    · replace h0 := ob_pos c6 h0
      refine x_iconst (v := (-1)) C dX11_player_33 rfl ?_
      cases h0
      exact x_iret C R dX11_player_34
    · replace h0 := ob_neg c6 h0
      refine x_aload_n C 0 dX11_player_20 rfl ?_
      refine x_aload_n C 0 dX11_player_21 rfl ?_
      refine x_iload_n C 1 dX11_player_22 rfl ?_
      refine x_iload_n C 2 dX11_player_23 rfl ?_
      obtain ⟨r7, g8, h0⟩ := ob_bind h0
      refine x_callV (ar := 2) (q := (RX11, TX11, 22)) (rest := [.ref (kad K 0)]) C (c_X11_told C.2.2.2.2.2.2.1  g8) (iM 0 (by decide)) rfl rfl hy_X11_told ⟨tw929, tw931, tw43, tw75, tw932⟩ (by decide) (by decide) rfl rfl (Nat.le_of_ble_eq_true rfl) dX11_player_24 ?_
      show Wx LM K σ 27 [(0, .ref (kad K 0)), (1, .int a1), (2, .int a2)] [.int r7, .ref (kad K 0)]
      obtain ⟨r9, s11, g10, h0⟩ := ob_bd h0
      refine x_callV (ar := 1) (q := (RX11, TX11, 22)) (rest := []) C (c_X11_tells C.2.2.2.2.2.2.1  g10) (iM 0 (by decide)) rfl rfl hy_X11_tells ⟨tw854, tw856, tw36, tw75, tw857⟩ (by decide) (by decide) rfl rfl (Nat.le_of_ble_eq_true rfl) dX11_player_27 ?_
      show Wx LM K s11 30 [(0, .ref (kad K 0)), (1, .int a1), (2, .int a2)] [.int r9]
      refine x_goto C 34 dX11_player_30 (by decide) ?_
      cases h0
      exact x_iret C R dX11_player_34
set_option maxHeartbeats 4000000 in
set_option maxRecDepth 100000 in
theorem c_X11_card {l : Launch} {D : va_G} {ad : Nat → Nat} {cy : Nat → ClassId} (hJ : mJ LM ad) {σ τ : mS} {a1 : Int32} {a2 : Int32} {r : Int32}  (h0 : X11_card σ a1 a2 = some (r, τ)) : MetG l LM D ad cy yX11_card cX11_card 3 (some .int) 2 [.ref (ad 0), .int a1, .int a2] σ (some (.int r)) τ := by
  refine MetG.of hJ (by decide +kernel) [(0, .ref (ad 0)), (1, .int a1), (2, .int a2)] rfl (Nat.le_of_ble_eq_true rfl) ?_
  intro K e1 e2 e3 e4 e5 C R
  subst e1
  subst e2
  subst e3
  subst e4
  unfold X11_card at h0
  refine x_aload_n C 0 dX11_card_0 rfl ?_
  refine x_iload_n C 1 dX11_card_1 rfl ?_
  refine x_callV (ar := 1) (q := (RX11, TX11, 22)) (rest := []) C (c_X11_isPlayer C.2.2.2.2.2.2.1  rfl) (iM 0 (by decide)) rfl rfl hy_X11_isPlayer ⟨tw924, tw926, tw42, tw75, tw927⟩ (by decide) (by decide) rfl rfl (Nat.le_of_ble_eq_true rfl) dX11_card_2 ?_
  show Wx LM K σ 5 [(0, .ref (kad K 0)), (1, .int a1), (2, .int a2)] [.int (X11_isPlayer σ a1)]
  refine x_ifeq C 38 dX11_card_5 (by decide) (fun c3 => ?_) (fun c3 => ?_)
  · replace h0 := ob_pos c3 h0
    refine x_iconst (v := (-1)) C dX11_card_38 rfl ?_
    cases h0
    exact x_iret C R dX11_card_39
  · replace h0 := ob_neg c3 h0
    refine x_iload_n C 2 dX11_card_8 rfl ?_
    refine x_i2l C dX11_card_9 ?_
    refine x_lconst (v := 0) C dX11_card_10 rfl ?_
    refine x_ldc2 C tw838 dX11_card_11 ?_
    refine x_callS (ar := 3) (rest := []) C (c_X11_in C.2.2.2.2.2.2.1  rfl) hy_X11_in ⟨tw839, tw840, tw75, tw841⟩ (by decide) (by decide) rfl rfl (Nat.le_of_ble_eq_true rfl) dX11_card_14 ?_
    show Wx LM K σ 17 [(0, .ref (kad K 0)), (1, .int a1), (2, .int a2)] [.int (X11_in ((a2).toInt64) (0) (5))]
    refine x_ifeq C 38 dX11_card_17 (by decide) (fun c6 => ?_) (fun c6 => ?_)
    · replace h0 := ob_pos c6 h0
      refine x_iconst (v := (-1)) C dX11_card_38 rfl ?_
      cases h0
      exact x_iret C R dX11_card_39
    · replace h0 := ob_neg c6 h0
      refine x_aload_n C 0 dX11_card_20 rfl ?_
      refine x_aload_n C 0 dX11_card_21 rfl ?_
      refine x_getR (j := 7) (i := 29) (q := (RX11, TX11, 22)) C 7 (iM 0 (by decide)) rfl rfl inBX11 (by decide) tw770 rfl dX11_card_22 ?_
      refine x_bipush (v := 6) C dX11_card_25 rfl ?_
      refine x_iload_n C 1 dX11_card_27 rfl ?_
      refine x_imul C dX11_card_28 ?_
      refine x_iload_n C 2 dX11_card_29 rfl ?_
      refine x_iadd C dX11_card_30 ?_
      obtain ⟨c7, h0⟩ := ob_if h0
      refine x_iald C (iM 7 (by decide)) rfl (vin_in c7) dX11_card_31 ?_
      obtain ⟨r8, s10, g9, h0⟩ := ob_bd h0
      refine x_callV (ar := 1) (q := (RX11, TX11, 22)) (rest := []) C (c_X11_tells C.2.2.2.2.2.2.1  g9) (iM 0 (by decide)) rfl rfl hy_X11_tells ⟨tw854, tw856, tw36, tw75, tw857⟩ (by decide) (by decide) rfl rfl (Nat.le_of_ble_eq_true rfl) dX11_card_32 ?_
      show Wx LM K s10 35 [(0, .ref (kad K 0)), (1, .int a1), (2, .int a2)] [.int r8]
      refine x_goto C 39 dX11_card_35 (by decide) ?_
      cases h0
      exact x_iret C R dX11_card_39
set_option maxHeartbeats 4000000 in
set_option maxRecDepth 100000 in
theorem c_X11_mark {l : Launch} {D : va_G} {ad : Nat → Nat} {cy : Nat → ClassId} (hJ : mJ LM ad) {σ τ : mS} {a1 : Int32} {a2 : Int32} {r : Int32}  (h0 : X11_mark σ a1 a2 = some (r, τ)) : MetG l LM D ad cy yX11_mark cX11_mark 6 (some .int) 2 [.ref (ad 0), .int a1, .int a2] σ (some (.int r)) τ := by
  refine MetG.of hJ (by decide +kernel) [(0, .ref (ad 0)), (1, .int a1), (2, .int a2)] rfl (Nat.le_of_ble_eq_true rfl) ?_
  intro K e1 e2 e3 e4 e5 C R
  subst e1
  subst e2
  subst e3
  subst e4
  unfold X11_mark at h0
  refine x_aload_n C 0 dX11_mark_0 rfl ?_
  refine x_iload_n C 1 dX11_mark_1 rfl ?_
  refine x_callV (ar := 1) (q := (RX11, TX11, 22)) (rest := []) C (c_X11_isPlayer C.2.2.2.2.2.2.1  rfl) (iM 0 (by decide)) rfl rfl hy_X11_isPlayer ⟨tw924, tw926, tw42, tw75, tw927⟩ (by decide) (by decide) rfl rfl (Nat.le_of_ble_eq_true rfl) dX11_mark_2 ?_
  show Wx LM K σ 5 [(0, .ref (kad K 0)), (1, .int a1), (2, .int a2)] [.int (X11_isPlayer σ a1)]
  refine x_ifeq C 20 dX11_mark_5 (by decide) (fun c3 => ?_) (fun c3 => ?_)
  · replace h0 := ob_pos c3 h0
    refine x_iconst (v := (-1)) C dX11_mark_20 rfl ?_
    cases h0
    exact x_iret C R dX11_mark_21
  · replace h0 := ob_neg c3 h0
    refine x_iload_n C 2 dX11_mark_8 rfl ?_
    refine x_i2l C dX11_mark_9 ?_
    refine x_lconst (v := 1) C dX11_mark_10 rfl ?_
    refine x_ldc2 C tw838 dX11_mark_11 ?_
    refine x_callS (ar := 3) (rest := []) C (c_X11_in C.2.2.2.2.2.2.1  rfl) hy_X11_in ⟨tw839, tw840, tw75, tw841⟩ (by decide) (by decide) rfl rfl (Nat.le_of_ble_eq_true rfl) dX11_mark_14 ?_
    show Wx LM K σ 17 [(0, .ref (kad K 0)), (1, .int a1), (2, .int a2)] [.int (X11_in ((a2).toInt64) (1) (5))]
    refine x_ifne C 22 dX11_mark_17 (by decide) (fun c6 => ?_) (fun c6 => ?_)
    · replace h0 := ob_neg c6 h0
      refine x_aload_n C 0 dX11_mark_22 rfl ?_
      refine x_getR (j := 6) (i := 26) (q := (RX11, TX11, 22)) C 6 (iM 0 (by decide)) rfl rfl inBX11 (by decide) tw769 rfl dX11_mark_23 ?_
      refine x_iload_n C 1 dX11_mark_26 rfl ?_
      obtain ⟨c7, h0⟩ := ob_if h0
      refine x_iald C (iM 6 (by decide)) rfl (vin_in c7) dX11_mark_27 ?_
      refine x_iload_n C 2 dX11_mark_28 rfl ?_
      refine x_callS (ar := 2) (rest := []) C (c_X11_isA C.2.2.2.2.2.2.1  rfl) hy_X11_isA ⟨tw942, tw943, tw75, tw944⟩ (by decide) (by decide) rfl rfl (Nat.le_of_ble_eq_true rfl) dX11_mark_29 ?_
      show Wx LM K σ 32 [(0, .ref (kad K 0)), (1, .int a1), (2, .int a2)] [.int (X11_isA (σ.1 6 a1.toNatClampNeg) a2)]
      refine x_ifne C 41 dX11_mark_32 (by decide) (fun c10 => ?_) (fun c10 => ?_)
      · replace h0 := ob_neg c10 h0
        refine x_aload_n C 0 dX11_mark_41 rfl ?_
        refine x_getR (j := 11) (i := 38) (q := (RX11, TX11, 22)) C 10 (iM 0 (by decide)) rfl rfl inBX11 (by decide) tw774 rfl dX11_mark_42 ?_
        refine x_iload_n C 1 dX11_mark_45 rfl ?_
        obtain ⟨c11, h0⟩ := ob_if h0
        refine x_iald C (iM 10 (by decide)) rfl (vin_in c11) dX11_mark_46 ?_
        refine x_istore_n (lv' := [(3, .int (σ.1 10 a1.toNatClampNeg)), (0, .ref (kad K 0)), (1, .int a1), (2, .int a2)]) C dX11_mark_47 (by rw [e5]; decide) rfl ?_
        refine x_iload_n C 3 dX11_mark_48 rfl ?_
        refine x_iconst (v := 1) C dX11_mark_49 rfl ?_
        refine x_icmpne C 61 dX11_mark_50 (by decide) (fun c13 => ?_) (fun c13 => ?_)
        · replace h0 := ob_neg c13 h0
          refine x_iload_n C 3 dX11_mark_61 rfl ?_
          refine x_iconst (v := 2) C dX11_mark_62 rfl ?_
          refine x_icmpne C 78 dX11_mark_63 (by decide) (fun c15 => ?_) (fun c15 => ?_)
          · replace h0 := ob_neg c15 h0
            refine x_iload_n C 3 dX11_mark_78 rfl ?_
            refine x_iconst (v := 3) C dX11_mark_79 rfl ?_
            refine x_icmpne C 116 dX11_mark_80 (by decide) (fun c17 => ?_) (fun c17 => ?_)
            · replace h0 := ob_neg c17 h0
              refine x_iload_n C 3 dX11_mark_116 rfl ?_
              refine x_iconst (v := 4) C dX11_mark_117 rfl ?_
              refine x_icmpne C 129 dX11_mark_118 (by decide) (fun c19 => ?_) (fun c19 => ?_)
              · replace h0 := ob_neg c19 h0
                refine x_iconst (v := 0) C dX11_mark_129 rfl ?_
                refine x_istore (lv' := [(4, .int 0), (3, .int (σ.1 10 a1.toNatClampNeg)), (0, .ref (kad K 0)), (1, .int a1), (2, .int a2)]) C dX11_mark_130 (by rw [e5]; decide) rfl ?_
                refine x_iconst (v := 0) C dX11_mark_132 rfl ?_
                refine x_istore (lv' := [(5, .int 0), (4, .int 0), (3, .int (σ.1 10 a1.toNatClampNeg)), (0, .ref (kad K 0)), (1, .int a1), (2, .int a2)]) C dX11_mark_133 (by rw [e5]; decide) rfl ?_
                obtain ⟨e30, g31, h0⟩ := ob_bind h0
                have J1 : ∀ (y22 : Int32), y22 = e30 → Wx LM K σ 185 [(4, .int y22)] [] := by
                  intro y22 e9
                  subst e9
                  replace h0 := un1_l h0
                  refine x_iload C 0 dX11_mark_185 rfl ?_
                  cases h0
                  exact x_iret C R dX11_mark_187
                refine x_lv (lv' := [(5, .int 0), (4, .int 0), (0, .ref (kad K 0)), (1, .int a1)]) [0, 1, 3, 4] rfl ?_
                refine lp_G (G := fun q : Int32 × Int32 => Wx LM K σ 135 [(5, .int q.2), (4, .int q.1), (0, .ref (kad K 0)), (1, .int a1)] []) (fun q x h1 ihL1 ihR1 => ?_) big _ g31
                obtain ⟨x20, x21⟩ := q
                replace h1 : X11_mark_b135 σ a1 x20 x21 = some x := h1
                unfold X11_mark_b135 at h1
                show Wx LM K σ 135 [(5, .int x21), (4, .int x20), (0, .ref (kad K 0)), (1, .int a1)] []
                refine x_iload C 0 dX11_mark_135 rfl ?_
                refine x_bipush (v := 6) C dX11_mark_137 rfl ?_
                refine x_icmpge C 185 dX11_mark_139 (by decide) (fun c24 => ?_) (fun c24 => ?_)
                · replace h1 := ob_pos c24 h1
                  refine x_lv (lv' := [(4, .int x20)]) [1] rfl ?_
                  exact J1 _ (ihR1 _ (Option.some.inj h1).symm)
                · replace h1 := ob_neg c24 h1
                  refine x_iload C 1 dX11_mark_142 rfl ?_
                  refine x_aload_n C 2 dX11_mark_144 rfl ?_
                  refine x_iload_n C 3 dX11_mark_145 rfl ?_
                  refine x_iconst (v := 1) C dX11_mark_146 rfl ?_
                  refine x_aload_n C 2 dX11_mark_147 rfl ?_
                  refine x_getR (j := 7) (i := 29) (q := (RX11, TX11, 22)) C 7 (iM 0 (by decide)) rfl rfl inBX11 (by decide) tw770 rfl dX11_mark_148 ?_
                  refine x_bipush (v := 6) C dX11_mark_151 rfl ?_
                  refine x_iload_n C 3 dX11_mark_153 rfl ?_
                  refine x_imul C dX11_mark_154 ?_
                  refine x_iload C 0 dX11_mark_155 rfl ?_
                  refine x_iadd C dX11_mark_157 ?_
                  obtain ⟨c25, h1⟩ := ob_if h1
                  refine x_iald C (iM 7 (by decide)) rfl (vin_in c25) dX11_mark_158 ?_
                  refine x_bipush (v := 12) C dX11_mark_159 rfl ?_
                  refine x_irem C dX11_mark_161 (by decide) ?_
                  refine x_iconst (v := 1) C dX11_mark_162 rfl ?_
                  refine x_iadd C dX11_mark_163 ?_
                  refine x_ishl C dX11_mark_164 ?_
                  obtain ⟨r26, g27, h1⟩ := ob_bind h1
                  refine x_callV (ar := 2) (q := (RX11, TX11, 22)) (rest := [.int x20]) C (c_X11_marksBy C.2.2.2.2.2.2.1  g27) (iM 0 (by decide)) rfl rfl hy_X11_marksBy ⟨tw953, tw955, tw44, tw75, tw956⟩ (by decide) (by decide) rfl rfl (Nat.le_of_ble_eq_true rfl) dX11_mark_165 ?_
                  show Wx LM K σ 168 [(5, .int x21), (4, .int x20), (0, .ref (kad K 0)), (1, .int a1)] [.int r26, .int x20]
                  refine x_ifeq C 175 dX11_mark_168 (by decide) (fun c29 => ?_) (fun c29 => ?_)
                  · replace h1 := ob_pos c29 h1
                    refine x_iconst (v := 0) C dX11_mark_175 rfl ?_
                    refine x_iadd C dX11_mark_176 ?_
                    refine x_istore (lv' := [(4, .int (x20 + 0)), (5, .int x21), (0, .ref (kad K 0)), (1, .int a1)]) C dX11_mark_177 (by rw [e5]; decide) rfl ?_
                    refine x_iinc (v := (x21 + 1)) (lv' := [(5, .int (x21 + 1)), (4, .int (x20 + 0)), (0, .ref (kad K 0)), (1, .int a1)]) C 1 dX11_mark_179 rfl rfl (by rw [e5]; decide) rfl ?_
                    refine x_goto C 135 dX11_mark_182 (by decide) ?_
                    refine x_lv (lv' := [(5, .int (x21 + 1)), (4, .int (x20 + 0)), (0, .ref (kad K 0)), (1, .int a1)]) [0, 1, 2, 3] rfl ?_
                    exact ihL1 _ (Option.some.inj h1).symm
                  · replace h1 := ob_neg c29 h1
                    refine x_iconst (v := 1) C dX11_mark_171 rfl ?_
                    refine x_goto C 176 dX11_mark_172 (by decide) ?_
                    refine x_iadd C dX11_mark_176 ?_
                    refine x_istore (lv' := [(4, .int (x20 + 1)), (5, .int x21), (0, .ref (kad K 0)), (1, .int a1)]) C dX11_mark_177 (by rw [e5]; decide) rfl ?_
                    refine x_iinc (v := (x21 + 1)) (lv' := [(5, .int (x21 + 1)), (4, .int (x20 + 1)), (0, .ref (kad K 0)), (1, .int a1)]) C 1 dX11_mark_179 rfl rfl (by rw [e5]; decide) rfl ?_
                    refine x_goto C 135 dX11_mark_182 (by decide) ?_
                    refine x_lv (lv' := [(5, .int (x21 + 1)), (4, .int (x20 + 1)), (0, .ref (kad K 0)), (1, .int a1)]) [0, 1, 2, 3] rfl ?_
                    exact ihL1 _ (Option.some.inj h1).symm
              · replace h0 := ob_pos c19 h0
                refine x_aload_n C 1 dX11_mark_121 rfl ?_
                refine x_getR (j := 11) (i := 38) (q := (RX11, TX11, 22)) C 10 (iM 0 (by decide)) rfl rfl inBX11 (by decide) tw774 rfl dX11_mark_122 ?_
                refine x_bipush (v := 7) C dX11_mark_125 rfl ?_
                obtain ⟨c32, h0⟩ := ob_if h0
                refine x_iald C (iM 10 (by decide)) rfl (vin_in c32) dX11_mark_127 ?_
                cases h0
                exact x_iret C R dX11_mark_128
            · replace h0 := ob_pos c17 h0
              refine x_iload_n C 0 dX11_mark_83 rfl ?_
              refine x_bipush (v := 7) C dX11_mark_84 rfl ?_
              refine x_iand C dX11_mark_86 ?_
              obtain ⟨r33, g34, h0⟩ := ob_bind h0
              refine x_callS (ar := 1) (rest := []) C (c_X11_bits C.2.2.2.2.2.2.1  g34) hy_X11_bits ⟨tw936, tw937, tw75, tw938⟩ (by decide) (by decide) rfl rfl (Nat.le_of_ble_eq_true rfl) dX11_mark_87 ?_
              show Wx LM K σ 90 [(3, .int (σ.1 10 a1.toNatClampNeg)), (0, .ref (kad K 0)), (1, .int a1), (2, .int a2)] [.int r33]
              refine x_iconst (v := 1) C dX11_mark_90 rfl ?_
              obtain ⟨e43, g42, h0⟩ := ob_un h0
              have J44 : ∀ (v37 : Int32), v37 = e43 → Wx LM K σ 99 [(3, .int (σ.1 10 a1.toNatClampNeg))] [.int v37] := by
                intro v37 e9
                subst e9
                replace h0 := un1_l h0
                refine x_iload_n C 0 dX11_mark_99 rfl ?_
                refine x_iconst (v := 3) C dX11_mark_100 rfl ?_
                refine x_ishr C dX11_mark_101 ?_
                obtain ⟨r38, g39, h0⟩ := ob_bind h0
                refine x_callS (ar := 1) (rest := [.int v37]) C (c_X11_bits C.2.2.2.2.2.2.1  g39) hy_X11_bits ⟨tw936, tw937, tw75, tw938⟩ (by decide) (by decide) rfl rfl (Nat.le_of_ble_eq_true rfl) dX11_mark_102 ?_
                show Wx LM K σ 105 [(3, .int (σ.1 10 a1.toNatClampNeg))] [.int r38, .int v37]
                refine x_iconst (v := 1) C dX11_mark_105 rfl ?_
                refine x_icmple C 113 dX11_mark_106 (by decide) (fun c41 => ?_) (fun c41 => ?_)
                · replace h0 := ob_pos c41 h0
                  refine x_iconst (v := 0) C dX11_mark_113 rfl ?_
                  refine x_iadd C dX11_mark_114 ?_
                  cases h0
                  exact x_iret C R dX11_mark_115
                · replace h0 := ob_neg c41 h0
                  refine x_iconst (v := 1) C dX11_mark_109 rfl ?_
                  refine x_goto C 114 dX11_mark_110 (by decide) ?_
                  refine x_iadd C dX11_mark_114 ?_
                  cases h0
                  exact x_iret C R dX11_mark_115
              refine x_icmple C 98 dX11_mark_91 (by decide) (fun c45 => ?_) (fun c45 => ?_)
              · replace g42 := ob_pos c45 g42
                refine x_iconst (v := 0) C dX11_mark_98 rfl ?_
                refine x_lv (lv' := [(3, .int (σ.1 10 a1.toNatClampNeg))]) [0] rfl ?_
                exact J44 _ g42
              · replace g42 := ob_neg c45 g42
                refine x_iconst (v := 1) C dX11_mark_94 rfl ?_
                refine x_goto C 99 dX11_mark_95 (by decide) ?_
                refine x_lv (lv' := [(3, .int (σ.1 10 a1.toNatClampNeg))]) [0] rfl ?_
                exact J44 _ g42
          · replace h0 := ob_pos c15 h0
            refine x_iconst (v := 2) C dX11_mark_66 rfl ?_
            refine x_aload_n C 1 dX11_mark_67 rfl ?_
            refine x_getR (j := 11) (i := 38) (q := (RX11, TX11, 22)) C 10 (iM 0 (by decide)) rfl rfl inBX11 (by decide) tw774 rfl dX11_mark_68 ?_
            refine x_bipush (v := 6) C dX11_mark_71 rfl ?_
            obtain ⟨c46, h0⟩ := ob_if h0
            refine x_iald C (iM 10 (by decide)) rfl (vin_in c46) dX11_mark_73 ?_
            refine x_iconst (v := 3) C dX11_mark_74 rfl ?_
            refine x_irem C dX11_mark_75 (by decide) ?_
            refine x_isub C dX11_mark_76 ?_
            cases h0
            exact x_iret C R dX11_mark_77
        · replace h0 := ob_pos c13 h0
          refine x_bipush (v := 6) C dX11_mark_53 rfl ?_
          refine x_iload_n C 0 dX11_mark_55 rfl ?_
          obtain ⟨r47, g48, h0⟩ := ob_bind h0
          refine x_callS (ar := 1) (rest := [.int 6]) C (c_X11_bits C.2.2.2.2.2.2.1  g48) hy_X11_bits ⟨tw936, tw937, tw75, tw938⟩ (by decide) (by decide) rfl rfl (Nat.le_of_ble_eq_true rfl) dX11_mark_56 ?_
          show Wx LM K σ 59 [(3, .int (σ.1 10 a1.toNatClampNeg)), (0, .ref (kad K 0)), (1, .int a1), (2, .int a2)] [.int r47, .int 6]
          refine x_isub C dX11_mark_59 ?_
          cases h0
          exact x_iret C R dX11_mark_60
      · replace h0 := ob_pos c10 h0
        refine x_aload_n C 0 dX11_mark_35 rfl ?_
        refine x_iconst (v := 3) C dX11_mark_36 rfl ?_
        obtain ⟨r49, s51, g50, h0⟩ := ob_bd h0
        refine x_callV (ar := 1) (q := (RX11, TX11, 22)) (rest := []) C (c_X11_finds C.2.2.2.2.2.2.1  g50) (iM 0 (by decide)) rfl rfl hy_X11_finds ⟨tw842, tw844, tw34, tw75, tw845⟩ (by decide) (by decide) rfl rfl (Nat.le_of_ble_eq_true rfl) dX11_mark_37 ?_
        show Wx LM K s51 40 [(0, .ref (kad K 0)), (1, .int a1), (2, .int a2)] [.int r49]
        cases h0
        exact x_iret C R dX11_mark_40
    · replace h0 := ob_pos c6 h0
      refine x_iconst (v := (-1)) C dX11_mark_20 rfl ?_
      cases h0
      exact x_iret C R dX11_mark_21
set_option maxHeartbeats 4000000 in
set_option maxRecDepth 100000 in
theorem c_X11_copies {l : Launch} {D : va_G} {ad : Nat → Nat} {cy : Nat → ClassId} (hJ : mJ LM ad) {σ τ : mS} {a1 : Int32} {a2 : Int32} {a3 : Int32} {r : Unit}  (h0 : X11_copies σ a1 a2 a3 = some (r, τ)) : MetG l LM D ad cy yX11_copies cX11_copies 5 none 0 [.ref (ad 0), .int a1, .int a2, .int a3] σ (none) τ := by
  refine MetG.of hJ (by decide +kernel) [(0, .ref (ad 0)), (1, .int a1), (2, .int a2), (3, .int a3)] rfl (Nat.le_of_ble_eq_true rfl) ?_
  intro K e1 e2 e3 e4 e5 C R
  subst e1
  subst e2
  subst e3
  subst e4
  unfold X11_copies at h0
  refine x_iconst (v := 0) C dX11_copies_0 rfl ?_
  refine x_istore (lv' := [(4, .int 0), (0, .ref (kad K 0)), (1, .int a1), (2, .int a2), (3, .int a3)]) C dX11_copies_1 (by rw [e5]; decide) rfl ?_
  obtain ⟨e8, g9, h0⟩ := ob_bind h0
  have J1 : ∀ (s3 : mS), s3 = e8 → Wx LM K s3 33 [] [] := by
    intro s3 e9
    subst e9
    replace h0 := un1_l h0
    cases h0
    exact x_vret C R dX11_copies_33
  refine lp_G (G := fun q : mS × Int32 => Wx LM K q.1 3 [(4, .int q.2), (0, .ref (kad K 0)), (1, .int a1), (2, .int a2), (3, .int a3)] []) (fun q x h1 ihL1 ihR1 => ?_) big _ g9
  obtain ⟨s1, x2⟩ := q
  replace h1 : X11_copies_b3 a1 a2 a3 s1 x2 = some x := h1
  unfold X11_copies_b3 at h1
  show Wx LM K s1 3 [(4, .int x2), (0, .ref (kad K 0)), (1, .int a1), (2, .int a2), (3, .int a3)] []
  refine x_iload C 0 dX11_copies_3 rfl ?_
  refine x_iload_n C 4 dX11_copies_5 rfl ?_
  refine x_icmpge C 33 dX11_copies_6 (by decide) (fun c5 => ?_) (fun c5 => ?_)
  · replace h1 := ob_pos c5 h1
    refine x_lv (lv' := []) [] rfl ?_
    exact J1 _ (ihR1 _ (Option.some.inj h1).symm)
  · replace h1 := ob_neg c5 h1
    refine x_aload_n C 1 dX11_copies_9 rfl ?_
    refine x_getR (j := 11) (i := 38) (q := (RX11, TX11, 22)) C 10 (iM 0 (by decide)) rfl rfl inBX11 (by decide) tw774 rfl dX11_copies_10 ?_
    refine x_iload_n C 3 dX11_copies_13 rfl ?_
    refine x_iload C 0 dX11_copies_14 rfl ?_
    refine x_iadd C dX11_copies_16 ?_
    refine x_aload_n C 1 dX11_copies_17 rfl ?_
    refine x_getR (j := 11) (i := 38) (q := (RX11, TX11, 22)) C 10 (iM 0 (by decide)) rfl rfl inBX11 (by decide) tw774 rfl dX11_copies_18 ?_
    refine x_iload_n C 2 dX11_copies_21 rfl ?_
    refine x_iload C 0 dX11_copies_22 rfl ?_
    refine x_iadd C dX11_copies_24 ?_
    obtain ⟨c6, h1⟩ := ob_if h1
    refine x_iald C (iM 10 (by decide)) rfl (vin_in c6) dX11_copies_25 ?_
    obtain ⟨c7, h1⟩ := ob_if h1
    refine x_iast C (iM 10 (by decide)) rfl (vin_in c7) dX11_copies_26 ?_
    refine x_iinc (v := (x2 + 1)) (lv' := [(4, .int (x2 + 1)), (0, .ref (kad K 0)), (1, .int a1), (2, .int a2), (3, .int a3)]) C 0 dX11_copies_27 rfl rfl (by rw [e5]; decide) rfl ?_
    refine x_goto C 3 dX11_copies_30 (by decide) ?_
    refine x_lv (lv' := [(4, .int (x2 + 1)), (0, .ref (kad K 0)), (1, .int a1), (2, .int a2), (3, .int a3)]) [0, 1, 2, 3, 4] rfl ?_
    exact ihL1 _ (Option.some.inj h1).symm
set_option maxHeartbeats 4000000 in
set_option maxRecDepth 100000 in
theorem c_X11_known {l : Launch} {D : va_G} {ad : Nat → Nat} {cy : Nat → ClassId} (hJ : mJ LM ad) {σ τ : mS}  {r : Unit}  (h0 : X11_known σ = some (r, τ)) : MetG l LM D ad cy yX11_known cX11_known 1 none 1 [.ref (ad 0)] σ (none) τ := by
  refine MetG.of hJ (by decide +kernel) [(0, .ref (ad 0))] rfl (Nat.le_of_ble_eq_true rfl) ?_
  intro K e1 e2 e3 e4 e5 C R
  subst e1
  subst e2
  subst e3
  subst e4
  unfold X11_known at h0
  refine x_aload_n C 0 dX11_known_0 rfl ?_
  refine x_dup C dX11_known_1 rfl ?_
  refine x_getI (j := 12) (i := 127) (q := (RX11, TX11, 22)) C (iM 0 (by decide)) rfl rfl inBX11 (by decide) tw775 rfl dX11_known_2 ?_
  refine x_iconst (v := 1) C dX11_known_5 rfl ?_
  refine x_iadd C dX11_known_6 ?_
  refine x_putI (j := 12) (i := 127) (q := (RX11, TX11, 22)) C tyX11 tyX11_ok nmX11 (iM 0 (by decide)) rfl rfl inBX11 (by decide) tw775 rfl (by decide +kernel) rfl dX11_known_7 ?_
  refine x_aload_n C 0 dX11_known_10 rfl ?_
  refine x_iconst (v := 0) C dX11_known_11 rfl ?_
  refine x_aload_n C 0 dX11_known_12 rfl ?_
  refine x_getI (j := 12) (i := 127) (q := (RX11, TX11, 22)) C (iM 0 (by decide)) rfl rfl inBX11 (by decide) tw775 rfl dX11_known_13 ?_
  refine x_bipush (v := 8) C dX11_known_16 rfl ?_
  refine x_imul C dX11_known_18 ?_
  refine x_bipush (v := 8) C dX11_known_19 rfl ?_
  obtain ⟨r1, s3, g2, h0⟩ := ob_bd h0
  refine x_callV (ar := 3) (q := (RX11, TX11, 22)) (rest := []) C (c_X11_copies C.2.2.2.2.2.2.1  g2) (iM 0 (by decide)) rfl rfl hy_X11_copies ⟨tw968, tw970, tw46, tw75, tw971⟩ (by decide) (by decide) rfl rfl (Nat.le_of_ble_eq_true rfl) dX11_known_21 ?_
  show Wx LM K s3 24 [(0, .ref (kad K 0))] []
  cases h0
  exact x_vret C R dX11_known_24
set_option maxHeartbeats 4000000 in
set_option maxRecDepth 100000 in
theorem c_X11_call {l : Launch} {D : va_G} {ad : Nat → Nat} {cy : Nat → ClassId} (hJ : mJ LM ad) {σ τ : mS} {a1 : Int32} {r : Int32}  (h0 : X11_call σ a1 = some (r, τ)) : MetG l LM D ad cy yX11_call cX11_call 2 (some .int) 3 [.ref (ad 0), .int a1] σ (some (.int r)) τ := by
  refine MetG.of hJ (by decide +kernel) [(0, .ref (ad 0)), (1, .int a1)] rfl (Nat.le_of_ble_eq_true rfl) ?_
  intro K e1 e2 e3 e4 e5 C R
  subst e1
  subst e2
  subst e3
  subst e4
  unfold X11_call at h0
  refine x_iload_n C 1 dX11_call_0 rfl ?_
  refine x_i2l C dX11_call_1 ?_
  refine x_lconst (v := 1) C dX11_call_2 rfl ?_
  refine x_ldc2 C tw911 dX11_call_3 ?_
  refine x_callS (ar := 3) (rest := []) C (c_X11_in C.2.2.2.2.2.2.1  rfl) hy_X11_in ⟨tw839, tw840, tw75, tw841⟩ (by decide) (by decide) rfl rfl (Nat.le_of_ble_eq_true rfl) dX11_call_6 ?_
  show Wx LM K σ 9 [(0, .ref (kad K 0)), (1, .int a1)] [.int (X11_in ((a1).toInt64) (1) (12))]
  refine x_ifne C 14 dX11_call_9 (by decide) (fun c3 => ?_) (fun c3 => ?_)
  · replace h0 := ob_neg c3 h0
    refine x_aload_n C 0 dX11_call_14 rfl ?_
    refine x_getI (j := 5) (i := 124) (q := (RX11, TX11, 22)) C (iM 0 (by decide)) rfl rfl inBX11 (by decide) tw768 rfl dX11_call_15 ?_
    refine x_ifeq C 34 dX11_call_18 (by decide) (fun c5 => ?_) (fun c5 => ?_)
    · replace h0 := ob_pos c5 h0
      refine x_bipush (v := (-4)) C dX11_call_34 rfl ?_
      cases h0
      exact x_iret C R dX11_call_36
    · replace h0 := ob_neg c5 h0
      refine x_aload_n C 0 dX11_call_21 rfl ?_
      refine x_getR (j := 11) (i := 38) (q := (RX11, TX11, 22)) C 10 (iM 0 (by decide)) rfl rfl inBX11 (by decide) tw774 rfl dX11_call_22 ?_
      refine x_iconst (v := 5) C dX11_call_25 rfl ?_
      obtain ⟨c6, h0⟩ := ob_if h0
      refine x_iald C (iM 10 (by decide)) rfl (vin_in c6) dX11_call_26 ?_
      refine x_iload_n C 1 dX11_call_27 rfl ?_
      refine x_callS (ar := 2) (rest := []) C (c_X11_has C.2.2.2.2.2.2.1  rfl) hy_X11_has ⟨tw957, tw958, tw75, tw959⟩ (by decide) (by decide) rfl rfl (Nat.le_of_ble_eq_true rfl) dX11_call_28 ?_
      show Wx LM K σ 31 [(0, .ref (kad K 0)), (1, .int a1)] [.int (X11_has (σ.1 10 (5 : Int32).toNatClampNeg) a1)]
      refine x_ifne C 37 dX11_call_31 (by decide) (fun c9 => ?_) (fun c9 => ?_)
      · replace h0 := ob_neg c9 h0
        refine x_aload_n C 0 dX11_call_37 rfl ?_
        refine x_getI (j := 12) (i := 127) (q := (RX11, TX11, 22)) C (iM 0 (by decide)) rfl rfl inBX11 (by decide) tw775 rfl dX11_call_38 ?_
        refine x_bipush (v := 40) C dX11_call_41 rfl ?_
        refine x_icmpne C 49 dX11_call_43 (by decide) (fun c11 => ?_) (fun c11 => ?_)
        · replace h0 := ob_neg c11 h0
          refine x_aload_n C 0 dX11_call_49 rfl ?_
          obtain ⟨r12, s14, g13, h0⟩ := ob_bd h0
          refine x_callV (ar := 0) (q := (RX11, TX11, 22)) (rest := []) C (c_X11_known C.2.2.2.2.2.2.1  g13) (iM 0 (by decide)) rfl rfl hy_X11_known ⟨tw964, tw966, tw45, tw75, tw967⟩ (by decide) (by decide) rfl rfl (Nat.le_of_ble_eq_true rfl) dX11_call_50 ?_
          show Wx LM K s14 53 [(0, .ref (kad K 0)), (1, .int a1)] []
          refine x_aload_n C 0 dX11_call_53 rfl ?_
          refine x_iconst (v := 0) C dX11_call_54 rfl ?_
          refine x_iload_n C 1 dX11_call_55 rfl ?_
          obtain ⟨r15, s17, g16, h0⟩ := ob_bd h0
          refine x_callV (ar := 2) (q := (RX11, TX11, 22)) (rest := []) C (c_X11_calls C.2.2.2.2.2.2.1  g16) (iM 0 (by decide)) rfl rfl hy_X11_calls ⟨tw972, tw974, tw47, tw75, tw975⟩ (by decide) (by decide) rfl rfl (Nat.le_of_ble_eq_true rfl) dX11_call_56 ?_
          show Wx LM K s17 59 [(0, .ref (kad K 0)), (1, .int a1)] [.int r15]
          cases h0
          exact x_iret C R dX11_call_59
        · replace h0 := ob_pos c11 h0
          refine x_bipush (v := (-2)) C dX11_call_46 rfl ?_
          cases h0
          exact x_iret C R dX11_call_48
      · replace h0 := ob_pos c9 h0
        refine x_bipush (v := (-4)) C dX11_call_34 rfl ?_
        cases h0
        exact x_iret C R dX11_call_36
  · replace h0 := ob_pos c3 h0
    refine x_iconst (v := (-1)) C dX11_call_12 rfl ?_
    cases h0
    exact x_iret C R dX11_call_13
set_option maxHeartbeats 4000000 in
set_option maxRecDepth 100000 in
theorem c_X11_rub {l : Launch} {D : va_G} {ad : Nat → Nat} {cy : Nat → ClassId} (hJ : mJ LM ad) {σ τ : mS} {a1 : Int32} {a2 : Int32} {r : Int32}  (h0 : X11_rub σ a1 a2 = some (r, τ)) : MetG l LM D ad cy yX11_rub cX11_rub 3 (some .int) 2 [.ref (ad 0), .int a1, .int a2] σ (some (.int r)) τ := by
  refine MetG.of hJ (by decide +kernel) [(0, .ref (ad 0)), (1, .int a1), (2, .int a2)] rfl (Nat.le_of_ble_eq_true rfl) ?_
  intro K e1 e2 e3 e4 e5 C R
  subst e1
  subst e2
  subst e3
  subst e4
  unfold X11_rub at h0
  refine x_aload_n C 0 dX11_rub_0 rfl ?_
  refine x_iload_n C 1 dX11_rub_1 rfl ?_
  refine x_callV (ar := 1) (q := (RX11, TX11, 22)) (rest := []) C (c_X11_isPlayer C.2.2.2.2.2.2.1  rfl) (iM 0 (by decide)) rfl rfl hy_X11_isPlayer ⟨tw924, tw926, tw42, tw75, tw927⟩ (by decide) (by decide) rfl rfl (Nat.le_of_ble_eq_true rfl) dX11_rub_2 ?_
  show Wx LM K σ 5 [(0, .ref (kad K 0)), (1, .int a1), (2, .int a2)] [.int (X11_isPlayer σ a1)]
  refine x_ifeq C 20 dX11_rub_5 (by decide) (fun c3 => ?_) (fun c3 => ?_)
  · replace h0 := ob_pos c3 h0
    refine x_iconst (v := (-1)) C dX11_rub_20 rfl ?_
    cases h0
    exact x_iret C R dX11_rub_21
  · replace h0 := ob_neg c3 h0
    refine x_iload_n C 2 dX11_rub_8 rfl ?_
    refine x_i2l C dX11_rub_9 ?_
    refine x_lconst (v := 0) C dX11_rub_10 rfl ?_
    refine x_ldc2 C tw838 dX11_rub_11 ?_
    refine x_callS (ar := 3) (rest := []) C (c_X11_in C.2.2.2.2.2.2.1  rfl) hy_X11_in ⟨tw839, tw840, tw75, tw841⟩ (by decide) (by decide) rfl rfl (Nat.le_of_ble_eq_true rfl) dX11_rub_14 ?_
    show Wx LM K σ 17 [(0, .ref (kad K 0)), (1, .int a1), (2, .int a2)] [.int (X11_in ((a2).toInt64) (0) (5))]
    refine x_ifne C 22 dX11_rub_17 (by decide) (fun c6 => ?_) (fun c6 => ?_)
    · replace h0 := ob_neg c6 h0
      refine x_aload_n C 0 dX11_rub_22 rfl ?_
      refine x_getI (j := 12) (i := 127) (q := (RX11, TX11, 22)) C (iM 0 (by decide)) rfl rfl inBX11 (by decide) tw775 rfl dX11_rub_23 ?_
      refine x_bipush (v := 40) C dX11_rub_26 rfl ?_
      refine x_icmpne C 34 dX11_rub_28 (by decide) (fun c8 => ?_) (fun c8 => ?_)
      · replace h0 := ob_neg c8 h0
        refine x_aload_n C 0 dX11_rub_34 rfl ?_
        obtain ⟨r9, s11, g10, h0⟩ := ob_bd h0
        refine x_callV (ar := 0) (q := (RX11, TX11, 22)) (rest := []) C (c_X11_known C.2.2.2.2.2.2.1  g10) (iM 0 (by decide)) rfl rfl hy_X11_known ⟨tw964, tw966, tw45, tw75, tw967⟩ (by decide) (by decide) rfl rfl (Nat.le_of_ble_eq_true rfl) dX11_rub_35 ?_
        show Wx LM K s11 38 [(0, .ref (kad K 0)), (1, .int a1), (2, .int a2)] []
        refine x_aload_n C 0 dX11_rub_38 rfl ?_
        refine x_getR (j := 11) (i := 38) (q := (RX11, TX11, 22)) C 10 (iM 0 (by decide)) rfl rfl inBX11 (by decide) tw774 rfl dX11_rub_39 ?_
        refine x_iload_n C 1 dX11_rub_42 rfl ?_
        refine x_dup2 C dX11_rub_43 rfl rfl ?_
        obtain ⟨c12, h0⟩ := ob_if h0
        refine x_iald C (iM 10 (by decide)) rfl (vin_in c12) dX11_rub_44 ?_
        refine x_iconst (v := 1) C dX11_rub_45 rfl ?_
        refine x_iload_n C 2 dX11_rub_46 rfl ?_
        refine x_ishl C dX11_rub_47 ?_
        refine x_ixor C dX11_rub_48 ?_
        obtain ⟨c13, h0⟩ := ob_if h0
        refine x_iast C (iM 10 (by decide)) rfl (vin_in c13) dX11_rub_49 ?_
        refine x_aload_n C 0 dX11_rub_50 rfl ?_
        refine x_getR (j := 11) (i := 38) (q := (RX11, TX11, 22)) C 10 (iM 0 (by decide)) rfl rfl inBX11 (by decide) tw774 rfl dX11_rub_51 ?_
        refine x_iload_n C 1 dX11_rub_54 rfl ?_
        obtain ⟨c14, h0⟩ := ob_if h0
        refine x_iald C (iM 10 (by decide)) rfl (vin_in c14) dX11_rub_55 ?_
        cases h0
        exact x_iret C R dX11_rub_56
      · replace h0 := ob_pos c8 h0
        refine x_bipush (v := (-2)) C dX11_rub_31 rfl ?_
        cases h0
        exact x_iret C R dX11_rub_33
    · replace h0 := ob_pos c6 h0
      refine x_iconst (v := (-1)) C dX11_rub_20 rfl ?_
      cases h0
      exact x_iret C R dX11_rub_21
set_option maxHeartbeats 4000000 in
set_option maxRecDepth 100000 in
theorem c_X11_undo {l : Launch} {D : va_G} {ad : Nat → Nat} {cy : Nat → ClassId} (hJ : mJ LM ad) {σ τ : mS} {a1 : Int32} {r : Int32}  (h0 : X11_undo σ a1 = some (r, τ)) : MetG l LM D ad cy yX11_undo cX11_undo 3 (some .int) 1 [.ref (ad 0), .int a1] σ (some (.int r)) τ := by
  refine MetG.of hJ (by decide +kernel) [(0, .ref (ad 0)), (1, .int a1)] rfl (Nat.le_of_ble_eq_true rfl) ?_
  intro K e1 e2 e3 e4 e5 C R
  subst e1
  subst e2
  subst e3
  subst e4
  unfold X11_undo at h0
  refine x_iload_n C 1 dX11_undo_0 rfl ?_
  refine x_i2l C dX11_undo_1 ?_
  refine x_lconst (v := 0) C dX11_undo_2 rfl ?_
  refine x_aload_n C 0 dX11_undo_3 rfl ?_
  refine x_getI (j := 12) (i := 127) (q := (RX11, TX11, 22)) C (iM 0 (by decide)) rfl rfl inBX11 (by decide) tw775 rfl dX11_undo_4 ?_
  refine x_i2l C dX11_undo_7 ?_
  refine x_callS (ar := 3) (rest := []) C (c_X11_in C.2.2.2.2.2.2.1  rfl) hy_X11_in ⟨tw839, tw840, tw75, tw841⟩ (by decide) (by decide) rfl rfl (Nat.le_of_ble_eq_true rfl) dX11_undo_8 ?_
  show Wx LM K σ 11 [(0, .ref (kad K 0)), (1, .int a1)] [.int (X11_in ((a1).toInt64) (0) (((σ.1 0 12)).toInt64))]
  refine x_ifne C 16 dX11_undo_11 (by decide) (fun c3 => ?_) (fun c3 => ?_)
  · replace h0 := ob_neg c3 h0
    refine x_aload_n C 0 dX11_undo_16 rfl ?_
    refine x_getI (j := 12) (i := 127) (q := (RX11, TX11, 22)) C (iM 0 (by decide)) rfl rfl inBX11 (by decide) tw775 rfl dX11_undo_17 ?_
    refine x_iload_n C 1 dX11_undo_20 rfl ?_
    refine x_isub C dX11_undo_21 ?_
    refine x_istore_n (lv' := [(2, .int ((σ.1 0 12) - a1)), (0, .ref (kad K 0)), (1, .int a1)]) C dX11_undo_22 (by rw [e5]; decide) rfl ?_
    refine x_iload_n C 0 dX11_undo_23 rfl ?_
    refine x_ifle C 45 dX11_undo_24 (by decide) (fun c5 => ?_) (fun c5 => ?_)
    · replace h0 := ob_pos c5 h0
      refine x_iload_n C 0 dX11_undo_45 rfl ?_
      cases h0
      exact x_iret C R dX11_undo_46
    · replace h0 := ob_neg c5 h0
      refine x_aload_n C 1 dX11_undo_27 rfl ?_
      refine x_iload_n C 2 dX11_undo_28 rfl ?_
      refine x_iconst (v := 1) C dX11_undo_29 rfl ?_
      refine x_iadd C dX11_undo_30 ?_
      refine x_bipush (v := 8) C dX11_undo_31 rfl ?_
      refine x_imul C dX11_undo_33 ?_
      refine x_iconst (v := 0) C dX11_undo_34 rfl ?_
      refine x_bipush (v := 8) C dX11_undo_35 rfl ?_
      obtain ⟨r6, s8, g7, h0⟩ := ob_bd h0
      refine x_callV (ar := 3) (q := (RX11, TX11, 22)) (rest := []) C (c_X11_copies C.2.2.2.2.2.2.1  g7) (iM 0 (by decide)) rfl rfl hy_X11_copies ⟨tw968, tw970, tw46, tw75, tw971⟩ (by decide) (by decide) rfl rfl (Nat.le_of_ble_eq_true rfl) dX11_undo_37 ?_
      show Wx LM K s8 40 [(2, .int ((σ.1 0 12) - a1)), (0, .ref (kad K 0)), (1, .int a1)] []
      refine x_aload_n C 1 dX11_undo_40 rfl ?_
      refine x_iload_n C 2 dX11_undo_41 rfl ?_
      refine x_putI (j := 12) (i := 127) (q := (RX11, TX11, 22)) C tyX11 tyX11_ok nmX11 (iM 0 (by decide)) rfl rfl inBX11 (by decide) tw775 rfl (by decide +kernel) rfl dX11_undo_42 ?_
      refine x_iload_n C 0 dX11_undo_45 rfl ?_
      cases h0
      exact x_iret C R dX11_undo_46
  · replace h0 := ob_pos c3 h0
    refine x_iconst (v := (-1)) C dX11_undo_14 rfl ?_
    cases h0
    exact x_iret C R dX11_undo_15
set_option maxHeartbeats 4000000 in
set_option maxRecDepth 100000 in
theorem c_X11_keep {l : Launch} {D : va_G} {ad : Nat → Nat} {cy : Nat → ClassId} (hJ : mJ LM ad) {σ τ : mS} {a1 : Int32} {r : Int32}  (h0 : X11_keep σ a1 = some (r, τ)) : MetG l LM D ad cy yX11_keep cX11_keep 2 (some .int) 1 [.ref (ad 0), .int a1] σ (some (.int r)) τ := by
  refine MetG.of hJ (by decide +kernel) [(0, .ref (ad 0)), (1, .int a1)] rfl (Nat.le_of_ble_eq_true rfl) ?_
  intro K e1 e2 e3 e4 e5 C R
  subst e1
  subst e2
  subst e3
  subst e4
  unfold X11_keep at h0
  refine x_iload_n C 1 dX11_keep_0 rfl ?_
  refine x_i2l C dX11_keep_1 ?_
  refine x_lconst (v := 0) C dX11_keep_2 rfl ?_
  refine x_ldc2 C tw991 dX11_keep_3 ?_
  refine x_callS (ar := 3) (rest := []) C (c_X11_in C.2.2.2.2.2.2.1  rfl) hy_X11_in ⟨tw839, tw840, tw75, tw841⟩ (by decide) (by decide) rfl rfl (Nat.le_of_ble_eq_true rfl) dX11_keep_6 ?_
  show Wx LM K σ 9 [(0, .ref (kad K 0)), (1, .int a1)] [.int (X11_in ((a1).toInt64) (0) (2))]
  refine x_ifne C 14 dX11_keep_9 (by decide) (fun c3 => ?_) (fun c3 => ?_)
  · replace h0 := ob_neg c3 h0
    refine x_aload_n C 0 dX11_keep_14 rfl ?_
    refine x_getI (j := 5) (i := 124) (q := (RX11, TX11, 22)) C (iM 0 (by decide)) rfl rfl inBX11 (by decide) tw768 rfl dX11_keep_15 ?_
    refine x_ifne C 24 dX11_keep_18 (by decide) (fun c5 => ?_) (fun c5 => ?_)
    · replace h0 := ob_neg c5 h0
      refine x_aload_n C 0 dX11_keep_24 rfl ?_
      refine x_iconst (v := 0) C dX11_keep_25 rfl ?_
      refine x_sipush (v := 328) C dX11_keep_26 rfl ?_
      refine x_iload_n C 1 dX11_keep_29 rfl ?_
      refine x_iconst (v := 1) C dX11_keep_30 rfl ?_
      refine x_iadd C dX11_keep_31 ?_
      refine x_imul C dX11_keep_32 ?_
      refine x_sipush (v := 328) C dX11_keep_33 rfl ?_
      obtain ⟨r6, s8, g7, h0⟩ := ob_bd h0
      refine x_callV (ar := 3) (q := (RX11, TX11, 22)) (rest := []) C (c_X11_copies C.2.2.2.2.2.2.1  g7) (iM 0 (by decide)) rfl rfl hy_X11_copies ⟨tw968, tw970, tw46, tw75, tw971⟩ (by decide) (by decide) rfl rfl (Nat.le_of_ble_eq_true rfl) dX11_keep_36 ?_
      show Wx LM K s8 39 [(0, .ref (kad K 0)), (1, .int a1)] []
      refine x_aload_n C 0 dX11_keep_39 rfl ?_
      refine x_getR (j := 13) (i := 41) (q := (RX11, TX11, 22)) C 11 (iM 0 (by decide)) rfl rfl inBX11 (by decide) tw776 rfl dX11_keep_40 ?_
      refine x_iload_n C 1 dX11_keep_43 rfl ?_
      refine x_aload_n C 0 dX11_keep_44 rfl ?_
      refine x_getI (j := 12) (i := 127) (q := (RX11, TX11, 22)) C (iM 0 (by decide)) rfl rfl inBX11 (by decide) tw775 rfl dX11_keep_45 ?_
      obtain ⟨c9, h0⟩ := ob_if h0
      refine x_iast C (iM 11 (by decide)) rfl (vin_in c9) dX11_keep_48 ?_
      refine x_aload_n C 0 dX11_keep_49 rfl ?_
      refine x_getI (j := 12) (i := 127) (q := (RX11, TX11, 22)) C (iM 0 (by decide)) rfl rfl inBX11 (by decide) tw775 rfl dX11_keep_50 ?_
      cases h0
      exact x_iret C R dX11_keep_53
    · replace h0 := ob_pos c5 h0
      refine x_bipush (v := (-4)) C dX11_keep_21 rfl ?_
      cases h0
      exact x_iret C R dX11_keep_23
  · replace h0 := ob_pos c3 h0
    refine x_iconst (v := (-1)) C dX11_keep_12 rfl ?_
    cases h0
    exact x_iret C R dX11_keep_13
set_option maxHeartbeats 4000000 in
set_option maxRecDepth 100000 in
theorem c_X11_on {l : Launch} {D : va_G} {ad : Nat → Nat} {cy : Nat → ClassId} (hJ : mJ LM ad) {σ τ : mS} {a1 : Int32} {r : Int32}  (h0 : X11_on σ a1 = some (r, τ)) : MetG l LM D ad cy yX11_on cX11_on 2 (some .int) 1 [.ref (ad 0), .int a1] σ (some (.int r)) τ := by
  refine MetG.of hJ (by decide +kernel) [(0, .ref (ad 0)), (1, .int a1)] rfl (Nat.le_of_ble_eq_true rfl) ?_
  intro K e1 e2 e3 e4 e5 C R
  subst e1
  subst e2
  subst e3
  subst e4
  unfold X11_on at h0
  refine x_iload_n C 1 dX11_on_0 rfl ?_
  refine x_i2l C dX11_on_1 ?_
  refine x_lconst (v := 0) C dX11_on_2 rfl ?_
  refine x_ldc2 C tw991 dX11_on_3 ?_
  refine x_callS (ar := 3) (rest := []) C (c_X11_in C.2.2.2.2.2.2.1  rfl) hy_X11_in ⟨tw839, tw840, tw75, tw841⟩ (by decide) (by decide) rfl rfl (Nat.le_of_ble_eq_true rfl) dX11_on_6 ?_
  show Wx LM K σ 9 [(0, .ref (kad K 0)), (1, .int a1)] [.int (X11_in ((a1).toInt64) (0) (2))]
  refine x_ifne C 14 dX11_on_9 (by decide) (fun c3 => ?_) (fun c3 => ?_)
  · replace h0 := ob_neg c3 h0
    refine x_aload_n C 0 dX11_on_14 rfl ?_
    refine x_getR (j := 13) (i := 41) (q := (RX11, TX11, 22)) C 11 (iM 0 (by decide)) rfl rfl inBX11 (by decide) tw776 rfl dX11_on_15 ?_
    refine x_iload_n C 1 dX11_on_18 rfl ?_
    obtain ⟨c4, h0⟩ := ob_if h0
    refine x_iald C (iM 11 (by decide)) rfl (vin_in c4) dX11_on_19 ?_
    refine x_ifge C 29 dX11_on_20 (by decide) (fun c6 => ?_) (fun c6 => ?_)
    · replace h0 := ob_pos c6 h0
      refine x_aload_n C 0 dX11_on_29 rfl ?_
      refine x_sipush (v := 328) C dX11_on_30 rfl ?_
      refine x_iload_n C 1 dX11_on_33 rfl ?_
      refine x_iconst (v := 1) C dX11_on_34 rfl ?_
      refine x_iadd C dX11_on_35 ?_
      refine x_imul C dX11_on_36 ?_
      refine x_iconst (v := 0) C dX11_on_37 rfl ?_
      refine x_sipush (v := 328) C dX11_on_38 rfl ?_
      obtain ⟨r7, s9, g8, h0⟩ := ob_bd h0
      refine x_callV (ar := 3) (q := (RX11, TX11, 22)) (rest := []) C (c_X11_copies C.2.2.2.2.2.2.1  g8) (iM 0 (by decide)) rfl rfl hy_X11_copies ⟨tw968, tw970, tw46, tw75, tw971⟩ (by decide) (by decide) rfl rfl (Nat.le_of_ble_eq_true rfl) dX11_on_41 ?_
      show Wx LM K s9 44 [(0, .ref (kad K 0)), (1, .int a1)] []
      refine x_aload_n C 0 dX11_on_44 rfl ?_
      refine x_aload_n C 0 dX11_on_45 rfl ?_
      refine x_getR (j := 13) (i := 41) (q := (RX11, TX11, 22)) C 11 (iM 0 (by decide)) rfl rfl inBX11 (by decide) tw776 rfl dX11_on_46 ?_
      refine x_iload_n C 1 dX11_on_49 rfl ?_
      obtain ⟨c10, h0⟩ := ob_if h0
      refine x_iald C (iM 11 (by decide)) rfl (vin_in c10) dX11_on_50 ?_
      refine x_putI (j := 12) (i := 127) (q := (RX11, TX11, 22)) C tyX11 tyX11_ok nmX11 (iM 0 (by decide)) rfl rfl inBX11 (by decide) tw775 rfl (by decide +kernel) rfl dX11_on_51 ?_
      refine x_aload_n C 0 dX11_on_54 rfl ?_
      refine x_getI (j := 12) (i := 127) (q := (RX11, TX11, 22)) C (iM 0 (by decide)) rfl rfl inBX11 (by decide) tw775 rfl dX11_on_55 ?_
      cases h0
      exact x_iret C R dX11_on_58
    · replace h0 := ob_neg c6 h0
      refine x_aload_n C 0 dX11_on_23 rfl ?_
      refine x_iconst (v := 1) C dX11_on_24 rfl ?_
      obtain ⟨r11, s13, g12, h0⟩ := ob_bd h0
      refine x_callV (ar := 1) (q := (RX11, TX11, 22)) (rest := []) C (c_X11_finds C.2.2.2.2.2.2.1  g12) (iM 0 (by decide)) rfl rfl hy_X11_finds ⟨tw842, tw844, tw34, tw75, tw845⟩ (by decide) (by decide) rfl rfl (Nat.le_of_ble_eq_true rfl) dX11_on_25 ?_
      show Wx LM K s13 28 [(0, .ref (kad K 0)), (1, .int a1)] [.int r11]
      cases h0
      exact x_iret C R dX11_on_28
  · replace h0 := ob_pos c3 h0
    refine x_iconst (v := (-1)) C dX11_on_12 rfl ?_
    cases h0
    exact x_iret C R dX11_on_13
set_option maxHeartbeats 4000000 in
set_option maxRecDepth 100000 in
theorem c_X11_hears {l : Launch} {D : va_G} {ad : Nat → Nat} {cy : Nat → ClassId} (hJ : mJ LM ad) {σ : mS} {a1 : Int32} {a2 : Int32} {a3 : Int32} {a4 : Int32} {r : Int32}  (h0 : X11_hears σ a1 a2 a3 a4 = some r) : MetG l LM D ad cy yX11_hears cX11_hears 5 (some .int) 2 [.ref (ad 0), .int a1, .int a2, .int a3, .int a4] σ (some (.int r)) σ := by
  refine MetG.of hJ (by decide +kernel) [(0, .ref (ad 0)), (1, .int a1), (2, .int a2), (3, .int a3), (4, .int a4)] rfl (Nat.le_of_ble_eq_true rfl) ?_
  intro K e1 e2 e3 e4 e5 C R
  subst e1
  subst e2
  subst e3
  subst e4
  unfold X11_hears at h0
  refine x_aload_n C 0 dX11_hears_0 rfl ?_
  refine x_iload_n C 1 dX11_hears_1 rfl ?_
  refine x_callV (ar := 1) (q := (RX11, TX11, 22)) (rest := []) C (c_X11_isPlayer C.2.2.2.2.2.2.1  rfl) (iM 0 (by decide)) rfl rfl hy_X11_isPlayer ⟨tw924, tw926, tw42, tw75, tw927⟩ (by decide) (by decide) rfl rfl (Nat.le_of_ble_eq_true rfl) dX11_hears_2 ?_
  show Wx LM K σ 5 [(0, .ref (kad K 0)), (1, .int a1), (2, .int a2), (3, .int a3), (4, .int a4)] [.int (X11_isPlayer σ a1)]
  refine x_ifeq C 45 dX11_hears_5 (by decide) (fun c3 => ?_) (fun c3 => ?_)
  · replace h0 := ob_pos c3 h0
    refine x_iconst (v := (-1)) C dX11_hears_45 rfl ?_
    cases h0
    exact x_iret C R dX11_hears_46
  · replace h0 := ob_neg c3 h0
    refine x_iload_n C 2 dX11_hears_8 rfl ?_
    refine x_i2l C dX11_hears_9 ?_
    refine x_lconst (v := 1) C dX11_hears_10 rfl ?_
    refine x_ldc2 C tw911 dX11_hears_11 ?_
    refine x_callS (ar := 3) (rest := []) C (c_X11_in C.2.2.2.2.2.2.1  rfl) hy_X11_in ⟨tw839, tw840, tw75, tw841⟩ (by decide) (by decide) rfl rfl (Nat.le_of_ble_eq_true rfl) dX11_hears_14 ?_
    show Wx LM K σ 17 [(0, .ref (kad K 0)), (1, .int a1), (2, .int a2), (3, .int a3), (4, .int a4)] [.int (X11_in ((a2).toInt64) (1) (12))]
    refine x_ifeq C 45 dX11_hears_17 (by decide) (fun c6 => ?_) (fun c6 => ?_)
    · replace h0 := ob_pos c6 h0
      refine x_iconst (v := (-1)) C dX11_hears_45 rfl ?_
      cases h0
      exact x_iret C R dX11_hears_46
    · replace h0 := ob_neg c6 h0
      refine x_iload_n C 3 dX11_hears_20 rfl ?_
      refine x_i2l C dX11_hears_21 ?_
      refine x_lconst (v := 0) C dX11_hears_22 rfl ?_
      refine x_ldc2 C tw911 dX11_hears_23 ?_
      refine x_callS (ar := 3) (rest := []) C (c_X11_in C.2.2.2.2.2.2.1  rfl) hy_X11_in ⟨tw839, tw840, tw75, tw841⟩ (by decide) (by decide) rfl rfl (Nat.le_of_ble_eq_true rfl) dX11_hears_26 ?_
      show Wx LM K σ 29 [(0, .ref (kad K 0)), (1, .int a1), (2, .int a2), (3, .int a3), (4, .int a4)] [.int (X11_in ((a3).toInt64) (0) (12))]
      refine x_ifeq C 45 dX11_hears_29 (by decide) (fun c9 => ?_) (fun c9 => ?_)
      · replace h0 := ob_pos c9 h0
        refine x_iconst (v := (-1)) C dX11_hears_45 rfl ?_
        cases h0
        exact x_iret C R dX11_hears_46
      · replace h0 := ob_neg c9 h0
        refine x_iload C 4 dX11_hears_32 rfl ?_
        refine x_i2l C dX11_hears_34 ?_
        refine x_lconst (v := 0) C dX11_hears_35 rfl ?_
        refine x_ldc2 C tw1000 dX11_hears_36 ?_
        refine x_callS (ar := 3) (rest := []) C (c_X11_in C.2.2.2.2.2.2.1  rfl) hy_X11_in ⟨tw839, tw840, tw75, tw841⟩ (by decide) (by decide) rfl rfl (Nat.le_of_ble_eq_true rfl) dX11_hears_39 ?_
        show Wx LM K σ 42 [(0, .ref (kad K 0)), (1, .int a1), (2, .int a2), (3, .int a3), (4, .int a4)] [.int (X11_in ((a4).toInt64) (0) (99))]
        refine x_ifne C 47 dX11_hears_42 (by decide) (fun c12 => ?_) (fun c12 => ?_)
        · replace h0 := ob_neg c12 h0
          refine x_aload_n C 0 dX11_hears_47 rfl ?_
          refine x_getR (j := 6) (i := 26) (q := (RX11, TX11, 22)) C 6 (iM 0 (by decide)) rfl rfl inBX11 (by decide) tw769 rfl dX11_hears_48 ?_
          refine x_iload_n C 1 dX11_hears_51 rfl ?_
          obtain ⟨c13, h0⟩ := ob_if h0
          refine x_iald C (iM 6 (by decide)) rfl (vin_in c13) dX11_hears_52 ?_
          refine x_iload_n C 2 dX11_hears_53 rfl ?_
          refine x_iload_n C 3 dX11_hears_54 rfl ?_
          refine x_iload C 4 dX11_hears_55 rfl ?_
          refine x_callS (ar := 4) (rest := []) C (c_X11_heard C.2.2.2.2.2.2.1  rfl) hy_X11_heard ⟨tw976, tw977, tw75, tw978⟩ (by decide) (by decide) rfl rfl (Nat.le_of_ble_eq_true rfl) dX11_hears_57 ?_
          show Wx LM K σ 60 [(0, .ref (kad K 0)), (1, .int a1), (2, .int a2), (3, .int a3), (4, .int a4)] [.int (X11_heard (σ.1 6 a1.toNatClampNeg) a2 a3 a4)]
          cases h0
          exact x_iret C R dX11_hears_60
        · replace h0 := ob_pos c12 h0
          refine x_iconst (v := (-1)) C dX11_hears_45 rfl ?_
          cases h0
          exact x_iret C R dX11_hears_46
set_option maxHeartbeats 4000000 in
set_option maxRecDepth 100000 in
theorem c_X11_run {l : Launch} {D : va_G} {ad : Nat → Nat} {cy : Nat → ClassId} (hJ : mJ LM ad) {σ τ : mS} {a1 : Int32} {r : Int32}  (h0 : X11_run σ a1 = some (r, τ)) : MetG l LM D ad cy yX11_run cX11_run 3 (some .int) 3 [.ref (ad 0), .int a1] σ (some (.int r)) τ := by
  refine MetG.of hJ (by decide +kernel) [(0, .ref (ad 0)), (1, .int a1)] rfl (Nat.le_of_ble_eq_true rfl) ?_
  intro K e1 e2 e3 e4 e5 C R
  subst e1
  subst e2
  subst e3
  subst e4
  unfold X11_run at h0
  refine x_aload_n C 0 dX11_run_0 rfl ?_
  refine x_getI (j := 5) (i := 124) (q := (RX11, TX11, 22)) C (iM 0 (by decide)) rfl rfl inBX11 (by decide) tw768 rfl dX11_run_1 ?_
  refine x_ifne C 10 dX11_run_4 (by decide) (fun c2 => ?_) (fun c2 => ?_)
  · replace h0 := ob_neg c2 h0
    refine x_aload_n C 0 dX11_run_10 rfl ?_
    refine x_iload_n C 1 dX11_run_11 rfl ?_
    refine x_callV (ar := 1) (q := (RX11, TX11, 22)) (rest := []) C (c_X11_isRow C.2.2.2.2.2.2.1  rfl) (iM 0 (by decide)) rfl rfl hy_X11_isRow ⟨tw834, tw836, tw33, tw75, tw837⟩ (by decide) (by decide) rfl rfl (Nat.le_of_ble_eq_true rfl) dX11_run_12 ?_
    show Wx LM K σ 15 [(0, .ref (kad K 0)), (1, .int a1)] [.int (X11_isRow a1)]
    refine x_ifne C 20 dX11_run_15 (by decide) (fun c5 => ?_) (fun c5 => ?_)
    · replace h0 := ob_neg c5 h0
      refine x_aload_n C 0 dX11_run_20 rfl ?_
      refine x_getR (j := 0) (i := 7) (q := (RX11, TX11, 22)) C 1 (iM 0 (by decide)) rfl rfl inBX11 (by decide) tw763 rfl dX11_run_21 ?_
      refine x_iload_n C 1 dX11_run_24 rfl ?_
      obtain ⟨c6, h0⟩ := ob_if h0
      refine x_iald C (iM 1 (by decide)) rfl (vin_in c6) dX11_run_25 ?_
      refine x_ifge C 35 dX11_run_26 (by decide) (fun c8 => ?_) (fun c8 => ?_)
      · replace h0 := ob_pos c8 h0
        refine x_aload_n C 0 dX11_run_35 rfl ?_
        refine x_getR (j := 0) (i := 7) (q := (RX11, TX11, 22)) C 1 (iM 0 (by decide)) rfl rfl inBX11 (by decide) tw763 rfl dX11_run_36 ?_
        refine x_iload_n C 1 dX11_run_39 rfl ?_
        obtain ⟨c9, h0⟩ := ob_if h0
        refine x_iald C (iM 1 (by decide)) rfl (vin_in c9) dX11_run_40 ?_
        refine x_bipush (v := 12) C dX11_run_41 rfl ?_
        refine x_icmple C 52 dX11_run_43 (by decide) (fun c11 => ?_) (fun c11 => ?_)
        · replace h0 := ob_pos c11 h0
          refine x_iconst (v := 0) C dX11_run_52 rfl ?_
          refine x_istore_n (lv' := [(2, .int 0), (0, .ref (kad K 0)), (1, .int a1)]) C dX11_run_53 (by rw [e5]; decide) rfl ?_
          obtain ⟨e45, g46, h0⟩ := ob_bind h0
          have J1 : ∀ (u9 : Unit), .inl u9 = e45 → Wx LM K σ 98 [(0, .ref (kad K 0)), (1, .int a1)] [] := by
            intro u9 e9
            subst e9
            replace h0 := sm1_l h0
            refine x_aload_n C 0 dX11_run_98 rfl ?_
            refine x_iconst (v := 0) C dX11_run_99 rfl ?_
            refine x_sipush (v := 1312) C dX11_run_100 rfl ?_
            refine x_bipush (v := 8) C dX11_run_103 rfl ?_
            obtain ⟨r13, s15, g14, h0⟩ := ob_bd h0
            refine x_callV (ar := 3) (q := (RX11, TX11, 22)) (rest := []) C (c_X11_copies C.2.2.2.2.2.2.1  g14) (iM 0 (by decide)) rfl rfl hy_X11_copies ⟨tw968, tw970, tw46, tw75, tw971⟩ (by decide) (by decide) rfl rfl (Nat.le_of_ble_eq_true rfl) dX11_run_105 ?_
            show Wx LM K s15 108 [(0, .ref (kad K 0)), (1, .int a1)] []
            refine x_iconst (v := 0) C dX11_run_108 rfl ?_
            refine x_istore_n (lv' := [(2, .int 0), (0, .ref (kad K 0)), (1, .int a1)]) C dX11_run_109 (by rw [e5]; decide) rfl ?_
            obtain ⟨e33, g34, h0⟩ := ob_bind h0
            have J2 : ∀ (s18 : mS) (y19 : Int32), (s18, y19) = e33 → Wx LM K s18 170 [(2, .int y19), (0, .ref (kad K 0))] [] := by
              intro s18 y19 e9
              subst e9
              replace h0 := un2_l h0
              refine x_aload_n C 1 dX11_run_170 rfl ?_
              refine x_iload_n C 0 dX11_run_171 rfl ?_
              refine x_putI (j := 14) (i := 64) (q := (RX11, TX11, 22)) C tyX11 tyX11_ok nmX11 (iM 0 (by decide)) rfl rfl inBX11 (by decide) tw777 rfl (by decide +kernel) rfl dX11_run_172 ?_
              refine x_aload_n C 1 dX11_run_175 rfl ?_
              refine x_getR (j := 11) (i := 38) (q := (RX11, TX11, 22)) C 10 (iM 0 (by decide)) rfl rfl inBX11 (by decide) tw774 rfl dX11_run_176 ?_
              refine x_sipush (v := 1316) C dX11_run_179 rfl ?_
              obtain ⟨c20, h0⟩ := ob_if h0
              refine x_iald C (iM 10 (by decide)) rfl (vin_in c20) dX11_run_182 ?_
              cases h0
              exact x_iret C R dX11_run_183
            refine lp_G (G := fun q : mS × Int32 => Wx LM K q.1 110 [(2, .int q.2), (0, .ref (kad K 0)), (1, .int a1)] []) (fun q x h2 ihL2 ihR2 => ?_) big _ g34
            obtain ⟨s16, x17⟩ := q
            replace h2 : X11_run_b110 a1 s16 x17 = some x := h2
            unfold X11_run_b110 at h2
            show Wx LM K s16 110 [(2, .int x17), (0, .ref (kad K 0)), (1, .int a1)] []
            refine x_iload_n C 0 dX11_run_110 rfl ?_
            refine x_aload_n C 1 dX11_run_111 rfl ?_
            refine x_getR (j := 0) (i := 7) (q := (RX11, TX11, 22)) C 1 (iM 0 (by decide)) rfl rfl inBX11 (by decide) tw763 rfl dX11_run_112 ?_
            refine x_iload_n C 2 dX11_run_115 rfl ?_
            obtain ⟨c21, h2⟩ := ob_if h2
            refine x_iald C (iM 1 (by decide)) rfl (vin_in c21) dX11_run_116 ?_
            refine x_icmpge C 170 dX11_run_117 (by decide) (fun c23 => ?_) (fun c23 => ?_)
            · replace h2 := ob_pos c23 h2
              refine x_lv (lv' := [(2, .int x17), (0, .ref (kad K 0))]) [0, 1] rfl ?_
              exact J2 _ _ (ihR2 _ (Option.some.inj h2).symm)
            · replace h2 := ob_neg c23 h2
              refine x_aload_n C 1 dX11_run_120 rfl ?_
              refine x_getR (j := 11) (i := 38) (q := (RX11, TX11, 22)) C 10 (iM 0 (by decide)) rfl rfl inBX11 (by decide) tw774 rfl dX11_run_121 ?_
              refine x_sipush (v := 1317) C dX11_run_124 rfl ?_
              obtain ⟨c24, h2⟩ := ob_if h2
              refine x_iald C (iM 10 (by decide)) rfl (vin_in c24) dX11_run_127 ?_
              refine x_aload_n C 1 dX11_run_128 rfl ?_
              refine x_getR (j := 1) (i := 13) (q := (RX11, TX11, 22)) C 2 (iM 0 (by decide)) rfl rfl inBX11 (by decide) tw764 rfl dX11_run_129 ?_
              refine x_bipush (v := 40) C dX11_run_132 rfl ?_
              refine x_iload_n C 2 dX11_run_134 rfl ?_
              refine x_imul C dX11_run_135 ?_
              refine x_iload_n C 0 dX11_run_136 rfl ?_
              refine x_iadd C dX11_run_137 ?_
              obtain ⟨c25, h2⟩ := ob_if h2
              refine x_iald C (iM 2 (by decide)) rfl (vin_in c25) dX11_run_138 ?_
              refine x_callS (ar := 2) (rest := []) C (c_X11_has C.2.2.2.2.2.2.1  rfl) hy_X11_has ⟨tw957, tw958, tw75, tw959⟩ (by decide) (by decide) rfl rfl (Nat.le_of_ble_eq_true rfl) dX11_run_139 ?_
              show Wx LM K s16 142 [(2, .int x17), (0, .ref (kad K 0)), (1, .int a1)] [.int (X11_has (s16.1 10 (1317 : Int32).toNatClampNeg) (s16.1 2 (((40 : Int32) * a1) + x17).toNatClampNeg))]
              refine x_ifeq C 170 dX11_run_142 (by decide) (fun c28 => ?_) (fun c28 => ?_)
              · replace h2 := ob_pos c28 h2
                refine x_lv (lv' := [(2, .int x17), (0, .ref (kad K 0))]) [0, 1] rfl ?_
                exact J2 _ _ (ihR2 _ (Option.some.inj h2).symm)
              · replace h2 := ob_neg c28 h2
                refine x_aload_n C 1 dX11_run_145 rfl ?_
                refine x_sipush (v := 1312) C dX11_run_146 rfl ?_
                refine x_aload_n C 1 dX11_run_149 rfl ?_
                refine x_getR (j := 1) (i := 13) (q := (RX11, TX11, 22)) C 2 (iM 0 (by decide)) rfl rfl inBX11 (by decide) tw764 rfl dX11_run_150 ?_
                refine x_bipush (v := 40) C dX11_run_153 rfl ?_
                refine x_iload_n C 2 dX11_run_155 rfl ?_
                refine x_imul C dX11_run_156 ?_
                refine x_iload_n C 0 dX11_run_157 rfl ?_
                refine x_iadd C dX11_run_158 ?_
                obtain ⟨c29, h2⟩ := ob_if h2
                refine x_iald C (iM 2 (by decide)) rfl (vin_in c29) dX11_run_159 ?_
                obtain ⟨r30, s32, g31, h2⟩ := ob_bd h2
                refine x_callV (ar := 2) (q := (RX11, TX11, 22)) (rest := []) C (c_X11_calls C.2.2.2.2.2.2.1  g31) (iM 0 (by decide)) rfl rfl hy_X11_calls ⟨tw972, tw974, tw47, tw75, tw975⟩ (by decide) (by decide) rfl rfl (Nat.le_of_ble_eq_true rfl) dX11_run_160 ?_
                show Wx LM K s32 163 [(2, .int x17), (0, .ref (kad K 0)), (1, .int a1)] [.int r30]
                refine x_pop C dX11_run_163 rfl ?_
                refine x_iinc (v := (x17 + 1)) (lv' := [(2, .int (x17 + 1)), (0, .ref (kad K 0)), (1, .int a1)]) C 0 dX11_run_164 rfl rfl (by rw [e5]; decide) rfl ?_
                refine x_goto C 110 dX11_run_167 (by decide) ?_
                refine x_lv (lv' := [(2, .int (x17 + 1)), (0, .ref (kad K 0)), (1, .int a1)]) [0, 1, 2] rfl ?_
                exact ihL2 _ (Option.some.inj h2).symm
          refine lp_G (G := fun q : Int32 => Wx LM K σ 54 [(2, .int q), (0, .ref (kad K 0)), (1, .int a1)] []) (fun q x h1 ihL1 ihR1 => ?_) big _ g46
          obtain ⟨x12, rfl⟩ : ∃ z, z = q := ⟨_, rfl⟩
          replace h1 : X11_run_b54 σ a1 x12 = some x := h1
          unfold X11_run_b54 at h1
          show Wx LM K σ 54 [(2, .int x12), (0, .ref (kad K 0)), (1, .int a1)] []
          refine x_iload_n C 0 dX11_run_54 rfl ?_
          refine x_aload_n C 1 dX11_run_55 rfl ?_
          refine x_getR (j := 0) (i := 7) (q := (RX11, TX11, 22)) C 1 (iM 0 (by decide)) rfl rfl inBX11 (by decide) tw763 rfl dX11_run_56 ?_
          refine x_iload_n C 2 dX11_run_59 rfl ?_
          obtain ⟨c35, h1⟩ := ob_if h1
          refine x_iald C (iM 1 (by decide)) rfl (vin_in c35) dX11_run_60 ?_
          refine x_icmpge C 98 dX11_run_61 (by decide) (fun c37 => ?_) (fun c37 => ?_)
          · replace h1 := ob_pos c37 h1
            refine x_lv (lv' := [(0, .ref (kad K 0)), (1, .int a1)]) [1, 2] rfl ?_
            exact J1 _ (ihR1 _ (Option.some.inj h1).symm)
          · replace h1 := ob_neg c37 h1
            refine x_aload_n C 1 dX11_run_64 rfl ?_
            refine x_getR (j := 1) (i := 13) (q := (RX11, TX11, 22)) C 2 (iM 0 (by decide)) rfl rfl inBX11 (by decide) tw764 rfl dX11_run_65 ?_
            refine x_bipush (v := 40) C dX11_run_68 rfl ?_
            refine x_iload_n C 2 dX11_run_70 rfl ?_
            refine x_imul C dX11_run_71 ?_
            refine x_iload_n C 0 dX11_run_72 rfl ?_
            refine x_iadd C dX11_run_73 ?_
            obtain ⟨c38, h1⟩ := ob_if h1
            refine x_iald C (iM 2 (by decide)) rfl (vin_in c38) dX11_run_74 ?_
            refine x_i2l C dX11_run_75 ?_
            refine x_lconst (v := 1) C dX11_run_76 rfl ?_
            refine x_ldc2 C tw911 dX11_run_77 ?_
            refine x_callS (ar := 3) (rest := []) C (c_X11_in C.2.2.2.2.2.2.1  rfl) hy_X11_in ⟨tw839, tw840, tw75, tw841⟩ (by decide) (by decide) rfl rfl (Nat.le_of_ble_eq_true rfl) dX11_run_80 ?_
            show Wx LM K σ 83 [(2, .int x12), (0, .ref (kad K 0)), (1, .int a1)] [.int (X11_in (((σ.1 2 (((40 : Int32) * a1) + x12).toNatClampNeg)).toInt64) (1) (12))]
            refine x_ifne C 92 dX11_run_83 (by decide) (fun c41 => ?_) (fun c41 => ?_)
            · replace h1 := ob_neg c41 h1
              refine x_iinc (v := (x12 + 1)) (lv' := [(2, .int (x12 + 1)), (0, .ref (kad K 0)), (1, .int a1)]) C 0 dX11_run_92 rfl rfl (by rw [e5]; decide) rfl ?_
              refine x_goto C 54 dX11_run_95 (by decide) ?_
              refine x_lv (lv' := [(2, .int (x12 + 1)), (0, .ref (kad K 0)), (1, .int a1)]) [0, 1, 2] rfl ?_
              exact ihL1 _ (Option.some.inj h1).symm
            · replace h1 := ob_pos c41 h1
              refine x_aload_n C 1 dX11_run_86 rfl ?_
              refine x_iconst (v := 3) C dX11_run_87 rfl ?_
              obtain ⟨r42, s44, g43, h1⟩ := ob_bd h1
              refine x_callV (ar := 1) (q := (RX11, TX11, 22)) (rest := []) C (c_X11_finds C.2.2.2.2.2.2.1  g43) (iM 0 (by decide)) rfl rfl hy_X11_finds ⟨tw842, tw844, tw34, tw75, tw845⟩ (by decide) (by decide) rfl rfl (Nat.le_of_ble_eq_true rfl) dX11_run_88 ?_
              show Wx LM K s44 91 [(2, .int x12), (0, .ref (kad K 0)), (1, .int a1)] [.int r42]
              have e19 := ihR1 _ (Option.some.inj h1).symm
              subst e19
              replace h0 := sm1_r h0
              cases h0
              exact x_iret C R dX11_run_91
        · replace h0 := ob_neg c11 h0
          refine x_aload_n C 0 dX11_run_46 rfl ?_
          refine x_iconst (v := 5) C dX11_run_47 rfl ?_
          obtain ⟨r47, s49, g48, h0⟩ := ob_bd h0
          refine x_callV (ar := 1) (q := (RX11, TX11, 22)) (rest := []) C (c_X11_finds C.2.2.2.2.2.2.1  g48) (iM 0 (by decide)) rfl rfl hy_X11_finds ⟨tw842, tw844, tw34, tw75, tw845⟩ (by decide) (by decide) rfl rfl (Nat.le_of_ble_eq_true rfl) dX11_run_48 ?_
          show Wx LM K s49 51 [(0, .ref (kad K 0)), (1, .int a1)] [.int r47]
          cases h0
          exact x_iret C R dX11_run_51
      · replace h0 := ob_neg c8 h0
        refine x_aload_n C 0 dX11_run_29 rfl ?_
        refine x_iconst (v := 1) C dX11_run_30 rfl ?_
        obtain ⟨r50, s52, g51, h0⟩ := ob_bd h0
        refine x_callV (ar := 1) (q := (RX11, TX11, 22)) (rest := []) C (c_X11_finds C.2.2.2.2.2.2.1  g51) (iM 0 (by decide)) rfl rfl hy_X11_finds ⟨tw842, tw844, tw34, tw75, tw845⟩ (by decide) (by decide) rfl rfl (Nat.le_of_ble_eq_true rfl) dX11_run_31 ?_
        show Wx LM K s52 34 [(0, .ref (kad K 0)), (1, .int a1)] [.int r50]
        cases h0
        exact x_iret C R dX11_run_34
    · replace h0 := ob_pos c5 h0
      refine x_iconst (v := (-1)) C dX11_run_18 rfl ?_
      cases h0
      exact x_iret C R dX11_run_19
  · replace h0 := ob_pos c2 h0
    refine x_bipush (v := (-4)) C dX11_run_7 rfl ?_
    cases h0
    exact x_iret C R dX11_run_9
