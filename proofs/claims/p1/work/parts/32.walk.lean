set_option maxHeartbeats 4000000 in
set_option maxRecDepth 100000 in
theorem c_X10_callsAhead {l : Launch} {D : va_G} {ad : Nat → Nat} {cy : Nat → ClassId} (hJ : mJ LX ad) {σ τ : mS} {a1 : Int32} {r : Int32}  (h0 : X10_callsAhead σ a1 = some (r, τ)) : MetG l LX D ad cy yX10_callsAhead cX10_callsAhead 2 (some .int) 1 [.ref (ad 0), .int a1] σ (some (.int r)) τ := by
  refine MetG.of hJ (by decide +kernel) [(0, .ref (ad 0)), (1, .int a1)] rfl (Nat.le_of_ble_eq_true rfl) ?_
  intro K e1 e2 e3 e4 e5 C R
  subst e1
  subst e2
  subst e3
  subst e4
  unfold X10_callsAhead at h0
  refine x_aload_n C 0 dX10_callsAhead_0 rfl ?_
  refine x_getR (j := 9) (i := 60) (q := (RX10, TX10, 18)) C 184 (iX 0 (by decide)) rfl rfl inBX10 (by decide) tw244 rfl dX10_callsAhead_1 ?_
  refine x_iconst (v := 0) C dX10_callsAhead_4 rfl ?_
  obtain ⟨c1, h0⟩ := ob_if h0
  refine x_aald C (iX 184 (by decide)) rfl rfl rfl (vin_in c1) dX10_callsAhead_5 ?_
  refine x_aload_n C 0 dX10_callsAhead_6 rfl ?_
  refine x_getR (j := 6) (i := 45) (q := (RX10, TX10, 18)) C (144 + 5) (iX 0 (by decide)) rfl rfl inBX10 (by decide) tw241 rfl dX10_callsAhead_7 ?_
  obtain ⟨r2, s4, g3, h0⟩ := ob_bd h0
  refine x_callV (ar := 1) (q := (RX2, TX2, 6)) (rest := []) C (c_X2_take C.2.2.2.2.2.2.1 (Nat.lt_of_lt_of_le (vin_lt c1) (by decide)) (by decide) g3) (iX18 (Nat.lt_of_lt_of_le (vin_lt c1) (by decide))) (lX18 (Nat.lt_of_lt_of_le (vin_lt c1) (by decide))) rfl hy_X2_take ⟨tw579, tw580, tw581, tw72, tw582⟩ (by decide) (by decide) rfl rfl (Nat.le_of_ble_eq_true rfl) dX10_callsAhead_10 ?_
  show Wx LX K s4 13 [(0, .ref (kad K 0)), (1, .int a1)] []
  refine x_iload_n C 1 dX10_callsAhead_13 rfl ?_
  refine x_iconst (v := 4) C dX10_callsAhead_14 rfl ?_
  refine x_mmin C (by decide) tw600 tw433 tw78 tw434 (Nat.le_of_ble_eq_true rfl) dX10_callsAhead_15 ?_
  refine x_aload_n C 0 dX10_callsAhead_18 rfl ?_
  refine x_getR (j := 6) (i := 45) (q := (RX10, TX10, 18)) C (144 + 5) (iX 0 (by decide)) rfl rfl inBX10 (by decide) tw241 rfl dX10_callsAhead_19 ?_
  refine x_getIN (j := 3) (i := 262) (q := (RX2, TX2, 6)) (host := "CalledNumbers") C (iX18 (by decide)) (lX18 (by decide)) rfl inBX2 (by decide) twN197 rfl dX10_callsAhead_22 ?_
  refine x_callS (ar := 1) (rest := [.int (jmin a1 4)]) C (c_J6_bitCount_0f7a4 C.2.2.2.2.2.2.1  rfl) hy_J6_bitCount_0f7a4 ⟨tw591, tw417, tw77, tw418⟩ (by decide) (by decide) rfl rfl (Nat.le_of_ble_eq_true rfl) dX10_callsAhead_25 ?_
  show Wx LX K s4 28 [(0, .ref (kad K 0)), (1, .int a1)] [.int (J6_bitCount_0f7a4 (s4.1 (144 + 5) 3)), .int (jmin a1 4)]
  refine x_mmin C (by decide) tw600 tw433 tw78 tw434 (Nat.le_of_ble_eq_true rfl) dX10_callsAhead_28 ?_
  cases h0
  exact x_iret C R dX10_callsAhead_31
set_option maxHeartbeats 4000000 in
set_option maxRecDepth 100000 in
theorem c_X10_winsAhead {l : Launch} {D : va_G} {ad : Nat → Nat} {cy : Nat → ClassId} (hJ : mJ LX ad) {σ τ : mS} {a1 : Int32} {a2 : Int32} {a3 : Int32} {r : Int32}  (h0 : X10_winsAhead σ a1 a2 a3 = some (r, τ)) : MetG l LX D ad cy yX10_winsAhead cX10_winsAhead 6 (some .boolean) 3 [.ref (ad 0), .int a1, .int a2, .int a3] σ (some (.int r)) τ := by
  refine MetG.of hJ (by decide +kernel) [(0, .ref (ad 0)), (1, .int a1), (2, .int a2), (3, .int a3)] rfl (Nat.le_of_ble_eq_true rfl) ?_
  intro K e1 e2 e3 e4 e5 C R
  subst e1
  subst e2
  subst e3
  subst e4
  unfold X10_winsAhead at h0
  refine x_aload_n C 0 dX10_winsAhead_0 rfl ?_
  refine x_getR (j := 9) (i := 60) (q := (RX10, TX10, 18)) C 184 (iX 0 (by decide)) rfl rfl inBX10 (by decide) tw244 rfl dX10_winsAhead_1 ?_
  refine x_iload_n C 2 dX10_winsAhead_4 rfl ?_
  obtain ⟨c1, h0⟩ := ob_if h0
  refine x_aald C (iX 184 (by decide)) rfl rfl rfl (vin_in c1) dX10_winsAhead_5 ?_
  refine x_astore (lv' := [(4, .ref (kad K (144 + a2.toNatClampNeg))), (0, .ref (kad K 0)), (1, .int a1), (2, .int a2), (3, .int a3)]) C dX10_winsAhead_6 (by rw [e5]; decide) rfl ?_
  refine x_iload_n C 3 dX10_winsAhead_8 rfl ?_
  refine x_iload_n C 4 dX10_winsAhead_9 rfl ?_
  refine x_icmpge C 18 dX10_winsAhead_10 (by decide) (fun c3 => ?_) (fun c3 => ?_)
  · replace h0 := ob_pos c3 h0
    refine x_aload C 0 dX10_winsAhead_18 rfl ?_
    refine x_iload_n C 2 dX10_winsAhead_20 rfl ?_
    refine x_callV (ar := 1) (q := (RX2, TX2, 6)) (rest := []) C (c_X2_hasWon C.2.2.2.2.2.2.1 (Nat.lt_of_lt_of_le (vin_lt c1) (by decide)) rfl) (iX18 (Nat.lt_of_lt_of_le (vin_lt c1) (by decide))) (lX18 (Nat.lt_of_lt_of_le (vin_lt c1) (by decide))) rfl hy_X2_hasWon ⟨tw605, tw606, tw607, tw72, tw608⟩ (by decide) (by decide) rfl rfl (Nat.le_of_ble_eq_true rfl) dX10_winsAhead_21 ?_
    show Wx LX K σ 24 [(4, .ref (kad K (144 + a2.toNatClampNeg))), (0, .ref (kad K 0)), (1, .int a1), (2, .int a2), (3, .int a3)] [.int (X2_hasWon σ a2.toNatClampNeg a1)]
    cases h0
    exact x_zret C (zb_X2_hasWon ..) R dX10_winsAhead_24
  · replace h0 := ob_neg c3 h0
    refine x_iload_n C 3 dX10_winsAhead_13 rfl ?_
    refine x_iconst (v := 4) C dX10_winsAhead_14 rfl ?_
    refine x_icmplt C 25 dX10_winsAhead_15 (by decide) (fun c6 => ?_) (fun c6 => ?_)
    · replace h0 := ob_pos c6 h0
      refine x_iconst (v := 1) C dX10_winsAhead_25 rfl ?_
      refine x_istore (lv' := [(5, .int 1), (4, .ref (kad K (144 + a2.toNatClampNeg))), (0, .ref (kad K 0)), (1, .int a1), (2, .int a2), (3, .int a3)]) C dX10_winsAhead_26 (by rw [e5]; decide) rfl ?_
      obtain ⟨e18, g19, h0⟩ := ob_bind h0
      have J1 : ∀ (s9 : mS), .inl s9 = e18 → Wx LX K s9 76 [] [] := by
        intro s9 e9
        subst e9
        replace h0 := sm1_l h0
        refine x_iconst (v := 0) C dX10_winsAhead_76 rfl ?_
        cases h0
        exact x_zret C (Or.inl rfl) R dX10_winsAhead_77
      refine lp_G (G := fun q : mS × Int32 => Wx LX K q.1 28 [(5, .int q.2), (4, .ref (kad K (144 + a2.toNatClampNeg))), (0, .ref (kad K 0)), (1, .int a1), (2, .int a2), (3, .int a3)] []) (fun q x h1 ihL1 ihR1 => ?_) big _ g19
      obtain ⟨s7, x8⟩ := q
      replace h1 : X10_winsAhead_b28 a1 a2 s7 x8 = some x := h1
      unfold X10_winsAhead_b28 at h1
      show Wx LX K s7 28 [(5, .int x8), (4, .ref (kad K (144 + a2.toNatClampNeg))), (0, .ref (kad K 0)), (1, .int a1), (2, .int a2), (3, .int a3)] []
      refine x_iload C 0 dX10_winsAhead_28 rfl ?_
      refine x_bipush (v := 12) C dX10_winsAhead_30 rfl ?_
      refine x_icmpgt C 76 dX10_winsAhead_32 (by decide) (fun c11 => ?_) (fun c11 => ?_)
      · replace h1 := ob_pos c11 h1
        refine x_lv (lv' := []) [] rfl ?_
        exact J1 _ (ihR1 _ (Option.some.inj h1).symm)
      · replace h1 := ob_neg c11 h1
        refine x_aload C 1 dX10_winsAhead_35 rfl ?_
        refine x_iload C 0 dX10_winsAhead_37 rfl ?_
        refine x_callV (ar := 1) (q := (RX2, TX2, 6)) (rest := []) C (c_X2_holds C.2.2.2.2.2.2.1 (Nat.lt_of_lt_of_le (vin_lt c1) (by decide)) rfl) (iX18 (Nat.lt_of_lt_of_le (vin_lt c1) (by decide))) (lX18 (Nat.lt_of_lt_of_le (vin_lt c1) (by decide))) rfl hy_X2_holds ⟨tw495, tw496, tw497, tw72, tw498⟩ (by decide) (by decide) rfl rfl (Nat.le_of_ble_eq_true rfl) dX10_winsAhead_39 ?_
        show Wx LX K s7 42 [(5, .int x8), (4, .ref (kad K (144 + a2.toNatClampNeg))), (0, .ref (kad K 0)), (1, .int a1), (2, .int a2), (3, .int a3)] [.int (X2_holds s7 a2.toNatClampNeg x8)]
        refine x_ifeq C 70 dX10_winsAhead_42 (by decide) (fun c14 => ?_) (fun c14 => ?_)
        · replace h1 := ob_pos c14 h1
          refine x_iinc (v := (x8 + 1)) (lv' := [(5, .int (x8 + 1)), (4, .ref (kad K (144 + a2.toNatClampNeg))), (0, .ref (kad K 0)), (1, .int a1), (2, .int a2), (3, .int a3)]) C 0 dX10_winsAhead_70 rfl rfl (by rw [e5]; decide) rfl ?_
          refine x_goto C 28 dX10_winsAhead_73 (by decide) ?_
          refine x_lv (lv' := [(5, .int (x8 + 1)), (4, .ref (kad K (144 + a2.toNatClampNeg))), (0, .ref (kad K 0)), (1, .int a1), (2, .int a2), (3, .int a3)]) [0, 1, 2, 3, 4, 5] rfl ?_
          exact ihL1 _ (Option.some.inj h1).symm
        · replace h1 := ob_neg c14 h1
          refine x_aload_n C 2 dX10_winsAhead_45 rfl ?_
          refine x_iload_n C 4 dX10_winsAhead_46 rfl ?_
          refine x_iload C 0 dX10_winsAhead_47 rfl ?_
          refine x_iconst (v := 1) C dX10_winsAhead_49 rfl ?_
          refine x_iload_n C 3 dX10_winsAhead_50 rfl ?_
          refine x_ishl C dX10_winsAhead_51 ?_
          obtain ⟨r15, s17, g16, h1⟩ := ob_bd h1
          refine x_callV (ar := 3) (q := (RX10, TX10, 18)) (rest := []) C (c_X10_stepAhead C.2.2.2.2.2.2.1  g16) (iX 0 (by decide)) rfl rfl hy_X10_stepAhead ⟨tw587, tw589, tw16, tw63, tw590⟩ (by decide) (by decide) rfl rfl (Nat.le_of_ble_eq_true rfl) dX10_winsAhead_52 ?_
          show Wx LX K s17 55 [(5, .int x8), (4, .ref (kad K (144 + a2.toNatClampNeg))), (0, .ref (kad K 0)), (1, .int a1), (2, .int a2), (3, .int a3)] [.int r15]
          refine x_pop C dX10_winsAhead_55 rfl ?_
          refine x_aload_n C 2 dX10_winsAhead_56 rfl ?_
          refine x_iload_n C 3 dX10_winsAhead_57 rfl ?_
          refine x_iload_n C 4 dX10_winsAhead_58 rfl ?_
          refine x_iconst (v := 1) C dX10_winsAhead_59 rfl ?_
          refine x_iadd C dX10_winsAhead_60 ?_
          refine x_iload_n C 5 dX10_winsAhead_61 rfl ?_
          cases h1
    · replace h0 := ob_neg c6 h0
      refine x_aload C 0 dX10_winsAhead_18 rfl ?_
      refine x_iload_n C 2 dX10_winsAhead_20 rfl ?_
      refine x_callV (ar := 1) (q := (RX2, TX2, 6)) (rest := []) C (c_X2_hasWon C.2.2.2.2.2.2.1 (Nat.lt_of_lt_of_le (vin_lt c1) (by decide)) rfl) (iX18 (Nat.lt_of_lt_of_le (vin_lt c1) (by decide))) (lX18 (Nat.lt_of_lt_of_le (vin_lt c1) (by decide))) rfl hy_X2_hasWon ⟨tw605, tw606, tw607, tw72, tw608⟩ (by decide) (by decide) rfl rfl (Nat.le_of_ble_eq_true rfl) dX10_winsAhead_21 ?_
      show Wx LX K σ 24 [(4, .ref (kad K (144 + a2.toNatClampNeg))), (0, .ref (kad K 0)), (1, .int a1), (2, .int a2), (3, .int a3)] [.int (X2_hasWon σ a2.toNatClampNeg a1)]
      cases h0
      exact x_zret C (zb_X2_hasWon ..) R dX10_winsAhead_24
set_option maxHeartbeats 4000000 in
set_option maxRecDepth 100000 in
theorem c_X10_layTrail {l : Launch} {D : va_G} {ad : Nat → Nat} {cy : Nat → ClassId} (hJ : mJ LX ad) {σ τ : mS} {a1 : Int32} {a2 : Int32} {r : Unit}  (h0 : X10_layTrail σ a1 a2 = some (r, τ)) : MetG l LX D ad cy yX10_layTrail cX10_layTrail 3 none 1 [.ref (ad 0), .int a1, .int a2] σ (none) τ := by
  refine MetG.of hJ (by decide +kernel) [(0, .ref (ad 0)), (1, .int a1), (2, .int a2)] rfl (Nat.le_of_ble_eq_true rfl) ?_
  intro K e1 e2 e3 e4 e5 C R
  subst e1
  subst e2
  subst e3
  subst e4
  unfold X10_layTrail at h0
  refine x_aload_n C 0 dX10_layTrail_0 rfl ?_
  refine x_getR (j := 10) (i := 64) (q := (RX10, TX10, 18)) C 192 (iX 0 (by decide)) rfl rfl inBX10 (by decide) tw245 rfl dX10_layTrail_1 ?_
  refine x_iconst (v := 0) C dX10_layTrail_4 rfl ?_
  refine x_aload_n C 0 dX10_layTrail_5 rfl ?_
  refine x_getR (j := 0) (i := 11) (q := (RX10, TX10, 18)) C 8 (iX 0 (by decide)) rfl rfl inBX10 (by decide) tw235 rfl dX10_layTrail_6 ?_
  refine x_iload_n C 1 dX10_layTrail_9 rfl ?_
  obtain ⟨c1, h0⟩ := ob_if h0
  refine x_aald C (iX 8 (by decide)) rfl rfl rfl (vin_in c1) dX10_layTrail_10 ?_
  refine x_iconst (v := 0) C dX10_layTrail_11 rfl ?_
  refine x_iload_n C 2 dX10_layTrail_12 rfl ?_
  obtain ⟨c3, h0⟩ := ob_if h0
  refine x_acopy C (iX 192 (by decide)) rfl (iX2 (vin_lt c1)) (lX2 (vin_lt c1)) (by decide) tw330 tw332 tw331 tw76 c3.1.1.1 c3.1.1.2 c3.1.2 c3.2.1 c3.2.2 (Nat.le_of_ble_eq_true rfl) dX10_layTrail_13 ?_
  refine x_aload_n C 0 dX10_layTrail_16 rfl ?_
  refine x_getR (j := 1) (i := 14) (q := (RX10, TX10, 18)) C 24 (iX 0 (by decide)) rfl rfl inBX10 (by decide) tw236 rfl dX10_layTrail_17 ?_
  refine x_iload_n C 1 dX10_layTrail_20 rfl ?_
  refine x_iload_n C 2 dX10_layTrail_21 rfl ?_
  obtain ⟨c2, h0⟩ := ob_if h0
  refine x_iast C (iX 24 (by decide)) rfl (vin_in c2) dX10_layTrail_22 ?_
  cases h0
  exact x_vret C R dX10_layTrail_23
set_option maxHeartbeats 4000000 in
set_option maxRecDepth 100000 in
theorem c_X10_fewest {l : Launch} {D : va_G} {ad : Nat → Nat} {cy : Nat → ClassId} (hJ : mJ LX ad) {σ τ : mS} {a1 : Int32} {a2 : Int32} {r : Int32}  (h0 : X10_fewest σ a1 a2 = some (r, τ)) : MetG l LX D ad cy yX10_fewest cX10_fewest 5 (some .int) 4 [.ref (ad 0), .int a1, .int a2] σ (some (.int r)) τ := by
  refine MetG.of hJ (by decide +kernel) [(0, .ref (ad 0)), (1, .int a1), (2, .int a2)] rfl (Nat.le_of_ble_eq_true rfl) ?_
  intro K e1 e2 e3 e4 e5 C R
  subst e1
  subst e2
  subst e3
  subst e4
  unfold X10_fewest at h0
  refine x_aload_n C 0 dX10_fewest_0 rfl ?_
  refine x_iload_n C 1 dX10_fewest_1 rfl ?_
  refine x_callV (ar := 1) (q := (RX10, TX10, 18)) (rest := []) C (c_X10_isPlayer C.2.2.2.2.2.2.1  rfl) (iX 0 (by decide)) rfl rfl hy_X10_isPlayer ⟨tw390, tw392, tw8, tw63, tw393⟩ (by decide) (by decide) rfl rfl (Nat.le_of_ble_eq_true rfl) dX10_fewest_2 ?_
  show Wx LX K σ 5 [(0, .ref (kad K 0)), (1, .int a1), (2, .int a2)] [.int (X10_isPlayer σ a1)]
  refine x_ifeq C 16 dX10_fewest_5 (by decide) (fun c3 => ?_) (fun c3 => ?_)
  · replace h0 := ob_pos c3 h0
    refine x_iconst (v := (-1)) C dX10_fewest_16 rfl ?_
    cases h0
    exact x_iret C R dX10_fewest_17
  · replace h0 := ob_neg c3 h0
    refine x_aload_n C 0 dX10_fewest_8 rfl ?_
    refine x_iload_n C 2 dX10_fewest_9 rfl ?_
    refine x_callV (ar := 1) (q := (RX10, TX10, 18)) (rest := []) C (c_X10_isRow C.2.2.2.2.2.2.1  rfl) (iX 0 (by decide)) rfl rfl hy_X10_isRow ⟨tw294, tw296, tw0, tw63, tw297⟩ (by decide) (by decide) rfl rfl (Nat.le_of_ble_eq_true rfl) dX10_fewest_10 ?_
    show Wx LX K σ 13 [(0, .ref (kad K 0)), (1, .int a1), (2, .int a2)] [.int (X10_isRow a2)]
    refine x_ifne C 18 dX10_fewest_13 (by decide) (fun c6 => ?_) (fun c6 => ?_)
    · replace h0 := ob_neg c6 h0
      refine x_aload_n C 0 dX10_fewest_18 rfl ?_
      refine x_iconst (v := 4) C dX10_fewest_19 rfl ?_
      obtain ⟨r7, s9, g8, h0⟩ := ob_bd h0
      refine x_callV (ar := 1) (q := (RX10, TX10, 18)) (rest := []) C (c_X10_callsAhead C.2.2.2.2.2.2.1  g8) (iX 0 (by decide)) rfl rfl hy_X10_callsAhead ⟨tw596, tw598, tw17, tw63, tw599⟩ (by decide) (by decide) rfl rfl (Nat.le_of_ble_eq_true rfl) dX10_fewest_20 ?_
      show Wx LX K s9 23 [(0, .ref (kad K 0)), (1, .int a1), (2, .int a2)] [.int r7]
      refine x_istore_n (lv' := [(3, .int r7), (0, .ref (kad K 0)), (1, .int a1), (2, .int a2)]) C dX10_fewest_23 (by rw [e5]; decide) rfl ?_
      refine x_iconst (v := 0) C dX10_fewest_24 rfl ?_
      refine x_istore (lv' := [(4, .int 0), (3, .int r7), (0, .ref (kad K 0)), (1, .int a1), (2, .int a2)]) C dX10_fewest_25 (by rw [e5]; decide) rfl ?_
      obtain ⟨e23, g24, h0⟩ := ob_bind h0
      have J1 : ∀ (s12 : mS), .inl s12 = e23 → Wx LX K s12 60 [] [] := by
        intro s12 e9
        subst e9
        replace h0 := sm1_l h0
        refine x_bipush (v := (-9)) C dX10_fewest_60 rfl ?_
        cases h0
        exact x_iret C R dX10_fewest_62
      refine lp_G (G := fun q : mS × Int32 => Wx LX K q.1 27 [(4, .int q.2), (3, .int r7), (0, .ref (kad K 0)), (1, .int a1), (2, .int a2)] []) (fun q x h1 ihL1 ihR1 => ?_) big _ g24
      obtain ⟨s10, x11⟩ := q
      replace h1 : X10_fewest_b27 a1 a2 r7 s10 x11 = some x := h1
      unfold X10_fewest_b27 at h1
      show Wx LX K s10 27 [(4, .int x11), (3, .int r7), (0, .ref (kad K 0)), (1, .int a1), (2, .int a2)] []
      refine x_iload C 0 dX10_fewest_27 rfl ?_
      refine x_iload_n C 1 dX10_fewest_29 rfl ?_
      refine x_icmpgt C 60 dX10_fewest_30 (by decide) (fun c14 => ?_) (fun c14 => ?_)
      · replace h1 := ob_pos c14 h1
        refine x_lv (lv' := []) [] rfl ?_
        exact J1 _ (ihR1 _ (Option.some.inj h1).symm)
      · replace h1 := ob_neg c14 h1
        refine x_aload_n C 2 dX10_fewest_33 rfl ?_
        refine x_iload_n C 3 dX10_fewest_34 rfl ?_
        refine x_iconst (v := 0) C dX10_fewest_35 rfl ?_
        refine x_iload C 0 dX10_fewest_36 rfl ?_
        obtain ⟨r15, s17, g16, h1⟩ := ob_bd h1
        refine x_callV (ar := 3) (q := (RX10, TX10, 18)) (rest := []) C (c_X10_winsAhead C.2.2.2.2.2.2.1  g16) (iX 0 (by decide)) rfl rfl hy_X10_winsAhead ⟨tw601, tw603, tw18, tw63, tw604⟩ (by decide) (by decide) rfl rfl (Nat.le_of_ble_eq_true rfl) dX10_fewest_38 ?_
        show Wx LX K s17 41 [(4, .int x11), (3, .int r7), (0, .ref (kad K 0)), (1, .int a1), (2, .int a2)] [.int r15]
        refine x_ifeq C 54 dX10_fewest_41 (by decide) (fun c19 => ?_) (fun c19 => ?_)
        · replace h1 := ob_pos c19 h1
          refine x_iinc (v := (x11 + 1)) (lv' := [(4, .int (x11 + 1)), (3, .int r7), (0, .ref (kad K 0)), (1, .int a1), (2, .int a2)]) C 0 dX10_fewest_54 rfl rfl (by rw [e5]; decide) rfl ?_
          refine x_goto C 27 dX10_fewest_57 (by decide) ?_
          refine x_lv (lv' := [(4, .int (x11 + 1)), (3, .int r7), (0, .ref (kad K 0)), (1, .int a1), (2, .int a2)]) [0, 1, 2, 3, 4] rfl ?_
          exact ihL1 _ (Option.some.inj h1).symm
        · replace h1 := ob_neg c19 h1
          refine x_aload_n C 2 dX10_fewest_44 rfl ?_
          refine x_iload_n C 4 dX10_fewest_45 rfl ?_
          refine x_iload C 0 dX10_fewest_46 rfl ?_
          obtain ⟨r20, s22, g21, h1⟩ := ob_bd h1
          refine x_callV (ar := 2) (q := (RX10, TX10, 18)) (rest := []) C (c_X10_layTrail C.2.2.2.2.2.2.1  g21) (iX 0 (by decide)) rfl rfl hy_X10_layTrail ⟨tw609, tw611, tw19, tw63, tw612⟩ (by decide) (by decide) rfl rfl (Nat.le_of_ble_eq_true rfl) dX10_fewest_48 ?_
          show Wx LX K s22 51 [(4, .int x11), (3, .int r7), (0, .ref (kad K 0)), (1, .int a1), (2, .int a2)] []
          refine x_iload C 0 dX10_fewest_51 rfl ?_
          have e19 := ihR1 _ (Option.some.inj h1).symm
          subst e19
          replace h0 := sm1_r h0
          cases h0
          exact x_iret C R dX10_fewest_53
    · replace h0 := ob_pos c6 h0
      refine x_iconst (v := (-1)) C dX10_fewest_16 rfl ?_
      cases h0
      exact x_iret C R dX10_fewest_17
set_option maxHeartbeats 4000000 in
set_option maxRecDepth 100000 in
theorem c_X10_gatherMost {l : Launch} {D : va_G} {ad : Nat → Nat} {cy : Nat → ClassId} (hJ : mJ LX ad) {σ τ : mS} {a1 : Int32} {a2 : Int32} {a3 : Int32} {r : Unit}  (h0 : X10_gatherMost σ a1 a2 a3 = some (r, τ)) : MetG l LX D ad cy yX10_gatherMost cX10_gatherMost 6 none 3 [.ref (ad 0), .int a1, .int a2, .int a3] σ (none) τ := by
  refine MetG.of hJ (by decide +kernel) [(0, .ref (ad 0)), (1, .int a1), (2, .int a2), (3, .int a3)] rfl (Nat.le_of_ble_eq_true rfl) ?_
  intro K e1 e2 e3 e4 e5 C R
  subst e1
  subst e2
  subst e3
  subst e4
  unfold X10_gatherMost at h0
  refine x_aload_n C 0 dX10_gatherMost_0 rfl ?_
  refine x_getR (j := 9) (i := 60) (q := (RX10, TX10, 18)) C 184 (iX 0 (by decide)) rfl rfl inBX10 (by decide) tw244 rfl dX10_gatherMost_1 ?_
  refine x_iload_n C 2 dX10_gatherMost_4 rfl ?_
  obtain ⟨c1, h0⟩ := ob_if h0
  refine x_aald C (iX 184 (by decide)) rfl rfl rfl (vin_in c1) dX10_gatherMost_5 ?_
  refine x_astore (lv' := [(4, .ref (kad K (144 + a2.toNatClampNeg))), (0, .ref (kad K 0)), (1, .int a1), (2, .int a2), (3, .int a3)]) C dX10_gatherMost_6 (by rw [e5]; decide) rfl ?_
  refine x_iload_n C 3 dX10_gatherMost_8 rfl ?_
  refine x_iload_n C 4 dX10_gatherMost_9 rfl ?_
  refine x_icmpge C 18 dX10_gatherMost_10 (by decide) (fun c3 => ?_) (fun c3 => ?_)
  · replace h0 := ob_pos c3 h0
    refine x_aload C 0 dX10_gatherMost_18 rfl ?_
    refine x_getIN (j := 2) (i := 223) (q := (RX2, TX2, 6)) (host := "CalledNumbers") C (iX18 (Nat.lt_of_lt_of_le (vin_lt c1) (by decide))) (lX18 (Nat.lt_of_lt_of_le (vin_lt c1) (by decide))) rfl inBX2 (by decide) twN195 rfl dX10_gatherMost_20 ?_
    refine x_callS (ar := 1) (rest := []) C (c_J6_bitCount_0f7a4 C.2.2.2.2.2.2.1  rfl) hy_J6_bitCount_0f7a4 ⟨tw591, tw417, tw77, tw418⟩ (by decide) (by decide) rfl rfl (Nat.le_of_ble_eq_true rfl) dX10_gatherMost_23 ?_
    show Wx LX K σ 26 [(4, .ref (kad K (144 + a2.toNatClampNeg))), (0, .ref (kad K 0)), (1, .int a1), (2, .int a2), (3, .int a3)] [.int (J6_bitCount_0f7a4 (σ.1 (144 + a2.toNatClampNeg) 2))]
    refine x_istore (lv' := [(5, .int (J6_bitCount_0f7a4 (σ.1 (144 + a2.toNatClampNeg) 2))), (4, .ref (kad K (144 + a2.toNatClampNeg))), (0, .ref (kad K 0)), (1, .int a1), (2, .int a2), (3, .int a3)]) C dX10_gatherMost_26 (by rw [e5]; decide) rfl ?_
    refine x_iload C 0 dX10_gatherMost_28 rfl ?_
    refine x_aload_n C 2 dX10_gatherMost_30 rfl ?_
    refine x_getI (j := 11) (i := 243) (q := (RX10, TX10, 18)) C (iX 0 (by decide)) rfl rfl inBX10 (by decide) tw246 rfl dX10_gatherMost_31 ?_
    refine x_icmple C 49 dX10_gatherMost_34 (by decide) (fun c6 => ?_) (fun c6 => ?_)
    · replace h0 := ob_pos c6 h0
      cases h0
      exact x_vret C R dX10_gatherMost_49
    · replace h0 := ob_neg c6 h0
      refine x_aload_n C 2 dX10_gatherMost_37 rfl ?_
      refine x_iload C 0 dX10_gatherMost_38 rfl ?_
      refine x_putI (j := 11) (i := 243) (q := (RX10, TX10, 18)) C tyX10 tyX10_ok nmX10 (iX 0 (by decide)) rfl rfl inBX10 (by decide) tw246 rfl (by decide +kernel) rfl dX10_gatherMost_40 ?_
      refine x_aload_n C 2 dX10_gatherMost_43 rfl ?_
      refine x_iload_n C 3 dX10_gatherMost_44 rfl ?_
      refine x_iload_n C 4 dX10_gatherMost_45 rfl ?_
      obtain ⟨r7, s9, g8, h0⟩ := ob_bd h0
      refine x_callV (ar := 2) (q := (RX10, TX10, 18)) (rest := []) C (c_X10_layTrail C.2.2.2.2.2.2.1  g8) (iX 0 (by decide)) rfl rfl hy_X10_layTrail ⟨tw609, tw611, tw19, tw63, tw612⟩ (by decide) (by decide) rfl rfl (Nat.le_of_ble_eq_true rfl) dX10_gatherMost_46 ?_
      show Wx LX K s9 49 [(5, .int (J6_bitCount_0f7a4 (σ.1 (144 + a2.toNatClampNeg) 2))), (4, .ref (kad K (144 + a2.toNatClampNeg))), (0, .ref (kad K 0)), (1, .int a1), (2, .int a2), (3, .int a3)] []
      cases h0
      exact x_vret C R dX10_gatherMost_49
  · replace h0 := ob_neg c3 h0
    refine x_iload_n C 3 dX10_gatherMost_13 rfl ?_
    refine x_iconst (v := 4) C dX10_gatherMost_14 rfl ?_
    refine x_icmplt C 50 dX10_gatherMost_15 (by decide) (fun c11 => ?_) (fun c11 => ?_)
    · replace h0 := ob_pos c11 h0
      refine x_iconst (v := 1) C dX10_gatherMost_50 rfl ?_
      refine x_istore (lv' := [(5, .int 1), (4, .ref (kad K (144 + a2.toNatClampNeg))), (0, .ref (kad K 0)), (1, .int a1), (2, .int a2), (3, .int a3)]) C dX10_gatherMost_51 (by rw [e5]; decide) rfl ?_
      obtain ⟨e25, g26, h0⟩ := ob_bind h0
      have J1 : ∀ (s14 : mS), s14 = e25 → Wx LX K s14 109 [] [] := by
        intro s14 e9
        subst e9
        replace h0 := un1_l h0
        cases h0
        exact x_vret C R dX10_gatherMost_109
      refine lp_G (G := fun q : mS × Int32 => Wx LX K q.1 53 [(5, .int q.2), (4, .ref (kad K (144 + a2.toNatClampNeg))), (0, .ref (kad K 0)), (1, .int a1), (2, .int a2), (3, .int a3)] []) (fun q x h1 ihL1 ihR1 => ?_) big _ g26
      obtain ⟨s12, x13⟩ := q
      replace h1 : X10_gatherMost_b53 a2 s12 x13 = some x := h1
      unfold X10_gatherMost_b53 at h1
      show Wx LX K s12 53 [(5, .int x13), (4, .ref (kad K (144 + a2.toNatClampNeg))), (0, .ref (kad K 0)), (1, .int a1), (2, .int a2), (3, .int a3)] []
      refine x_iload C 0 dX10_gatherMost_53 rfl ?_
      refine x_bipush (v := 12) C dX10_gatherMost_55 rfl ?_
      refine x_icmpgt C 109 dX10_gatherMost_57 (by decide) (fun c16 => ?_) (fun c16 => ?_)
      · replace h1 := ob_pos c16 h1
        refine x_lv (lv' := []) [] rfl ?_
        exact J1 _ (ihR1 _ (Option.some.inj h1).symm)
      · replace h1 := ob_neg c16 h1
        refine x_aload_n C 2 dX10_gatherMost_60 rfl ?_
        refine x_getI (j := 11) (i := 243) (q := (RX10, TX10, 18)) C (iX 0 (by decide)) rfl rfl inBX10 (by decide) tw246 rfl dX10_gatherMost_61 ?_
        refine x_aload_n C 2 dX10_gatherMost_64 rfl ?_
        refine x_getR (j := 5) (i := 36) (q := (RX10, TX10, 18)) C 88 (iX 0 (by decide)) rfl rfl inBX10 (by decide) tw240 rfl dX10_gatherMost_65 ?_
        refine x_getIN (j := 4) (i := 135) (q := (RX7, TX7, 5)) (host := "CalledNumbers") C (iX 88 (by decide)) rfl rfl inBX7 (by decide) twN173 rfl dX10_gatherMost_68 ?_
        refine x_icmpge C 109 dX10_gatherMost_71 (by decide) (fun c18 => ?_) (fun c18 => ?_)
        · replace h1 := ob_pos c18 h1
          refine x_lv (lv' := []) [] rfl ?_
          exact J1 _ (ihR1 _ (Option.some.inj h1).symm)
        · replace h1 := ob_neg c18 h1
          refine x_aload C 1 dX10_gatherMost_74 rfl ?_
          refine x_iload C 0 dX10_gatherMost_76 rfl ?_
          refine x_callV (ar := 1) (q := (RX2, TX2, 6)) (rest := []) C (c_X2_holds C.2.2.2.2.2.2.1 (Nat.lt_of_lt_of_le (vin_lt c1) (by decide)) rfl) (iX18 (Nat.lt_of_lt_of_le (vin_lt c1) (by decide))) (lX18 (Nat.lt_of_lt_of_le (vin_lt c1) (by decide))) rfl hy_X2_holds ⟨tw495, tw496, tw497, tw72, tw498⟩ (by decide) (by decide) rfl rfl (Nat.le_of_ble_eq_true rfl) dX10_gatherMost_78 ?_
          show Wx LX K s12 81 [(5, .int x13), (4, .ref (kad K (144 + a2.toNatClampNeg))), (0, .ref (kad K 0)), (1, .int a1), (2, .int a2), (3, .int a3)] [.int (X2_holds s12 a2.toNatClampNeg x13)]
          refine x_ifeq C 103 dX10_gatherMost_81 (by decide) (fun c21 => ?_) (fun c21 => ?_)
          · replace h1 := ob_pos c21 h1
            refine x_iinc (v := (x13 + 1)) (lv' := [(5, .int (x13 + 1)), (4, .ref (kad K (144 + a2.toNatClampNeg))), (0, .ref (kad K 0)), (1, .int a1), (2, .int a2), (3, .int a3)]) C 0 dX10_gatherMost_103 rfl rfl (by rw [e5]; decide) rfl ?_
            refine x_goto C 53 dX10_gatherMost_106 (by decide) ?_
            refine x_lv (lv' := [(5, .int (x13 + 1)), (4, .ref (kad K (144 + a2.toNatClampNeg))), (0, .ref (kad K 0)), (1, .int a1), (2, .int a2), (3, .int a3)]) [0, 1, 2, 3, 4, 5] rfl ?_
            exact ihL1 _ (Option.some.inj h1).symm
          · replace h1 := ob_neg c21 h1
            refine x_aload_n C 2 dX10_gatherMost_84 rfl ?_
            refine x_iload_n C 4 dX10_gatherMost_85 rfl ?_
            refine x_iload C 0 dX10_gatherMost_86 rfl ?_
            refine x_bipush (v := 15) C dX10_gatherMost_88 rfl ?_
            obtain ⟨r22, s24, g23, h1⟩ := ob_bd h1
            refine x_callV (ar := 3) (q := (RX10, TX10, 18)) (rest := []) C (c_X10_stepAhead C.2.2.2.2.2.2.1  g23) (iX 0 (by decide)) rfl rfl hy_X10_stepAhead ⟨tw587, tw589, tw16, tw63, tw590⟩ (by decide) (by decide) rfl rfl (Nat.le_of_ble_eq_true rfl) dX10_gatherMost_90 ?_
            show Wx LX K s24 93 [(5, .int x13), (4, .ref (kad K (144 + a2.toNatClampNeg))), (0, .ref (kad K 0)), (1, .int a1), (2, .int a2), (3, .int a3)] [.int r22]
            refine x_pop C dX10_gatherMost_93 rfl ?_
            refine x_aload_n C 2 dX10_gatherMost_94 rfl ?_
            refine x_iload_n C 3 dX10_gatherMost_95 rfl ?_
            refine x_iload_n C 4 dX10_gatherMost_96 rfl ?_
            refine x_iconst (v := 1) C dX10_gatherMost_97 rfl ?_
            refine x_iadd C dX10_gatherMost_98 ?_
            refine x_iload_n C 5 dX10_gatherMost_99 rfl ?_
            cases h1
    · replace h0 := ob_neg c11 h0
      refine x_aload C 0 dX10_gatherMost_18 rfl ?_
      refine x_getIN (j := 2) (i := 223) (q := (RX2, TX2, 6)) (host := "CalledNumbers") C (iX18 (Nat.lt_of_lt_of_le (vin_lt c1) (by decide))) (lX18 (Nat.lt_of_lt_of_le (vin_lt c1) (by decide))) rfl inBX2 (by decide) twN195 rfl dX10_gatherMost_20 ?_
      refine x_callS (ar := 1) (rest := []) C (c_J6_bitCount_0f7a4 C.2.2.2.2.2.2.1  rfl) hy_J6_bitCount_0f7a4 ⟨tw591, tw417, tw77, tw418⟩ (by decide) (by decide) rfl rfl (Nat.le_of_ble_eq_true rfl) dX10_gatherMost_23 ?_
      show Wx LX K σ 26 [(4, .ref (kad K (144 + a2.toNatClampNeg))), (0, .ref (kad K 0)), (1, .int a1), (2, .int a2), (3, .int a3)] [.int (J6_bitCount_0f7a4 (σ.1 (144 + a2.toNatClampNeg) 2))]
      refine x_istore (lv' := [(5, .int (J6_bitCount_0f7a4 (σ.1 (144 + a2.toNatClampNeg) 2))), (4, .ref (kad K (144 + a2.toNatClampNeg))), (0, .ref (kad K 0)), (1, .int a1), (2, .int a2), (3, .int a3)]) C dX10_gatherMost_26 (by rw [e5]; decide) rfl ?_
      refine x_iload C 0 dX10_gatherMost_28 rfl ?_
      refine x_aload_n C 2 dX10_gatherMost_30 rfl ?_
      refine x_getI (j := 11) (i := 243) (q := (RX10, TX10, 18)) C (iX 0 (by decide)) rfl rfl inBX10 (by decide) tw246 rfl dX10_gatherMost_31 ?_
      refine x_icmple C 49 dX10_gatherMost_34 (by decide) (fun c29 => ?_) (fun c29 => ?_)
      · replace h0 := ob_pos c29 h0
        cases h0
        exact x_vret C R dX10_gatherMost_49
      · replace h0 := ob_neg c29 h0
        refine x_aload_n C 2 dX10_gatherMost_37 rfl ?_
        refine x_iload C 0 dX10_gatherMost_38 rfl ?_
        refine x_putI (j := 11) (i := 243) (q := (RX10, TX10, 18)) C tyX10 tyX10_ok nmX10 (iX 0 (by decide)) rfl rfl inBX10 (by decide) tw246 rfl (by decide +kernel) rfl dX10_gatherMost_40 ?_
        refine x_aload_n C 2 dX10_gatherMost_43 rfl ?_
        refine x_iload_n C 3 dX10_gatherMost_44 rfl ?_
        refine x_iload_n C 4 dX10_gatherMost_45 rfl ?_
        obtain ⟨r30, s32, g31, h0⟩ := ob_bd h0
        refine x_callV (ar := 2) (q := (RX10, TX10, 18)) (rest := []) C (c_X10_layTrail C.2.2.2.2.2.2.1  g31) (iX 0 (by decide)) rfl rfl hy_X10_layTrail ⟨tw609, tw611, tw19, tw63, tw612⟩ (by decide) (by decide) rfl rfl (Nat.le_of_ble_eq_true rfl) dX10_gatherMost_46 ?_
        show Wx LX K s32 49 [(5, .int (J6_bitCount_0f7a4 (σ.1 (144 + a2.toNatClampNeg) 2))), (4, .ref (kad K (144 + a2.toNatClampNeg))), (0, .ref (kad K 0)), (1, .int a1), (2, .int a2), (3, .int a3)] []
        cases h0
        exact x_vret C R dX10_gatherMost_49
set_option maxHeartbeats 4000000 in
set_option maxRecDepth 100000 in
theorem c_X10_most {l : Launch} {D : va_G} {ad : Nat → Nat} {cy : Nat → ClassId} (hJ : mJ LX ad) {σ τ : mS} {a1 : Int32} {a2 : Int32} {r : Int32}  (h0 : X10_most σ a1 a2 = some (r, τ)) : MetG l LX D ad cy yX10_most cX10_most 3 (some .int) 4 [.ref (ad 0), .int a1, .int a2] σ (some (.int r)) τ := by
  refine MetG.of hJ (by decide +kernel) [(0, .ref (ad 0)), (1, .int a1), (2, .int a2)] rfl (Nat.le_of_ble_eq_true rfl) ?_
  intro K e1 e2 e3 e4 e5 C R
  subst e1
  subst e2
  subst e3
  subst e4
  unfold X10_most at h0
  refine x_iload_n C 1 dX10_most_0 rfl ?_
  refine x_iflt C 17 dX10_most_1 (by decide) (fun c2 => ?_) (fun c2 => ?_)
  · replace h0 := ob_pos c2 h0
    refine x_iconst (v := (-1)) C dX10_most_17 rfl ?_
    cases h0
    exact x_iret C R dX10_most_18
  · replace h0 := ob_neg c2 h0
    refine x_iload_n C 1 dX10_most_4 rfl ?_
    refine x_iconst (v := 4) C dX10_most_5 rfl ?_
    refine x_icmpgt C 17 dX10_most_6 (by decide) (fun c4 => ?_) (fun c4 => ?_)
    · replace h0 := ob_pos c4 h0
      refine x_iconst (v := (-1)) C dX10_most_17 rfl ?_
      cases h0
      exact x_iret C R dX10_most_18
    · replace h0 := ob_neg c4 h0
      refine x_aload_n C 0 dX10_most_9 rfl ?_
      refine x_iload_n C 2 dX10_most_10 rfl ?_
      refine x_callV (ar := 1) (q := (RX10, TX10, 18)) (rest := []) C (c_X10_isRow C.2.2.2.2.2.2.1  rfl) (iX 0 (by decide)) rfl rfl hy_X10_isRow ⟨tw294, tw296, tw0, tw63, tw297⟩ (by decide) (by decide) rfl rfl (Nat.le_of_ble_eq_true rfl) dX10_most_11 ?_
      show Wx LX K σ 14 [(0, .ref (kad K 0)), (1, .int a1), (2, .int a2)] [.int (X10_isRow a2)]
      refine x_ifne C 19 dX10_most_14 (by decide) (fun c7 => ?_) (fun c7 => ?_)
      · replace h0 := ob_neg c7 h0
        refine x_aload_n C 0 dX10_most_19 rfl ?_
        refine x_getR (j := 5) (i := 36) (q := (RX10, TX10, 18)) C 88 (iX 0 (by decide)) rfl rfl inBX10 (by decide) tw240 rfl dX10_most_20 ?_
        refine x_getIN (j := 4) (i := 135) (q := (RX7, TX7, 5)) (host := "CalledNumbers") C (iX 88 (by decide)) rfl rfl inBX7 (by decide) twN173 rfl dX10_most_23 ?_
        refine x_ifne C 32 dX10_most_26 (by decide) (fun c9 => ?_) (fun c9 => ?_)
        · replace h0 := ob_neg c9 h0
          refine x_aload_n C 0 dX10_most_32 rfl ?_
          refine x_iconst (v := (-1)) C dX10_most_33 rfl ?_
          refine x_putI (j := 11) (i := 243) (q := (RX10, TX10, 18)) C tyX10 tyX10_ok nmX10 (iX 0 (by decide)) rfl rfl inBX10 (by decide) tw246 rfl (by decide +kernel) rfl dX10_most_34 ?_
          refine x_aload_n C 0 dX10_most_37 rfl ?_
          refine x_iload_n C 2 dX10_most_38 rfl ?_
          refine x_iconst (v := 0) C dX10_most_39 rfl ?_
          refine x_aload_n C 0 dX10_most_40 rfl ?_
          refine x_iload_n C 1 dX10_most_41 rfl ?_
          obtain ⟨r10, s12, g11, h0⟩ := ob_bd h0
          refine x_callV (ar := 1) (q := (RX10, TX10, 18)) (rest := [.int 0, .int a2, .ref (kad K 0)]) C (c_X10_callsAhead C.2.2.2.2.2.2.1  g11) (iX 0 (by decide)) rfl rfl hy_X10_callsAhead ⟨tw596, tw598, tw17, tw63, tw599⟩ (by decide) (by decide) rfl rfl (Nat.le_of_ble_eq_true rfl) dX10_most_42 ?_
          show Wx LX K s12 45 [(0, .ref (kad K 0)), (1, .int a1), (2, .int a2)] [.int r10, .int 0, .int a2, .ref (kad K 0)]
          obtain ⟨r13, s15, g14, h0⟩ := ob_bd h0
          refine x_callV (ar := 3) (q := (RX10, TX10, 18)) (rest := []) C (c_X10_gatherMost C.2.2.2.2.2.2.1  g14) (iX 0 (by decide)) rfl rfl hy_X10_gatherMost ⟨tw617, tw619, tw20, tw63, tw620⟩ (by decide) (by decide) rfl rfl (Nat.le_of_ble_eq_true rfl) dX10_most_45 ?_
          show Wx LX K s15 48 [(0, .ref (kad K 0)), (1, .int a1), (2, .int a2)] []
          refine x_aload_n C 0 dX10_most_48 rfl ?_
          refine x_getI (j := 11) (i := 243) (q := (RX10, TX10, 18)) C (iX 0 (by decide)) rfl rfl inBX10 (by decide) tw246 rfl dX10_most_49 ?_
          cases h0
          exact x_iret C R dX10_most_52
        · replace h0 := ob_pos c9 h0
          refine x_bipush (v := (-4)) C dX10_most_29 rfl ?_
          cases h0
          exact x_iret C R dX10_most_31
      · replace h0 := ob_pos c7 h0
        refine x_iconst (v := (-1)) C dX10_most_17 rfl ?_
        cases h0
        exact x_iret C R dX10_most_18
set_option maxHeartbeats 4000000 in
set_option maxRecDepth 100000 in
theorem c_X10_marksBy {l : Launch} {D : va_G} {ad : Nat → Nat} {cy : Nat → ClassId} (hJ : mJ LX ad) {σ : mS} {a1 : Int32} {a2 : Int32} {a3 : Int32} {r : Int32}  (h0 : X10_marksBy σ a1 a2 a3 = some r) : MetG l LX D ad cy yX10_marksBy cX10_marksBy 5 (some .int) 1 [.ref (ad 0), .int a1, .int a2, .int a3] σ (some (.int r)) σ := by
  refine MetG.of hJ (by decide +kernel) [(0, .ref (ad 0)), (1, .int a1), (2, .int a2), (3, .int a3)] rfl (Nat.le_of_ble_eq_true rfl) ?_
  intro K e1 e2 e3 e4 e5 C R
  subst e1
  subst e2
  subst e3
  subst e4
  unfold X10_marksBy at h0
  refine x_aload_n C 0 dX10_marksBy_0 rfl ?_
  refine x_getR (j := 5) (i := 36) (q := (RX10, TX10, 18)) C 88 (iX 0 (by decide)) rfl rfl inBX10 (by decide) tw240 rfl dX10_marksBy_1 ?_
  refine x_getRN (j := 0) (i := 338) (q := (RX7, TX7, 5)) (host := "CalledNumbers") C 96 (iX 88 (by decide)) rfl rfl inBX7 (by decide) twN164 rfl dX10_marksBy_4 ?_
  refine x_iload_n C 1 dX10_marksBy_7 rfl ?_
  obtain ⟨c1, h0⟩ := ob_if h0
  refine x_aald C (iX 96 (by decide)) rfl rfl rfl (vin_in c1) dX10_marksBy_8 ?_
  refine x_iload_n C 3 dX10_marksBy_9 rfl ?_
  refine x_aload_n C 0 dX10_marksBy_10 rfl ?_
  refine x_getR (j := 6) (i := 45) (q := (RX10, TX10, 18)) C (144 + 5) (iX 0 (by decide)) rfl rfl inBX10 (by decide) tw241 rfl dX10_marksBy_11 ?_
  refine x_getIN (j := 4) (i := 177) (q := (RX2, TX2, 6)) (host := "CalledNumbers") C (iX18 (by decide)) (lX18 (by decide)) rfl inBX2 (by decide) twN199 rfl dX10_marksBy_14 ?_
  refine x_aload_n C 0 dX10_marksBy_17 rfl ?_
  refine x_getR (j := 6) (i := 45) (q := (RX10, TX10, 18)) C (144 + 5) (iX 0 (by decide)) rfl rfl inBX10 (by decide) tw241 rfl dX10_marksBy_18 ?_
  refine x_getIN (j := 5) (i := 164) (q := (RX2, TX2, 6)) (host := "CalledNumbers") C (iX18 (by decide)) (lX18 (by decide)) rfl inBX2 (by decide) twN201 rfl dX10_marksBy_21 ?_
  cases h0
set_option maxHeartbeats 4000000 in
set_option maxRecDepth 100000 in
theorem c_X10_which {l : Launch} {D : va_G} {ad : Nat → Nat} {cy : Nat → ClassId} (hJ : mJ LX ad) {σ : mS} {a1 : Int32} {a2 : Int32} {r : Int32}  (h0 : X10_which σ a1 a2 = some r) : MetG l LX D ad cy yX10_which cX10_which 5 (some .int) 2 [.ref (ad 0), .int a1, .int a2] σ (some (.int r)) σ := by
  refine MetG.of hJ (by decide +kernel) [(0, .ref (ad 0)), (1, .int a1), (2, .int a2)] rfl (Nat.le_of_ble_eq_true rfl) ?_
  intro K e1 e2 e3 e4 e5 C R
  subst e1
  subst e2
  subst e3
  subst e4
  unfold X10_which at h0
  refine x_aload_n C 0 dX10_which_0 rfl ?_
  refine x_iload_n C 1 dX10_which_1 rfl ?_
  refine x_callV (ar := 1) (q := (RX10, TX10, 18)) (rest := []) C (c_X10_isPlayer C.2.2.2.2.2.2.1  rfl) (iX 0 (by decide)) rfl rfl hy_X10_isPlayer ⟨tw390, tw392, tw8, tw63, tw393⟩ (by decide) (by decide) rfl rfl (Nat.le_of_ble_eq_true rfl) dX10_which_2 ?_
  show Wx LX K σ 5 [(0, .ref (kad K 0)), (1, .int a1), (2, .int a2)] [.int (X10_isPlayer σ a1)]
  refine x_ifeq C 18 dX10_which_5 (by decide) (fun c3 => ?_) (fun c3 => ?_)
  · replace h0 := ob_pos c3 h0
    refine x_iconst (v := (-1)) C dX10_which_18 rfl ?_
    cases h0
    exact x_iret C R dX10_which_19
  · replace h0 := ob_neg c3 h0
    refine x_iload_n C 2 dX10_which_8 rfl ?_
    refine x_iflt C 18 dX10_which_9 (by decide) (fun c5 => ?_) (fun c5 => ?_)
    · replace h0 := ob_pos c5 h0
      refine x_iconst (v := (-1)) C dX10_which_18 rfl ?_
      cases h0
      exact x_iret C R dX10_which_19
    · replace h0 := ob_neg c5 h0
      refine x_iload_n C 2 dX10_which_12 rfl ?_
      refine x_bipush (v := 63) C dX10_which_13 rfl ?_
      refine x_icmple C 20 dX10_which_15 (by decide) (fun c7 => ?_) (fun c7 => ?_)
      · replace h0 := ob_pos c7 h0
        refine x_iconst (v := 0) C dX10_which_20 rfl ?_
        refine x_istore_n (lv' := [(3, .int 0), (0, .ref (kad K 0)), (1, .int a1), (2, .int a2)]) C dX10_which_21 (by rw [e5]; decide) rfl ?_
        refine x_iconst (v := 1) C dX10_which_22 rfl ?_
        refine x_istore (lv' := [(4, .int 1), (3, .int 0), (0, .ref (kad K 0)), (1, .int a1), (2, .int a2)]) C dX10_which_23 (by rw [e5]; decide) rfl ?_
        obtain ⟨e21, g22, h0⟩ := ob_bind h0
        have J1 : ∀ (y10 : Int32), y10 = e21 → Wx LX K σ 77 [(3, .int y10)] [] := by
          intro y10 e9
          subst e9
          replace h0 := un1_l h0
          refine x_iload_n C 0 dX10_which_77 rfl ?_
          cases h0
          exact x_iret C R dX10_which_78
        refine lp_G (G := fun q : Int32 × Int32 => Wx LX K σ 25 [(4, .int q.2), (3, .int q.1), (0, .ref (kad K 0)), (1, .int a1), (2, .int a2)] []) (fun q x h1 ihL1 ihR1 => ?_) big _ g22
        obtain ⟨x8, x9⟩ := q
        replace h1 : X10_which_b25 σ a1 a2 x8 x9 = some x := h1
        unfold X10_which_b25 at h1
        show Wx LX K σ 25 [(4, .int x9), (3, .int x8), (0, .ref (kad K 0)), (1, .int a1), (2, .int a2)] []
        refine x_iload C 0 dX10_which_25 rfl ?_
        refine x_bipush (v := 12) C dX10_which_27 rfl ?_
        refine x_icmpgt C 77 dX10_which_29 (by decide) (fun c12 => ?_) (fun c12 => ?_)
        · replace h1 := ob_pos c12 h1
          refine x_lv (lv' := [(3, .int x8)]) [1] rfl ?_
          exact J1 _ (ihR1 _ (Option.some.inj h1).symm)
        · replace h1 := ob_neg c12 h1
          refine x_aload_n C 2 dX10_which_32 rfl ?_
          refine x_getR (j := 6) (i := 45) (q := (RX10, TX10, 18)) C (144 + 5) (iX 0 (by decide)) rfl rfl inBX10 (by decide) tw241 rfl dX10_which_33 ?_
          refine x_iload C 0 dX10_which_36 rfl ?_
          refine x_callV (ar := 1) (q := (RX2, TX2, 6)) (rest := []) C (c_X2_holds C.2.2.2.2.2.2.1 (by decide) rfl) (iX18 (by decide)) (lX18 (by decide)) rfl hy_X2_holds ⟨tw495, tw496, tw497, tw72, tw498⟩ (by decide) (by decide) rfl rfl (Nat.le_of_ble_eq_true rfl) dX10_which_38 ?_
          show Wx LX K σ 41 [(4, .int x9), (3, .int x8), (0, .ref (kad K 0)), (1, .int a1), (2, .int a2)] [.int (X2_holds σ 5 x9)]
          refine x_ifeq C 71 dX10_which_41 (by decide) (fun c15 => ?_) (fun c15 => ?_)
          · replace h1 := ob_pos c15 h1
            refine x_iinc (v := (x9 + 1)) (lv' := [(4, .int (x9 + 1)), (3, .int x8), (0, .ref (kad K 0)), (1, .int a1), (2, .int a2)]) C 0 dX10_which_71 rfl rfl (by rw [e5]; decide) rfl ?_
            refine x_goto C 25 dX10_which_74 (by decide) ?_
            refine x_lv (lv' := [(4, .int (x9 + 1)), (3, .int x8), (0, .ref (kad K 0)), (1, .int a1), (2, .int a2)]) [0, 1, 2, 3, 4] rfl ?_
            exact ihL1 _ (Option.some.inj h1).symm
          · replace h1 := ob_neg c15 h1
            refine x_aload_n C 2 dX10_which_44 rfl ?_
            refine x_aload_n C 2 dX10_which_45 rfl ?_
            refine x_getR (j := 5) (i := 36) (q := (RX10, TX10, 18)) C 88 (iX 0 (by decide)) rfl rfl inBX10 (by decide) tw240 rfl dX10_which_46 ?_
            refine x_getRN (j := 1) (i := 250) (q := (RX7, TX7, 5)) (host := "CalledNumbers") C 112 (iX 88 (by decide)) rfl rfl inBX7 (by decide) twN166 rfl dX10_which_49 ?_
            refine x_iload_n C 3 dX10_which_52 rfl ?_
            obtain ⟨c16, h1⟩ := ob_if h1
            refine x_iald C (iX 112 (by decide)) rfl (vin_in c16) dX10_which_53 ?_
            refine x_iload_n C 3 dX10_which_54 rfl ?_
            refine x_iload C 0 dX10_which_55 rfl ?_
            obtain ⟨r17, g18, h1⟩ := ob_bind h1
            refine x_callV (ar := 3) (q := (RX10, TX10, 18)) (rest := []) C (c_X10_marksBy C.2.2.2.2.2.2.1  g18) (iX 0 (by decide)) rfl rfl hy_X10_marksBy ⟨tw625, tw627, tw21, tw63, tw628⟩ (by decide) (by decide) rfl rfl (Nat.le_of_ble_eq_true rfl) dX10_which_57 ?_
            show Wx LX K σ 60 [(4, .int x9), (3, .int x8), (0, .ref (kad K 0)), (1, .int a1), (2, .int a2)] [.int r17]
            refine x_iload_n C 4 dX10_which_60 rfl ?_
            refine x_icmpne C 71 dX10_which_61 (by decide) (fun c20 => ?_) (fun c20 => ?_)
            · replace h1 := ob_neg c20 h1
              refine x_iinc (v := (x9 + 1)) (lv' := [(4, .int (x9 + 1)), (3, .int x8), (0, .ref (kad K 0)), (1, .int a1), (2, .int a2)]) C 0 dX10_which_71 rfl rfl (by rw [e5]; decide) rfl ?_
              refine x_goto C 25 dX10_which_74 (by decide) ?_
              refine x_lv (lv' := [(4, .int (x9 + 1)), (3, .int x8), (0, .ref (kad K 0)), (1, .int a1), (2, .int a2)]) [0, 1, 2, 3, 4] rfl ?_
              exact ihL1 _ (Option.some.inj h1).symm
            · replace h1 := ob_pos c20 h1
              refine x_iload_n C 1 dX10_which_64 rfl ?_
              refine x_iconst (v := 1) C dX10_which_65 rfl ?_
              refine x_iload C 0 dX10_which_66 rfl ?_
              refine x_ishl C dX10_which_68 ?_
              refine x_ior C dX10_which_69 ?_
              refine x_istore_n (lv' := [(3, .int (x8 ||| ((1 : Int32) <<< (x9 &&& 31)))), (4, .int x9), (0, .ref (kad K 0)), (1, .int a1), (2, .int a2)]) C dX10_which_70 (by rw [e5]; decide) rfl ?_
              refine x_iinc (v := (x9 + 1)) (lv' := [(4, .int (x9 + 1)), (3, .int (x8 ||| ((1 : Int32) <<< (x9 &&& 31)))), (0, .ref (kad K 0)), (1, .int a1), (2, .int a2)]) C 1 dX10_which_71 rfl rfl (by rw [e5]; decide) rfl ?_
              refine x_goto C 25 dX10_which_74 (by decide) ?_
              refine x_lv (lv' := [(4, .int (x9 + 1)), (3, .int (x8 ||| ((1 : Int32) <<< (x9 &&& 31)))), (0, .ref (kad K 0)), (1, .int a1), (2, .int a2)]) [0, 1, 2, 3, 4] rfl ?_
              exact ihL1 _ (Option.some.inj h1).symm
      · replace h0 := ob_neg c7 h0
        refine x_iconst (v := (-1)) C dX10_which_18 rfl ?_
        cases h0
        exact x_iret C R dX10_which_19
set_option maxHeartbeats 4000000 in
set_option maxRecDepth 100000 in
theorem c_X10_refusedPairs {l : Launch} {D : va_G} {ad : Nat → Nat} {cy : Nat → ClassId} (hJ : mJ LX ad) {σ τ : mS} {a1 : Int32} {a2 : Int32} {r : Int32}  (h0 : X10_refusedPairs σ a1 a2 = some (r, τ)) : MetG l LX D ad cy yX10_refusedPairs cX10_refusedPairs 7 (some .int) 2 [.ref (ad 0), .int a1, .int a2] σ (some (.int r)) τ := by
  refine MetG.of hJ (by decide +kernel) [(0, .ref (ad 0)), (1, .int a1), (2, .int a2)] rfl (Nat.le_of_ble_eq_true rfl) ?_
  intro K e1 e2 e3 e4 e5 C R
  subst e1
  subst e2
  subst e3
  subst e4
  unfold X10_refusedPairs at h0
  refine x_aload_n C 0 dX10_refusedPairs_0 rfl ?_
  refine x_iload_n C 1 dX10_refusedPairs_1 rfl ?_
  refine x_callV (ar := 1) (q := (RX10, TX10, 18)) (rest := []) C (c_X10_isPlayer C.2.2.2.2.2.2.1  rfl) (iX 0 (by decide)) rfl rfl hy_X10_isPlayer ⟨tw390, tw392, tw8, tw63, tw393⟩ (by decide) (by decide) rfl rfl (Nat.le_of_ble_eq_true rfl) dX10_refusedPairs_2 ?_
  show Wx LX K σ 5 [(0, .ref (kad K 0)), (1, .int a1), (2, .int a2)] [.int (X10_isPlayer σ a1)]
  refine x_ifne C 10 dX10_refusedPairs_5 (by decide) (fun c3 => ?_) (fun c3 => ?_)
  · replace h0 := ob_neg c3 h0
    refine x_aload_n C 0 dX10_refusedPairs_10 rfl ?_
    refine x_iload_n C 2 dX10_refusedPairs_11 rfl ?_
    obtain ⟨r4, s6, g5, h0⟩ := ob_bd h0
    refine x_callV (ar := 1) (q := (RX10, TX10, 18)) (rest := []) C (c_X10_refusedRow C.2.2.2.2.2.2.1  g5) (iX 0 (by decide)) rfl rfl hy_X10_refusedRow ⟨tw310, tw312, tw3, tw63, tw313⟩ (by decide) (by decide) rfl rfl (Nat.le_of_ble_eq_true rfl) dX10_refusedPairs_12 ?_
    show Wx LX K s6 15 [(0, .ref (kad K 0)), (1, .int a1), (2, .int a2)] [.int r4]
    refine x_istore_n (lv' := [(3, .int r4), (0, .ref (kad K 0)), (1, .int a1), (2, .int a2)]) C dX10_refusedPairs_15 (by rw [e5]; decide) rfl ?_
    refine x_iload_n C 0 dX10_refusedPairs_16 rfl ?_
    refine x_ifeq C 22 dX10_refusedPairs_17 (by decide) (fun c8 => ?_) (fun c8 => ?_)
    · replace h0 := ob_pos c8 h0
      refine x_aload_n C 1 dX10_refusedPairs_22 rfl ?_
      refine x_getR (j := 1) (i := 14) (q := (RX10, TX10, 18)) C 24 (iX 0 (by decide)) rfl rfl inBX10 (by decide) tw236 rfl dX10_refusedPairs_23 ?_
      refine x_iload_n C 3 dX10_refusedPairs_26 rfl ?_
      obtain ⟨c9, h0⟩ := ob_if h0
      refine x_iald C (iX 24 (by decide)) rfl (vin_in c9) dX10_refusedPairs_27 ?_
      refine x_istore (lv' := [(4, .int (s6.1 24 a2.toNatClampNeg)), (3, .int r4), (0, .ref (kad K 0)), (1, .int a1), (2, .int a2)]) C dX10_refusedPairs_28 (by rw [e5]; decide) rfl ?_
      refine x_iload C 0 dX10_refusedPairs_30 rfl ?_
      refine x_iconst (v := 2) C dX10_refusedPairs_32 rfl ?_
      refine x_irem C dX10_refusedPairs_33 (by decide) ?_
      refine x_ifne C 44 dX10_refusedPairs_34 (by decide) (fun c11 => ?_) (fun c11 => ?_)
      · replace h0 := ob_neg c11 h0
        refine x_aload_n C 2 dX10_refusedPairs_44 rfl ?_
        refine x_iconst (v := 5) C dX10_refusedPairs_45 rfl ?_
        obtain ⟨r12, s14, g13, h0⟩ := ob_bd h0
        refine x_callV (ar := 1) (q := (RX10, TX10, 18)) (rest := []) C (c_X10_found C.2.2.2.2.2.2.1  g13) (iX 0 (by decide)) rfl rfl hy_X10_found ⟨tw298, tw300, tw1, tw63, tw301⟩ (by decide) (by decide) rfl rfl (Nat.le_of_ble_eq_true rfl) dX10_refusedPairs_46 ?_
        show Wx LX K s14 49 [(4, .int (s6.1 24 a2.toNatClampNeg)), (3, .int r4), (0, .ref (kad K 0)), (1, .int a1), (2, .int a2)] [.int r12]
        cases h0
        exact x_iret C R dX10_refusedPairs_49
      · replace h0 := ob_pos c11 h0
        refine x_iload C 0 dX10_refusedPairs_37 rfl ?_
        refine x_bipush (v := 16) C dX10_refusedPairs_39 rfl ?_
        refine x_icmple C 50 dX10_refusedPairs_41 (by decide) (fun c16 => ?_) (fun c16 => ?_)
        · replace h0 := ob_pos c16 h0
          refine x_iconst (v := 0) C dX10_refusedPairs_50 rfl ?_
          refine x_istore (lv' := [(5, .int 0), (4, .int (s6.1 24 a2.toNatClampNeg)), (3, .int r4), (0, .ref (kad K 0)), (1, .int a1), (2, .int a2)]) C dX10_refusedPairs_51 (by rw [e5]; decide) rfl ?_
          obtain ⟨e40, g41, h0⟩ := ob_bind h0
          have J1 : ∀ (u9 : Unit), .inl u9 = e40 → Wx LX K s6 115 [] [] := by
            intro u9 e9
            subst e9
            replace h0 := sm1_l h0
            refine x_iconst (v := 0) C dX10_refusedPairs_115 rfl ?_
            cases h0
            exact x_iret C R dX10_refusedPairs_116
          refine x_lv (lv' := [(5, .int 0), (4, .int (s6.1 24 a2.toNatClampNeg)), (0, .ref (kad K 0)), (2, .int a2)]) [0, 1, 3, 5] rfl ?_
          refine lp_G (G := fun q : Int32 => Wx LX K s6 53 [(5, .int q), (4, .int (s6.1 24 a2.toNatClampNeg)), (0, .ref (kad K 0)), (2, .int a2)] []) (fun q x h1 ihL1 ihR1 => ?_) big _ g41
          obtain ⟨x17, rfl⟩ : ∃ z, z = q := ⟨_, rfl⟩
          replace h1 : X10_refusedPairs_b53 a2 s6 x17 = some x := h1
          unfold X10_refusedPairs_b53 at h1
          show Wx LX K s6 53 [(5, .int x17), (4, .int (s6.1 24 a2.toNatClampNeg)), (0, .ref (kad K 0)), (2, .int a2)] []
          refine x_iload C 0 dX10_refusedPairs_53 rfl ?_
          refine x_iconst (v := 1) C dX10_refusedPairs_55 rfl ?_
          refine x_iadd C dX10_refusedPairs_56 ?_
          refine x_iload C 1 dX10_refusedPairs_57 rfl ?_
          refine x_icmpge C 115 dX10_refusedPairs_59 (by decide) (fun c19 => ?_) (fun c19 => ?_)
          · replace h1 := ob_pos c19 h1
            refine x_lv (lv' := []) [] rfl ?_
            exact J1 _ (ihR1 _ (Option.some.inj h1).symm)
          · replace h1 := ob_neg c19 h1
            refine x_aload_n C 2 dX10_refusedPairs_62 rfl ?_
            refine x_getR (j := 0) (i := 11) (q := (RX10, TX10, 18)) C 8 (iX 0 (by decide)) rfl rfl inBX10 (by decide) tw235 rfl dX10_refusedPairs_63 ?_
            refine x_iload_n C 3 dX10_refusedPairs_66 rfl ?_
            obtain ⟨c20, h1⟩ := ob_if h1
            refine x_aald C (iX 8 (by decide)) rfl rfl rfl (vin_in c20) dX10_refusedPairs_67 ?_
            refine x_iload C 0 dX10_refusedPairs_68 rfl ?_
            refine x_iconst (v := 1) C dX10_refusedPairs_70 rfl ?_
            refine x_iadd C dX10_refusedPairs_71 ?_
            obtain ⟨c21, h1⟩ := ob_if h1
            refine x_iald C (iX2 (vin_lt c20)) (lX2 (vin_lt c20)) (vin_in c21) dX10_refusedPairs_72 ?_
            refine x_istore (lv' := [(6, .int (s6.1 (16 + a2.toNatClampNeg) (x17 + 1).toNatClampNeg)), (5, .int x17), (4, .int (s6.1 24 a2.toNatClampNeg)), (0, .ref (kad K 0)), (2, .int a2)]) C dX10_refusedPairs_73 (by rw [e5]; decide) rfl ?_
            refine x_aload_n C 3 dX10_refusedPairs_75 rfl ?_
            refine x_aload_n C 3 dX10_refusedPairs_76 rfl ?_
            refine x_getR (j := 0) (i := 11) (q := (RX10, TX10, 18)) C 8 (iX 0 (by decide)) rfl rfl inBX10 (by decide) tw235 rfl dX10_refusedPairs_77 ?_
            refine x_iload_n C 4 dX10_refusedPairs_80 rfl ?_
            obtain ⟨c22, h1⟩ := ob_if h1
            refine x_aald C (iX 8 (by decide)) rfl rfl rfl (vin_in c22) dX10_refusedPairs_81 ?_
            refine x_iload C 1 dX10_refusedPairs_82 rfl ?_
            obtain ⟨c23, h1⟩ := ob_if h1
            refine x_iald C (iX2 (vin_lt c22)) (lX2 (vin_lt c22)) (vin_in c23) dX10_refusedPairs_84 ?_
            refine x_callV (ar := 1) (q := (RX10, TX10, 18)) (rest := []) C (c_X10_isNumber C.2.2.2.2.2.2.1  rfl) (iX 0 (by decide)) rfl rfl hy_X10_isNumber ⟨tw491, tw493, tw11, tw63, tw494⟩ (by decide) (by decide) rfl rfl (Nat.le_of_ble_eq_true rfl) dX10_refusedPairs_85 ?_
            show Wx LX K s6 88 [(6, .int (s6.1 (16 + a2.toNatClampNeg) (x17 + 1).toNatClampNeg)), (5, .int x17), (4, .int (s6.1 24 a2.toNatClampNeg)), (0, .ref (kad K 0)), (2, .int a2)] [.int (X10_isNumber (s6.1 (16 + a2.toNatClampNeg) x17.toNatClampNeg))]
            refine x_ifeq C 103 dX10_refusedPairs_88 (by decide) (fun c26 => ?_) (fun c26 => ?_)
            · replace h1 := ob_pos c26 h1
              refine x_aload_n C 3 dX10_refusedPairs_103 rfl ?_
              refine x_iconst (v := 3) C dX10_refusedPairs_104 rfl ?_
              obtain ⟨r27, s29, g28, h1⟩ := ob_bd h1
              refine x_callV (ar := 1) (q := (RX10, TX10, 18)) (rest := []) C (c_X10_found C.2.2.2.2.2.2.1  g28) (iX 0 (by decide)) rfl rfl hy_X10_found ⟨tw298, tw300, tw1, tw63, tw301⟩ (by decide) (by decide) rfl rfl (Nat.le_of_ble_eq_true rfl) dX10_refusedPairs_105 ?_
              show Wx LX K s29 108 [(6, .int (s6.1 (16 + a2.toNatClampNeg) (x17 + 1).toNatClampNeg)), (5, .int x17), (4, .int (s6.1 24 a2.toNatClampNeg)), (0, .ref (kad K 0)), (2, .int a2)] [.int r27]
              have e19 := ihR1 _ (Option.some.inj h1).symm
              subst e19
              replace h0 := sm1_r h0
              cases h0
              exact x_iret C R dX10_refusedPairs_108
            · replace h1 := ob_neg c26 h1
              refine x_iload C 0 dX10_refusedPairs_91 rfl ?_
              refine x_iflt C 103 dX10_refusedPairs_93 (by decide) (fun c31 => ?_) (fun c31 => ?_)
              · replace h1 := ob_pos c31 h1
                refine x_aload_n C 3 dX10_refusedPairs_103 rfl ?_
                refine x_iconst (v := 3) C dX10_refusedPairs_104 rfl ?_
                obtain ⟨r32, s34, g33, h1⟩ := ob_bd h1
                refine x_callV (ar := 1) (q := (RX10, TX10, 18)) (rest := []) C (c_X10_found C.2.2.2.2.2.2.1  g33) (iX 0 (by decide)) rfl rfl hy_X10_found ⟨tw298, tw300, tw1, tw63, tw301⟩ (by decide) (by decide) rfl rfl (Nat.le_of_ble_eq_true rfl) dX10_refusedPairs_105 ?_
                show Wx LX K s34 108 [(6, .int (s6.1 (16 + a2.toNatClampNeg) (x17 + 1).toNatClampNeg)), (5, .int x17), (4, .int (s6.1 24 a2.toNatClampNeg)), (0, .ref (kad K 0)), (2, .int a2)] [.int r32]
                have e19 := ihR1 _ (Option.some.inj h1).symm
                subst e19
                replace h0 := sm1_r h0
                cases h0
                exact x_iret C R dX10_refusedPairs_108
              · replace h1 := ob_neg c31 h1
                refine x_iload C 0 dX10_refusedPairs_96 rfl ?_
                refine x_bipush (v := 6) C dX10_refusedPairs_98 rfl ?_
                refine x_icmple C 109 dX10_refusedPairs_100 (by decide) (fun c36 => ?_) (fun c36 => ?_)
                · replace h1 := ob_pos c36 h1
                  refine x_iinc (v := (x17 + 2)) (lv' := [(5, .int (x17 + 2)), (6, .int (s6.1 (16 + a2.toNatClampNeg) (x17 + 1).toNatClampNeg)), (4, .int (s6.1 24 a2.toNatClampNeg)), (0, .ref (kad K 0)), (2, .int a2)]) C 1 dX10_refusedPairs_109 rfl rfl (by rw [e5]; decide) rfl ?_
                  refine x_goto C 53 dX10_refusedPairs_112 (by decide) ?_
                  refine x_lv (lv' := [(5, .int (x17 + 2)), (4, .int (s6.1 24 a2.toNatClampNeg)), (0, .ref (kad K 0)), (2, .int a2)]) [0, 2, 3, 4] rfl ?_
                  exact ihL1 _ (Option.some.inj h1).symm
                · replace h1 := ob_neg c36 h1
                  refine x_aload_n C 3 dX10_refusedPairs_103 rfl ?_
                  refine x_iconst (v := 3) C dX10_refusedPairs_104 rfl ?_
                  obtain ⟨r37, s39, g38, h1⟩ := ob_bd h1
                  refine x_callV (ar := 1) (q := (RX10, TX10, 18)) (rest := []) C (c_X10_found C.2.2.2.2.2.2.1  g38) (iX 0 (by decide)) rfl rfl hy_X10_found ⟨tw298, tw300, tw1, tw63, tw301⟩ (by decide) (by decide) rfl rfl (Nat.le_of_ble_eq_true rfl) dX10_refusedPairs_105 ?_
                  show Wx LX K s39 108 [(6, .int (s6.1 (16 + a2.toNatClampNeg) (x17 + 1).toNatClampNeg)), (5, .int x17), (4, .int (s6.1 24 a2.toNatClampNeg)), (0, .ref (kad K 0)), (2, .int a2)] [.int r37]
                  have e19 := ihR1 _ (Option.some.inj h1).symm
                  subst e19
                  replace h0 := sm1_r h0
                  cases h0
                  exact x_iret C R dX10_refusedPairs_108
        · replace h0 := ob_neg c16 h0
          refine x_aload_n C 2 dX10_refusedPairs_44 rfl ?_
          refine x_iconst (v := 5) C dX10_refusedPairs_45 rfl ?_
          obtain ⟨r42, s44, g43, h0⟩ := ob_bd h0
          refine x_callV (ar := 1) (q := (RX10, TX10, 18)) (rest := []) C (c_X10_found C.2.2.2.2.2.2.1  g43) (iX 0 (by decide)) rfl rfl hy_X10_found ⟨tw298, tw300, tw1, tw63, tw301⟩ (by decide) (by decide) rfl rfl (Nat.le_of_ble_eq_true rfl) dX10_refusedPairs_46 ?_
          show Wx LX K s44 49 [(4, .int (s6.1 24 a2.toNatClampNeg)), (3, .int r4), (0, .ref (kad K 0)), (1, .int a1), (2, .int a2)] [.int r42]
          cases h0
          exact x_iret C R dX10_refusedPairs_49
    · replace h0 := ob_neg c8 h0
      refine x_iload_n C 0 dX10_refusedPairs_20 rfl ?_
      cases h0
      exact x_iret C R dX10_refusedPairs_21
  · replace h0 := ob_pos c3 h0
    refine x_iconst (v := (-1)) C dX10_refusedPairs_8 rfl ?_
    cases h0
    exact x_iret C R dX10_refusedPairs_9
set_option maxHeartbeats 4000000 in
set_option maxRecDepth 100000 in
theorem c_X10_fitsPairs {l : Launch} {D : va_G} {ad : Nat → Nat} {cy : Nat → ClassId} (hJ : mJ LX ad) {σ : mS} {a1 : Int32} {a2 : Int32} {a3 : Int32} {r : Int32}  (h0 : X10_fitsPairs σ a1 a2 a3 = some r) : MetG l LX D ad cy yX10_fitsPairs cX10_fitsPairs 10 (some .boolean) 1 [.ref (ad 0), .int a1, .int a2, .int a3] σ (some (.int r)) σ := by
  refine MetG.of hJ (by decide +kernel) [(0, .ref (ad 0)), (1, .int a1), (2, .int a2), (3, .int a3)] rfl (Nat.le_of_ble_eq_true rfl) ?_
  intro K e1 e2 e3 e4 e5 C R
  subst e1
  subst e2
  subst e3
  subst e4
  unfold X10_fitsPairs at h0
  refine x_aload_n C 0 dX10_fitsPairs_0 rfl ?_
  refine x_getR (j := 6) (i := 45) (q := (RX10, TX10, 18)) C (144 + 5) (iX 0 (by decide)) rfl rfl inBX10 (by decide) tw241 rfl dX10_fitsPairs_1 ?_
  refine x_getRN (j := 1) (i := 156) (q := (RX2, TX2, 6)) (host := "CalledNumbers") C (152 + 5) (iX18 (by decide)) (lX18 (by decide)) rfl inBX2 (by decide) twN193 rfl dX10_fitsPairs_4 ?_
  refine x_iload_n C 2 dX10_fitsPairs_7 rfl ?_
  obtain ⟨c1, h0⟩ := ob_if h0
  refine x_iald C (iX19 (by decide)) (lX19 (by decide)) (vin_in c1) dX10_fitsPairs_8 ?_
  refine x_istore (lv' := [(4, .int (σ.1 (152 + 5) a2.toNatClampNeg)), (0, .ref (kad K 0)), (1, .int a1), (2, .int a2), (3, .int a3)]) C dX10_fitsPairs_9 (by rw [e5]; decide) rfl ?_
  refine x_aload_n C 1 dX10_fitsPairs_11 rfl ?_
  refine x_getR (j := 6) (i := 45) (q := (RX10, TX10, 18)) C (144 + 5) (iX 0 (by decide)) rfl rfl inBX10 (by decide) tw241 rfl dX10_fitsPairs_12 ?_
  refine x_getIN (j := 3) (i := 262) (q := (RX2, TX2, 6)) (host := "CalledNumbers") C (iX18 (by decide)) (lX18 (by decide)) rfl inBX2 (by decide) twN197 rfl dX10_fitsPairs_15 ?_
  refine x_istore (lv' := [(5, .int (σ.1 (144 + 5) 3)), (4, .int (σ.1 (152 + 5) a2.toNatClampNeg)), (0, .ref (kad K 0)), (1, .int a1), (2, .int a2), (3, .int a3)]) C dX10_fitsPairs_18 (by rw [e5]; decide) rfl ?_
  refine x_aload_n C 2 dX10_fitsPairs_20 rfl ?_
  refine x_getR (j := 6) (i := 45) (q := (RX10, TX10, 18)) C (144 + 5) (iX 0 (by decide)) rfl rfl inBX10 (by decide) tw241 rfl dX10_fitsPairs_21 ?_
  refine x_getIN (j := 4) (i := 177) (q := (RX2, TX2, 6)) (host := "CalledNumbers") C (iX18 (by decide)) (lX18 (by decide)) rfl inBX2 (by decide) twN199 rfl dX10_fitsPairs_24 ?_
  refine x_istore (lv' := [(6, .int (σ.1 (144 + 5) 4)), (5, .int (σ.1 (144 + 5) 3)), (4, .int (σ.1 (152 + 5) a2.toNatClampNeg)), (0, .ref (kad K 0)), (1, .int a1), (2, .int a2), (3, .int a3)]) C dX10_fitsPairs_27 (by rw [e5]; decide) rfl ?_
  refine x_aload_n C 3 dX10_fitsPairs_29 rfl ?_
  refine x_getR (j := 6) (i := 45) (q := (RX10, TX10, 18)) C (144 + 5) (iX 0 (by decide)) rfl rfl inBX10 (by decide) tw241 rfl dX10_fitsPairs_30 ?_
  refine x_getIN (j := 5) (i := 164) (q := (RX2, TX2, 6)) (host := "CalledNumbers") C (iX18 (by decide)) (lX18 (by decide)) rfl inBX2 (by decide) twN201 rfl dX10_fitsPairs_33 ?_
  refine x_istore (lv' := [(7, .int (σ.1 (144 + 5) 5)), (6, .int (σ.1 (144 + 5) 4)), (5, .int (σ.1 (144 + 5) 3)), (4, .int (σ.1 (152 + 5) a2.toNatClampNeg)), (0, .ref (kad K 0)), (1, .int a1), (2, .int a2), (3, .int a3)]) C dX10_fitsPairs_36 (by rw [e5]; decide) rfl ?_
  refine x_iconst (v := 0) C dX10_fitsPairs_38 rfl ?_
  refine x_istore (lv' := [(8, .int 0), (7, .int (σ.1 (144 + 5) 5)), (6, .int (σ.1 (144 + 5) 4)), (5, .int (σ.1 (144 + 5) 3)), (4, .int (σ.1 (152 + 5) a2.toNatClampNeg)), (0, .ref (kad K 0)), (1, .int a1), (2, .int a2), (3, .int a3)]) C dX10_fitsPairs_39 (by rw [e5]; decide) rfl ?_
  obtain ⟨e15, g16, h0⟩ := ob_bind h0
  have J1 : ∀ (u9 : Unit), .inl u9 = e15 → Wx LX K σ 152 [] [] := by
    intro u9 e9
    subst e9
    replace h0 := sm1_l h0
    refine x_iconst (v := 1) C dX10_fitsPairs_152 rfl ?_
    cases h0
    exact x_zret C (Or.inr rfl) R dX10_fitsPairs_153
  refine lp_G (G := fun q : Int32 × Int32 × Int32 × Int32 × Int32 => Wx LX K σ 41 [(8, .int q.2.2.2.2), (7, .int q.2.2.2.1), (6, .int q.2.2.1), (5, .int q.2.1), (4, .int q.1), (0, .ref (kad K 0)), (1, .int a1), (2, .int a2), (3, .int a3)] []) (fun q x h1 ihL1 ihR1 => ?_) big _ g16
  obtain ⟨x2, x3, x4, x5, x6⟩ := q
  replace h1 : X10_fitsPairs_b41 σ a1 a3 x2 x3 x4 x5 x6 = some x := h1
  unfold X10_fitsPairs_b41 at h1
  show Wx LX K σ 41 [(8, .int x6), (7, .int x5), (6, .int x4), (5, .int x3), (4, .int x2), (0, .ref (kad K 0)), (1, .int a1), (2, .int a2), (3, .int a3)] []
  refine x_iload C 0 dX10_fitsPairs_41 rfl ?_
  refine x_iconst (v := 1) C dX10_fitsPairs_43 rfl ?_
  refine x_iadd C dX10_fitsPairs_44 ?_
  refine x_aload_n C 5 dX10_fitsPairs_45 rfl ?_
  refine x_getR (j := 1) (i := 14) (q := (RX10, TX10, 18)) C 24 (iX 0 (by decide)) rfl rfl inBX10 (by decide) tw236 rfl dX10_fitsPairs_46 ?_
  refine x_iload_n C 8 dX10_fitsPairs_49 rfl ?_
  obtain ⟨c7, h1⟩ := ob_if h1
  refine x_iald C (iX 24 (by decide)) rfl (vin_in c7) dX10_fitsPairs_50 ?_
  refine x_icmpge C 152 dX10_fitsPairs_51 (by decide) (fun c9 => ?_) (fun c9 => ?_)
  · replace h1 := ob_pos c9 h1
    refine x_lv (lv' := []) [] rfl ?_
    exact J1 _ (ihR1 _ (Option.some.inj h1).symm)
  · replace h1 := ob_neg c9 h1
    refine x_aload_n C 5 dX10_fitsPairs_54 rfl ?_
    refine x_getR (j := 0) (i := 11) (q := (RX10, TX10, 18)) C 8 (iX 0 (by decide)) rfl rfl inBX10 (by decide) tw235 rfl dX10_fitsPairs_55 ?_
    refine x_iload_n C 8 dX10_fitsPairs_58 rfl ?_
    obtain ⟨c10, h1⟩ := ob_if h1
    refine x_aald C (iX 8 (by decide)) rfl rfl rfl (vin_in c10) dX10_fitsPairs_59 ?_
    refine x_iload C 0 dX10_fitsPairs_60 rfl ?_
    obtain ⟨c11, h1⟩ := ob_if h1
    refine x_iald C (iX2 (vin_lt c10)) (lX2 (vin_lt c10)) (vin_in c11) dX10_fitsPairs_62 ?_
    refine x_istore (lv' := [(9, .int (σ.1 (16 + a3.toNatClampNeg) x6.toNatClampNeg)), (8, .int x6), (7, .int x5), (6, .int x4), (5, .int x3), (4, .int x2), (0, .ref (kad K 0)), (1, .int a1), (2, .int a2), (3, .int a3)]) C dX10_fitsPairs_63 (by rw [e5]; decide) rfl ?_
    refine x_iload C 4 dX10_fitsPairs_65 rfl ?_
    refine x_iload C 0 dX10_fitsPairs_67 rfl ?_
    refine x_ishr C dX10_fitsPairs_69 ?_
    refine x_iconst (v := 1) C dX10_fitsPairs_70 rfl ?_
    refine x_iand C dX10_fitsPairs_71 ?_
    refine x_ifne C 77 dX10_fitsPairs_72 (by decide) (fun c13 => ?_) (fun c13 => ?_)
    · replace h1 := ob_neg c13 h1
      refine x_aload_n C 6 dX10_fitsPairs_77 rfl ?_
      refine x_getR (j := 5) (i := 36) (q := (RX10, TX10, 18)) C 88 (iX 0 (by decide)) rfl rfl inBX10 (by decide) tw240 rfl dX10_fitsPairs_78 ?_
      refine x_iload_n C 8 dX10_fitsPairs_81 rfl ?_
      refine x_iload C 5 dX10_fitsPairs_82 rfl ?_
      refine x_aload_n C 6 dX10_fitsPairs_84 rfl ?_
      refine x_getR (j := 5) (i := 36) (q := (RX10, TX10, 18)) C 88 (iX 0 (by decide)) rfl rfl inBX10 (by decide) tw240 rfl dX10_fitsPairs_85 ?_
      refine x_getRN (j := 0) (i := 338) (q := (RX7, TX7, 5)) (host := "CalledNumbers") C 96 (iX 88 (by decide)) rfl rfl inBX7 (by decide) twN164 rfl dX10_fitsPairs_88 ?_
      refine x_iload_n C 7 dX10_fitsPairs_91 rfl ?_
      obtain ⟨c14, h1⟩ := ob_if h1
      refine x_aald C (iX 96 (by decide)) rfl rfl rfl (vin_in c14) dX10_fitsPairs_92 ?_
      refine x_iload C 0 dX10_fitsPairs_93 rfl ?_
      refine x_iload C 3 dX10_fitsPairs_95 rfl ?_
      refine x_iload C 2 dX10_fitsPairs_97 rfl ?_
      cases h1
    · replace h1 := ob_pos c13 h1
      refine x_iconst (v := 0) C dX10_fitsPairs_75 rfl ?_
      have e19 := ihR1 _ (Option.some.inj h1).symm
      subst e19
      replace h0 := sm1_r h0
      cases h0
      exact x_zret C (Or.inl rfl) R dX10_fitsPairs_76
set_option maxHeartbeats 4000000 in
set_option maxRecDepth 100000 in
theorem c_X10_fittingKinds {l : Launch} {D : va_G} {ad : Nat → Nat} {cy : Nat → ClassId} (hJ : mJ LX ad) {σ : mS} {a1 : Int32} {a2 : Int32} {r : Int32}  (h0 : X10_fittingKinds σ a1 a2 = some r) : MetG l LX D ad cy yX10_fittingKinds cX10_fittingKinds 5 (some .int) 2 [.ref (ad 0), .int a1, .int a2] σ (some (.int r)) σ := by
  refine MetG.of hJ (by decide +kernel) [(0, .ref (ad 0)), (1, .int a1), (2, .int a2)] rfl (Nat.le_of_ble_eq_true rfl) ?_
  intro K e1 e2 e3 e4 e5 C R
  subst e1
  subst e2
  subst e3
  subst e4
  unfold X10_fittingKinds at h0
  refine x_iconst (v := 0) C dX10_fittingKinds_0 rfl ?_
  refine x_istore_n (lv' := [(3, .int 0), (0, .ref (kad K 0)), (1, .int a1), (2, .int a2)]) C dX10_fittingKinds_1 (by rw [e5]; decide) rfl ?_
  refine x_iconst (v := 0) C dX10_fittingKinds_2 rfl ?_
  refine x_istore (lv' := [(4, .int 0), (3, .int 0), (0, .ref (kad K 0)), (1, .int a1), (2, .int a2)]) C dX10_fittingKinds_3 (by rw [e5]; decide) rfl ?_
  obtain ⟨e10, g11, h0⟩ := ob_bind h0
  have J1 : ∀ (y3 : Int32), y3 = e10 → Wx LX K σ 36 [(3, .int y3)] [] := by
    intro y3 e9
    subst e9
    replace h0 := un1_l h0
    refine x_iload_n C 0 dX10_fittingKinds_36 rfl ?_
    cases h0
    exact x_iret C R dX10_fittingKinds_37
  refine lp_G (G := fun q : Int32 × Int32 => Wx LX K σ 5 [(4, .int q.2), (3, .int q.1), (0, .ref (kad K 0)), (1, .int a1), (2, .int a2)] []) (fun q x h1 ihL1 ihR1 => ?_) big _ g11
  obtain ⟨x1, x2⟩ := q
  replace h1 : X10_fittingKinds_b5 σ a1 a2 x1 x2 = some x := h1
  unfold X10_fittingKinds_b5 at h1
  show Wx LX K σ 5 [(4, .int x2), (3, .int x1), (0, .ref (kad K 0)), (1, .int a1), (2, .int a2)] []
  refine x_iload C 0 dX10_fittingKinds_5 rfl ?_
  refine x_bipush (v := 6) C dX10_fittingKinds_7 rfl ?_
  refine x_icmpge C 36 dX10_fittingKinds_9 (by decide) (fun c5 => ?_) (fun c5 => ?_)
  · replace h1 := ob_pos c5 h1
    refine x_lv (lv' := [(3, .int x1)]) [1] rfl ?_
    exact J1 _ (ihR1 _ (Option.some.inj h1).symm)
  · replace h1 := ob_neg c5 h1
    refine x_aload_n C 2 dX10_fittingKinds_12 rfl ?_
    refine x_iload C 0 dX10_fittingKinds_13 rfl ?_
    refine x_iload_n C 3 dX10_fittingKinds_15 rfl ?_
    refine x_iload_n C 4 dX10_fittingKinds_16 rfl ?_
    obtain ⟨r6, g7, h1⟩ := ob_bind h1
    refine x_callV (ar := 3) (q := (RX10, TX10, 18)) (rest := []) C (c_X10_fitsPairs C.2.2.2.2.2.2.1  g7) (iX 0 (by decide)) rfl rfl hy_X10_fitsPairs ⟨tw642, tw644, tw24, tw63, tw645⟩ (by decide) (by decide) rfl rfl (Nat.le_of_ble_eq_true rfl) dX10_fittingKinds_17 ?_
    show Wx LX K σ 20 [(4, .int x2), (3, .int x1), (0, .ref (kad K 0)), (1, .int a1), (2, .int a2)] [.int r6]
    refine x_ifeq C 30 dX10_fittingKinds_20 (by decide) (fun c9 => ?_) (fun c9 => ?_)
    · replace h1 := ob_pos c9 h1
      refine x_iinc (v := (x2 + 1)) (lv' := [(4, .int (x2 + 1)), (3, .int x1), (0, .ref (kad K 0)), (1, .int a1), (2, .int a2)]) C 0 dX10_fittingKinds_30 rfl rfl (by rw [e5]; decide) rfl ?_
      refine x_goto C 5 dX10_fittingKinds_33 (by decide) ?_
      refine x_lv (lv' := [(4, .int (x2 + 1)), (3, .int x1), (0, .ref (kad K 0)), (1, .int a1), (2, .int a2)]) [0, 1, 2, 3, 4] rfl ?_
      exact ihL1 _ (Option.some.inj h1).symm
    · replace h1 := ob_neg c9 h1
      refine x_iload_n C 1 dX10_fittingKinds_23 rfl ?_
      refine x_iconst (v := 1) C dX10_fittingKinds_24 rfl ?_
      refine x_iload C 0 dX10_fittingKinds_25 rfl ?_
      refine x_ishl C dX10_fittingKinds_27 ?_
      refine x_ior C dX10_fittingKinds_28 ?_
      refine x_istore_n (lv' := [(3, .int (x1 ||| ((1 : Int32) <<< (x2 &&& 31)))), (4, .int x2), (0, .ref (kad K 0)), (1, .int a1), (2, .int a2)]) C dX10_fittingKinds_29 (by rw [e5]; decide) rfl ?_
      refine x_iinc (v := (x2 + 1)) (lv' := [(4, .int (x2 + 1)), (3, .int (x1 ||| ((1 : Int32) <<< (x2 &&& 31)))), (0, .ref (kad K 0)), (1, .int a1), (2, .int a2)]) C 1 dX10_fittingKinds_30 rfl rfl (by rw [e5]; decide) rfl ?_
      refine x_goto C 5 dX10_fittingKinds_33 (by decide) ?_
      refine x_lv (lv' := [(4, .int (x2 + 1)), (3, .int (x1 ||| ((1 : Int32) <<< (x2 &&& 31)))), (0, .ref (kad K 0)), (1, .int a1), (2, .int a2)]) [0, 1, 2, 3, 4] rfl ?_
      exact ihL1 _ (Option.some.inj h1).symm
set_option maxHeartbeats 4000000 in
set_option maxRecDepth 100000 in
theorem c_X10_kinds {l : Launch} {D : va_G} {ad : Nat → Nat} {cy : Nat → ClassId} (hJ : mJ LX ad) {σ τ : mS} {a1 : Int32} {a2 : Int32} {r : Int32}  (h0 : X10_kinds σ a1 a2 = some (r, τ)) : MetG l LX D ad cy yX10_kinds cX10_kinds 4 (some .int) 3 [.ref (ad 0), .int a1, .int a2] σ (some (.int r)) τ := by
  refine MetG.of hJ (by decide +kernel) [(0, .ref (ad 0)), (1, .int a1), (2, .int a2)] rfl (Nat.le_of_ble_eq_true rfl) ?_
  intro K e1 e2 e3 e4 e5 C R
  subst e1
  subst e2
  subst e3
  subst e4
  unfold X10_kinds at h0
  refine x_aload_n C 0 dX10_kinds_0 rfl ?_
  refine x_iload_n C 1 dX10_kinds_1 rfl ?_
  refine x_iload_n C 2 dX10_kinds_2 rfl ?_
  obtain ⟨r1, s3, g2, h0⟩ := ob_bd h0
  refine x_callV (ar := 2) (q := (RX10, TX10, 18)) (rest := []) C (c_X10_refusedPairs C.2.2.2.2.2.2.1  g2) (iX 0 (by decide)) rfl rfl hy_X10_refusedPairs ⟨tw634, tw636, tw22, tw63, tw637⟩ (by decide) (by decide) rfl rfl (Nat.le_of_ble_eq_true rfl) dX10_kinds_3 ?_
  show Wx LX K s3 6 [(0, .ref (kad K 0)), (1, .int a1), (2, .int a2)] [.int r1]
  refine x_istore_n (lv' := [(3, .int r1), (0, .ref (kad K 0)), (1, .int a1), (2, .int a2)]) C dX10_kinds_6 (by rw [e5]; decide) rfl ?_
  refine x_iload_n C 0 dX10_kinds_7 rfl ?_
  refine x_ifeq C 13 dX10_kinds_8 (by decide) (fun c5 => ?_) (fun c5 => ?_)
  · replace h0 := ob_pos c5 h0
    refine x_aload_n C 1 dX10_kinds_13 rfl ?_
    refine x_iload_n C 2 dX10_kinds_14 rfl ?_
    refine x_iload_n C 3 dX10_kinds_15 rfl ?_
    obtain ⟨r6, g7, h0⟩ := ob_bind h0
    refine x_callV (ar := 2) (q := (RX10, TX10, 18)) (rest := []) C (c_X10_fittingKinds C.2.2.2.2.2.2.1  g7) (iX 0 (by decide)) rfl rfl hy_X10_fittingKinds ⟨tw638, tw640, tw23, tw63, tw641⟩ (by decide) (by decide) rfl rfl (Nat.le_of_ble_eq_true rfl) dX10_kinds_16 ?_
    show Wx LX K s3 19 [(3, .int r1), (0, .ref (kad K 0)), (1, .int a1), (2, .int a2)] [.int r6]
    cases h0
    exact x_iret C R dX10_kinds_19
  · replace h0 := ob_neg c5 h0
    refine x_iload_n C 0 dX10_kinds_11 rfl ?_
    cases h0
    exact x_iret C R dX10_kinds_12
set_option maxHeartbeats 4000000 in
set_option maxRecDepth 100000 in
theorem c_X10_greatestPart {l : Launch} {D : va_G} {ad : Nat → Nat} {cy : Nat → ClassId} (hJ : mJ LX ad) {σ τ : mS} {a1 : Int32} {a2 : Int32} {a3 : Int32} {r : Int32}  (h0 : X10_greatestPart σ a1 a2 a3 = some (r, τ)) : MetG l LX D ad cy yX10_greatestPart cX10_greatestPart 7 (some .int) 2 [.ref (ad 0), .int a1, .int a2, .int a3] σ (some (.int r)) τ := by
  refine MetG.of hJ (by decide +kernel) [(0, .ref (ad 0)), (1, .int a1), (2, .int a2), (3, .int a3)] rfl (Nat.le_of_ble_eq_true rfl) ?_
  intro K e1 e2 e3 e4 e5 C R
  subst e1
  subst e2
  subst e3
  subst e4
  unfold X10_greatestPart at h0
  refine x_aload_n C 0 dX10_greatestPart_0 rfl ?_
  refine x_getR (j := 12) (i := 67) (q := (RX10, TX10, 18)) C 200 (iX 0 (by decide)) rfl rfl inBX10 (by decide) tw247 rfl dX10_greatestPart_1 ?_
  refine x_iconst (v := 0) C dX10_greatestPart_4 rfl ?_
  obtain ⟨r1, s3, g2, h0⟩ := ob_bd h0
  refine x_callS (ar := 2) (rest := []) C (c_J7_fill_53178 C.2.2.2.2.2.2.1 (iX 200 (by decide)) rfl g2) hy_J7_fill_53178 ⟨tw232, tw233, tw74, tw234⟩ (by decide) (by decide) rfl rfl (Nat.le_of_ble_eq_true rfl) dX10_greatestPart_5 ?_
  show Wx LX K s3 8 [(0, .ref (kad K 0)), (1, .int a1), (2, .int a2), (3, .int a3)] []
  refine x_iconst (v := 0) C dX10_greatestPart_8 rfl ?_
  refine x_istore (lv' := [(4, .int 0), (0, .ref (kad K 0)), (1, .int a1), (2, .int a2), (3, .int a3)]) C dX10_greatestPart_9 (by rw [e5]; decide) rfl ?_
  refine x_iconst (v := 0) C dX10_greatestPart_11 rfl ?_
  refine x_istore (lv' := [(5, .int 0), (4, .int 0), (0, .ref (kad K 0)), (1, .int a1), (2, .int a2), (3, .int a3)]) C dX10_greatestPart_12 (by rw [e5]; decide) rfl ?_
  obtain ⟨e19, g20, h0⟩ := ob_bind h0
  have J1 : ∀ (s7 : mS) (y8 : Int32), (s7, y8) = e19 → Wx LX K s7 78 [(4, .int y8)] [] := by
    intro s7 y8 e9
    subst e9
    replace h0 := un2_l h0
    refine x_iload C 0 dX10_greatestPart_78 rfl ?_
    cases h0
    exact x_iret C R dX10_greatestPart_80
  refine lp_G (G := fun q : mS × Int32 × Int32 => Wx LX K q.1 14 [(5, .int q.2.2), (4, .int q.2.1), (0, .ref (kad K 0)), (1, .int a1), (2, .int a2), (3, .int a3)] []) (fun q x h1 ihL1 ihR1 => ?_) big _ g20
  obtain ⟨s4, x5, x6⟩ := q
  replace h1 : X10_greatestPart_b14 a1 a2 a3 s4 x5 x6 = some x := h1
  unfold X10_greatestPart_b14 at h1
  show Wx LX K s4 14 [(5, .int x6), (4, .int x5), (0, .ref (kad K 0)), (1, .int a1), (2, .int a2), (3, .int a3)] []
  refine x_iload C 0 dX10_greatestPart_14 rfl ?_
  refine x_bipush (v := 6) C dX10_greatestPart_16 rfl ?_
  refine x_icmpge C 78 dX10_greatestPart_18 (by decide) (fun c10 => ?_) (fun c10 => ?_)
  · replace h1 := ob_pos c10 h1
    refine x_lv (lv' := [(4, .int x5)]) [1] rfl ?_
    exact J1 _ _ (ihR1 _ (Option.some.inj h1).symm)
  · replace h1 := ob_neg c10 h1
    refine x_iload_n C 3 dX10_greatestPart_21 rfl ?_
    refine x_iload C 0 dX10_greatestPart_22 rfl ?_
    refine x_ishr C dX10_greatestPart_24 ?_
    refine x_iconst (v := 1) C dX10_greatestPart_25 rfl ?_
    refine x_iand C dX10_greatestPart_26 ?_
    refine x_iconst (v := 1) C dX10_greatestPart_27 rfl ?_
    refine x_icmpne C 72 dX10_greatestPart_28 (by decide) (fun c12 => ?_) (fun c12 => ?_)
    · replace h1 := ob_neg c12 h1
      refine x_iinc (v := (x6 + 1)) (lv' := [(5, .int (x6 + 1)), (4, .int x5), (0, .ref (kad K 0)), (1, .int a1), (2, .int a2), (3, .int a3)]) C 0 dX10_greatestPart_72 rfl rfl (by rw [e5]; decide) rfl ?_
      refine x_goto C 14 dX10_greatestPart_75 (by decide) ?_
      refine x_lv (lv' := [(5, .int (x6 + 1)), (4, .int x5), (0, .ref (kad K 0)), (1, .int a1), (2, .int a2), (3, .int a3)]) [0, 1, 2, 3, 4, 5] rfl ?_
      exact ihL1 _ (Option.some.inj h1).symm
    · replace h1 := ob_pos c12 h1
      refine x_aload_n C 2 dX10_greatestPart_31 rfl ?_
      refine x_iload C 0 dX10_greatestPart_32 rfl ?_
      refine x_iload_n C 4 dX10_greatestPart_34 rfl ?_
      refine x_iload_n C 5 dX10_greatestPart_35 rfl ?_
      obtain ⟨r13, g14, h1⟩ := ob_bind h1
      refine x_callV (ar := 3) (q := (RX10, TX10, 18)) (rest := []) C (c_X10_marksBy C.2.2.2.2.2.2.1  g14) (iX 0 (by decide)) rfl rfl hy_X10_marksBy ⟨tw625, tw627, tw21, tw63, tw628⟩ (by decide) (by decide) rfl rfl (Nat.le_of_ble_eq_true rfl) dX10_greatestPart_36 ?_
      show Wx LX K s4 39 [(5, .int x6), (4, .int x5), (0, .ref (kad K 0)), (1, .int a1), (2, .int a2), (3, .int a3)] [.int r13]
      refine x_bipush (v := 63) C dX10_greatestPart_39 rfl ?_
      refine x_iand C dX10_greatestPart_41 ?_
      refine x_callS (ar := 1) (rest := []) C (c_J6_bitCount_0f7a4 C.2.2.2.2.2.2.1  rfl) hy_J6_bitCount_0f7a4 ⟨tw591, tw417, tw77, tw418⟩ (by decide) (by decide) rfl rfl (Nat.le_of_ble_eq_true rfl) dX10_greatestPart_42 ?_
      show Wx LX K s4 45 [(5, .int x6), (4, .int x5), (0, .ref (kad K 0)), (1, .int a1), (2, .int a2), (3, .int a3)] [.int (J6_bitCount_0f7a4 (r13 &&& 63))]
      refine x_istore (lv' := [(6, .int (J6_bitCount_0f7a4 (r13 &&& 63))), (5, .int x6), (4, .int x5), (0, .ref (kad K 0)), (1, .int a1), (2, .int a2), (3, .int a3)]) C dX10_greatestPart_45 (by rw [e5]; decide) rfl ?_
      refine x_aload_n C 3 dX10_greatestPart_47 rfl ?_
      refine x_getR (j := 12) (i := 67) (q := (RX10, TX10, 18)) C 200 (iX 0 (by decide)) rfl rfl inBX10 (by decide) tw247 rfl dX10_greatestPart_48 ?_
      refine x_iload C 0 dX10_greatestPart_51 rfl ?_
      refine x_dup2 C dX10_greatestPart_53 rfl rfl ?_
      obtain ⟨c16, h1⟩ := ob_if h1
      refine x_iald C (iX 200 (by decide)) rfl (vin_in c16) dX10_greatestPart_54 ?_
      refine x_iconst (v := 1) C dX10_greatestPart_55 rfl ?_
      refine x_iadd C dX10_greatestPart_56 ?_
      obtain ⟨c17, h1⟩ := ob_if h1
      refine x_iast C (iX 200 (by decide)) rfl (vin_in c17) dX10_greatestPart_57 ?_
      refine x_iload C 2 dX10_greatestPart_58 rfl ?_
      refine x_aload_n C 3 dX10_greatestPart_60 rfl ?_
      refine x_getR (j := 12) (i := 67) (q := (RX10, TX10, 18)) C 200 (iX 0 (by decide)) rfl rfl inBX10 (by decide) tw247 rfl dX10_greatestPart_61 ?_
      refine x_iload C 0 dX10_greatestPart_64 rfl ?_
      obtain ⟨c18, h1⟩ := ob_if h1
      refine x_iald C (iX 200 (by decide)) rfl (vin_in c18) dX10_greatestPart_66 ?_
      refine x_mmax C (by decide) tw654 tw423 tw78 tw424 (Nat.le_of_ble_eq_true rfl) dX10_greatestPart_67 ?_
      refine x_istore (lv' := [(4, .int (jmax x5 ((mwI s4 200 (J6_bitCount_0f7a4 (r13 &&& 63)).toNatClampNeg ((s4.1 200 (J6_bitCount_0f7a4 (r13 &&& 63)).toNatClampNeg) + 1)).1 200 (J6_bitCount_0f7a4 (r13 &&& 63)).toNatClampNeg))), (6, .int (J6_bitCount_0f7a4 (r13 &&& 63))), (5, .int x6), (0, .ref (kad K 0)), (1, .int a1), (2, .int a2), (3, .int a3)]) C dX10_greatestPart_70 (by rw [e5]; decide) rfl ?_
      refine x_iinc (v := (x6 + 1)) (lv' := [(5, .int (x6 + 1)), (4, .int (jmax x5 ((mwI s4 200 (J6_bitCount_0f7a4 (r13 &&& 63)).toNatClampNeg ((s4.1 200 (J6_bitCount_0f7a4 (r13 &&& 63)).toNatClampNeg) + 1)).1 200 (J6_bitCount_0f7a4 (r13 &&& 63)).toNatClampNeg))), (6, .int (J6_bitCount_0f7a4 (r13 &&& 63))), (0, .ref (kad K 0)), (1, .int a1), (2, .int a2), (3, .int a3)]) C 2 dX10_greatestPart_72 rfl rfl (by rw [e5]; decide) rfl ?_
      refine x_goto C 14 dX10_greatestPart_75 (by decide) ?_
      refine x_lv (lv' := [(5, .int (x6 + 1)), (4, .int (jmax x5 ((mwI s4 200 (J6_bitCount_0f7a4 (r13 &&& 63)).toNatClampNeg ((s4.1 200 (J6_bitCount_0f7a4 (r13 &&& 63)).toNatClampNeg) + 1)).1 200 (J6_bitCount_0f7a4 (r13 &&& 63)).toNatClampNeg))), (0, .ref (kad K 0)), (1, .int a1), (2, .int a2), (3, .int a3)]) [0, 1, 3, 4, 5, 6] rfl ?_
      exact ihL1 _ (Option.some.inj h1).symm
set_option maxHeartbeats 4000000 in
set_option maxRecDepth 100000 in
theorem c_X10_next {l : Launch} {D : va_G} {ad : Nat → Nat} {cy : Nat → ClassId} (hJ : mJ LX ad) {σ τ : mS} {a1 : Int32} {a2 : Int32} {r : Int32}  (h0 : X10_next σ a1 a2 = some (r, τ)) : MetG l LX D ad cy yX10_next cX10_next 9 (some .int) 3 [.ref (ad 0), .int a1, .int a2] σ (some (.int r)) τ := by
  refine MetG.of hJ (by decide +kernel) [(0, .ref (ad 0)), (1, .int a1), (2, .int a2)] rfl (Nat.le_of_ble_eq_true rfl) ?_
  intro K e1 e2 e3 e4 e5 C R
  subst e1
  subst e2
  subst e3
  subst e4
  unfold X10_next at h0
  refine x_aload_n C 0 dX10_next_0 rfl ?_
  refine x_iload_n C 1 dX10_next_1 rfl ?_
  refine x_iload_n C 2 dX10_next_2 rfl ?_
  obtain ⟨r1, s3, g2, h0⟩ := ob_bd h0
  refine x_callV (ar := 2) (q := (RX10, TX10, 18)) (rest := []) C (c_X10_refusedPairs C.2.2.2.2.2.2.1  g2) (iX 0 (by decide)) rfl rfl hy_X10_refusedPairs ⟨tw634, tw636, tw22, tw63, tw637⟩ (by decide) (by decide) rfl rfl (Nat.le_of_ble_eq_true rfl) dX10_next_3 ?_
  show Wx LX K s3 6 [(0, .ref (kad K 0)), (1, .int a1), (2, .int a2)] [.int r1]
  refine x_istore_n (lv' := [(3, .int r1), (0, .ref (kad K 0)), (1, .int a1), (2, .int a2)]) C dX10_next_6 (by rw [e5]; decide) rfl ?_
  refine x_iload_n C 0 dX10_next_7 rfl ?_
  refine x_ifeq C 13 dX10_next_8 (by decide) (fun c5 => ?_) (fun c5 => ?_)
  · replace h0 := ob_pos c5 h0
    refine x_aload_n C 1 dX10_next_13 rfl ?_
    refine x_iload_n C 2 dX10_next_14 rfl ?_
    refine x_iload_n C 3 dX10_next_15 rfl ?_
    obtain ⟨r6, g7, h0⟩ := ob_bind h0
    refine x_callV (ar := 2) (q := (RX10, TX10, 18)) (rest := []) C (c_X10_fittingKinds C.2.2.2.2.2.2.1  g7) (iX 0 (by decide)) rfl rfl hy_X10_fittingKinds ⟨tw638, tw640, tw23, tw63, tw641⟩ (by decide) (by decide) rfl rfl (Nat.le_of_ble_eq_true rfl) dX10_next_16 ?_
    show Wx LX K s3 19 [(3, .int r1), (0, .ref (kad K 0)), (1, .int a1), (2, .int a2)] [.int r6]
    refine x_istore (lv' := [(4, .int r6), (3, .int r1), (0, .ref (kad K 0)), (1, .int a1), (2, .int a2)]) C dX10_next_19 (by rw [e5]; decide) rfl ?_
    refine x_iload C 0 dX10_next_21 rfl ?_
    refine x_ifeq C 36 dX10_next_23 (by decide) (fun c9 => ?_) (fun c9 => ?_)
    · replace h0 := ob_pos c9 h0
      refine x_bipush (v := (-9)) C dX10_next_36 rfl ?_
      cases h0
      exact x_iret C R dX10_next_38
    · replace h0 := ob_neg c9 h0
      refine x_aload_n C 2 dX10_next_26 rfl ?_
      refine x_getR (j := 6) (i := 45) (q := (RX10, TX10, 18)) C (144 + 5) (iX 0 (by decide)) rfl rfl inBX10 (by decide) tw241 rfl dX10_next_27 ?_
      refine x_getIN (j := 3) (i := 262) (q := (RX2, TX2, 6)) (host := "CalledNumbers") C (iX18 (by decide)) (lX18 (by decide)) rfl inBX2 (by decide) twN197 rfl dX10_next_30 ?_
      refine x_ifne C 39 dX10_next_33 (by decide) (fun c11 => ?_) (fun c11 => ?_)
      · replace h0 := ob_neg c11 h0
        refine x_bipush (v := 7) C dX10_next_39 rfl ?_
        refine x_istore (lv' := [(5, .int 7), (4, .int r6), (3, .int r1), (0, .ref (kad K 0)), (1, .int a1), (2, .int a2)]) C dX10_next_41 (by rw [e5]; decide) rfl ?_
        refine x_iconst (v := 0) C dX10_next_43 rfl ?_
        refine x_istore (lv' := [(6, .int 0), (5, .int 7), (4, .int r6), (3, .int r1), (0, .ref (kad K 0)), (1, .int a1), (2, .int a2)]) C dX10_next_44 (by rw [e5]; decide) rfl ?_
        refine x_iconst (v := 1) C dX10_next_46 rfl ?_
        refine x_istore (lv' := [(7, .int 1), (6, .int 0), (5, .int 7), (4, .int r6), (3, .int r1), (0, .ref (kad K 0)), (1, .int a1), (2, .int a2)]) C dX10_next_47 (by rw [e5]; decide) rfl ?_
        obtain ⟨e29, g30, h0⟩ := ob_bind h0
        have J1 : ∀ (s16 : mS) (y17 : Int32) (y18 : Int32), (s16, y17, y18) = e29 → Wx LX K s16 100 [(6, .int y18), (5, .int y17), (0, .ref (kad K 0))] [] := by
          intro s16 y17 y18 e9
          subst e9
          replace h0 := un3_l h0
          refine x_aload_n C 2 dX10_next_100 rfl ?_
          refine x_iload C 1 dX10_next_101 rfl ?_
          refine x_putI (j := 13) (i := 99) (q := (RX10, TX10, 18)) C tyX10 tyX10_ok nmX10 (iX 0 (by decide)) rfl rfl inBX10 (by decide) tw248 rfl (by decide +kernel) rfl dX10_next_103 ?_
          refine x_iload C 0 dX10_next_106 rfl ?_
          cases h0
          exact x_iret C R dX10_next_108
        refine x_lv (lv' := [(7, .int 1), (6, .int 0), (5, .int 7), (4, .int r6), (0, .ref (kad K 0)), (1, .int a1)]) [0, 1, 2, 3, 5, 6] rfl ?_
        refine lp_G (G := fun q : mS × Int32 × Int32 × Int32 => Wx LX K q.1 49 [(7, .int q.2.2.2), (6, .int q.2.2.1), (5, .int q.2.1), (4, .int r6), (0, .ref (kad K 0)), (1, .int a1)] []) (fun q x h1 ihL1 ihR1 => ?_) big _ g30
        obtain ⟨s12, x13, x14, x15⟩ := q
        replace h1 : X10_next_b49 a1 r6 s12 x13 x14 x15 = some x := h1
        unfold X10_next_b49 at h1
        show Wx LX K s12 49 [(7, .int x15), (6, .int x14), (5, .int x13), (4, .int r6), (0, .ref (kad K 0)), (1, .int a1)] []
        refine x_iload C 0 dX10_next_49 rfl ?_
        refine x_bipush (v := 12) C dX10_next_51 rfl ?_
        refine x_icmpgt C 100 dX10_next_53 (by decide) (fun c20 => ?_) (fun c20 => ?_)
        · replace h1 := ob_pos c20 h1
          refine x_lv (lv' := [(6, .int x14), (5, .int x13), (0, .ref (kad K 0))]) [1, 2, 4] rfl ?_
          exact J1 _ _ _ (ihR1 _ (Option.some.inj h1).symm)
        · replace h1 := ob_neg c20 h1
          refine x_aload_n C 4 dX10_next_56 rfl ?_
          refine x_getR (j := 6) (i := 45) (q := (RX10, TX10, 18)) C (144 + 5) (iX 0 (by decide)) rfl rfl inBX10 (by decide) tw241 rfl dX10_next_57 ?_
          refine x_iload C 0 dX10_next_60 rfl ?_
          refine x_callV (ar := 1) (q := (RX2, TX2, 6)) (rest := []) C (c_X2_holds C.2.2.2.2.2.2.1 (by decide) rfl) (iX18 (by decide)) (lX18 (by decide)) rfl hy_X2_holds ⟨tw495, tw496, tw497, tw72, tw498⟩ (by decide) (by decide) rfl rfl (Nat.le_of_ble_eq_true rfl) dX10_next_62 ?_
          show Wx LX K s12 65 [(7, .int x15), (6, .int x14), (5, .int x13), (4, .int r6), (0, .ref (kad K 0)), (1, .int a1)] [.int (X2_holds s12 5 x15)]
          refine x_ifeq C 94 dX10_next_65 (by decide) (fun c23 => ?_) (fun c23 => ?_)
          · replace h1 := ob_pos c23 h1
            refine x_iinc (v := (x15 + 1)) (lv' := [(7, .int (x15 + 1)), (6, .int x14), (5, .int x13), (4, .int r6), (0, .ref (kad K 0)), (1, .int a1)]) C 0 dX10_next_94 rfl rfl (by rw [e5]; decide) rfl ?_
            refine x_goto C 49 dX10_next_97 (by decide) ?_
            refine x_lv (lv' := [(7, .int (x15 + 1)), (6, .int x14), (5, .int x13), (4, .int r6), (0, .ref (kad K 0)), (1, .int a1)]) [0, 1, 2, 3, 4, 5] rfl ?_
            exact ihL1 _ (Option.some.inj h1).symm
          · replace h1 := ob_neg c23 h1
            refine x_aload_n C 4 dX10_next_68 rfl ?_
            refine x_iload C 3 dX10_next_69 rfl ?_
            refine x_iload_n C 5 dX10_next_71 rfl ?_
            refine x_iload C 0 dX10_next_72 rfl ?_
            obtain ⟨r24, s26, g25, h1⟩ := ob_bd h1
            refine x_callV (ar := 3) (q := (RX10, TX10, 18)) (rest := []) C (c_X10_greatestPart C.2.2.2.2.2.2.1  g25) (iX 0 (by decide)) rfl rfl hy_X10_greatestPart ⟨tw650, tw652, tw25, tw63, tw653⟩ (by decide) (by decide) rfl rfl (Nat.le_of_ble_eq_true rfl) dX10_next_74 ?_
            show Wx LX K s26 77 [(7, .int x15), (6, .int x14), (5, .int x13), (4, .int r6), (0, .ref (kad K 0)), (1, .int a1)] [.int r24]
            refine x_istore (lv' := [(8, .int r24), (7, .int x15), (6, .int x14), (5, .int x13), (4, .int r6), (0, .ref (kad K 0)), (1, .int a1)]) C dX10_next_77 (by rw [e5]; decide) rfl ?_
            refine x_iload C 0 dX10_next_79 rfl ?_
            refine x_iload C 3 dX10_next_81 rfl ?_
            refine x_icmpge C 94 dX10_next_83 (by decide) (fun c28 => ?_) (fun c28 => ?_)
            · replace h1 := ob_pos c28 h1
              refine x_iinc (v := (x15 + 1)) (lv' := [(7, .int (x15 + 1)), (8, .int r24), (6, .int x14), (5, .int x13), (4, .int r6), (0, .ref (kad K 0)), (1, .int a1)]) C 1 dX10_next_94 rfl rfl (by rw [e5]; decide) rfl ?_
              refine x_goto C 49 dX10_next_97 (by decide) ?_
              refine x_lv (lv' := [(7, .int (x15 + 1)), (6, .int x14), (5, .int x13), (4, .int r6), (0, .ref (kad K 0)), (1, .int a1)]) [0, 2, 3, 4, 5, 6] rfl ?_
              exact ihL1 _ (Option.some.inj h1).symm
            · replace h1 := ob_neg c28 h1
              refine x_iload C 0 dX10_next_86 rfl ?_
              refine x_istore (lv' := [(5, .int r24), (8, .int r24), (7, .int x15), (6, .int x14), (4, .int r6), (0, .ref (kad K 0)), (1, .int a1)]) C dX10_next_88 (by rw [e5]; decide) rfl ?_
              refine x_iload C 2 dX10_next_90 rfl ?_
              refine x_istore (lv' := [(6, .int x15), (5, .int r24), (8, .int r24), (7, .int x15), (4, .int r6), (0, .ref (kad K 0)), (1, .int a1)]) C dX10_next_92 (by rw [e5]; decide) rfl ?_
              refine x_iinc (v := (x15 + 1)) (lv' := [(7, .int (x15 + 1)), (6, .int x15), (5, .int r24), (8, .int r24), (4, .int r6), (0, .ref (kad K 0)), (1, .int a1)]) C 3 dX10_next_94 rfl rfl (by rw [e5]; decide) rfl ?_
              refine x_goto C 49 dX10_next_97 (by decide) ?_
              refine x_lv (lv' := [(7, .int (x15 + 1)), (6, .int x15), (5, .int r24), (4, .int r6), (0, .ref (kad K 0)), (1, .int a1)]) [0, 1, 2, 4, 5, 6] rfl ?_
              exact ihL1 _ (Option.some.inj h1).symm
      · replace h0 := ob_pos c11 h0
        refine x_bipush (v := (-9)) C dX10_next_36 rfl ?_
        cases h0
        exact x_iret C R dX10_next_38
  · replace h0 := ob_neg c5 h0
    refine x_iload_n C 0 dX10_next_11 rfl ?_
    cases h0
    exact x_iret C R dX10_next_12
set_option maxHeartbeats 4000000 in
set_option maxRecDepth 100000 in
theorem c_X10_duelAhead {l : Launch} {D : va_G} {ad : Nat → Nat} {cy : Nat → ClassId} (hJ : mJ LX ad) {σ τ : mS} {a1 : Int32} {a2 : Int32} {a3 : Int32} {a4 : Int32} {r : Int32}  (h0 : X10_duelAhead σ a1 a2 a3 a4 = some (r, τ)) : MetG l LX D ad cy yX10_duelAhead cX10_duelAhead 10 (some .int) 3 [.ref (ad 0), .int a1, .int a2, .int a3, .int a4] σ (some (.int r)) τ := by
  refine MetG.of hJ (by decide +kernel) [(0, .ref (ad 0)), (1, .int a1), (2, .int a2), (3, .int a3), (4, .int a4)] rfl (Nat.le_of_ble_eq_true rfl) ?_
  intro K e1 e2 e3 e4 e5 C R
  subst e1
  subst e2
  subst e3
  subst e4
  unfold X10_duelAhead at h0
  refine x_aload_n C 0 dX10_duelAhead_0 rfl ?_
  refine x_getR (j := 9) (i := 60) (q := (RX10, TX10, 18)) C 184 (iX 0 (by decide)) rfl rfl inBX10 (by decide) tw244 rfl dX10_duelAhead_1 ?_
  refine x_iload_n C 3 dX10_duelAhead_4 rfl ?_
  obtain ⟨c1, h0⟩ := ob_if h0
  refine x_aald C (iX 184 (by decide)) rfl rfl rfl (vin_in c1) dX10_duelAhead_5 ?_
  refine x_astore (lv' := [(5, .ref (kad K (144 + a3.toNatClampNeg))), (0, .ref (kad K 0)), (1, .int a1), (2, .int a2), (3, .int a3), (4, .int a4)]) C dX10_duelAhead_6 (by rw [e5]; decide) rfl ?_
  refine x_iload_n C 4 dX10_duelAhead_8 rfl ?_
  refine x_iload C 5 dX10_duelAhead_9 rfl ?_
  refine x_icmpge C 19 dX10_duelAhead_11 (by decide) (fun c3 => ?_) (fun c3 => ?_)
  · replace h0 := ob_pos c3 h0
    refine x_aload C 0 dX10_duelAhead_19 rfl ?_
    refine x_iload_n C 2 dX10_duelAhead_21 rfl ?_
    obtain ⟨r4, g5, h0⟩ := ob_bind h0
    refine x_callV (ar := 1) (q := (RX2, TX2, 6)) (rest := []) C (c_X2_worth C.2.2.2.2.2.2.1 (Nat.lt_of_lt_of_le (vin_lt c1) (by decide)) g5) (iX18 (Nat.lt_of_lt_of_le (vin_lt c1) (by decide))) (lX18 (Nat.lt_of_lt_of_le (vin_lt c1) (by decide))) rfl hy_X2_worth ⟨tw663, tw664, tw665, tw72, tw666⟩ (by decide) (by decide) rfl rfl (Nat.le_of_ble_eq_true rfl) dX10_duelAhead_22 ?_
    show Wx LX K σ 25 [(5, .ref (kad K (144 + a3.toNatClampNeg))), (0, .ref (kad K 0)), (1, .int a1), (2, .int a2), (3, .int a3), (4, .int a4)] [.int r4]
    refine x_aload C 0 dX10_duelAhead_25 rfl ?_
    refine x_iload_n C 3 dX10_duelAhead_27 rfl ?_
    obtain ⟨r6, g7, h0⟩ := ob_bind h0
    refine x_callV (ar := 1) (q := (RX2, TX2, 6)) (rest := [.int r4]) C (c_X2_worth C.2.2.2.2.2.2.1 (Nat.lt_of_lt_of_le (vin_lt c1) (by decide)) g7) (iX18 (Nat.lt_of_lt_of_le (vin_lt c1) (by decide))) (lX18 (Nat.lt_of_lt_of_le (vin_lt c1) (by decide))) rfl hy_X2_worth ⟨tw663, tw664, tw665, tw72, tw666⟩ (by decide) (by decide) rfl rfl (Nat.le_of_ble_eq_true rfl) dX10_duelAhead_28 ?_
    show Wx LX K σ 31 [(5, .ref (kad K (144 + a3.toNatClampNeg))), (0, .ref (kad K 0)), (1, .int a1), (2, .int a2), (3, .int a3), (4, .int a4)] [.int r6, .int r4]
    refine x_isub C dX10_duelAhead_31 ?_
    cases h0
    exact x_iret C R dX10_duelAhead_32
  · replace h0 := ob_neg c3 h0
    refine x_iload_n C 4 dX10_duelAhead_14 rfl ?_
    refine x_iconst (v := 4) C dX10_duelAhead_15 rfl ?_
    refine x_icmplt C 33 dX10_duelAhead_16 (by decide) (fun c9 => ?_) (fun c9 => ?_)
    · replace h0 := ob_pos c9 h0
      refine x_iload_n C 4 dX10_duelAhead_33 rfl ?_
      refine x_iconst (v := 2) C dX10_duelAhead_34 rfl ?_
      refine x_irem C dX10_duelAhead_35 (by decide) ?_
      obtain ⟨e36, g35, h0⟩ := ob_un h0
      have J37 : ∀ (v12 : Int32), v12 = e36 → Wx LX K σ 44 [(5, .ref (kad K (144 + a3.toNatClampNeg))), (0, .ref (kad K 0)), (1, .int a1), (2, .int a2), (3, .int a3), (4, .int a4)] [.int v12] := by
        intro v12 e9
        subst e9
        replace h0 := un1_l h0
        refine x_istore (lv' := [(6, .int v12), (5, .ref (kad K (144 + a3.toNatClampNeg))), (0, .ref (kad K 0)), (1, .int a1), (2, .int a2), (3, .int a3), (4, .int a4)]) C dX10_duelAhead_44 (by rw [e5]; decide) rfl ?_
        refine x_iload C 0 dX10_duelAhead_46 rfl ?_
        obtain ⟨e32, g31, h0⟩ := ob_un h0
        have J33 : ∀ (v15 : Int32), v15 = e32 → Wx LX K σ 58 [(6, .int v12), (5, .ref (kad K (144 + a3.toNatClampNeg))), (0, .ref (kad K 0)), (1, .int a1), (2, .int a2), (3, .int a3), (4, .int a4)] [.int v15] := by
          intro v15 e9
          subst e9
          replace h0 := un1_l h0
          refine x_istore (lv' := [(7, .int v15), (6, .int v12), (5, .ref (kad K (144 + a3.toNatClampNeg))), (0, .ref (kad K 0)), (1, .int a1), (2, .int a2), (3, .int a3), (4, .int a4)]) C dX10_duelAhead_58 (by rw [e5]; decide) rfl ?_
          refine x_iconst (v := 1) C dX10_duelAhead_60 rfl ?_
          refine x_istore (lv' := [(8, .int 1), (7, .int v15), (6, .int v12), (5, .ref (kad K (144 + a3.toNatClampNeg))), (0, .ref (kad K 0)), (1, .int a1), (2, .int a2), (3, .int a3), (4, .int a4)]) C dX10_duelAhead_61 (by rw [e5]; decide) rfl ?_
          obtain ⟨e29, g30, h0⟩ := ob_bind h0
          have J1 : ∀ (s19 : mS) (y20 : Int32), (s19, y20) = e29 → Wx LX K s19 138 [(7, .int y20)] [] := by
            intro s19 y20 e9
            subst e9
            replace h0 := un2_l h0
            refine x_iload C 0 dX10_duelAhead_138 rfl ?_
            cases h0
            exact x_iret C R dX10_duelAhead_140
          refine lp_G (G := fun q : mS × Int32 × Int32 => Wx LX K q.1 63 [(8, .int q.2.2), (7, .int q.2.1), (6, .int v12), (5, .ref (kad K (144 + a3.toNatClampNeg))), (0, .ref (kad K 0)), (1, .int a1), (2, .int a2), (3, .int a3), (4, .int a4)] []) (fun q x h1 ihL1 ihR1 => ?_) big _ g30
          obtain ⟨s16, x17, x18⟩ := q
          replace h1 : X10_duelAhead_b63 a1 a2 a3 s16 x17 x18 = some x := h1
          unfold X10_duelAhead_b63 at h1
          show Wx LX K s16 63 [(8, .int x18), (7, .int x17), (6, .int v12), (5, .ref (kad K (144 + a3.toNatClampNeg))), (0, .ref (kad K 0)), (1, .int a1), (2, .int a2), (3, .int a3), (4, .int a4)] []
          refine x_iload C 0 dX10_duelAhead_63 rfl ?_
          refine x_bipush (v := 12) C dX10_duelAhead_65 rfl ?_
          refine x_icmpgt C 138 dX10_duelAhead_67 (by decide) (fun c22 => ?_) (fun c22 => ?_)
          · replace h1 := ob_pos c22 h1
            refine x_lv (lv' := [(7, .int x17)]) [1] rfl ?_
            exact J1 _ _ (ihR1 _ (Option.some.inj h1).symm)
          · replace h1 := ob_neg c22 h1
            refine x_aload C 3 dX10_duelAhead_70 rfl ?_
            refine x_iload C 0 dX10_duelAhead_72 rfl ?_
            refine x_callV (ar := 1) (q := (RX2, TX2, 6)) (rest := []) C (c_X2_holds C.2.2.2.2.2.2.1 (Nat.lt_of_lt_of_le (vin_lt c1) (by decide)) rfl) (iX18 (Nat.lt_of_lt_of_le (vin_lt c1) (by decide))) (lX18 (Nat.lt_of_lt_of_le (vin_lt c1) (by decide))) rfl hy_X2_holds ⟨tw495, tw496, tw497, tw72, tw498⟩ (by decide) (by decide) rfl rfl (Nat.le_of_ble_eq_true rfl) dX10_duelAhead_74 ?_
            show Wx LX K s16 77 [(8, .int x18), (7, .int x17), (6, .int v12), (5, .ref (kad K (144 + a3.toNatClampNeg))), (0, .ref (kad K 0)), (1, .int a1), (2, .int a2), (3, .int a3), (4, .int a4)] [.int (X2_holds s16 a3.toNatClampNeg x18)]
            refine x_ifeq C 132 dX10_duelAhead_77 (by decide) (fun c25 => ?_) (fun c25 => ?_)
            · replace h1 := ob_pos c25 h1
              refine x_iinc (v := (x18 + 1)) (lv' := [(8, .int (x18 + 1)), (7, .int x17), (6, .int v12), (5, .ref (kad K (144 + a3.toNatClampNeg))), (0, .ref (kad K 0)), (1, .int a1), (2, .int a2), (3, .int a3), (4, .int a4)]) C 0 dX10_duelAhead_132 rfl rfl (by rw [e5]; decide) rfl ?_
              refine x_goto C 63 dX10_duelAhead_135 (by decide) ?_
              refine x_lv (lv' := [(8, .int (x18 + 1)), (7, .int x17), (6, .int v12), (5, .ref (kad K (144 + a3.toNatClampNeg))), (0, .ref (kad K 0)), (1, .int a1), (2, .int a2), (3, .int a3), (4, .int a4)]) [0, 1, 2, 3, 4, 5, 6, 7, 8] rfl ?_
              exact ihL1 _ (Option.some.inj h1).symm
            · replace h1 := ob_neg c25 h1
              refine x_aload_n C 4 dX10_duelAhead_80 rfl ?_
              refine x_iload_n C 7 dX10_duelAhead_81 rfl ?_
              refine x_iload C 0 dX10_duelAhead_82 rfl ?_
              refine x_iconst (v := 1) C dX10_duelAhead_84 rfl ?_
              refine x_iload_n C 5 dX10_duelAhead_85 rfl ?_
              refine x_ishl C dX10_duelAhead_86 ?_
              refine x_iconst (v := 1) C dX10_duelAhead_87 rfl ?_
              refine x_iload_n C 6 dX10_duelAhead_88 rfl ?_
              refine x_ishl C dX10_duelAhead_89 ?_
              refine x_ior C dX10_duelAhead_90 ?_
              obtain ⟨r26, s28, g27, h1⟩ := ob_bd h1
              refine x_callV (ar := 3) (q := (RX10, TX10, 18)) (rest := []) C (c_X10_stepAhead C.2.2.2.2.2.2.1  g27) (iX 0 (by decide)) rfl rfl hy_X10_stepAhead ⟨tw587, tw589, tw16, tw63, tw590⟩ (by decide) (by decide) rfl rfl (Nat.le_of_ble_eq_true rfl) dX10_duelAhead_91 ?_
              show Wx LX K s28 94 [(8, .int x18), (7, .int x17), (6, .int v12), (5, .ref (kad K (144 + a3.toNatClampNeg))), (0, .ref (kad K 0)), (1, .int a1), (2, .int a2), (3, .int a3), (4, .int a4)] [.int r26]
              refine x_pop C dX10_duelAhead_94 rfl ?_
              refine x_aload_n C 4 dX10_duelAhead_95 rfl ?_
              refine x_iload_n C 5 dX10_duelAhead_96 rfl ?_
              refine x_iload_n C 6 dX10_duelAhead_97 rfl ?_
              refine x_iload_n C 7 dX10_duelAhead_98 rfl ?_
              refine x_iconst (v := 1) C dX10_duelAhead_99 rfl ?_
              refine x_iadd C dX10_duelAhead_100 ?_
              refine x_iload C 8 dX10_duelAhead_101 rfl ?_
              cases h1
        refine x_ifeq C 56 dX10_duelAhead_48 (by decide) (fun c34 => ?_) (fun c34 => ?_)
        · replace g31 := ob_pos c34 g31
          refine x_bipush (v := 100) C dX10_duelAhead_56 rfl ?_
          refine x_lv (lv' := [(6, .int v12), (5, .ref (kad K (144 + a3.toNatClampNeg))), (0, .ref (kad K 0)), (1, .int a1), (2, .int a2), (3, .int a3), (4, .int a4)]) [0, 1, 2, 3, 4, 5, 6] rfl ?_
          exact J33 _ g31
        · replace g31 := ob_neg c34 g31
          refine x_bipush (v := (-100)) C dX10_duelAhead_51 rfl ?_
          refine x_goto C 58 dX10_duelAhead_53 (by decide) ?_
          refine x_lv (lv' := [(6, .int v12), (5, .ref (kad K (144 + a3.toNatClampNeg))), (0, .ref (kad K 0)), (1, .int a1), (2, .int a2), (3, .int a3), (4, .int a4)]) [0, 1, 2, 3, 4, 5, 6] rfl ?_
          exact J33 _ g31
      refine x_ifne C 43 dX10_duelAhead_36 (by decide) (fun c38 => ?_) (fun c38 => ?_)
      · replace g35 := ob_neg c38 g35
        refine x_iconst (v := 0) C dX10_duelAhead_43 rfl ?_
        refine x_lv (lv' := [(5, .ref (kad K (144 + a3.toNatClampNeg))), (0, .ref (kad K 0)), (1, .int a1), (2, .int a2), (3, .int a3), (4, .int a4)]) [0, 1, 2, 3, 4, 5] rfl ?_
        exact J37 _ g35
      · replace g35 := ob_pos c38 g35
        refine x_iconst (v := 1) C dX10_duelAhead_39 rfl ?_
        refine x_goto C 44 dX10_duelAhead_40 (by decide) ?_
        refine x_lv (lv' := [(5, .ref (kad K (144 + a3.toNatClampNeg))), (0, .ref (kad K 0)), (1, .int a1), (2, .int a2), (3, .int a3), (4, .int a4)]) [0, 1, 2, 3, 4, 5] rfl ?_
        exact J37 _ g35
    · replace h0 := ob_neg c9 h0
      refine x_aload C 0 dX10_duelAhead_19 rfl ?_
      refine x_iload_n C 2 dX10_duelAhead_21 rfl ?_
      obtain ⟨r39, g40, h0⟩ := ob_bind h0
      refine x_callV (ar := 1) (q := (RX2, TX2, 6)) (rest := []) C (c_X2_worth C.2.2.2.2.2.2.1 (Nat.lt_of_lt_of_le (vin_lt c1) (by decide)) g40) (iX18 (Nat.lt_of_lt_of_le (vin_lt c1) (by decide))) (lX18 (Nat.lt_of_lt_of_le (vin_lt c1) (by decide))) rfl hy_X2_worth ⟨tw663, tw664, tw665, tw72, tw666⟩ (by decide) (by decide) rfl rfl (Nat.le_of_ble_eq_true rfl) dX10_duelAhead_22 ?_
      show Wx LX K σ 25 [(5, .ref (kad K (144 + a3.toNatClampNeg))), (0, .ref (kad K 0)), (1, .int a1), (2, .int a2), (3, .int a3), (4, .int a4)] [.int r39]
      refine x_aload C 0 dX10_duelAhead_25 rfl ?_
      refine x_iload_n C 3 dX10_duelAhead_27 rfl ?_
      obtain ⟨r41, g42, h0⟩ := ob_bind h0
      refine x_callV (ar := 1) (q := (RX2, TX2, 6)) (rest := [.int r39]) C (c_X2_worth C.2.2.2.2.2.2.1 (Nat.lt_of_lt_of_le (vin_lt c1) (by decide)) g42) (iX18 (Nat.lt_of_lt_of_le (vin_lt c1) (by decide))) (lX18 (Nat.lt_of_lt_of_le (vin_lt c1) (by decide))) rfl hy_X2_worth ⟨tw663, tw664, tw665, tw72, tw666⟩ (by decide) (by decide) rfl rfl (Nat.le_of_ble_eq_true rfl) dX10_duelAhead_28 ?_
      show Wx LX K σ 31 [(5, .ref (kad K (144 + a3.toNatClampNeg))), (0, .ref (kad K 0)), (1, .int a1), (2, .int a2), (3, .int a3), (4, .int a4)] [.int r41, .int r39]
      refine x_isub C dX10_duelAhead_31 ?_
      cases h0
      exact x_iret C R dX10_duelAhead_32
set_option maxHeartbeats 4000000 in
set_option maxRecDepth 100000 in
theorem c_X10_duel {l : Launch} {D : va_G} {ad : Nat → Nat} {cy : Nat → ClassId} (hJ : mJ LX ad) {σ τ : mS} {a1 : Int32} {a2 : Int32} {a3 : Int32} {r : Int32}  (h0 : X10_duel σ a1 a2 a3 = some (r, τ)) : MetG l LX D ad cy yX10_duel cX10_duel 4 (some .int) 4 [.ref (ad 0), .int a1, .int a2, .int a3] σ (some (.int r)) τ := by
  refine MetG.of hJ (by decide +kernel) [(0, .ref (ad 0)), (1, .int a1), (2, .int a2), (3, .int a3)] rfl (Nat.le_of_ble_eq_true rfl) ?_
  intro K e1 e2 e3 e4 e5 C R
  subst e1
  subst e2
  subst e3
  subst e4
  unfold X10_duel at h0
  refine x_aload_n C 0 dX10_duel_0 rfl ?_
  refine x_iload_n C 1 dX10_duel_1 rfl ?_
  refine x_callV (ar := 1) (q := (RX10, TX10, 18)) (rest := []) C (c_X10_isPlayer C.2.2.2.2.2.2.1  rfl) (iX 0 (by decide)) rfl rfl hy_X10_isPlayer ⟨tw390, tw392, tw8, tw63, tw393⟩ (by decide) (by decide) rfl rfl (Nat.le_of_ble_eq_true rfl) dX10_duel_2 ?_
  show Wx LX K σ 5 [(0, .ref (kad K 0)), (1, .int a1), (2, .int a2), (3, .int a3)] [.int (X10_isPlayer σ a1)]
  refine x_ifeq C 30 dX10_duel_5 (by decide) (fun c3 => ?_) (fun c3 => ?_)
  · replace h0 := ob_pos c3 h0
    refine x_iconst (v := (-1)) C dX10_duel_30 rfl ?_
    cases h0
    exact x_iret C R dX10_duel_31
  · replace h0 := ob_neg c3 h0
    refine x_aload_n C 0 dX10_duel_8 rfl ?_
    refine x_iload_n C 2 dX10_duel_9 rfl ?_
    refine x_callV (ar := 1) (q := (RX10, TX10, 18)) (rest := []) C (c_X10_isPlayer C.2.2.2.2.2.2.1  rfl) (iX 0 (by decide)) rfl rfl hy_X10_isPlayer ⟨tw390, tw392, tw8, tw63, tw393⟩ (by decide) (by decide) rfl rfl (Nat.le_of_ble_eq_true rfl) dX10_duel_10 ?_
    show Wx LX K σ 13 [(0, .ref (kad K 0)), (1, .int a1), (2, .int a2), (3, .int a3)] [.int (X10_isPlayer σ a2)]
    refine x_ifeq C 30 dX10_duel_13 (by decide) (fun c6 => ?_) (fun c6 => ?_)
    · replace h0 := ob_pos c6 h0
      refine x_iconst (v := (-1)) C dX10_duel_30 rfl ?_
      cases h0
      exact x_iret C R dX10_duel_31
    · replace h0 := ob_neg c6 h0
      refine x_iload_n C 1 dX10_duel_16 rfl ?_
      refine x_iload_n C 2 dX10_duel_17 rfl ?_
      refine x_icmpeq C 30 dX10_duel_18 (by decide) (fun c8 => ?_) (fun c8 => ?_)
      · replace h0 := ob_pos c8 h0
        refine x_iconst (v := (-1)) C dX10_duel_30 rfl ?_
        cases h0
        exact x_iret C R dX10_duel_31
      · replace h0 := ob_neg c8 h0
        refine x_iload_n C 3 dX10_duel_21 rfl ?_
        refine x_iflt C 30 dX10_duel_22 (by decide) (fun c10 => ?_) (fun c10 => ?_)
        · replace h0 := ob_pos c10 h0
          refine x_iconst (v := (-1)) C dX10_duel_30 rfl ?_
          cases h0
          exact x_iret C R dX10_duel_31
        · replace h0 := ob_neg c10 h0
          refine x_iload_n C 3 dX10_duel_25 rfl ?_
          refine x_iconst (v := 2) C dX10_duel_26 rfl ?_
          refine x_icmple C 32 dX10_duel_27 (by decide) (fun c12 => ?_) (fun c12 => ?_)
          · replace h0 := ob_pos c12 h0
            refine x_aload_n C 0 dX10_duel_32 rfl ?_
            refine x_aload_n C 0 dX10_duel_33 rfl ?_
            refine x_iload_n C 1 dX10_duel_34 rfl ?_
            refine x_iload_n C 2 dX10_duel_35 rfl ?_
            refine x_iconst (v := 0) C dX10_duel_36 rfl ?_
            refine x_aload_n C 0 dX10_duel_37 rfl ?_
            refine x_iconst (v := 2) C dX10_duel_38 rfl ?_
            refine x_iload_n C 3 dX10_duel_39 rfl ?_
            refine x_imul C dX10_duel_40 ?_
            obtain ⟨r13, s15, g14, h0⟩ := ob_bd h0
            refine x_callV (ar := 1) (q := (RX10, TX10, 18)) (rest := [.int 0, .int a2, .int a1, .ref (kad K 0), .ref (kad K 0)]) C (c_X10_callsAhead C.2.2.2.2.2.2.1  g14) (iX 0 (by decide)) rfl rfl hy_X10_callsAhead ⟨tw596, tw598, tw17, tw63, tw599⟩ (by decide) (by decide) rfl rfl (Nat.le_of_ble_eq_true rfl) dX10_duel_41 ?_
            show Wx LX K s15 44 [(0, .ref (kad K 0)), (1, .int a1), (2, .int a2), (3, .int a3)] [.int r13, .int 0, .int a2, .int a1, .ref (kad K 0), .ref (kad K 0)]
            obtain ⟨r16, s18, g17, h0⟩ := ob_bd h0
            refine x_callV (ar := 4) (q := (RX10, TX10, 18)) (rest := [.ref (kad K 0)]) C (c_X10_duelAhead C.2.2.2.2.2.2.1  g17) (iX 0 (by decide)) rfl rfl hy_X10_duelAhead ⟨tw659, tw661, tw26, tw63, tw662⟩ (by decide) (by decide) rfl rfl (Nat.le_of_ble_eq_true rfl) dX10_duel_44 ?_
            show Wx LX K s18 47 [(0, .ref (kad K 0)), (1, .int a1), (2, .int a2), (3, .int a3)] [.int r16, .ref (kad K 0)]
            refine x_putI (j := 13) (i := 99) (q := (RX10, TX10, 18)) C tyX10 tyX10_ok nmX10 (iX 0 (by decide)) rfl rfl inBX10 (by decide) tw248 rfl (by decide +kernel) rfl dX10_duel_47 ?_
            refine x_iconst (v := 1) C dX10_duel_50 rfl ?_
            cases h0
            exact x_iret C R dX10_duel_51
          · replace h0 := ob_neg c12 h0
            refine x_iconst (v := (-1)) C dX10_duel_30 rfl ?_
            cases h0
            exact x_iret C R dX10_duel_31
set_option maxHeartbeats 4000000 in
set_option maxRecDepth 100000 in
theorem c_X10_sumAhead {l : Launch} {D : va_G} {ad : Nat → Nat} {cy : Nat → ClassId} (hJ : mJ LX ad) {σ τ : mS} {a1 : Int32} {a2 : Int32} {a3 : Int32} {a4 : Int32} {r : Int64}  (h0 : X10_sumAhead σ a1 a2 a3 a4 = some (r, τ)) : MetG l LX D ad cy yX10_sumAhead cX10_sumAhead 9 (some .long) 3 [.ref (ad 0), .int a1, .int a2, .int a3, .int a4] σ (some (.long r)) τ := by
  refine MetG.of hJ (by decide +kernel) [(0, .ref (ad 0)), (1, .int a1), (2, .int a2), (3, .int a3), (4, .int a4)] rfl (Nat.le_of_ble_eq_true rfl) ?_
  intro K e1 e2 e3 e4 e5 C R
  subst e1
  subst e2
  subst e3
  subst e4
  unfold X10_sumAhead at h0
  refine x_aload_n C 0 dX10_sumAhead_0 rfl ?_
  refine x_getR (j := 9) (i := 60) (q := (RX10, TX10, 18)) C 184 (iX 0 (by decide)) rfl rfl inBX10 (by decide) tw244 rfl dX10_sumAhead_1 ?_
  refine x_iload_n C 3 dX10_sumAhead_4 rfl ?_
  obtain ⟨c1, h0⟩ := ob_if h0
  refine x_aald C (iX 184 (by decide)) rfl rfl rfl (vin_in c1) dX10_sumAhead_5 ?_
  refine x_astore (lv' := [(5, .ref (kad K (144 + a3.toNatClampNeg))), (0, .ref (kad K 0)), (1, .int a1), (2, .int a2), (3, .int a3), (4, .int a4)]) C dX10_sumAhead_6 (by rw [e5]; decide) rfl ?_
  refine x_iload_n C 4 dX10_sumAhead_8 rfl ?_
  refine x_iload C 5 dX10_sumAhead_9 rfl ?_
  refine x_icmpge C 19 dX10_sumAhead_11 (by decide) (fun c3 => ?_) (fun c3 => ?_)
  · replace h0 := ob_pos c3 h0
    refine x_iload_n C 3 dX10_sumAhead_19 rfl ?_
    refine x_ifeq C 36 dX10_sumAhead_20 (by decide) (fun c5 => ?_) (fun c5 => ?_)
    · replace h0 := ob_pos c5 h0
      refine x_aload C 0 dX10_sumAhead_36 rfl ?_
      refine x_getRN (j := 1) (i := 156) (q := (RX2, TX2, 6)) (host := "CalledNumbers") C (152 + a3.toNatClampNeg) (iX18 (Nat.lt_of_lt_of_le (vin_lt c1) (by decide))) (lX18 (Nat.lt_of_lt_of_le (vin_lt c1) (by decide))) rfl inBX2 (by decide) twN193 rfl dX10_sumAhead_38 ?_
      refine x_iload_n C 2 dX10_sumAhead_41 rfl ?_
      obtain ⟨c6, h0⟩ := ob_if h0
      refine x_iald C (iX19 (Nat.lt_of_lt_of_le (vin_lt c1) (by decide))) (lX19 (Nat.lt_of_lt_of_le (vin_lt c1) (by decide))) (vin_in c6) dX10_sumAhead_42 ?_
      refine x_callS (ar := 1) (rest := []) C (c_J6_bitCount_0f7a4 C.2.2.2.2.2.2.1  rfl) hy_J6_bitCount_0f7a4 ⟨tw591, tw417, tw77, tw418⟩ (by decide) (by decide) rfl rfl (Nat.le_of_ble_eq_true rfl) dX10_sumAhead_43 ?_
      show Wx LX K σ 46 [(5, .ref (kad K (144 + a3.toNatClampNeg))), (0, .ref (kad K 0)), (1, .int a1), (2, .int a2), (3, .int a3), (4, .int a4)] [.int (J6_bitCount_0f7a4 (σ.1 (152 + a3.toNatClampNeg) a1.toNatClampNeg))]
      refine x_i2l C dX10_sumAhead_46 ?_
      cases h0
      exact x_lret C R dX10_sumAhead_47
    · replace h0 := ob_neg c5 h0
      refine x_aload C 0 dX10_sumAhead_23 rfl ?_
      refine x_getIN (j := 2) (i := 223) (q := (RX2, TX2, 6)) (host := "CalledNumbers") C (iX18 (Nat.lt_of_lt_of_le (vin_lt c1) (by decide))) (lX18 (Nat.lt_of_lt_of_le (vin_lt c1) (by decide))) rfl inBX2 (by decide) twN195 rfl dX10_sumAhead_25 ?_
      refine x_iload_n C 2 dX10_sumAhead_28 rfl ?_
      refine x_ishr C dX10_sumAhead_29 ?_
      refine x_iconst (v := 1) C dX10_sumAhead_30 rfl ?_
      refine x_iand C dX10_sumAhead_31 ?_
      refine x_i2l C dX10_sumAhead_32 ?_
      refine x_goto C 47 dX10_sumAhead_33 (by decide) ?_
      cases h0
      exact x_lret C R dX10_sumAhead_47
  · replace h0 := ob_neg c3 h0
    refine x_iload_n C 4 dX10_sumAhead_14 rfl ?_
    refine x_iconst (v := 4) C dX10_sumAhead_15 rfl ?_
    refine x_icmplt C 48 dX10_sumAhead_16 (by decide) (fun c9 => ?_) (fun c9 => ?_)
    · replace h0 := ob_pos c9 h0
      refine x_lconst (v := 0) C dX10_sumAhead_48 rfl ?_
      refine x_lstore (lv' := [(6, .long 0), (5, .ref (kad K (144 + a3.toNatClampNeg))), (0, .ref (kad K 0)), (1, .int a1), (2, .int a2), (3, .int a3), (4, .int a4)]) C dX10_sumAhead_49 (by rw [e5]; decide) rfl ?_
      refine x_iconst (v := 1) C dX10_sumAhead_51 rfl ?_
      refine x_istore (lv' := [(8, .int 1), (6, .long 0), (5, .ref (kad K (144 + a3.toNatClampNeg))), (0, .ref (kad K 0)), (1, .int a1), (2, .int a2), (3, .int a3), (4, .int a4)]) C dX10_sumAhead_52 (by rw [e5]; decide) rfl ?_
      obtain ⟨e23, g24, h0⟩ := ob_bind h0
      have J1 : ∀ (s13 : mS) (y14 : Int64), (s13, y14) = e23 → Wx LX K s13 104 [(6, .long y14)] [] := by
        intro s13 y14 e9
        subst e9
        replace h0 := un2_l h0
        refine x_lload C 0 dX10_sumAhead_104 rfl ?_
        cases h0
        exact x_lret C R dX10_sumAhead_106
      refine lp_G (G := fun q : mS × Int64 × Int32 => Wx LX K q.1 54 [(8, .int q.2.2), (6, .long q.2.1), (5, .ref (kad K (144 + a3.toNatClampNeg))), (0, .ref (kad K 0)), (1, .int a1), (2, .int a2), (3, .int a3), (4, .int a4)] []) (fun q x h1 ihL1 ihR1 => ?_) big _ g24
      obtain ⟨s10, x11, x12⟩ := q
      replace h1 : X10_sumAhead_b54 a1 a3 s10 x11 x12 = some x := h1
      unfold X10_sumAhead_b54 at h1
      show Wx LX K s10 54 [(8, .int x12), (6, .long x11), (5, .ref (kad K (144 + a3.toNatClampNeg))), (0, .ref (kad K 0)), (1, .int a1), (2, .int a2), (3, .int a3), (4, .int a4)] []
      refine x_iload C 0 dX10_sumAhead_54 rfl ?_
      refine x_bipush (v := 12) C dX10_sumAhead_56 rfl ?_
      refine x_icmpgt C 104 dX10_sumAhead_58 (by decide) (fun c16 => ?_) (fun c16 => ?_)
      · replace h1 := ob_pos c16 h1
        refine x_lv (lv' := [(6, .long x11)]) [1] rfl ?_
        exact J1 _ _ (ihR1 _ (Option.some.inj h1).symm)
      · replace h1 := ob_neg c16 h1
        refine x_aload C 2 dX10_sumAhead_61 rfl ?_
        refine x_iload C 0 dX10_sumAhead_63 rfl ?_
        refine x_callV (ar := 1) (q := (RX2, TX2, 6)) (rest := []) C (c_X2_holds C.2.2.2.2.2.2.1 (Nat.lt_of_lt_of_le (vin_lt c1) (by decide)) rfl) (iX18 (Nat.lt_of_lt_of_le (vin_lt c1) (by decide))) (lX18 (Nat.lt_of_lt_of_le (vin_lt c1) (by decide))) rfl hy_X2_holds ⟨tw495, tw496, tw497, tw72, tw498⟩ (by decide) (by decide) rfl rfl (Nat.le_of_ble_eq_true rfl) dX10_sumAhead_65 ?_
        show Wx LX K s10 68 [(8, .int x12), (6, .long x11), (5, .ref (kad K (144 + a3.toNatClampNeg))), (0, .ref (kad K 0)), (1, .int a1), (2, .int a2), (3, .int a3), (4, .int a4)] [.int (X2_holds s10 a3.toNatClampNeg x12)]
        refine x_ifeq C 98 dX10_sumAhead_68 (by decide) (fun c19 => ?_) (fun c19 => ?_)
        · replace h1 := ob_pos c19 h1
          refine x_iinc (v := (x12 + 1)) (lv' := [(8, .int (x12 + 1)), (6, .long x11), (5, .ref (kad K (144 + a3.toNatClampNeg))), (0, .ref (kad K 0)), (1, .int a1), (2, .int a2), (3, .int a3), (4, .int a4)]) C 0 dX10_sumAhead_98 rfl rfl (by rw [e5]; decide) rfl ?_
          refine x_goto C 54 dX10_sumAhead_101 (by decide) ?_
          refine x_lv (lv' := [(8, .int (x12 + 1)), (6, .long x11), (5, .ref (kad K (144 + a3.toNatClampNeg))), (0, .ref (kad K 0)), (1, .int a1), (2, .int a2), (3, .int a3), (4, .int a4)]) [0, 1, 2, 3, 4, 5, 6, 7] rfl ?_
          exact ihL1 _ (Option.some.inj h1).symm
        · replace h1 := ob_neg c19 h1
          refine x_aload_n C 3 dX10_sumAhead_71 rfl ?_
          refine x_iload_n C 6 dX10_sumAhead_72 rfl ?_
          refine x_iload C 0 dX10_sumAhead_73 rfl ?_
          refine x_iconst (v := 1) C dX10_sumAhead_75 rfl ?_
          refine x_iload_n C 4 dX10_sumAhead_76 rfl ?_
          refine x_ishl C dX10_sumAhead_77 ?_
          obtain ⟨r20, s22, g21, h1⟩ := ob_bd h1
          refine x_callV (ar := 3) (q := (RX10, TX10, 18)) (rest := []) C (c_X10_stepAhead C.2.2.2.2.2.2.1  g21) (iX 0 (by decide)) rfl rfl hy_X10_stepAhead ⟨tw587, tw589, tw16, tw63, tw590⟩ (by decide) (by decide) rfl rfl (Nat.le_of_ble_eq_true rfl) dX10_sumAhead_78 ?_
          show Wx LX K s22 81 [(8, .int x12), (6, .long x11), (5, .ref (kad K (144 + a3.toNatClampNeg))), (0, .ref (kad K 0)), (1, .int a1), (2, .int a2), (3, .int a3), (4, .int a4)] [.int r20]
          refine x_pop C dX10_sumAhead_81 rfl ?_
          refine x_lload C 1 dX10_sumAhead_82 rfl ?_
          refine x_aload_n C 3 dX10_sumAhead_84 rfl ?_
          refine x_iload_n C 4 dX10_sumAhead_85 rfl ?_
          refine x_iload_n C 5 dX10_sumAhead_86 rfl ?_
          refine x_iload_n C 6 dX10_sumAhead_87 rfl ?_
          refine x_iconst (v := 1) C dX10_sumAhead_88 rfl ?_
          refine x_iadd C dX10_sumAhead_89 ?_
          refine x_iload C 7 dX10_sumAhead_90 rfl ?_
          cases h1
    · replace h0 := ob_neg c9 h0
      refine x_iload_n C 3 dX10_sumAhead_19 rfl ?_
      refine x_ifeq C 36 dX10_sumAhead_20 (by decide) (fun c26 => ?_) (fun c26 => ?_)
      · replace h0 := ob_pos c26 h0
        refine x_aload C 0 dX10_sumAhead_36 rfl ?_
        refine x_getRN (j := 1) (i := 156) (q := (RX2, TX2, 6)) (host := "CalledNumbers") C (152 + a3.toNatClampNeg) (iX18 (Nat.lt_of_lt_of_le (vin_lt c1) (by decide))) (lX18 (Nat.lt_of_lt_of_le (vin_lt c1) (by decide))) rfl inBX2 (by decide) twN193 rfl dX10_sumAhead_38 ?_
        refine x_iload_n C 2 dX10_sumAhead_41 rfl ?_
        obtain ⟨c27, h0⟩ := ob_if h0
        refine x_iald C (iX19 (Nat.lt_of_lt_of_le (vin_lt c1) (by decide))) (lX19 (Nat.lt_of_lt_of_le (vin_lt c1) (by decide))) (vin_in c27) dX10_sumAhead_42 ?_
        refine x_callS (ar := 1) (rest := []) C (c_J6_bitCount_0f7a4 C.2.2.2.2.2.2.1  rfl) hy_J6_bitCount_0f7a4 ⟨tw591, tw417, tw77, tw418⟩ (by decide) (by decide) rfl rfl (Nat.le_of_ble_eq_true rfl) dX10_sumAhead_43 ?_
        show Wx LX K σ 46 [(5, .ref (kad K (144 + a3.toNatClampNeg))), (0, .ref (kad K 0)), (1, .int a1), (2, .int a2), (3, .int a3), (4, .int a4)] [.int (J6_bitCount_0f7a4 (σ.1 (152 + a3.toNatClampNeg) a1.toNatClampNeg))]
        refine x_i2l C dX10_sumAhead_46 ?_
        cases h0
        exact x_lret C R dX10_sumAhead_47
      · replace h0 := ob_neg c26 h0
        refine x_aload C 0 dX10_sumAhead_23 rfl ?_
        refine x_getIN (j := 2) (i := 223) (q := (RX2, TX2, 6)) (host := "CalledNumbers") C (iX18 (Nat.lt_of_lt_of_le (vin_lt c1) (by decide))) (lX18 (Nat.lt_of_lt_of_le (vin_lt c1) (by decide))) rfl inBX2 (by decide) twN195 rfl dX10_sumAhead_25 ?_
        refine x_iload_n C 2 dX10_sumAhead_28 rfl ?_
        refine x_ishr C dX10_sumAhead_29 ?_
        refine x_iconst (v := 1) C dX10_sumAhead_30 rfl ?_
        refine x_iand C dX10_sumAhead_31 ?_
        refine x_i2l C dX10_sumAhead_32 ?_
        refine x_goto C 47 dX10_sumAhead_33 (by decide) ?_
        cases h0
        exact x_lret C R dX10_sumAhead_47
set_option maxHeartbeats 4000000 in
set_option maxRecDepth 100000 in
theorem c_X10_orders {l : Launch} {D : va_G} {ad : Nat → Nat} {cy : Nat → ClassId} (hJ : mJ LX ad) {σ : mS} {a1 : Int32} {r : Int64}  (h0 : X10_orders σ a1 = some r) : MetG l LX D ad cy yX10_orders cX10_orders 6 (some .long) 1 [.ref (ad 0), .int a1] σ (some (.long r)) σ := by
  refine MetG.of hJ (by decide +kernel) [(0, .ref (ad 0)), (1, .int a1)] rfl (Nat.le_of_ble_eq_true rfl) ?_
  intro K e1 e2 e3 e4 e5 C R
  subst e1
  subst e2
  subst e3
  subst e4
  unfold X10_orders at h0
  refine x_lconst (v := 1) C dX10_orders_0 rfl ?_
  refine x_lstore_n (lv' := [(2, .long 1), (0, .ref (kad K 0)), (1, .int a1)]) C dX10_orders_1 (by rw [e5]; decide) rfl ?_
  refine x_aload_n C 1 dX10_orders_2 rfl ?_
  refine x_getR (j := 6) (i := 45) (q := (RX10, TX10, 18)) C (144 + 5) (iX 0 (by decide)) rfl rfl inBX10 (by decide) tw241 rfl dX10_orders_3 ?_
  refine x_getIN (j := 3) (i := 262) (q := (RX2, TX2, 6)) (host := "CalledNumbers") C (iX18 (by decide)) (lX18 (by decide)) rfl inBX2 (by decide) twN197 rfl dX10_orders_6 ?_
  refine x_callS (ar := 1) (rest := []) C (c_J6_bitCount_0f7a4 C.2.2.2.2.2.2.1  rfl) hy_J6_bitCount_0f7a4 ⟨tw591, tw417, tw77, tw418⟩ (by decide) (by decide) rfl rfl (Nat.le_of_ble_eq_true rfl) dX10_orders_9 ?_
  show Wx LX K σ 12 [(2, .long 1), (0, .ref (kad K 0)), (1, .int a1)] [.int (J6_bitCount_0f7a4 (σ.1 (144 + 5) 3))]
  refine x_istore (lv' := [(4, .int (J6_bitCount_0f7a4 (σ.1 (144 + 5) 3))), (2, .long 1), (0, .ref (kad K 0)), (1, .int a1)]) C dX10_orders_12 (by rw [e5]; decide) rfl ?_
  refine x_iconst (v := 0) C dX10_orders_14 rfl ?_
  refine x_istore (lv' := [(5, .int 0), (4, .int (J6_bitCount_0f7a4 (σ.1 (144 + 5) 3))), (2, .long 1), (0, .ref (kad K 0)), (1, .int a1)]) C dX10_orders_15 (by rw [e5]; decide) rfl ?_
  obtain ⟨e7, g8, h0⟩ := ob_bind h0
  have J1 : ∀ (y4 : Int64), y4 = e7 → Wx LX K σ 38 [(2, .long y4)] [] := by
    intro y4 e9
    subst e9
    replace h0 := un1_l h0
    refine x_lload_n C 0 dX10_orders_38 rfl ?_
    cases h0
    exact x_lret C R dX10_orders_39
  refine x_lv (lv' := [(5, .int 0), (4, .int (J6_bitCount_0f7a4 (σ.1 (144 + 5) 3))), (2, .long 1), (1, .int a1)]) [0, 1, 2, 4] rfl ?_
  refine lp_G (G := fun q : Int64 × Int32 => Wx LX K σ 17 [(5, .int q.2), (4, .int (J6_bitCount_0f7a4 (σ.1 (144 + 5) 3))), (2, .long q.1), (1, .int a1)] []) (fun q x h1 ihL1 ihR1 => ?_) big _ g8
  obtain ⟨x2, x3⟩ := q
  replace h1 : X10_orders_b17 σ a1 x2 x3 = some x := h1
  unfold X10_orders_b17 at h1
  show Wx LX K σ 17 [(5, .int x3), (4, .int (J6_bitCount_0f7a4 (σ.1 (144 + 5) 3))), (2, .long x2), (1, .int a1)] []
  refine x_iload C 0 dX10_orders_17 rfl ?_
  refine x_iload_n C 3 dX10_orders_19 rfl ?_
  refine x_icmpge C 38 dX10_orders_20 (by decide) (fun c6 => ?_) (fun c6 => ?_)
  · replace h1 := ob_pos c6 h1
    refine x_lv (lv' := [(2, .long x2)]) [2] rfl ?_
    exact J1 _ (ihR1 _ (Option.some.inj h1).symm)
  · replace h1 := ob_neg c6 h1
    refine x_lload_n C 2 dX10_orders_23 rfl ?_
    refine x_iload C 1 dX10_orders_24 rfl ?_
    refine x_iload C 0 dX10_orders_26 rfl ?_
    refine x_isub C dX10_orders_28 ?_
    refine x_i2l C dX10_orders_29 ?_
    refine x_lmul C dX10_orders_30 ?_
    refine x_lstore_n (lv' := [(2, .long (x2 * (((J6_bitCount_0f7a4 (σ.1 (144 + 5) 3)) - x3)).toInt64)), (5, .int x3), (4, .int (J6_bitCount_0f7a4 (σ.1 (144 + 5) 3))), (1, .int a1)]) C dX10_orders_31 (by rw [e5]; decide) rfl ?_
    refine x_iinc (v := (x3 + 1)) (lv' := [(5, .int (x3 + 1)), (2, .long (x2 * (((J6_bitCount_0f7a4 (σ.1 (144 + 5) 3)) - x3)).toInt64)), (4, .int (J6_bitCount_0f7a4 (σ.1 (144 + 5) 3))), (1, .int a1)]) C 1 dX10_orders_32 rfl rfl (by rw [e5]; decide) rfl ?_
    refine x_goto C 17 dX10_orders_35 (by decide) ?_
    refine x_lv (lv' := [(5, .int (x3 + 1)), (4, .int (J6_bitCount_0f7a4 (σ.1 (144 + 5) 3))), (2, .long (x2 * (((J6_bitCount_0f7a4 (σ.1 (144 + 5) 3)) - x3)).toInt64)), (1, .int a1)]) [0, 2, 1, 3] rfl ?_
    exact ihL1 _ (Option.some.inj h1).symm
set_option maxHeartbeats 4000000 in
set_option maxRecDepth 100000 in
theorem c_X10_commonDivisor {l : Launch} {D : va_G} {ad : Nat → Nat} {cy : Nat → ClassId} (hJ : mJ LX ad) {σ : mS} {a1 : Int64} {a2 : Int64} {r : Int64}  (h0 : X10_commonDivisor a1 a2 = some r) : MetG l LX D ad cy yX10_commonDivisor cX10_commonDivisor 11 (some .long) 0 [.long a1, .long a2] σ (some (.long r)) σ := by
  refine MetG.of hJ (by decide +kernel) [(0, .long a1), (2, .long a2)] rfl (Nat.le_of_ble_eq_true rfl) ?_
  intro K e1 e2 e3 e4 e5 C R
  subst e1
  subst e2
  subst e3
  subst e4
  unfold X10_commonDivisor at h0
  refine x_lload_n C 0 dX10_commonDivisor_0 rfl ?_
  refine x_lstore (lv' := [(4, .long a1), (0, .long a1), (2, .long a2)]) C dX10_commonDivisor_1 (by rw [e5]; decide) rfl ?_
  refine x_lload_n C 2 dX10_commonDivisor_3 rfl ?_
  refine x_lstore (lv' := [(6, .long a2), (4, .long a1), (0, .long a1), (2, .long a2)]) C dX10_commonDivisor_4 (by rw [e5]; decide) rfl ?_
  refine x_iconst (v := 0) C dX10_commonDivisor_6 rfl ?_
  refine x_istore (lv' := [(8, .int 0), (6, .long a2), (4, .long a1), (0, .long a1), (2, .long a2)]) C dX10_commonDivisor_7 (by rw [e5]; decide) rfl ?_
  obtain ⟨e10, g11, h0⟩ := ob_bind h0
  have J1 : ∀ (y4 : Int64), y4 = e10 → Wx LX K σ 44 [(4, .long y4)] [] := by
    intro y4 e9
    subst e9
    replace h0 := un1_l h0
    refine x_lload C 0 dX10_commonDivisor_44 rfl ?_
    cases h0
    exact x_lret C R dX10_commonDivisor_46
  refine x_lv (lv' := [(8, .int 0), (6, .long a2), (4, .long a1)]) [0, 1, 2] rfl ?_
  refine lp_G (G := fun q : Int64 × Int64 × Int32 => Wx LX K σ 9 [(8, .int q.2.2), (6, .long q.2.1), (4, .long q.1)] []) (fun q x h1 ihL1 ihR1 => ?_) big _ g11
  obtain ⟨x1, x2, x3⟩ := q
  replace h1 : X10_commonDivisor_b9 x1 x2 x3 = some x := h1
  unfold X10_commonDivisor_b9 at h1
  show Wx LX K σ 9 [(8, .int x3), (6, .long x2), (4, .long x1)] []
  refine x_iload C 0 dX10_commonDivisor_9 rfl ?_
  refine x_bipush (v := 100) C dX10_commonDivisor_11 rfl ?_
  refine x_icmpge C 44 dX10_commonDivisor_13 (by decide) (fun c6 => ?_) (fun c6 => ?_)
  · replace h1 := ob_pos c6 h1
    refine x_lv (lv' := [(4, .long x1)]) [2] rfl ?_
    exact J1 _ (ihR1 _ (Option.some.inj h1).symm)
  · replace h1 := ob_neg c6 h1
    refine x_lload C 1 dX10_commonDivisor_16 rfl ?_
    refine x_lconst (v := 0) C dX10_commonDivisor_18 rfl ?_
    refine x_lcmpeq C 44 dX10_commonDivisor_19 dX10_commonDivisor_20 (by decide) (fun c8 => ?_) (fun c8 => ?_)
    · replace h1 := ob_pos c8 h1
      refine x_lv (lv' := [(4, .long x1)]) [2] rfl ?_
      exact J1 _ (ihR1 _ (Option.some.inj h1).symm)
    · replace h1 := ob_neg c8 h1
      refine x_lload C 2 dX10_commonDivisor_23 rfl ?_
      refine x_lload C 1 dX10_commonDivisor_25 rfl ?_
      obtain ⟨c9, h1⟩ := ob_if h1
      refine x_lrem C dX10_commonDivisor_27 c9 ?_
      refine x_lstore (lv' := [(9, .long (x1 - x1 / x2 * x2)), (8, .int x3), (6, .long x2), (4, .long x1)]) C dX10_commonDivisor_28 (by rw [e5]; decide) rfl ?_
      refine x_lload C 2 dX10_commonDivisor_30 rfl ?_
      refine x_lstore (lv' := [(4, .long x2), (9, .long (x1 - x1 / x2 * x2)), (8, .int x3), (6, .long x2)]) C dX10_commonDivisor_32 (by rw [e5]; decide) rfl ?_
      refine x_lload C 1 dX10_commonDivisor_34 rfl ?_
      refine x_lstore (lv' := [(6, .long (x1 - x1 / x2 * x2)), (4, .long x2), (9, .long (x1 - x1 / x2 * x2)), (8, .int x3)]) C dX10_commonDivisor_36 (by rw [e5]; decide) rfl ?_
      refine x_iinc (v := (x3 + 1)) (lv' := [(8, .int (x3 + 1)), (6, .long (x1 - x1 / x2 * x2)), (4, .long x2), (9, .long (x1 - x1 / x2 * x2))]) C 3 dX10_commonDivisor_38 rfl rfl (by rw [e5]; decide) rfl ?_
      refine x_goto C 9 dX10_commonDivisor_41 (by decide) ?_
      refine x_lv (lv' := [(8, .int (x3 + 1)), (6, .long (x1 - x1 / x2 * x2)), (4, .long x2)]) [0, 1, 2] rfl ?_
      exact ihL1 _ (Option.some.inj h1).symm
set_option maxHeartbeats 4000000 in
set_option maxRecDepth 100000 in
theorem c_X10_tell {l : Launch} {D : va_G} {ad : Nat → Nat} {cy : Nat → ClassId} (hJ : mJ LX ad) {σ τ : mS} {a1 : Int64} {a2 : Int64} {r : Unit}  (h0 : X10_tell σ a1 a2 = some (r, τ)) : MetG l LX D ad cy yX10_tell cX10_tell 7 none 1 [.ref (ad 0), .long a1, .long a2] σ (none) τ := by
  refine MetG.of hJ (by decide +kernel) [(0, .ref (ad 0)), (1, .long a1), (3, .long a2)] rfl (Nat.le_of_ble_eq_true rfl) ?_
  intro K e1 e2 e3 e4 e5 C R
  subst e1
  subst e2
  subst e3
  subst e4
  unfold X10_tell at h0
  refine x_lload_n C 1 dX10_tell_0 rfl ?_
  refine x_lload_n C 2 dX10_tell_1 rfl ?_
  obtain ⟨r1, g2, h0⟩ := ob_bind h0
  refine x_callS (ar := 2) (rest := []) C (c_X10_commonDivisor C.2.2.2.2.2.2.1  g2) hy_X10_commonDivisor ⟨tw689, tw690, tw63, tw691⟩ (by decide) (by decide) rfl rfl (Nat.le_of_ble_eq_true rfl) dX10_tell_2 ?_
  show Wx LX K σ 5 [(0, .ref (kad K 0)), (1, .long a1), (3, .long a2)] [.long r1]
  refine x_lstore (lv' := [(5, .long r1), (0, .ref (kad K 0)), (1, .long a1), (3, .long a2)]) C dX10_tell_5 (by rw [e5]; decide) rfl ?_
  refine x_lload C 0 dX10_tell_7 rfl ?_
  refine x_lconst (v := 0) C dX10_tell_9 rfl ?_
  refine x_lcmple C 30 dX10_tell_10 dX10_tell_11 (by decide) (fun c4 => ?_) (fun c4 => ?_)
  · replace h0 := ob_pos c4 h0
    cases h0
    exact x_vret C R dX10_tell_30
  · replace h0 := ob_neg c4 h0
    refine x_aload_n C 1 dX10_tell_14 rfl ?_
    refine x_lload_n C 2 dX10_tell_15 rfl ?_
    refine x_lload C 0 dX10_tell_16 rfl ?_
    obtain ⟨c5, h0⟩ := ob_if h0
    refine x_ldiv C dX10_tell_18 c5 ?_
    refine x_putL (j := 14) (i := 284) (q := (RX10, TX10, 18)) C tyX10 tyX10_ok nmX10 (iX 0 (by decide)) rfl rfl inBX10 (by decide) tw249 rfl (by decide +kernel) rfl dX10_tell_19 ?_
    refine x_aload_n C 1 dX10_tell_22 rfl ?_
    refine x_lload_n C 3 dX10_tell_23 rfl ?_
    refine x_lload C 0 dX10_tell_24 rfl ?_
    obtain ⟨c6, h0⟩ := ob_if h0
    refine x_ldiv C dX10_tell_26 c6 ?_
    refine x_putL (j := 15) (i := 70) (q := (RX10, TX10, 18)) C tyX10 tyX10_ok nmX10 (iX 0 (by decide)) rfl rfl inBX10 (by decide) tw250 rfl (by decide +kernel) rfl dX10_tell_27 ?_
    cases h0
    exact x_vret C R dX10_tell_30
set_option maxHeartbeats 4000000 in
set_option maxRecDepth 100000 in
theorem c_X10_tellAhead {l : Launch} {D : va_G} {ad : Nat → Nat} {cy : Nat → ClassId} (hJ : mJ LX ad) {σ τ : mS} {a1 : Int32} {a2 : Int32} {a3 : Int32} {r : Int32}  (h0 : X10_tellAhead σ a1 a2 a3 = some (r, τ)) : MetG l LX D ad cy yX10_tellAhead cX10_tellAhead 5 (some .int) 4 [.ref (ad 0), .int a1, .int a2, .int a3] σ (some (.int r)) τ := by
  refine MetG.of hJ (by decide +kernel) [(0, .ref (ad 0)), (1, .int a1), (2, .int a2), (3, .int a3)] rfl (Nat.le_of_ble_eq_true rfl) ?_
  intro K e1 e2 e3 e4 e5 C R
  subst e1
  subst e2
  subst e3
  subst e4
  unfold X10_tellAhead at h0
  refine x_aload_n C 0 dX10_tellAhead_0 rfl ?_
  refine x_iload_n C 1 dX10_tellAhead_1 rfl ?_
  refine x_callV (ar := 1) (q := (RX10, TX10, 18)) (rest := []) C (c_X10_isPlayer C.2.2.2.2.2.2.1  rfl) (iX 0 (by decide)) rfl rfl hy_X10_isPlayer ⟨tw390, tw392, tw8, tw63, tw393⟩ (by decide) (by decide) rfl rfl (Nat.le_of_ble_eq_true rfl) dX10_tellAhead_2 ?_
  show Wx LX K σ 5 [(0, .ref (kad K 0)), (1, .int a1), (2, .int a2), (3, .int a3)] [.int (X10_isPlayer σ a1)]
  refine x_ifeq C 17 dX10_tellAhead_5 (by decide) (fun c3 => ?_) (fun c3 => ?_)
  · replace h0 := ob_pos c3 h0
    refine x_iconst (v := (-1)) C dX10_tellAhead_17 rfl ?_
    cases h0
    exact x_iret C R dX10_tellAhead_18
  · replace h0 := ob_neg c3 h0
    refine x_iload_n C 2 dX10_tellAhead_8 rfl ?_
    refine x_iflt C 17 dX10_tellAhead_9 (by decide) (fun c5 => ?_) (fun c5 => ?_)
    · replace h0 := ob_pos c5 h0
      refine x_iconst (v := (-1)) C dX10_tellAhead_17 rfl ?_
      cases h0
      exact x_iret C R dX10_tellAhead_18
    · replace h0 := ob_neg c5 h0
      refine x_iload_n C 2 dX10_tellAhead_12 rfl ?_
      refine x_iconst (v := 3) C dX10_tellAhead_13 rfl ?_
      refine x_icmple C 19 dX10_tellAhead_14 (by decide) (fun c7 => ?_) (fun c7 => ?_)
      · replace h0 := ob_pos c7 h0
        refine x_aload_n C 0 dX10_tellAhead_19 rfl ?_
        refine x_iload_n C 2 dX10_tellAhead_20 rfl ?_
        obtain ⟨r8, s10, g9, h0⟩ := ob_bd h0
        refine x_callV (ar := 1) (q := (RX10, TX10, 18)) (rest := []) C (c_X10_callsAhead C.2.2.2.2.2.2.1  g9) (iX 0 (by decide)) rfl rfl hy_X10_callsAhead ⟨tw596, tw598, tw17, tw63, tw599⟩ (by decide) (by decide) rfl rfl (Nat.le_of_ble_eq_true rfl) dX10_tellAhead_21 ?_
        show Wx LX K s10 24 [(0, .ref (kad K 0)), (1, .int a1), (2, .int a2), (3, .int a3)] [.int r8]
        refine x_istore (lv' := [(4, .int r8), (0, .ref (kad K 0)), (1, .int a1), (2, .int a2), (3, .int a3)]) C dX10_tellAhead_24 (by rw [e5]; decide) rfl ?_
        refine x_aload_n C 1 dX10_tellAhead_26 rfl ?_
        refine x_aload_n C 1 dX10_tellAhead_27 rfl ?_
        refine x_iload_n C 2 dX10_tellAhead_28 rfl ?_
        refine x_iload_n C 4 dX10_tellAhead_29 rfl ?_
        refine x_iconst (v := 0) C dX10_tellAhead_30 rfl ?_
        refine x_iload C 0 dX10_tellAhead_31 rfl ?_
        obtain ⟨r11, s13, g12, h0⟩ := ob_bd h0
        refine x_callV (ar := 4) (q := (RX10, TX10, 18)) (rest := [.ref (kad K 0)]) C (c_X10_sumAhead C.2.2.2.2.2.2.1  g12) (iX 0 (by decide)) rfl rfl hy_X10_sumAhead ⟨tw677, tw679, tw28, tw63, tw680⟩ (by decide) (by decide) rfl rfl (Nat.le_of_ble_eq_true rfl) dX10_tellAhead_33 ?_
        show Wx LX K s13 36 [(4, .int r8), (0, .ref (kad K 0)), (1, .int a1), (2, .int a2), (3, .int a3)] [.long r11, .ref (kad K 0)]
        refine x_aload_n C 1 dX10_tellAhead_36 rfl ?_
        refine x_iload C 0 dX10_tellAhead_37 rfl ?_
        obtain ⟨r14, g15, h0⟩ := ob_bind h0
        refine x_callV (ar := 1) (q := (RX10, TX10, 18)) (rest := [.long r11, .ref (kad K 0)]) C (c_X10_orders C.2.2.2.2.2.2.1  g15) (iX 0 (by decide)) rfl rfl hy_X10_orders ⟨tw681, tw683, tw29, tw63, tw684⟩ (by decide) (by decide) rfl rfl (Nat.le_of_ble_eq_true rfl) dX10_tellAhead_39 ?_
        show Wx LX K s13 42 [(4, .int r8), (0, .ref (kad K 0)), (1, .int a1), (2, .int a2), (3, .int a3)] [.long r14, .long r11, .ref (kad K 0)]
        obtain ⟨r16, s18, g17, h0⟩ := ob_bd h0
        refine x_callV (ar := 2) (q := (RX10, TX10, 18)) (rest := []) C (c_X10_tell C.2.2.2.2.2.2.1  g17) (iX 0 (by decide)) rfl rfl hy_X10_tell ⟨tw685, tw687, tw30, tw63, tw688⟩ (by decide) (by decide) rfl rfl (Nat.le_of_ble_eq_true rfl) dX10_tellAhead_42 ?_
        show Wx LX K s18 45 [(4, .int r8), (0, .ref (kad K 0)), (1, .int a1), (2, .int a2), (3, .int a3)] []
        refine x_iconst (v := 1) C dX10_tellAhead_45 rfl ?_
        cases h0
        exact x_iret C R dX10_tellAhead_46
      · replace h0 := ob_neg c7 h0
        refine x_iconst (v := (-1)) C dX10_tellAhead_17 rfl ?_
        cases h0
        exact x_iret C R dX10_tellAhead_18
set_option maxHeartbeats 4000000 in
set_option maxRecDepth 100000 in
theorem c_X10_odds {l : Launch} {D : va_G} {ad : Nat → Nat} {cy : Nat → ClassId} (hJ : mJ LX ad) {σ τ : mS} {a1 : Int32} {a2 : Int32} {r : Int32}  (h0 : X10_odds σ a1 a2 = some (r, τ)) : MetG l LX D ad cy yX10_odds cX10_odds 3 (some .int) 5 [.ref (ad 0), .int a1, .int a2] σ (some (.int r)) τ := by
  refine MetG.of hJ (by decide +kernel) [(0, .ref (ad 0)), (1, .int a1), (2, .int a2)] rfl (Nat.le_of_ble_eq_true rfl) ?_
  intro K e1 e2 e3 e4 e5 C R
  subst e1
  subst e2
  subst e3
  subst e4
  unfold X10_odds at h0
  refine x_aload_n C 0 dX10_odds_0 rfl ?_
  refine x_iload_n C 1 dX10_odds_1 rfl ?_
  refine x_iload_n C 2 dX10_odds_2 rfl ?_
  refine x_iconst (v := 1) C dX10_odds_3 rfl ?_
  obtain ⟨r1, s3, g2, h0⟩ := ob_bd h0
  refine x_callV (ar := 3) (q := (RX10, TX10, 18)) (rest := []) C (c_X10_tellAhead C.2.2.2.2.2.2.1  g2) (iX 0 (by decide)) rfl rfl hy_X10_tellAhead ⟨tw673, tw675, tw27, tw63, tw676⟩ (by decide) (by decide) rfl rfl (Nat.le_of_ble_eq_true rfl) dX10_odds_4 ?_
  show Wx LX K s3 7 [(0, .ref (kad K 0)), (1, .int a1), (2, .int a2)] [.int r1]
  cases h0
  exact x_iret C R dX10_odds_7
set_option maxHeartbeats 4000000 in
set_option maxRecDepth 100000 in
theorem c_X10_mid {l : Launch} {D : va_G} {ad : Nat → Nat} {cy : Nat → ClassId} (hJ : mJ LX ad) {σ τ : mS} {a1 : Int32} {a2 : Int32} {r : Int32}  (h0 : X10_mid σ a1 a2 = some (r, τ)) : MetG l LX D ad cy yX10_mid cX10_mid 3 (some .int) 5 [.ref (ad 0), .int a1, .int a2] σ (some (.int r)) τ := by
  refine MetG.of hJ (by decide +kernel) [(0, .ref (ad 0)), (1, .int a1), (2, .int a2)] rfl (Nat.le_of_ble_eq_true rfl) ?_
  intro K e1 e2 e3 e4 e5 C R
  subst e1
  subst e2
  subst e3
  subst e4
  unfold X10_mid at h0
  refine x_aload_n C 0 dX10_mid_0 rfl ?_
  refine x_iload_n C 1 dX10_mid_1 rfl ?_
  refine x_iload_n C 2 dX10_mid_2 rfl ?_
  refine x_iconst (v := 0) C dX10_mid_3 rfl ?_
  obtain ⟨r1, s3, g2, h0⟩ := ob_bd h0
  refine x_callV (ar := 3) (q := (RX10, TX10, 18)) (rest := []) C (c_X10_tellAhead C.2.2.2.2.2.2.1  g2) (iX 0 (by decide)) rfl rfl hy_X10_tellAhead ⟨tw673, tw675, tw27, tw63, tw676⟩ (by decide) (by decide) rfl rfl (Nat.le_of_ble_eq_true rfl) dX10_mid_4 ?_
  show Wx LX K s3 7 [(0, .ref (kad K 0)), (1, .int a1), (2, .int a2)] [.int r1]
  cases h0
  exact x_iret C R dX10_mid_7
set_option maxHeartbeats 4000000 in
set_option maxRecDepth 100000 in
theorem c_X10_doLot {l : Launch} {D : va_G} {ad : Nat → Nat} {cy : Nat → ClassId} (hJ : mJ LX ad) {σ τ : mS} {a1 : Int32} {r : Unit}  (h0 : X10_doLot σ a1 = some (r, τ)) : MetG l LX D ad cy yX10_doLot cX10_doLot 4 none 3 [.ref (ad 0), .int a1] σ (none) τ := by
  refine MetG.of hJ (by decide +kernel) [(0, .ref (ad 0)), (1, .int a1)] rfl (Nat.le_of_ble_eq_true rfl) ?_
  intro K e1 e2 e3 e4 e5 C R
  subst e1
  subst e2
  subst e3
  subst e4
  unfold X10_doLot at h0
  refine x_iload_n C 1 dX10_doLot_0 rfl ?_
  refine x_bipush (v := 8) C dX10_doLot_1 rfl ?_
  refine x_idiv C dX10_doLot_3 (by decide) ?_
  refine x_bipush (v := 8) C dX10_doLot_4 rfl ?_
  refine x_irem C dX10_doLot_6 (by decide) ?_
  refine x_bipush (v := 7) C dX10_doLot_7 rfl ?_
  refine x_icmpeq C 22 dX10_doLot_9 (by decide) (fun c2 => ?_) (fun c2 => ?_)
  · replace h0 := ob_pos c2 h0
    refine x_aload_n C 0 dX10_doLot_22 rfl ?_
    refine x_getR (j := 5) (i := 36) (q := (RX10, TX10, 18)) C 88 (iX 0 (by decide)) rfl rfl inBX10 (by decide) tw240 rfl dX10_doLot_23 ?_
    refine x_getIN (j := 4) (i := 135) (q := (RX7, TX7, 5)) (host := "CalledNumbers") C (iX 88 (by decide)) rfl rfl inBX7 (by decide) twN173 rfl dX10_doLot_26 ?_
    refine x_ifle C 52 dX10_doLot_29 (by decide) (fun c4 => ?_) (fun c4 => ?_)
    · replace h0 := ob_pos c4 h0
      cases h0
      exact x_vret C R dX10_doLot_52
    · replace h0 := ob_neg c4 h0
      refine x_aload_n C 0 dX10_doLot_32 rfl ?_
      refine x_iload_n C 1 dX10_doLot_33 rfl ?_
      refine x_aload_n C 0 dX10_doLot_34 rfl ?_
      refine x_getR (j := 5) (i := 36) (q := (RX10, TX10, 18)) C 88 (iX 0 (by decide)) rfl rfl inBX10 (by decide) tw240 rfl dX10_doLot_35 ?_
      refine x_getIN (j := 4) (i := 135) (q := (RX7, TX7, 5)) (host := "CalledNumbers") C (iX 88 (by decide)) rfl rfl inBX7 (by decide) twN173 rfl dX10_doLot_38 ?_
      obtain ⟨c5, h0⟩ := ob_if h0
      refine x_irem C dX10_doLot_41 c5 ?_
      refine x_iload_n C 1 dX10_doLot_42 rfl ?_
      refine x_bipush (v := 64) C dX10_doLot_43 rfl ?_
      refine x_idiv C dX10_doLot_45 (by decide) ?_
      refine x_bipush (v := 6) C dX10_doLot_46 rfl ?_
      refine x_irem C dX10_doLot_48 (by decide) ?_
      obtain ⟨r6, s8, g7, h0⟩ := ob_bd h0
      refine x_callV (ar := 2) (q := (RX10, TX10, 18)) (rest := []) C (c_X10_doRub C.2.2.2.2.2.2.1  g7) (iX 0 (by decide)) rfl rfl hy_X10_doRub ⟨tw538, tw540, tw13, tw63, tw541⟩ (by decide) (by decide) rfl rfl (Nat.le_of_ble_eq_true rfl) dX10_doLot_49 ?_
      show Wx LX K s8 52 [(0, .ref (kad K 0)), (1, .int a1)] []
      cases h0
      exact x_vret C R dX10_doLot_52
  · replace h0 := ob_neg c2 h0
    refine x_aload_n C 0 dX10_doLot_12 rfl ?_
    refine x_getR (j := 6) (i := 45) (q := (RX10, TX10, 18)) C (144 + 5) (iX 0 (by decide)) rfl rfl inBX10 (by decide) tw241 rfl dX10_doLot_13 ?_
    refine x_getIN (j := 3) (i := 262) (q := (RX2, TX2, 6)) (host := "CalledNumbers") C (iX18 (by decide)) (lX18 (by decide)) rfl inBX2 (by decide) twN197 rfl dX10_doLot_16 ?_
    refine x_ifne C 53 dX10_doLot_19 (by decide) (fun c10 => ?_) (fun c10 => ?_)
    · replace h0 := ob_neg c10 h0
      refine x_iload_n C 1 dX10_doLot_53 rfl ?_
      refine x_bipush (v := 12) C dX10_doLot_54 rfl ?_
      refine x_irem C dX10_doLot_56 (by decide) ?_
      refine x_iconst (v := 1) C dX10_doLot_57 rfl ?_
      refine x_iadd C dX10_doLot_58 ?_
      refine x_istore_n (lv' := [(2, .int ((a1 - a1 / 12 * 12) + 1)), (0, .ref (kad K 0)), (1, .int a1)]) C dX10_doLot_59 (by rw [e5]; decide) rfl ?_
      refine x_iconst (v := 0) C dX10_doLot_60 rfl ?_
      refine x_istore_n (lv' := [(3, .int 0), (2, .int ((a1 - a1 / 12 * 12) + 1)), (0, .ref (kad K 0)), (1, .int a1)]) C dX10_doLot_61 (by rw [e5]; decide) rfl ?_
      obtain ⟨e22, g23, h0⟩ := ob_bind h0
      have J1 : ∀ (y13 : Int32), y13 = e22 → Wx LX K σ 92 [(2, .int y13), (0, .ref (kad K 0))] [] := by
        intro y13 e9
        subst e9
        replace h0 := un1_l h0
        refine x_aload_n C 1 dX10_doLot_92 rfl ?_
        refine x_iload_n C 0 dX10_doLot_93 rfl ?_
        obtain ⟨r14, s16, g15, h0⟩ := ob_bd h0
        refine x_callV (ar := 1) (q := (RX10, TX10, 18)) (rest := []) C (c_X10_doCall C.2.2.2.2.2.2.1  g15) (iX 0 (by decide)) rfl rfl hy_X10_doCall ⟨tw499, tw501, tw12, tw63, tw502⟩ (by decide) (by decide) rfl rfl (Nat.le_of_ble_eq_true rfl) dX10_doLot_94 ?_
        show Wx LX K s16 97 [(2, .int y13), (0, .ref (kad K 0))] [.int r14]
        refine x_pop C dX10_doLot_97 rfl ?_
        cases h0
        exact x_vret C R dX10_doLot_98
      refine x_lv (lv' := [(3, .int 0), (2, .int ((a1 - a1 / 12 * 12) + 1)), (0, .ref (kad K 0))]) [0, 1, 2] rfl ?_
      refine lp_G (G := fun q : Int32 × Int32 => Wx LX K σ 62 [(3, .int q.2), (2, .int q.1), (0, .ref (kad K 0))] []) (fun q x h1 ihL1 ihR1 => ?_) big _ g23
      obtain ⟨x11, x12⟩ := q
      replace h1 : X10_doLot_b62 σ x11 x12 = some x := h1
      unfold X10_doLot_b62 at h1
      show Wx LX K σ 62 [(3, .int x12), (2, .int x11), (0, .ref (kad K 0))] []
      refine x_iload_n C 0 dX10_doLot_62 rfl ?_
      refine x_bipush (v := 12) C dX10_doLot_63 rfl ?_
      refine x_icmpge C 92 dX10_doLot_65 (by decide) (fun c18 => ?_) (fun c18 => ?_)
      · replace h1 := ob_pos c18 h1
        refine x_lv (lv' := [(2, .int x11), (0, .ref (kad K 0))]) [1, 2] rfl ?_
        exact J1 _ (ihR1 _ (Option.some.inj h1).symm)
      · replace h1 := ob_neg c18 h1
        refine x_aload_n C 2 dX10_doLot_68 rfl ?_
        refine x_getR (j := 6) (i := 45) (q := (RX10, TX10, 18)) C (144 + 5) (iX 0 (by decide)) rfl rfl inBX10 (by decide) tw241 rfl dX10_doLot_69 ?_
        refine x_iload_n C 1 dX10_doLot_72 rfl ?_
        refine x_callV (ar := 1) (q := (RX2, TX2, 6)) (rest := []) C (c_X2_holds C.2.2.2.2.2.2.1 (by decide) rfl) (iX18 (by decide)) (lX18 (by decide)) rfl hy_X2_holds ⟨tw495, tw496, tw497, tw72, tw498⟩ (by decide) (by decide) rfl rfl (Nat.le_of_ble_eq_true rfl) dX10_doLot_73 ?_
        show Wx LX K σ 76 [(3, .int x12), (2, .int x11), (0, .ref (kad K 0))] [.int (X2_holds σ 5 x11)]
        refine x_ifne C 92 dX10_doLot_76 (by decide) (fun c21 => ?_) (fun c21 => ?_)
        · replace h1 := ob_neg c21 h1
          refine x_lv (lv' := [(2, .int x11), (0, .ref (kad K 0))]) [1, 2] rfl ?_
          exact J1 _ (ihR1 _ (Option.some.inj h1).symm)
        · replace h1 := ob_pos c21 h1
          refine x_iload_n C 1 dX10_doLot_79 rfl ?_
          refine x_bipush (v := 12) C dX10_doLot_80 rfl ?_
          refine x_irem C dX10_doLot_82 (by decide) ?_
          refine x_iconst (v := 1) C dX10_doLot_83 rfl ?_
          refine x_iadd C dX10_doLot_84 ?_
          refine x_istore_n (lv' := [(2, .int ((x11 - x11 / 12 * 12) + 1)), (3, .int x12), (0, .ref (kad K 0))]) C dX10_doLot_85 (by rw [e5]; decide) rfl ?_
          refine x_iinc (v := (x12 + 1)) (lv' := [(3, .int (x12 + 1)), (2, .int ((x11 - x11 / 12 * 12) + 1)), (0, .ref (kad K 0))]) C 1 dX10_doLot_86 rfl rfl (by rw [e5]; decide) rfl ?_
          refine x_goto C 62 dX10_doLot_89 (by decide) ?_
          refine x_lv (lv' := [(3, .int (x12 + 1)), (2, .int ((x11 - x11 / 12 * 12) + 1)), (0, .ref (kad K 0))]) [0, 1, 2] rfl ?_
          exact ihL1 _ (Option.some.inj h1).symm
    · replace h0 := ob_pos c10 h0
      refine x_aload_n C 0 dX10_doLot_22 rfl ?_
      refine x_getR (j := 5) (i := 36) (q := (RX10, TX10, 18)) C 88 (iX 0 (by decide)) rfl rfl inBX10 (by decide) tw240 rfl dX10_doLot_23 ?_
      refine x_getIN (j := 4) (i := 135) (q := (RX7, TX7, 5)) (host := "CalledNumbers") C (iX 88 (by decide)) rfl rfl inBX7 (by decide) twN173 rfl dX10_doLot_26 ?_
      refine x_ifle C 52 dX10_doLot_29 (by decide) (fun c25 => ?_) (fun c25 => ?_)
      · replace h0 := ob_pos c25 h0
        cases h0
        exact x_vret C R dX10_doLot_52
      · replace h0 := ob_neg c25 h0
        refine x_aload_n C 0 dX10_doLot_32 rfl ?_
        refine x_iload_n C 1 dX10_doLot_33 rfl ?_
        refine x_aload_n C 0 dX10_doLot_34 rfl ?_
        refine x_getR (j := 5) (i := 36) (q := (RX10, TX10, 18)) C 88 (iX 0 (by decide)) rfl rfl inBX10 (by decide) tw240 rfl dX10_doLot_35 ?_
        refine x_getIN (j := 4) (i := 135) (q := (RX7, TX7, 5)) (host := "CalledNumbers") C (iX 88 (by decide)) rfl rfl inBX7 (by decide) twN173 rfl dX10_doLot_38 ?_
        obtain ⟨c26, h0⟩ := ob_if h0
        refine x_irem C dX10_doLot_41 c26 ?_
        refine x_iload_n C 1 dX10_doLot_42 rfl ?_
        refine x_bipush (v := 64) C dX10_doLot_43 rfl ?_
        refine x_idiv C dX10_doLot_45 (by decide) ?_
        refine x_bipush (v := 6) C dX10_doLot_46 rfl ?_
        refine x_irem C dX10_doLot_48 (by decide) ?_
        obtain ⟨r27, s29, g28, h0⟩ := ob_bd h0
        refine x_callV (ar := 2) (q := (RX10, TX10, 18)) (rest := []) C (c_X10_doRub C.2.2.2.2.2.2.1  g28) (iX 0 (by decide)) rfl rfl hy_X10_doRub ⟨tw538, tw540, tw13, tw63, tw541⟩ (by decide) (by decide) rfl rfl (Nat.le_of_ble_eq_true rfl) dX10_doLot_49 ?_
        show Wx LX K s29 52 [(0, .ref (kad K 0)), (1, .int a1)] []
        cases h0
        exact x_vret C R dX10_doLot_52
set_option maxHeartbeats 4000000 in
set_option maxRecDepth 100000 in
theorem c_X10_lots {l : Launch} {D : va_G} {ad : Nat → Nat} {cy : Nat → ClassId} (hJ : mJ LX ad) {σ τ : mS} {a1 : Int32} {a2 : Int32} {r : Int32}  (h0 : X10_lots σ a1 a2 = some (r, τ)) : MetG l LX D ad cy yX10_lots cX10_lots 5 (some .int) 4 [.ref (ad 0), .int a1, .int a2] σ (some (.int r)) τ := by
  refine MetG.of hJ (by decide +kernel) [(0, .ref (ad 0)), (1, .int a1), (2, .int a2)] rfl (Nat.le_of_ble_eq_true rfl) ?_
  intro K e1 e2 e3 e4 e5 C R
  subst e1
  subst e2
  subst e3
  subst e4
  unfold X10_lots at h0
  refine x_iload_n C 1 dX10_lots_0 rfl ?_
  refine x_iconst (v := 1) C dX10_lots_1 rfl ?_
  refine x_icmplt C 25 dX10_lots_2 (by decide) (fun c2 => ?_) (fun c2 => ?_)
  · replace h0 := ob_pos c2 h0
    refine x_iconst (v := (-1)) C dX10_lots_25 rfl ?_
    cases h0
    exact x_iret C R dX10_lots_26
  · replace h0 := ob_neg c2 h0
    refine x_iload_n C 1 dX10_lots_5 rfl ?_
    refine x_bipush (v := 20) C dX10_lots_6 rfl ?_
    refine x_icmpgt C 25 dX10_lots_8 (by decide) (fun c4 => ?_) (fun c4 => ?_)
    · replace h0 := ob_pos c4 h0
      refine x_iconst (v := (-1)) C dX10_lots_25 rfl ?_
      cases h0
      exact x_iret C R dX10_lots_26
    · replace h0 := ob_neg c4 h0
      refine x_iload_n C 2 dX10_lots_11 rfl ?_
      refine x_iconst (v := 1) C dX10_lots_12 rfl ?_
      refine x_icmplt C 25 dX10_lots_13 (by decide) (fun c6 => ?_) (fun c6 => ?_)
      · replace h0 := ob_pos c6 h0
        refine x_iconst (v := (-1)) C dX10_lots_25 rfl ?_
        cases h0
        exact x_iret C R dX10_lots_26
      · replace h0 := ob_neg c6 h0
        refine x_iload_n C 2 dX10_lots_16 rfl ?_
        refine x_i2l C dX10_lots_17 ?_
        refine x_ldc2 C tw700 dX10_lots_18 ?_
        refine x_lcmplt C 27 dX10_lots_21 dX10_lots_22 (by decide) (fun c8 => ?_) (fun c8 => ?_)
        · replace h0 := ob_pos c8 h0
          refine x_aload_n C 0 dX10_lots_27 rfl ?_
          refine x_getR (j := 5) (i := 36) (q := (RX10, TX10, 18)) C 88 (iX 0 (by decide)) rfl rfl inBX10 (by decide) tw240 rfl dX10_lots_28 ?_
          refine x_getIN (j := 4) (i := 135) (q := (RX7, TX7, 5)) (host := "CalledNumbers") C (iX 88 (by decide)) rfl rfl inBX7 (by decide) twN173 rfl dX10_lots_31 ?_
          refine x_ifne C 40 dX10_lots_34 (by decide) (fun c10 => ?_) (fun c10 => ?_)
          · replace h0 := ob_neg c10 h0
            refine x_aload_n C 0 dX10_lots_40 rfl ?_
            refine x_getR (j := 7) (i := 52) (q := (RX10, TX10, 18)) C (160 + 3) (iX 0 (by decide)) rfl rfl inBX10 (by decide) tw242 rfl dX10_lots_41 ?_
            refine x_getIN (j := 1) (i := 83) (q := (RX1, TX1, 2)) (host := "CalledNumbers") C (iX20 (by decide)) (lX20 (by decide)) rfl inBX1 (by decide) twN223 rfl dX10_lots_44 ?_
            refine x_iload_n C 1 dX10_lots_47 rfl ?_
            refine x_iadd C dX10_lots_48 ?_
            refine x_bipush (v := 40) C dX10_lots_49 rfl ?_
            refine x_icmple C 57 dX10_lots_51 (by decide) (fun c12 => ?_) (fun c12 => ?_)
            · replace h0 := ob_pos c12 h0
              refine x_iload_n C 2 dX10_lots_57 rfl ?_
              refine x_istore_n (lv' := [(3, .int a2), (0, .ref (kad K 0)), (1, .int a1), (2, .int a2)]) C dX10_lots_58 (by rw [e5]; decide) rfl ?_
              refine x_iconst (v := 0) C dX10_lots_59 rfl ?_
              refine x_istore (lv' := [(4, .int 0), (3, .int a2), (0, .ref (kad K 0)), (1, .int a1), (2, .int a2)]) C dX10_lots_60 (by rw [e5]; decide) rfl ?_
              obtain ⟨e22, g23, h0⟩ := ob_bind h0
              have J1 : ∀ (s16 : mS), s16 = e22 → Wx LX K s16 91 [(0, .ref (kad K 0))] [] := by
                intro s16 e9
                subst e9
                replace h0 := un1_l h0
                refine x_aload_n C 0 dX10_lots_91 rfl ?_
                refine x_getR (j := 6) (i := 45) (q := (RX10, TX10, 18)) C (144 + 5) (iX 0 (by decide)) rfl rfl inBX10 (by decide) tw241 rfl dX10_lots_92 ?_
                refine x_getIN (j := 2) (i := 223) (q := (RX2, TX2, 6)) (host := "CalledNumbers") C (iX18 (by decide)) (lX18 (by decide)) rfl inBX2 (by decide) twN195 rfl dX10_lots_95 ?_
                cases h0
                exact x_iret C R dX10_lots_98
              refine x_lv (lv' := [(4, .int 0), (3, .int a2), (0, .ref (kad K 0)), (1, .int a1)]) [0, 1, 2, 3] rfl ?_
              refine lp_G (G := fun q : mS × Int32 × Int32 => Wx LX K q.1 62 [(4, .int q.2.2), (3, .int q.2.1), (0, .ref (kad K 0)), (1, .int a1)] []) (fun q x h1 ihL1 ihR1 => ?_) big _ g23
              obtain ⟨s13, x14, x15⟩ := q
              replace h1 : X10_lots_b62 a1 s13 x14 x15 = some x := h1
              unfold X10_lots_b62 at h1
              show Wx LX K s13 62 [(4, .int x15), (3, .int x14), (0, .ref (kad K 0)), (1, .int a1)] []
              refine x_iload C 0 dX10_lots_62 rfl ?_
              refine x_iload_n C 3 dX10_lots_64 rfl ?_
              refine x_icmpge C 91 dX10_lots_65 (by decide) (fun c18 => ?_) (fun c18 => ?_)
              · replace h1 := ob_pos c18 h1
                refine x_lv (lv' := [(0, .ref (kad K 0))]) [2] rfl ?_
                exact J1 _ (ihR1 _ (Option.some.inj h1).symm)
              · replace h1 := ob_neg c18 h1
                refine x_ldc2 C tw701 dX10_lots_68 ?_
                refine x_iload_n C 1 dX10_lots_71 rfl ?_
                refine x_i2l C dX10_lots_72 ?_
                refine x_lmul C dX10_lots_73 ?_
                refine x_ldc2 C tw700 dX10_lots_74 ?_
                refine x_lrem C dX10_lots_77 (by decide) ?_
                refine x_l2i C dX10_lots_78 ?_
                refine x_istore_n (lv' := [(3, .int ((((48271 * (x14).toInt64) - (48271 * (x14).toInt64) / 2147483647 * 2147483647)).toInt32)), (4, .int x15), (0, .ref (kad K 0)), (1, .int a1)]) C dX10_lots_79 (by rw [e5]; decide) rfl ?_
                refine x_aload_n C 2 dX10_lots_80 rfl ?_
                refine x_iload_n C 0 dX10_lots_81 rfl ?_
                obtain ⟨r19, s21, g20, h1⟩ := ob_bd h1
                refine x_callV (ar := 1) (q := (RX10, TX10, 18)) (rest := []) C (c_X10_doLot C.2.2.2.2.2.2.1  g20) (iX 0 (by decide)) rfl rfl hy_X10_doLot ⟨tw702, tw704, tw31, tw63, tw705⟩ (by decide) (by decide) rfl rfl (Nat.le_of_ble_eq_true rfl) dX10_lots_82 ?_
                show Wx LX K s21 85 [(3, .int ((((48271 * (x14).toInt64) - (48271 * (x14).toInt64) / 2147483647 * 2147483647)).toInt32)), (4, .int x15), (0, .ref (kad K 0)), (1, .int a1)] []
                refine x_iinc (v := (x15 + 1)) (lv' := [(4, .int (x15 + 1)), (3, .int ((((48271 * (x14).toInt64) - (48271 * (x14).toInt64) / 2147483647 * 2147483647)).toInt32)), (0, .ref (kad K 0)), (1, .int a1)]) C 1 dX10_lots_85 rfl rfl (by rw [e5]; decide) rfl ?_
                refine x_goto C 62 dX10_lots_88 (by decide) ?_
                refine x_lv (lv' := [(4, .int (x15 + 1)), (3, .int ((((48271 * (x14).toInt64) - (48271 * (x14).toInt64) / 2147483647 * 2147483647)).toInt32)), (0, .ref (kad K 0)), (1, .int a1)]) [0, 1, 2, 3] rfl ?_
                exact ihL1 _ (Option.some.inj h1).symm
            · replace h0 := ob_neg c12 h0
              refine x_bipush (v := (-2)) C dX10_lots_54 rfl ?_
              cases h0
              exact x_iret C R dX10_lots_56
          · replace h0 := ob_pos c10 h0
            refine x_bipush (v := (-4)) C dX10_lots_37 rfl ?_
            cases h0
            exact x_iret C R dX10_lots_39
        · replace h0 := ob_neg c8 h0
          refine x_iconst (v := (-1)) C dX10_lots_25 rfl ?_
          cases h0
          exact x_iret C R dX10_lots_26
