set_option maxHeartbeats 4000000 in
set_option maxRecDepth 100000 in
theorem c_X10_next {l : Launch} {D : va_G} {ad : Nat → Nat} {cy : Nat → ClassId} (hJ : mJ LX ad) {σ τ : mS} {a1 : Int32} {a2 : Int32} {r : Int32}  (h0 : X10_next σ a1 a2 = some (r, τ)) : MetG l LX D ad cy yX10_next cX10_next 9 (some .int) 4 [.ref (ad 0), .int a1, .int a2] σ (some (.int r)) τ := by
  refine MetG.of hJ (by decide +kernel) [(0, .ref (ad 0)), (1, .int a1), (2, .int a2)] rfl (Nat.le_of_ble_eq_true rfl) ?_
  intro K e1 e2 e3 e4 e5 C R
  subst e1
  subst e2
  subst e3
  subst e4
  unfold X10_next at h0
  refine x_aload_n C 0 dX10_next_0 rfl ?_
  refine x_iload_n C 1 dX10_next_1 rfl ?_
  refine x_iload_n C 2 dX10_next_2 rfl ?_
  obtain ⟨r1, s3, g2, h0⟩ := ob_bd h0
  refine x_callV (ar := 2) (q := (RX10, TX10, 18)) (rest := []) C (c_X10_refusedPairs C.2.2.2.2.2.2.1  g2) (iX 0 (by decide)) rfl rfl hy_X10_refusedPairs ⟨tw634, tw636, tw22, tw63, tw637⟩ (by decide) (by decide) rfl rfl (Nat.le_of_ble_eq_true rfl) dX10_next_3 ?_
  show Wx LX K s3 6 [(0, .ref (kad K 0)), (1, .int a1), (2, .int a2)] [.int r1]
  refine x_istore_n (lv' := [(3, .int r1), (0, .ref (kad K 0)), (1, .int a1), (2, .int a2)]) C dX10_next_6 (by rw [e5]; decide) rfl ?_
  refine x_iload_n C 0 dX10_next_7 rfl ?_
  refine x_ifeq C 13 dX10_next_8 (by decide) (fun c5 => ?_) (fun c5 => ?_)
  · replace h0 := ob_pos c5 h0
    refine x_aload_n C 1 dX10_next_13 rfl ?_
    refine x_iload_n C 2 dX10_next_14 rfl ?_
    refine x_iload_n C 3 dX10_next_15 rfl ?_
    obtain ⟨r6, g7, h0⟩ := ob_bind h0
    refine x_callV (ar := 2) (q := (RX10, TX10, 18)) (rest := []) C (c_X10_fittingKinds C.2.2.2.2.2.2.1  g7) (iX 0 (by decide)) rfl rfl hy_X10_fittingKinds ⟨tw638, tw640, tw23, tw63, tw641⟩ (by decide) (by decide) rfl rfl (Nat.le_of_ble_eq_true rfl) dX10_next_16 ?_
    show Wx LX K s3 19 [(3, .int r1), (0, .ref (kad K 0)), (1, .int a1), (2, .int a2)] [.int r6]
    refine x_istore (lv' := [(4, .int r6), (3, .int r1), (0, .ref (kad K 0)), (1, .int a1), (2, .int a2)]) C dX10_next_19 (by rw [e5]; decide) rfl ?_
    refine x_iload C 0 dX10_next_21 rfl ?_
    refine x_ifeq C 36 dX10_next_23 (by decide) (fun c9 => ?_) (fun c9 => ?_)
    · replace h0 := ob_pos c9 h0
      refine x_bipush (v := (-9)) C dX10_next_36 rfl ?_
      cases h0
      exact x_iret C R dX10_next_38
    · replace h0 := ob_neg c9 h0
      refine x_aload_n C 2 dX10_next_26 rfl ?_
      refine x_getR (j := 6) (i := 45) (q := (RX10, TX10, 18)) C (144 + 5) (iX 0 (by decide)) rfl rfl inBX10 (by decide) tw241 rfl dX10_next_27 ?_
      refine x_getIN (j := 3) (i := 262) (q := (RX2, TX2, 6)) (host := "CalledNumbers") C (iX18 (by decide)) (lX18 (by decide)) rfl inBX2 (by decide) twN197 rfl dX10_next_30 ?_
      refine x_ifne C 39 dX10_next_33 (by decide) (fun c11 => ?_) (fun c11 => ?_)
      · replace h0 := ob_neg c11 h0
        refine x_bipush (v := 7) C dX10_next_39 rfl ?_
        refine x_istore (lv' := [(5, .int 7), (4, .int r6), (3, .int r1), (0, .ref (kad K 0)), (1, .int a1), (2, .int a2)]) C dX10_next_41 (by rw [e5]; decide) rfl ?_
        refine x_iconst (v := 0) C dX10_next_43 rfl ?_
        refine x_istore (lv' := [(6, .int 0), (5, .int 7), (4, .int r6), (3, .int r1), (0, .ref (kad K 0)), (1, .int a1), (2, .int a2)]) C dX10_next_44 (by rw [e5]; decide) rfl ?_
        refine x_iconst (v := 1) C dX10_next_46 rfl ?_
        refine x_istore (lv' := [(7, .int 1), (6, .int 0), (5, .int 7), (4, .int r6), (3, .int r1), (0, .ref (kad K 0)), (1, .int a1), (2, .int a2)]) C dX10_next_47 (by rw [e5]; decide) rfl ?_
        obtain ⟨e29, g30, h0⟩ := ob_bind h0
        have J1 : ∀ (s16 : mS) (y17 : Int32) (y18 : Int32), (s16, y17, y18) = e29 → Wx LX K s16 100 [(6, .int y18), (5, .int y17), (0, .ref (kad K 0))] [] := by
          intro s16 y17 y18 e9
          subst e9
          replace h0 := un3_l h0
          refine x_aload_n C 2 dX10_next_100 rfl ?_
          refine x_iload C 1 dX10_next_101 rfl ?_
          refine x_putI (j := 13) (i := 99) (q := (RX10, TX10, 18)) C tyX10 tyX10_ok nmX10 (iX 0 (by decide)) rfl rfl inBX10 (by decide) tw248 rfl (by decide +kernel) rfl dX10_next_103 ?_
          refine x_iload C 0 dX10_next_106 rfl ?_
          cases h0
          exact x_iret C R dX10_next_108
        refine x_lv (lv' := [(7, .int 1), (6, .int 0), (5, .int 7), (4, .int r6), (0, .ref (kad K 0)), (1, .int a1)]) [0, 1, 2, 3, 5, 6] rfl ?_
        refine lp_G (G := fun q : mS × Int32 × Int32 × Int32 => Wx LX K q.1 49 [(7, .int q.2.2.2), (6, .int q.2.2.1), (5, .int q.2.1), (4, .int r6), (0, .ref (kad K 0)), (1, .int a1)] []) (fun q x h1 ihL1 ihR1 => ?_) big _ g30
        obtain ⟨s12, x13, x14, x15⟩ := q
        replace h1 : X10_next_b49 a1 r6 s12 x13 x14 x15 = some x := h1
        unfold X10_next_b49 at h1
        show Wx LX K s12 49 [(7, .int x15), (6, .int x14), (5, .int x13), (4, .int r6), (0, .ref (kad K 0)), (1, .int a1)] []
        refine x_iload C 0 dX10_next_49 rfl ?_
        refine x_bipush (v := 12) C dX10_next_51 rfl ?_
        refine x_icmpgt C 100 dX10_next_53 (by decide) (fun c20 => ?_) (fun c20 => ?_)
        · replace h1 := ob_pos c20 h1
          refine x_lv (lv' := [(6, .int x14), (5, .int x13), (0, .ref (kad K 0))]) [1, 2, 4] rfl ?_
          exact J1 _ _ _ (ihR1 _ (Option.some.inj h1).symm)
        · replace h1 := ob_neg c20 h1
          refine x_aload_n C 4 dX10_next_56 rfl ?_
          refine x_getR (j := 6) (i := 45) (q := (RX10, TX10, 18)) C (144 + 5) (iX 0 (by decide)) rfl rfl inBX10 (by decide) tw241 rfl dX10_next_57 ?_
          refine x_iload C 0 dX10_next_60 rfl ?_
          refine x_callV (ar := 1) (q := (RX2, TX2, 6)) (rest := []) C (c_X2_holds C.2.2.2.2.2.2.1 (by decide) rfl) (iX18 (by decide)) (lX18 (by decide)) rfl hy_X2_holds ⟨tw495, tw496, tw497, tw72, tw498⟩ (by decide) (by decide) rfl rfl (Nat.le_of_ble_eq_true rfl) dX10_next_62 ?_
          show Wx LX K s12 65 [(7, .int x15), (6, .int x14), (5, .int x13), (4, .int r6), (0, .ref (kad K 0)), (1, .int a1)] [.int (X2_holds s12 5 x15)]
          refine x_ifeq C 94 dX10_next_65 (by decide) (fun c23 => ?_) (fun c23 => ?_)
          · replace h1 := ob_pos c23 h1
            refine x_iinc (v := (x15 + 1)) (lv' := [(7, .int (x15 + 1)), (6, .int x14), (5, .int x13), (4, .int r6), (0, .ref (kad K 0)), (1, .int a1)]) C 0 dX10_next_94 rfl rfl (by rw [e5]; decide) rfl ?_
            refine x_goto C 49 dX10_next_97 (by decide) ?_
            refine x_lv (lv' := [(7, .int (x15 + 1)), (6, .int x14), (5, .int x13), (4, .int r6), (0, .ref (kad K 0)), (1, .int a1)]) [0, 1, 2, 3, 4, 5] rfl ?_
            exact ihL1 _ (Option.some.inj h1).symm
          · replace h1 := ob_neg c23 h1
            refine x_aload_n C 4 dX10_next_68 rfl ?_
            refine x_iload C 3 dX10_next_69 rfl ?_
            refine x_iload_n C 5 dX10_next_71 rfl ?_
            refine x_iload C 0 dX10_next_72 rfl ?_
            obtain ⟨r24, s26, g25, h1⟩ := ob_bd h1
            refine x_callV (ar := 3) (q := (RX10, TX10, 18)) (rest := []) C (c_X10_greatestPart C.2.2.2.2.2.2.1  g25) (iX 0 (by decide)) rfl rfl hy_X10_greatestPart ⟨tw650, tw652, tw25, tw63, tw653⟩ (by decide) (by decide) rfl rfl (Nat.le_of_ble_eq_true rfl) dX10_next_74 ?_
            show Wx LX K s26 77 [(7, .int x15), (6, .int x14), (5, .int x13), (4, .int r6), (0, .ref (kad K 0)), (1, .int a1)] [.int r24]
            refine x_istore (lv' := [(8, .int r24), (7, .int x15), (6, .int x14), (5, .int x13), (4, .int r6), (0, .ref (kad K 0)), (1, .int a1)]) C dX10_next_77 (by rw [e5]; decide) rfl ?_
            refine x_iload C 0 dX10_next_79 rfl ?_
            refine x_iload C 3 dX10_next_81 rfl ?_
            refine x_icmpge C 94 dX10_next_83 (by decide) (fun c28 => ?_) (fun c28 => ?_)
            · replace h1 := ob_pos c28 h1
              refine x_iinc (v := (x15 + 1)) (lv' := [(7, .int (x15 + 1)), (8, .int r24), (6, .int x14), (5, .int x13), (4, .int r6), (0, .ref (kad K 0)), (1, .int a1)]) C 1 dX10_next_94 rfl rfl (by rw [e5]; decide) rfl ?_
              refine x_goto C 49 dX10_next_97 (by decide) ?_
              refine x_lv (lv' := [(7, .int (x15 + 1)), (6, .int x14), (5, .int x13), (4, .int r6), (0, .ref (kad K 0)), (1, .int a1)]) [0, 2, 3, 4, 5, 6] rfl ?_
              exact ihL1 _ (Option.some.inj h1).symm
            · replace h1 := ob_neg c28 h1
              refine x_iload C 0 dX10_next_86 rfl ?_
              refine x_istore (lv' := [(5, .int r24), (8, .int r24), (7, .int x15), (6, .int x14), (4, .int r6), (0, .ref (kad K 0)), (1, .int a1)]) C dX10_next_88 (by rw [e5]; decide) rfl ?_
              refine x_iload C 2 dX10_next_90 rfl ?_
              refine x_istore (lv' := [(6, .int x15), (5, .int r24), (8, .int r24), (7, .int x15), (4, .int r6), (0, .ref (kad K 0)), (1, .int a1)]) C dX10_next_92 (by rw [e5]; decide) rfl ?_
              refine x_iinc (v := (x15 + 1)) (lv' := [(7, .int (x15 + 1)), (6, .int x15), (5, .int r24), (8, .int r24), (4, .int r6), (0, .ref (kad K 0)), (1, .int a1)]) C 3 dX10_next_94 rfl rfl (by rw [e5]; decide) rfl ?_
              refine x_goto C 49 dX10_next_97 (by decide) ?_
              refine x_lv (lv' := [(7, .int (x15 + 1)), (6, .int x15), (5, .int r24), (4, .int r6), (0, .ref (kad K 0)), (1, .int a1)]) [0, 1, 2, 4, 5, 6] rfl ?_
              exact ihL1 _ (Option.some.inj h1).symm
      · replace h0 := ob_pos c11 h0
        refine x_bipush (v := (-9)) C dX10_next_36 rfl ?_
        cases h0
        exact x_iret C R dX10_next_38
  · replace h0 := ob_neg c5 h0
    refine x_iload_n C 0 dX10_next_11 rfl ?_
    cases h0
    exact x_iret C R dX10_next_12
set_option maxHeartbeats 4000000 in
set_option maxRecDepth 100000 in
theorem c_X10_duelAhead_F {l : Launch} {D : va_G} {ad : Nat → Nat} {cy : Nat → ClassId} (hJ : mJ LX ad) {rc : mS → Int32 → Int32 → Int32 → Int32 → Option (Int32 × mS)} {n0 : Nat} (hn0 : 6 ≤ n0) (hrc : ∀ {σ τ : mS} {a1 : Int32} {a2 : Int32} {a3 : Int32} {a4 : Int32} {r : Int32}, rc σ a1 a2 a3 a4 = some (r, τ) → MetG l LX D ad cy yX10_duelAhead cX10_duelAhead 10 (some .int) n0 [.ref (ad 0), .int a1, .int a2, .int a3, .int a4] σ (some (.int r)) τ) {σ τ : mS} {a1 : Int32} {a2 : Int32} {a3 : Int32} {a4 : Int32} {r : Int32}  (h0 : X10_duelAhead_F rc σ a1 a2 a3 a4 = some (r, τ)) : MetG l LX D ad cy yX10_duelAhead cX10_duelAhead 10 (some .int) (n0 + 1) [.ref (ad 0), .int a1, .int a2, .int a3, .int a4] σ (some (.int r)) τ := by
  refine MetG.of hJ (by decide +kernel) [(0, .ref (ad 0)), (1, .int a1), (2, .int a2), (3, .int a3), (4, .int a4)] rfl (Nat.le_of_ble_eq_true rfl) ?_
  intro K e1 e2 e3 e4 e5 C R
  subst e1
  subst e2
  subst e3
  subst e4
  unfold X10_duelAhead_F at h0
  refine x_aload_n C 0 dX10_duelAhead_0 rfl ?_
  refine x_getR (j := 9) (i := 60) (q := (RX10, TX10, 18)) C 184 (iX 0 (by decide)) rfl rfl inBX10 (by decide) tw244 rfl dX10_duelAhead_1 ?_
  refine x_iload_n C 3 dX10_duelAhead_4 rfl ?_
  obtain ⟨c1, h0⟩ := ob_if h0
  refine x_aald C (iX 184 (by decide)) rfl rfl rfl (vin_in c1) dX10_duelAhead_5 ?_
  refine x_astore (lv' := [(5, .ref (kad K (144 + a3.toNatClampNeg))), (0, .ref (kad K 0)), (1, .int a1), (2, .int a2), (3, .int a3), (4, .int a4)]) C dX10_duelAhead_6 (by rw [e5]; decide) rfl ?_
  refine x_iload_n C 4 dX10_duelAhead_8 rfl ?_
  refine x_iload C 5 dX10_duelAhead_9 rfl ?_
  refine x_icmpge C 19 dX10_duelAhead_11 (by decide) (fun c3 => ?_) (fun c3 => ?_)
  · replace h0 := ob_pos c3 h0
    refine x_aload C 0 dX10_duelAhead_19 rfl ?_
    refine x_iload_n C 2 dX10_duelAhead_21 rfl ?_
    obtain ⟨r4, g5, h0⟩ := ob_bind h0
    refine x_callV (ar := 1) (q := (RX2, TX2, 6)) (rest := []) C (c_X2_worth C.2.2.2.2.2.2.1 (Nat.lt_of_lt_of_le (vin_lt c1) (by decide)) g5) (iX18 (Nat.lt_of_lt_of_le (vin_lt c1) (by decide))) (lX18 (Nat.lt_of_lt_of_le (vin_lt c1) (by decide))) rfl hy_X2_worth ⟨tw663, tw664, tw665, tw72, tw666⟩ (Nat.lt_succ_of_lt (Nat.lt_of_lt_of_le (by decide) hn0)) (by decide) rfl rfl (Nat.le_of_ble_eq_true rfl) dX10_duelAhead_22 ?_
    show Wx LX K σ 25 [(5, .ref (kad K (144 + a3.toNatClampNeg))), (0, .ref (kad K 0)), (1, .int a1), (2, .int a2), (3, .int a3), (4, .int a4)] [.int r4]
    refine x_aload C 0 dX10_duelAhead_25 rfl ?_
    refine x_iload_n C 3 dX10_duelAhead_27 rfl ?_
    obtain ⟨r6, g7, h0⟩ := ob_bind h0
    refine x_callV (ar := 1) (q := (RX2, TX2, 6)) (rest := [.int r4]) C (c_X2_worth C.2.2.2.2.2.2.1 (Nat.lt_of_lt_of_le (vin_lt c1) (by decide)) g7) (iX18 (Nat.lt_of_lt_of_le (vin_lt c1) (by decide))) (lX18 (Nat.lt_of_lt_of_le (vin_lt c1) (by decide))) rfl hy_X2_worth ⟨tw663, tw664, tw665, tw72, tw666⟩ (Nat.lt_succ_of_lt (Nat.lt_of_lt_of_le (by decide) hn0)) (by decide) rfl rfl (Nat.le_of_ble_eq_true rfl) dX10_duelAhead_28 ?_
    show Wx LX K σ 31 [(5, .ref (kad K (144 + a3.toNatClampNeg))), (0, .ref (kad K 0)), (1, .int a1), (2, .int a2), (3, .int a3), (4, .int a4)] [.int r6, .int r4]
    refine x_isub C dX10_duelAhead_31 ?_
    cases h0
    exact x_iret C R dX10_duelAhead_32
  · replace h0 := ob_neg c3 h0
    refine x_iload_n C 4 dX10_duelAhead_14 rfl ?_
    refine x_iconst (v := 4) C dX10_duelAhead_15 rfl ?_
    refine x_icmplt C 33 dX10_duelAhead_16 (by decide) (fun c9 => ?_) (fun c9 => ?_)
    · replace h0 := ob_pos c9 h0
      refine x_iload_n C 4 dX10_duelAhead_33 rfl ?_
      refine x_iconst (v := 2) C dX10_duelAhead_34 rfl ?_
      refine x_irem C dX10_duelAhead_35 (by decide) ?_
      obtain ⟨e41, g40, h0⟩ := ob_un h0
      have J42 : ∀ (v12 : Int32), v12 = e41 → Wx LX K σ 44 [(5, .ref (kad K (144 + a3.toNatClampNeg))), (0, .ref (kad K 0)), (1, .int a1), (2, .int a2), (3, .int a3), (4, .int a4)] [.int v12] := by
        intro v12 e9
        subst e9
        replace h0 := un1_l h0
        refine x_istore (lv' := [(6, .int v12), (5, .ref (kad K (144 + a3.toNatClampNeg))), (0, .ref (kad K 0)), (1, .int a1), (2, .int a2), (3, .int a3), (4, .int a4)]) C dX10_duelAhead_44 (by rw [e5]; decide) rfl ?_
        refine x_iload C 0 dX10_duelAhead_46 rfl ?_
        obtain ⟨e37, g36, h0⟩ := ob_un h0
        have J38 : ∀ (v15 : Int32), v15 = e37 → Wx LX K σ 58 [(6, .int v12), (5, .ref (kad K (144 + a3.toNatClampNeg))), (0, .ref (kad K 0)), (1, .int a1), (2, .int a2), (3, .int a3), (4, .int a4)] [.int v15] := by
          intro v15 e9
          subst e9
          replace h0 := un1_l h0
          refine x_istore (lv' := [(7, .int v15), (6, .int v12), (5, .ref (kad K (144 + a3.toNatClampNeg))), (0, .ref (kad K 0)), (1, .int a1), (2, .int a2), (3, .int a3), (4, .int a4)]) C dX10_duelAhead_58 (by rw [e5]; decide) rfl ?_
          refine x_iconst (v := 1) C dX10_duelAhead_60 rfl ?_
          refine x_istore (lv' := [(8, .int 1), (7, .int v15), (6, .int v12), (5, .ref (kad K (144 + a3.toNatClampNeg))), (0, .ref (kad K 0)), (1, .int a1), (2, .int a2), (3, .int a3), (4, .int a4)]) C dX10_duelAhead_61 (by rw [e5]; decide) rfl ?_
          obtain ⟨e34, g35, h0⟩ := ob_bind h0
          have J1 : ∀ (s19 : mS) (y20 : Int32), (s19, y20) = e34 → Wx LX K s19 138 [(7, .int y20)] [] := by
            intro s19 y20 e9
            subst e9
            replace h0 := un2_l h0
            refine x_iload C 0 dX10_duelAhead_138 rfl ?_
            cases h0
            exact x_iret C R dX10_duelAhead_140
          refine lp_G (G := fun q : mS × Int32 × Int32 => Wx LX K q.1 63 [(8, .int q.2.2), (7, .int q.2.1), (6, .int v12), (5, .ref (kad K (144 + a3.toNatClampNeg))), (0, .ref (kad K 0)), (1, .int a1), (2, .int a2), (3, .int a3), (4, .int a4)] []) (fun q x h1 ihL1 ihR1 => ?_) big _ g35
          obtain ⟨s16, x17, x18⟩ := q
          replace h1 : X10_duelAhead_b63 rc a1 a2 a3 a4 v12 s16 x17 x18 = some x := h1
          unfold X10_duelAhead_b63 at h1
          show Wx LX K s16 63 [(8, .int x18), (7, .int x17), (6, .int v12), (5, .ref (kad K (144 + a3.toNatClampNeg))), (0, .ref (kad K 0)), (1, .int a1), (2, .int a2), (3, .int a3), (4, .int a4)] []
          refine x_iload C 0 dX10_duelAhead_63 rfl ?_
          refine x_bipush (v := 12) C dX10_duelAhead_65 rfl ?_
          refine x_icmpgt C 138 dX10_duelAhead_67 (by decide) (fun c22 => ?_) (fun c22 => ?_)
          · replace h1 := ob_pos c22 h1
            refine x_lv (lv' := [(7, .int x17)]) [1] rfl ?_
            exact J1 _ _ (ihR1 _ (Option.some.inj h1).symm)
          · replace h1 := ob_neg c22 h1
            refine x_aload C 3 dX10_duelAhead_70 rfl ?_
            refine x_iload C 0 dX10_duelAhead_72 rfl ?_
            refine x_callV (ar := 1) (q := (RX2, TX2, 6)) (rest := []) C (c_X2_holds C.2.2.2.2.2.2.1 (Nat.lt_of_lt_of_le (vin_lt c1) (by decide)) rfl) (iX18 (Nat.lt_of_lt_of_le (vin_lt c1) (by decide))) (lX18 (Nat.lt_of_lt_of_le (vin_lt c1) (by decide))) rfl hy_X2_holds ⟨tw495, tw496, tw497, tw72, tw498⟩ (Nat.lt_succ_of_lt (Nat.lt_of_lt_of_le (by decide) hn0)) (by decide) rfl rfl (Nat.le_of_ble_eq_true rfl) dX10_duelAhead_74 ?_
            show Wx LX K s16 77 [(8, .int x18), (7, .int x17), (6, .int v12), (5, .ref (kad K (144 + a3.toNatClampNeg))), (0, .ref (kad K 0)), (1, .int a1), (2, .int a2), (3, .int a3), (4, .int a4)] [.int (X2_holds s16 a3.toNatClampNeg x18)]
            refine x_ifeq C 132 dX10_duelAhead_77 (by decide) (fun c25 => ?_) (fun c25 => ?_)
            · replace h1 := ob_pos c25 h1
              refine x_iinc (v := (x18 + 1)) (lv' := [(8, .int (x18 + 1)), (7, .int x17), (6, .int v12), (5, .ref (kad K (144 + a3.toNatClampNeg))), (0, .ref (kad K 0)), (1, .int a1), (2, .int a2), (3, .int a3), (4, .int a4)]) C 0 dX10_duelAhead_132 rfl rfl (by rw [e5]; decide) rfl ?_
              refine x_goto C 63 dX10_duelAhead_135 (by decide) ?_
              refine x_lv (lv' := [(8, .int (x18 + 1)), (7, .int x17), (6, .int v12), (5, .ref (kad K (144 + a3.toNatClampNeg))), (0, .ref (kad K 0)), (1, .int a1), (2, .int a2), (3, .int a3), (4, .int a4)]) [0, 1, 2, 3, 4, 5, 6, 7, 8] rfl ?_
              exact ihL1 _ (Option.some.inj h1).symm
            · replace h1 := ob_neg c25 h1
              refine x_aload_n C 4 dX10_duelAhead_80 rfl ?_
              refine x_iload_n C 7 dX10_duelAhead_81 rfl ?_
              refine x_iload C 0 dX10_duelAhead_82 rfl ?_
              refine x_iconst (v := 1) C dX10_duelAhead_84 rfl ?_
              refine x_iload_n C 5 dX10_duelAhead_85 rfl ?_
              refine x_ishl C dX10_duelAhead_86 ?_
              refine x_iconst (v := 1) C dX10_duelAhead_87 rfl ?_
              refine x_iload_n C 6 dX10_duelAhead_88 rfl ?_
              refine x_ishl C dX10_duelAhead_89 ?_
              refine x_ior C dX10_duelAhead_90 ?_
              obtain ⟨r26, s28, g27, h1⟩ := ob_bd h1
              refine x_callV (ar := 3) (q := (RX10, TX10, 18)) (rest := []) C (c_X10_stepAhead C.2.2.2.2.2.2.1  g27) (iX 0 (by decide)) rfl rfl hy_X10_stepAhead ⟨tw587, tw589, tw16, tw63, tw590⟩ (Nat.lt_succ_of_lt (Nat.lt_of_lt_of_le (by decide) hn0)) (by decide) rfl rfl (Nat.le_of_ble_eq_true rfl) dX10_duelAhead_91 ?_
              show Wx LX K s28 94 [(8, .int x18), (7, .int x17), (6, .int v12), (5, .ref (kad K (144 + a3.toNatClampNeg))), (0, .ref (kad K 0)), (1, .int a1), (2, .int a2), (3, .int a3), (4, .int a4)] [.int r26]
              refine x_pop C dX10_duelAhead_94 rfl ?_
              refine x_aload_n C 4 dX10_duelAhead_95 rfl ?_
              refine x_iload_n C 5 dX10_duelAhead_96 rfl ?_
              refine x_iload_n C 6 dX10_duelAhead_97 rfl ?_
              refine x_iload_n C 7 dX10_duelAhead_98 rfl ?_
              refine x_iconst (v := 1) C dX10_duelAhead_99 rfl ?_
              refine x_iadd C dX10_duelAhead_100 ?_
              refine x_iload C 8 dX10_duelAhead_101 rfl ?_
              obtain ⟨r29, s31, g30, h1⟩ := ob_bd h1
              refine x_callV (ar := 4) (q := (RX10, TX10, 18)) (rest := []) C (hrc g30) (iX 0 (by decide)) rfl rfl hy_X10_duelAhead ⟨tw659, tw661, tw26, tw63, tw662⟩ (Nat.lt_succ_self _) (by decide) rfl rfl (Nat.le_of_ble_eq_true rfl) dX10_duelAhead_103 ?_
              show Wx LX K s31 106 [(8, .int x18), (7, .int x17), (6, .int v12), (5, .ref (kad K (144 + a3.toNatClampNeg))), (0, .ref (kad K 0)), (1, .int a1), (2, .int a2), (3, .int a3), (4, .int a4)] [.int r29]
              refine x_istore (lv' := [(9, .int r29), (8, .int x18), (7, .int x17), (6, .int v12), (5, .ref (kad K (144 + a3.toNatClampNeg))), (0, .ref (kad K 0)), (1, .int a1), (2, .int a2), (3, .int a3), (4, .int a4)]) C dX10_duelAhead_106 (by rw [e5]; decide) rfl ?_
              refine x_iload C 3 dX10_duelAhead_108 rfl ?_
              refine x_ifeq C 123 dX10_duelAhead_110 (by decide) (fun c33 => ?_) (fun c33 => ?_)
              · replace h1 := ob_pos c33 h1
                refine x_iload C 2 dX10_duelAhead_123 rfl ?_
                refine x_iload C 0 dX10_duelAhead_125 rfl ?_
                refine x_mmin C (Nat.le_add_left 1 n0) tw600 tw433 tw78 tw434 (Nat.le_of_ble_eq_true rfl) dX10_duelAhead_127 ?_
                refine x_istore (lv' := [(7, .int (jmin x17 r29)), (9, .int r29), (8, .int x18), (6, .int v12), (5, .ref (kad K (144 + a3.toNatClampNeg))), (0, .ref (kad K 0)), (1, .int a1), (2, .int a2), (3, .int a3), (4, .int a4)]) C dX10_duelAhead_130 (by rw [e5]; decide) rfl ?_
                refine x_iinc (v := (x18 + 1)) (lv' := [(8, .int (x18 + 1)), (7, .int (jmin x17 r29)), (9, .int r29), (6, .int v12), (5, .ref (kad K (144 + a3.toNatClampNeg))), (0, .ref (kad K 0)), (1, .int a1), (2, .int a2), (3, .int a3), (4, .int a4)]) C 2 dX10_duelAhead_132 rfl rfl (by rw [e5]; decide) rfl ?_
                refine x_goto C 63 dX10_duelAhead_135 (by decide) ?_
                refine x_lv (lv' := [(8, .int (x18 + 1)), (7, .int (jmin x17 r29)), (6, .int v12), (5, .ref (kad K (144 + a3.toNatClampNeg))), (0, .ref (kad K 0)), (1, .int a1), (2, .int a2), (3, .int a3), (4, .int a4)]) [0, 1, 3, 4, 5, 6, 7, 8, 9] rfl ?_
                exact ihL1 _ (Option.some.inj h1).symm
              · replace h1 := ob_neg c33 h1
                refine x_iload C 2 dX10_duelAhead_113 rfl ?_
                refine x_iload C 0 dX10_duelAhead_115 rfl ?_
                refine x_mmax C (Nat.le_add_left 1 n0) tw654 tw423 tw78 tw424 (Nat.le_of_ble_eq_true rfl) dX10_duelAhead_117 ?_
                refine x_goto C 130 dX10_duelAhead_120 (by decide) ?_
                refine x_istore (lv' := [(7, .int (jmax x17 r29)), (9, .int r29), (8, .int x18), (6, .int v12), (5, .ref (kad K (144 + a3.toNatClampNeg))), (0, .ref (kad K 0)), (1, .int a1), (2, .int a2), (3, .int a3), (4, .int a4)]) C dX10_duelAhead_130 (by rw [e5]; decide) rfl ?_
                refine x_iinc (v := (x18 + 1)) (lv' := [(8, .int (x18 + 1)), (7, .int (jmax x17 r29)), (9, .int r29), (6, .int v12), (5, .ref (kad K (144 + a3.toNatClampNeg))), (0, .ref (kad K 0)), (1, .int a1), (2, .int a2), (3, .int a3), (4, .int a4)]) C 2 dX10_duelAhead_132 rfl rfl (by rw [e5]; decide) rfl ?_
                refine x_goto C 63 dX10_duelAhead_135 (by decide) ?_
                refine x_lv (lv' := [(8, .int (x18 + 1)), (7, .int (jmax x17 r29)), (6, .int v12), (5, .ref (kad K (144 + a3.toNatClampNeg))), (0, .ref (kad K 0)), (1, .int a1), (2, .int a2), (3, .int a3), (4, .int a4)]) [0, 1, 3, 4, 5, 6, 7, 8, 9] rfl ?_
                exact ihL1 _ (Option.some.inj h1).symm
        refine x_ifeq C 56 dX10_duelAhead_48 (by decide) (fun c39 => ?_) (fun c39 => ?_)
        · replace g36 := ob_pos c39 g36
          refine x_bipush (v := 100) C dX10_duelAhead_56 rfl ?_
          refine x_lv (lv' := [(6, .int v12), (5, .ref (kad K (144 + a3.toNatClampNeg))), (0, .ref (kad K 0)), (1, .int a1), (2, .int a2), (3, .int a3), (4, .int a4)]) [0, 1, 2, 3, 4, 5, 6] rfl ?_
          exact J38 _ g36
        · replace g36 := ob_neg c39 g36
          refine x_bipush (v := (-100)) C dX10_duelAhead_51 rfl ?_
          refine x_goto C 58 dX10_duelAhead_53 (by decide) ?_
          refine x_lv (lv' := [(6, .int v12), (5, .ref (kad K (144 + a3.toNatClampNeg))), (0, .ref (kad K 0)), (1, .int a1), (2, .int a2), (3, .int a3), (4, .int a4)]) [0, 1, 2, 3, 4, 5, 6] rfl ?_
          exact J38 _ g36
      refine x_ifne C 43 dX10_duelAhead_36 (by decide) (fun c43 => ?_) (fun c43 => ?_)
      · replace g40 := ob_neg c43 g40
        refine x_iconst (v := 0) C dX10_duelAhead_43 rfl ?_
        refine x_lv (lv' := [(5, .ref (kad K (144 + a3.toNatClampNeg))), (0, .ref (kad K 0)), (1, .int a1), (2, .int a2), (3, .int a3), (4, .int a4)]) [0, 1, 2, 3, 4, 5] rfl ?_
        exact J42 _ g40
      · replace g40 := ob_pos c43 g40
        refine x_iconst (v := 1) C dX10_duelAhead_39 rfl ?_
        refine x_goto C 44 dX10_duelAhead_40 (by decide) ?_
        refine x_lv (lv' := [(5, .ref (kad K (144 + a3.toNatClampNeg))), (0, .ref (kad K 0)), (1, .int a1), (2, .int a2), (3, .int a3), (4, .int a4)]) [0, 1, 2, 3, 4, 5] rfl ?_
        exact J42 _ g40
    · replace h0 := ob_neg c9 h0
      refine x_aload C 0 dX10_duelAhead_19 rfl ?_
      refine x_iload_n C 2 dX10_duelAhead_21 rfl ?_
      obtain ⟨r44, g45, h0⟩ := ob_bind h0
      refine x_callV (ar := 1) (q := (RX2, TX2, 6)) (rest := []) C (c_X2_worth C.2.2.2.2.2.2.1 (Nat.lt_of_lt_of_le (vin_lt c1) (by decide)) g45) (iX18 (Nat.lt_of_lt_of_le (vin_lt c1) (by decide))) (lX18 (Nat.lt_of_lt_of_le (vin_lt c1) (by decide))) rfl hy_X2_worth ⟨tw663, tw664, tw665, tw72, tw666⟩ (Nat.lt_succ_of_lt (Nat.lt_of_lt_of_le (by decide) hn0)) (by decide) rfl rfl (Nat.le_of_ble_eq_true rfl) dX10_duelAhead_22 ?_
      show Wx LX K σ 25 [(5, .ref (kad K (144 + a3.toNatClampNeg))), (0, .ref (kad K 0)), (1, .int a1), (2, .int a2), (3, .int a3), (4, .int a4)] [.int r44]
      refine x_aload C 0 dX10_duelAhead_25 rfl ?_
      refine x_iload_n C 3 dX10_duelAhead_27 rfl ?_
      obtain ⟨r46, g47, h0⟩ := ob_bind h0
      refine x_callV (ar := 1) (q := (RX2, TX2, 6)) (rest := [.int r44]) C (c_X2_worth C.2.2.2.2.2.2.1 (Nat.lt_of_lt_of_le (vin_lt c1) (by decide)) g47) (iX18 (Nat.lt_of_lt_of_le (vin_lt c1) (by decide))) (lX18 (Nat.lt_of_lt_of_le (vin_lt c1) (by decide))) rfl hy_X2_worth ⟨tw663, tw664, tw665, tw72, tw666⟩ (Nat.lt_succ_of_lt (Nat.lt_of_lt_of_le (by decide) hn0)) (by decide) rfl rfl (Nat.le_of_ble_eq_true rfl) dX10_duelAhead_28 ?_
      show Wx LX K σ 31 [(5, .ref (kad K (144 + a3.toNatClampNeg))), (0, .ref (kad K 0)), (1, .int a1), (2, .int a2), (3, .int a3), (4, .int a4)] [.int r46, .int r44]
      refine x_isub C dX10_duelAhead_31 ?_
      cases h0
      exact x_iret C R dX10_duelAhead_32
theorem c_X10_duelAhead {l : Launch} {D : va_G} {ad : Nat → Nat} {cy : Nat → ClassId} (hJ : mJ LX ad) : ∀ (f : Nat) {σ τ : mS} {a1 : Int32} {a2 : Int32} {a3 : Int32} {a4 : Int32} {r : Int32}, X10_duelAhead f σ a1 a2 a3 a4 = some (r, τ) → MetG l LX D ad cy yX10_duelAhead cX10_duelAhead 10 (some .int) (6 + f) [.ref (ad 0), .int a1, .int a2, .int a3, .int a4] σ (some (.int r)) τ
  | 0, _, _, _, _, _, _, _, h => by cases h
  | f + 1, _, _, _, _, _, _, _, h => c_X10_duelAhead_F hJ (Nat.le_add_right 6 f) (fun {_ _} {_ _ _ _} {_} h => c_X10_duelAhead hJ f h) h
set_option maxHeartbeats 4000000 in
set_option maxRecDepth 100000 in
theorem c_X10_duel {l : Launch} {D : va_G} {ad : Nat → Nat} {cy : Nat → ClassId} (hJ : mJ LX ad) {σ τ : mS} {a1 : Int32} {a2 : Int32} {a3 : Int32} {r : Int32}  (h0 : X10_duel σ a1 a2 a3 = some (r, τ)) : MetG l LX D ad cy yX10_duel cX10_duel 4 (some .int) 13 [.ref (ad 0), .int a1, .int a2, .int a3] σ (some (.int r)) τ := by
  refine MetG.of hJ (by decide +kernel) [(0, .ref (ad 0)), (1, .int a1), (2, .int a2), (3, .int a3)] rfl (Nat.le_of_ble_eq_true rfl) ?_
  intro K e1 e2 e3 e4 e5 C R
  subst e1
  subst e2
  subst e3
  subst e4
  unfold X10_duel at h0
  refine x_aload_n C 0 dX10_duel_0 rfl ?_
  refine x_iload_n C 1 dX10_duel_1 rfl ?_
  refine x_callV (ar := 1) (q := (RX10, TX10, 18)) (rest := []) C (c_X10_isPlayer C.2.2.2.2.2.2.1  rfl) (iX 0 (by decide)) rfl rfl hy_X10_isPlayer ⟨tw390, tw392, tw8, tw63, tw393⟩ (by decide) (by decide) rfl rfl (Nat.le_of_ble_eq_true rfl) dX10_duel_2 ?_
  show Wx LX K σ 5 [(0, .ref (kad K 0)), (1, .int a1), (2, .int a2), (3, .int a3)] [.int (X10_isPlayer σ a1)]
  refine x_ifeq C 30 dX10_duel_5 (by decide) (fun c3 => ?_) (fun c3 => ?_)
  · replace h0 := ob_pos c3 h0
    refine x_iconst (v := (-1)) C dX10_duel_30 rfl ?_
    cases h0
    exact x_iret C R dX10_duel_31
  · replace h0 := ob_neg c3 h0
    refine x_aload_n C 0 dX10_duel_8 rfl ?_
    refine x_iload_n C 2 dX10_duel_9 rfl ?_
    refine x_callV (ar := 1) (q := (RX10, TX10, 18)) (rest := []) C (c_X10_isPlayer C.2.2.2.2.2.2.1  rfl) (iX 0 (by decide)) rfl rfl hy_X10_isPlayer ⟨tw390, tw392, tw8, tw63, tw393⟩ (by decide) (by decide) rfl rfl (Nat.le_of_ble_eq_true rfl) dX10_duel_10 ?_
    show Wx LX K σ 13 [(0, .ref (kad K 0)), (1, .int a1), (2, .int a2), (3, .int a3)] [.int (X10_isPlayer σ a2)]
    refine x_ifeq C 30 dX10_duel_13 (by decide) (fun c6 => ?_) (fun c6 => ?_)
    · replace h0 := ob_pos c6 h0
      refine x_iconst (v := (-1)) C dX10_duel_30 rfl ?_
      cases h0
      exact x_iret C R dX10_duel_31
    · replace h0 := ob_neg c6 h0
      refine x_iload_n C 1 dX10_duel_16 rfl ?_
      refine x_iload_n C 2 dX10_duel_17 rfl ?_
      refine x_icmpeq C 30 dX10_duel_18 (by decide) (fun c8 => ?_) (fun c8 => ?_)
      · replace h0 := ob_pos c8 h0
        refine x_iconst (v := (-1)) C dX10_duel_30 rfl ?_
        cases h0
        exact x_iret C R dX10_duel_31
      · replace h0 := ob_neg c8 h0
        refine x_iload_n C 3 dX10_duel_21 rfl ?_
        refine x_iflt C 30 dX10_duel_22 (by decide) (fun c10 => ?_) (fun c10 => ?_)
        · replace h0 := ob_pos c10 h0
          refine x_iconst (v := (-1)) C dX10_duel_30 rfl ?_
          cases h0
          exact x_iret C R dX10_duel_31
        · replace h0 := ob_neg c10 h0
          refine x_iload_n C 3 dX10_duel_25 rfl ?_
          refine x_iconst (v := 2) C dX10_duel_26 rfl ?_
          refine x_icmple C 32 dX10_duel_27 (by decide) (fun c12 => ?_) (fun c12 => ?_)
          · replace h0 := ob_pos c12 h0
            refine x_aload_n C 0 dX10_duel_32 rfl ?_
            refine x_aload_n C 0 dX10_duel_33 rfl ?_
            refine x_iload_n C 1 dX10_duel_34 rfl ?_
            refine x_iload_n C 2 dX10_duel_35 rfl ?_
            refine x_iconst (v := 0) C dX10_duel_36 rfl ?_
            refine x_aload_n C 0 dX10_duel_37 rfl ?_
            refine x_iconst (v := 2) C dX10_duel_38 rfl ?_
            refine x_iload_n C 3 dX10_duel_39 rfl ?_
            refine x_imul C dX10_duel_40 ?_
            obtain ⟨r13, s15, g14, h0⟩ := ob_bd h0
            refine x_callV (ar := 1) (q := (RX10, TX10, 18)) (rest := [.int 0, .int a2, .int a1, .ref (kad K 0), .ref (kad K 0)]) C (c_X10_callsAhead C.2.2.2.2.2.2.1  g14) (iX 0 (by decide)) rfl rfl hy_X10_callsAhead ⟨tw596, tw598, tw17, tw63, tw599⟩ (by decide) (by decide) rfl rfl (Nat.le_of_ble_eq_true rfl) dX10_duel_41 ?_
            show Wx LX K s15 44 [(0, .ref (kad K 0)), (1, .int a1), (2, .int a2), (3, .int a3)] [.int r13, .int 0, .int a2, .int a1, .ref (kad K 0), .ref (kad K 0)]
            obtain ⟨r16, s18, g17, h0⟩ := ob_bd h0
            refine x_callV (ar := 4) (q := (RX10, TX10, 18)) (rest := [.ref (kad K 0)]) C (c_X10_duelAhead C.2.2.2.2.2.2.1 6  g17) (iX 0 (by decide)) rfl rfl hy_X10_duelAhead ⟨tw659, tw661, tw26, tw63, tw662⟩ (by decide) (by decide) rfl rfl (Nat.le_of_ble_eq_true rfl) dX10_duel_44 ?_
            show Wx LX K s18 47 [(0, .ref (kad K 0)), (1, .int a1), (2, .int a2), (3, .int a3)] [.int r16, .ref (kad K 0)]
            refine x_putI (j := 13) (i := 99) (q := (RX10, TX10, 18)) C tyX10 tyX10_ok nmX10 (iX 0 (by decide)) rfl rfl inBX10 (by decide) tw248 rfl (by decide +kernel) rfl dX10_duel_47 ?_
            refine x_iconst (v := 1) C dX10_duel_50 rfl ?_
            cases h0
            exact x_iret C R dX10_duel_51
          · replace h0 := ob_neg c12 h0
            refine x_iconst (v := (-1)) C dX10_duel_30 rfl ?_
            cases h0
            exact x_iret C R dX10_duel_31
set_option maxHeartbeats 4000000 in
set_option maxRecDepth 100000 in
theorem c_X10_sumAhead_F {l : Launch} {D : va_G} {ad : Nat → Nat} {cy : Nat → ClassId} (hJ : mJ LX ad) {rc : mS → Int32 → Int32 → Int32 → Int32 → Option (Int64 × mS)} {n0 : Nat} (hn0 : 6 ≤ n0) (hrc : ∀ {σ τ : mS} {a1 : Int32} {a2 : Int32} {a3 : Int32} {a4 : Int32} {r : Int64}, rc σ a1 a2 a3 a4 = some (r, τ) → MetG l LX D ad cy yX10_sumAhead cX10_sumAhead 9 (some .long) n0 [.ref (ad 0), .int a1, .int a2, .int a3, .int a4] σ (some (.long r)) τ) {σ τ : mS} {a1 : Int32} {a2 : Int32} {a3 : Int32} {a4 : Int32} {r : Int64}  (h0 : X10_sumAhead_F rc σ a1 a2 a3 a4 = some (r, τ)) : MetG l LX D ad cy yX10_sumAhead cX10_sumAhead 9 (some .long) (n0 + 1) [.ref (ad 0), .int a1, .int a2, .int a3, .int a4] σ (some (.long r)) τ := by
  refine MetG.of hJ (by decide +kernel) [(0, .ref (ad 0)), (1, .int a1), (2, .int a2), (3, .int a3), (4, .int a4)] rfl (Nat.le_of_ble_eq_true rfl) ?_
  intro K e1 e2 e3 e4 e5 C R
  subst e1
  subst e2
  subst e3
  subst e4
  unfold X10_sumAhead_F at h0
  refine x_aload_n C 0 dX10_sumAhead_0 rfl ?_
  refine x_getR (j := 9) (i := 60) (q := (RX10, TX10, 18)) C 184 (iX 0 (by decide)) rfl rfl inBX10 (by decide) tw244 rfl dX10_sumAhead_1 ?_
  refine x_iload_n C 3 dX10_sumAhead_4 rfl ?_
  obtain ⟨c1, h0⟩ := ob_if h0
  refine x_aald C (iX 184 (by decide)) rfl rfl rfl (vin_in c1) dX10_sumAhead_5 ?_
  refine x_astore (lv' := [(5, .ref (kad K (144 + a3.toNatClampNeg))), (0, .ref (kad K 0)), (1, .int a1), (2, .int a2), (3, .int a3), (4, .int a4)]) C dX10_sumAhead_6 (by rw [e5]; decide) rfl ?_
  refine x_iload_n C 4 dX10_sumAhead_8 rfl ?_
  refine x_iload C 5 dX10_sumAhead_9 rfl ?_
  refine x_icmpge C 19 dX10_sumAhead_11 (by decide) (fun c3 => ?_) (fun c3 => ?_)
  · replace h0 := ob_pos c3 h0
    refine x_iload_n C 3 dX10_sumAhead_19 rfl ?_
    refine x_ifeq C 36 dX10_sumAhead_20 (by decide) (fun c5 => ?_) (fun c5 => ?_)
    · replace h0 := ob_pos c5 h0
      refine x_aload C 0 dX10_sumAhead_36 rfl ?_
      refine x_getRN (j := 1) (i := 156) (q := (RX2, TX2, 6)) (host := "CalledNumbers") C (152 + a3.toNatClampNeg) (iX18 (Nat.lt_of_lt_of_le (vin_lt c1) (by decide))) (lX18 (Nat.lt_of_lt_of_le (vin_lt c1) (by decide))) rfl inBX2 (by decide) twN193 rfl dX10_sumAhead_38 ?_
      refine x_iload_n C 2 dX10_sumAhead_41 rfl ?_
      obtain ⟨c6, h0⟩ := ob_if h0
      refine x_iald C (iX19 (Nat.lt_of_lt_of_le (vin_lt c1) (by decide))) (lX19 (Nat.lt_of_lt_of_le (vin_lt c1) (by decide))) (vin_in c6) dX10_sumAhead_42 ?_
      refine x_callS (ar := 1) (rest := []) C (c_J6_bitCount_0f7a4 C.2.2.2.2.2.2.1  rfl) hy_J6_bitCount_0f7a4 ⟨tw591, tw417, tw77, tw418⟩ (Nat.lt_succ_of_lt (Nat.lt_of_lt_of_le (by decide) hn0)) (by decide) rfl rfl (Nat.le_of_ble_eq_true rfl) dX10_sumAhead_43 ?_
      show Wx LX K σ 46 [(5, .ref (kad K (144 + a3.toNatClampNeg))), (0, .ref (kad K 0)), (1, .int a1), (2, .int a2), (3, .int a3), (4, .int a4)] [.int (J6_bitCount_0f7a4 (σ.1 (152 + a3.toNatClampNeg) a1.toNatClampNeg))]
      refine x_i2l C dX10_sumAhead_46 ?_
      cases h0
      exact x_lret C R dX10_sumAhead_47
    · replace h0 := ob_neg c5 h0
      refine x_aload C 0 dX10_sumAhead_23 rfl ?_
      refine x_getIN (j := 2) (i := 223) (q := (RX2, TX2, 6)) (host := "CalledNumbers") C (iX18 (Nat.lt_of_lt_of_le (vin_lt c1) (by decide))) (lX18 (Nat.lt_of_lt_of_le (vin_lt c1) (by decide))) rfl inBX2 (by decide) twN195 rfl dX10_sumAhead_25 ?_
      refine x_iload_n C 2 dX10_sumAhead_28 rfl ?_
      refine x_ishr C dX10_sumAhead_29 ?_
      refine x_iconst (v := 1) C dX10_sumAhead_30 rfl ?_
      refine x_iand C dX10_sumAhead_31 ?_
      refine x_i2l C dX10_sumAhead_32 ?_
      refine x_goto C 47 dX10_sumAhead_33 (by decide) ?_
      cases h0
      exact x_lret C R dX10_sumAhead_47
  · replace h0 := ob_neg c3 h0
    refine x_iload_n C 4 dX10_sumAhead_14 rfl ?_
    refine x_iconst (v := 4) C dX10_sumAhead_15 rfl ?_
    refine x_icmplt C 48 dX10_sumAhead_16 (by decide) (fun c9 => ?_) (fun c9 => ?_)
    · replace h0 := ob_pos c9 h0
      refine x_lconst (v := 0) C dX10_sumAhead_48 rfl ?_
      refine x_lstore (lv' := [(6, .long 0), (5, .ref (kad K (144 + a3.toNatClampNeg))), (0, .ref (kad K 0)), (1, .int a1), (2, .int a2), (3, .int a3), (4, .int a4)]) C dX10_sumAhead_49 (by rw [e5]; decide) rfl ?_
      refine x_iconst (v := 1) C dX10_sumAhead_51 rfl ?_
      refine x_istore (lv' := [(8, .int 1), (6, .long 0), (5, .ref (kad K (144 + a3.toNatClampNeg))), (0, .ref (kad K 0)), (1, .int a1), (2, .int a2), (3, .int a3), (4, .int a4)]) C dX10_sumAhead_52 (by rw [e5]; decide) rfl ?_
      obtain ⟨e26, g27, h0⟩ := ob_bind h0
      have J1 : ∀ (s13 : mS) (y14 : Int64), (s13, y14) = e26 → Wx LX K s13 104 [(6, .long y14)] [] := by
        intro s13 y14 e9
        subst e9
        replace h0 := un2_l h0
        refine x_lload C 0 dX10_sumAhead_104 rfl ?_
        cases h0
        exact x_lret C R dX10_sumAhead_106
      refine lp_G (G := fun q : mS × Int64 × Int32 => Wx LX K q.1 54 [(8, .int q.2.2), (6, .long q.2.1), (5, .ref (kad K (144 + a3.toNatClampNeg))), (0, .ref (kad K 0)), (1, .int a1), (2, .int a2), (3, .int a3), (4, .int a4)] []) (fun q x h1 ihL1 ihR1 => ?_) big _ g27
      obtain ⟨s10, x11, x12⟩ := q
      replace h1 : X10_sumAhead_b54 rc a1 a2 a3 a4 s10 x11 x12 = some x := h1
      unfold X10_sumAhead_b54 at h1
      show Wx LX K s10 54 [(8, .int x12), (6, .long x11), (5, .ref (kad K (144 + a3.toNatClampNeg))), (0, .ref (kad K 0)), (1, .int a1), (2, .int a2), (3, .int a3), (4, .int a4)] []
      refine x_iload C 0 dX10_sumAhead_54 rfl ?_
      refine x_bipush (v := 12) C dX10_sumAhead_56 rfl ?_
      refine x_icmpgt C 104 dX10_sumAhead_58 (by decide) (fun c16 => ?_) (fun c16 => ?_)
      · replace h1 := ob_pos c16 h1
        refine x_lv (lv' := [(6, .long x11)]) [1] rfl ?_
        exact J1 _ _ (ihR1 _ (Option.some.inj h1).symm)
      · replace h1 := ob_neg c16 h1
        refine x_aload C 2 dX10_sumAhead_61 rfl ?_
        refine x_iload C 0 dX10_sumAhead_63 rfl ?_
        refine x_callV (ar := 1) (q := (RX2, TX2, 6)) (rest := []) C (c_X2_holds C.2.2.2.2.2.2.1 (Nat.lt_of_lt_of_le (vin_lt c1) (by decide)) rfl) (iX18 (Nat.lt_of_lt_of_le (vin_lt c1) (by decide))) (lX18 (Nat.lt_of_lt_of_le (vin_lt c1) (by decide))) rfl hy_X2_holds ⟨tw495, tw496, tw497, tw72, tw498⟩ (Nat.lt_succ_of_lt (Nat.lt_of_lt_of_le (by decide) hn0)) (by decide) rfl rfl (Nat.le_of_ble_eq_true rfl) dX10_sumAhead_65 ?_
        show Wx LX K s10 68 [(8, .int x12), (6, .long x11), (5, .ref (kad K (144 + a3.toNatClampNeg))), (0, .ref (kad K 0)), (1, .int a1), (2, .int a2), (3, .int a3), (4, .int a4)] [.int (X2_holds s10 a3.toNatClampNeg x12)]
        refine x_ifeq C 98 dX10_sumAhead_68 (by decide) (fun c19 => ?_) (fun c19 => ?_)
        · replace h1 := ob_pos c19 h1
          refine x_iinc (v := (x12 + 1)) (lv' := [(8, .int (x12 + 1)), (6, .long x11), (5, .ref (kad K (144 + a3.toNatClampNeg))), (0, .ref (kad K 0)), (1, .int a1), (2, .int a2), (3, .int a3), (4, .int a4)]) C 0 dX10_sumAhead_98 rfl rfl (by rw [e5]; decide) rfl ?_
          refine x_goto C 54 dX10_sumAhead_101 (by decide) ?_
          refine x_lv (lv' := [(8, .int (x12 + 1)), (6, .long x11), (5, .ref (kad K (144 + a3.toNatClampNeg))), (0, .ref (kad K 0)), (1, .int a1), (2, .int a2), (3, .int a3), (4, .int a4)]) [0, 1, 2, 3, 4, 5, 6, 7] rfl ?_
          exact ihL1 _ (Option.some.inj h1).symm
        · replace h1 := ob_neg c19 h1
          refine x_aload_n C 3 dX10_sumAhead_71 rfl ?_
          refine x_iload_n C 6 dX10_sumAhead_72 rfl ?_
          refine x_iload C 0 dX10_sumAhead_73 rfl ?_
          refine x_iconst (v := 1) C dX10_sumAhead_75 rfl ?_
          refine x_iload_n C 4 dX10_sumAhead_76 rfl ?_
          refine x_ishl C dX10_sumAhead_77 ?_
          obtain ⟨r20, s22, g21, h1⟩ := ob_bd h1
          refine x_callV (ar := 3) (q := (RX10, TX10, 18)) (rest := []) C (c_X10_stepAhead C.2.2.2.2.2.2.1  g21) (iX 0 (by decide)) rfl rfl hy_X10_stepAhead ⟨tw587, tw589, tw16, tw63, tw590⟩ (Nat.lt_succ_of_lt (Nat.lt_of_lt_of_le (by decide) hn0)) (by decide) rfl rfl (Nat.le_of_ble_eq_true rfl) dX10_sumAhead_78 ?_
          show Wx LX K s22 81 [(8, .int x12), (6, .long x11), (5, .ref (kad K (144 + a3.toNatClampNeg))), (0, .ref (kad K 0)), (1, .int a1), (2, .int a2), (3, .int a3), (4, .int a4)] [.int r20]
          refine x_pop C dX10_sumAhead_81 rfl ?_
          refine x_lload C 1 dX10_sumAhead_82 rfl ?_
          refine x_aload_n C 3 dX10_sumAhead_84 rfl ?_
          refine x_iload_n C 4 dX10_sumAhead_85 rfl ?_
          refine x_iload_n C 5 dX10_sumAhead_86 rfl ?_
          refine x_iload_n C 6 dX10_sumAhead_87 rfl ?_
          refine x_iconst (v := 1) C dX10_sumAhead_88 rfl ?_
          refine x_iadd C dX10_sumAhead_89 ?_
          refine x_iload C 7 dX10_sumAhead_90 rfl ?_
          obtain ⟨r23, s25, g24, h1⟩ := ob_bd h1
          refine x_callV (ar := 4) (q := (RX10, TX10, 18)) (rest := [.long x11]) C (hrc g24) (iX 0 (by decide)) rfl rfl hy_X10_sumAhead ⟨tw677, tw679, tw28, tw63, tw680⟩ (Nat.lt_succ_self _) (by decide) rfl rfl (Nat.le_of_ble_eq_true rfl) dX10_sumAhead_92 ?_
          show Wx LX K s25 95 [(8, .int x12), (6, .long x11), (5, .ref (kad K (144 + a3.toNatClampNeg))), (0, .ref (kad K 0)), (1, .int a1), (2, .int a2), (3, .int a3), (4, .int a4)] [.long r23, .long x11]
          refine x_ladd C dX10_sumAhead_95 ?_
          refine x_lstore (lv' := [(6, .long (x11 + r23)), (8, .int x12), (5, .ref (kad K (144 + a3.toNatClampNeg))), (0, .ref (kad K 0)), (1, .int a1), (2, .int a2), (3, .int a3), (4, .int a4)]) C dX10_sumAhead_96 (by rw [e5]; decide) rfl ?_
          refine x_iinc (v := (x12 + 1)) (lv' := [(8, .int (x12 + 1)), (6, .long (x11 + r23)), (5, .ref (kad K (144 + a3.toNatClampNeg))), (0, .ref (kad K 0)), (1, .int a1), (2, .int a2), (3, .int a3), (4, .int a4)]) C 1 dX10_sumAhead_98 rfl rfl (by rw [e5]; decide) rfl ?_
          refine x_goto C 54 dX10_sumAhead_101 (by decide) ?_
          refine x_lv (lv' := [(8, .int (x12 + 1)), (6, .long (x11 + r23)), (5, .ref (kad K (144 + a3.toNatClampNeg))), (0, .ref (kad K 0)), (1, .int a1), (2, .int a2), (3, .int a3), (4, .int a4)]) [0, 1, 2, 3, 4, 5, 6, 7] rfl ?_
          exact ihL1 _ (Option.some.inj h1).symm
    · replace h0 := ob_neg c9 h0
      refine x_iload_n C 3 dX10_sumAhead_19 rfl ?_
      refine x_ifeq C 36 dX10_sumAhead_20 (by decide) (fun c29 => ?_) (fun c29 => ?_)
      · replace h0 := ob_pos c29 h0
        refine x_aload C 0 dX10_sumAhead_36 rfl ?_
        refine x_getRN (j := 1) (i := 156) (q := (RX2, TX2, 6)) (host := "CalledNumbers") C (152 + a3.toNatClampNeg) (iX18 (Nat.lt_of_lt_of_le (vin_lt c1) (by decide))) (lX18 (Nat.lt_of_lt_of_le (vin_lt c1) (by decide))) rfl inBX2 (by decide) twN193 rfl dX10_sumAhead_38 ?_
        refine x_iload_n C 2 dX10_sumAhead_41 rfl ?_
        obtain ⟨c30, h0⟩ := ob_if h0
        refine x_iald C (iX19 (Nat.lt_of_lt_of_le (vin_lt c1) (by decide))) (lX19 (Nat.lt_of_lt_of_le (vin_lt c1) (by decide))) (vin_in c30) dX10_sumAhead_42 ?_
        refine x_callS (ar := 1) (rest := []) C (c_J6_bitCount_0f7a4 C.2.2.2.2.2.2.1  rfl) hy_J6_bitCount_0f7a4 ⟨tw591, tw417, tw77, tw418⟩ (Nat.lt_succ_of_lt (Nat.lt_of_lt_of_le (by decide) hn0)) (by decide) rfl rfl (Nat.le_of_ble_eq_true rfl) dX10_sumAhead_43 ?_
        show Wx LX K σ 46 [(5, .ref (kad K (144 + a3.toNatClampNeg))), (0, .ref (kad K 0)), (1, .int a1), (2, .int a2), (3, .int a3), (4, .int a4)] [.int (J6_bitCount_0f7a4 (σ.1 (152 + a3.toNatClampNeg) a1.toNatClampNeg))]
        refine x_i2l C dX10_sumAhead_46 ?_
        cases h0
        exact x_lret C R dX10_sumAhead_47
      · replace h0 := ob_neg c29 h0
        refine x_aload C 0 dX10_sumAhead_23 rfl ?_
        refine x_getIN (j := 2) (i := 223) (q := (RX2, TX2, 6)) (host := "CalledNumbers") C (iX18 (Nat.lt_of_lt_of_le (vin_lt c1) (by decide))) (lX18 (Nat.lt_of_lt_of_le (vin_lt c1) (by decide))) rfl inBX2 (by decide) twN195 rfl dX10_sumAhead_25 ?_
        refine x_iload_n C 2 dX10_sumAhead_28 rfl ?_
        refine x_ishr C dX10_sumAhead_29 ?_
        refine x_iconst (v := 1) C dX10_sumAhead_30 rfl ?_
        refine x_iand C dX10_sumAhead_31 ?_
        refine x_i2l C dX10_sumAhead_32 ?_
        refine x_goto C 47 dX10_sumAhead_33 (by decide) ?_
        cases h0
        exact x_lret C R dX10_sumAhead_47
theorem c_X10_sumAhead {l : Launch} {D : va_G} {ad : Nat → Nat} {cy : Nat → ClassId} (hJ : mJ LX ad) : ∀ (f : Nat) {σ τ : mS} {a1 : Int32} {a2 : Int32} {a3 : Int32} {a4 : Int32} {r : Int64}, X10_sumAhead f σ a1 a2 a3 a4 = some (r, τ) → MetG l LX D ad cy yX10_sumAhead cX10_sumAhead 9 (some .long) (6 + f) [.ref (ad 0), .int a1, .int a2, .int a3, .int a4] σ (some (.long r)) τ
  | 0, _, _, _, _, _, _, _, h => by cases h
  | f + 1, _, _, _, _, _, _, _, h => c_X10_sumAhead_F hJ (Nat.le_add_right 6 f) (fun {_ _} {_ _ _ _} {_} h => c_X10_sumAhead hJ f h) h
set_option maxHeartbeats 4000000 in
set_option maxRecDepth 100000 in
theorem c_X10_orders {l : Launch} {D : va_G} {ad : Nat → Nat} {cy : Nat → ClassId} (hJ : mJ LX ad) {σ : mS} {a1 : Int32} {r : Int64}  (h0 : X10_orders σ a1 = some r) : MetG l LX D ad cy yX10_orders cX10_orders 6 (some .long) 1 [.ref (ad 0), .int a1] σ (some (.long r)) σ := by
  refine MetG.of hJ (by decide +kernel) [(0, .ref (ad 0)), (1, .int a1)] rfl (Nat.le_of_ble_eq_true rfl) ?_
  intro K e1 e2 e3 e4 e5 C R
  subst e1
  subst e2
  subst e3
  subst e4
  unfold X10_orders at h0
  refine x_lconst (v := 1) C dX10_orders_0 rfl ?_
  refine x_lstore_n (lv' := [(2, .long 1), (0, .ref (kad K 0)), (1, .int a1)]) C dX10_orders_1 (by rw [e5]; decide) rfl ?_
  refine x_aload_n C 1 dX10_orders_2 rfl ?_
  refine x_getR (j := 6) (i := 45) (q := (RX10, TX10, 18)) C (144 + 5) (iX 0 (by decide)) rfl rfl inBX10 (by decide) tw241 rfl dX10_orders_3 ?_
  refine x_getIN (j := 3) (i := 262) (q := (RX2, TX2, 6)) (host := "CalledNumbers") C (iX18 (by decide)) (lX18 (by decide)) rfl inBX2 (by decide) twN197 rfl dX10_orders_6 ?_
  refine x_callS (ar := 1) (rest := []) C (c_J6_bitCount_0f7a4 C.2.2.2.2.2.2.1  rfl) hy_J6_bitCount_0f7a4 ⟨tw591, tw417, tw77, tw418⟩ (by decide) (by decide) rfl rfl (Nat.le_of_ble_eq_true rfl) dX10_orders_9 ?_
  show Wx LX K σ 12 [(2, .long 1), (0, .ref (kad K 0)), (1, .int a1)] [.int (J6_bitCount_0f7a4 (σ.1 (144 + 5) 3))]
  refine x_istore (lv' := [(4, .int (J6_bitCount_0f7a4 (σ.1 (144 + 5) 3))), (2, .long 1), (0, .ref (kad K 0)), (1, .int a1)]) C dX10_orders_12 (by rw [e5]; decide) rfl ?_
  refine x_iconst (v := 0) C dX10_orders_14 rfl ?_
  refine x_istore (lv' := [(5, .int 0), (4, .int (J6_bitCount_0f7a4 (σ.1 (144 + 5) 3))), (2, .long 1), (0, .ref (kad K 0)), (1, .int a1)]) C dX10_orders_15 (by rw [e5]; decide) rfl ?_
  obtain ⟨e7, g8, h0⟩ := ob_bind h0
  have J1 : ∀ (y4 : Int64), y4 = e7 → Wx LX K σ 38 [(2, .long y4)] [] := by
    intro y4 e9
    subst e9
    replace h0 := un1_l h0
    refine x_lload_n C 0 dX10_orders_38 rfl ?_
    cases h0
    exact x_lret C R dX10_orders_39
  refine x_lv (lv' := [(5, .int 0), (4, .int (J6_bitCount_0f7a4 (σ.1 (144 + 5) 3))), (2, .long 1), (1, .int a1)]) [0, 1, 2, 4] rfl ?_
  refine lp_G (G := fun q : Int64 × Int32 => Wx LX K σ 17 [(5, .int q.2), (4, .int (J6_bitCount_0f7a4 (σ.1 (144 + 5) 3))), (2, .long q.1), (1, .int a1)] []) (fun q x h1 ihL1 ihR1 => ?_) big _ g8
  obtain ⟨x2, x3⟩ := q
  replace h1 : X10_orders_b17 σ a1 x2 x3 = some x := h1
  unfold X10_orders_b17 at h1
  show Wx LX K σ 17 [(5, .int x3), (4, .int (J6_bitCount_0f7a4 (σ.1 (144 + 5) 3))), (2, .long x2), (1, .int a1)] []
  refine x_iload C 0 dX10_orders_17 rfl ?_
  refine x_iload_n C 3 dX10_orders_19 rfl ?_
  refine x_icmpge C 38 dX10_orders_20 (by decide) (fun c6 => ?_) (fun c6 => ?_)
  · replace h1 := ob_pos c6 h1
    refine x_lv (lv' := [(2, .long x2)]) [2] rfl ?_
    exact J1 _ (ihR1 _ (Option.some.inj h1).symm)
  · replace h1 := ob_neg c6 h1
    refine x_lload_n C 2 dX10_orders_23 rfl ?_
    refine x_iload C 1 dX10_orders_24 rfl ?_
    refine x_iload C 0 dX10_orders_26 rfl ?_
    refine x_isub C dX10_orders_28 ?_
    refine x_i2l C dX10_orders_29 ?_
    refine x_lmul C dX10_orders_30 ?_
    refine x_lstore_n (lv' := [(2, .long (x2 * (((J6_bitCount_0f7a4 (σ.1 (144 + 5) 3)) - x3)).toInt64)), (5, .int x3), (4, .int (J6_bitCount_0f7a4 (σ.1 (144 + 5) 3))), (1, .int a1)]) C dX10_orders_31 (by rw [e5]; decide) rfl ?_
    refine x_iinc (v := (x3 + 1)) (lv' := [(5, .int (x3 + 1)), (2, .long (x2 * (((J6_bitCount_0f7a4 (σ.1 (144 + 5) 3)) - x3)).toInt64)), (4, .int (J6_bitCount_0f7a4 (σ.1 (144 + 5) 3))), (1, .int a1)]) C 1 dX10_orders_32 rfl rfl (by rw [e5]; decide) rfl ?_
    refine x_goto C 17 dX10_orders_35 (by decide) ?_
    refine x_lv (lv' := [(5, .int (x3 + 1)), (4, .int (J6_bitCount_0f7a4 (σ.1 (144 + 5) 3))), (2, .long (x2 * (((J6_bitCount_0f7a4 (σ.1 (144 + 5) 3)) - x3)).toInt64)), (1, .int a1)]) [0, 2, 1, 3] rfl ?_
    exact ihL1 _ (Option.some.inj h1).symm
set_option maxHeartbeats 4000000 in
set_option maxRecDepth 100000 in
theorem c_X10_commonDivisor {l : Launch} {D : va_G} {ad : Nat → Nat} {cy : Nat → ClassId} (hJ : mJ LX ad) {σ : mS} {a1 : Int64} {a2 : Int64} {r : Int64}  (h0 : X10_commonDivisor a1 a2 = some r) : MetG l LX D ad cy yX10_commonDivisor cX10_commonDivisor 11 (some .long) 0 [.long a1, .long a2] σ (some (.long r)) σ := by
  refine MetG.of hJ (by decide +kernel) [(0, .long a1), (2, .long a2)] rfl (Nat.le_of_ble_eq_true rfl) ?_
  intro K e1 e2 e3 e4 e5 C R
  subst e1
  subst e2
  subst e3
  subst e4
  unfold X10_commonDivisor at h0
  refine x_lload_n C 0 dX10_commonDivisor_0 rfl ?_
  refine x_lstore (lv' := [(4, .long a1), (0, .long a1), (2, .long a2)]) C dX10_commonDivisor_1 (by rw [e5]; decide) rfl ?_
  refine x_lload_n C 2 dX10_commonDivisor_3 rfl ?_
  refine x_lstore (lv' := [(6, .long a2), (4, .long a1), (0, .long a1), (2, .long a2)]) C dX10_commonDivisor_4 (by rw [e5]; decide) rfl ?_
  refine x_iconst (v := 0) C dX10_commonDivisor_6 rfl ?_
  refine x_istore (lv' := [(8, .int 0), (6, .long a2), (4, .long a1), (0, .long a1), (2, .long a2)]) C dX10_commonDivisor_7 (by rw [e5]; decide) rfl ?_
  obtain ⟨e10, g11, h0⟩ := ob_bind h0
  have J1 : ∀ (y4 : Int64), y4 = e10 → Wx LX K σ 44 [(4, .long y4)] [] := by
    intro y4 e9
    subst e9
    replace h0 := un1_l h0
    refine x_lload C 0 dX10_commonDivisor_44 rfl ?_
    cases h0
    exact x_lret C R dX10_commonDivisor_46
  refine x_lv (lv' := [(8, .int 0), (6, .long a2), (4, .long a1)]) [0, 1, 2] rfl ?_
  refine lp_G (G := fun q : Int64 × Int64 × Int32 => Wx LX K σ 9 [(8, .int q.2.2), (6, .long q.2.1), (4, .long q.1)] []) (fun q x h1 ihL1 ihR1 => ?_) big _ g11
  obtain ⟨x1, x2, x3⟩ := q
  replace h1 : X10_commonDivisor_b9 x1 x2 x3 = some x := h1
  unfold X10_commonDivisor_b9 at h1
  show Wx LX K σ 9 [(8, .int x3), (6, .long x2), (4, .long x1)] []
  refine x_iload C 0 dX10_commonDivisor_9 rfl ?_
  refine x_bipush (v := 100) C dX10_commonDivisor_11 rfl ?_
  refine x_icmpge C 44 dX10_commonDivisor_13 (by decide) (fun c6 => ?_) (fun c6 => ?_)
  · replace h1 := ob_pos c6 h1
    refine x_lv (lv' := [(4, .long x1)]) [2] rfl ?_
    exact J1 _ (ihR1 _ (Option.some.inj h1).symm)
  · replace h1 := ob_neg c6 h1
    refine x_lload C 1 dX10_commonDivisor_16 rfl ?_
    refine x_lconst (v := 0) C dX10_commonDivisor_18 rfl ?_
    refine x_lcmpeq C 44 dX10_commonDivisor_19 dX10_commonDivisor_20 (by decide) (fun c8 => ?_) (fun c8 => ?_)
    · replace h1 := ob_pos c8 h1
      refine x_lv (lv' := [(4, .long x1)]) [2] rfl ?_
      exact J1 _ (ihR1 _ (Option.some.inj h1).symm)
    · replace h1 := ob_neg c8 h1
      refine x_lload C 2 dX10_commonDivisor_23 rfl ?_
      refine x_lload C 1 dX10_commonDivisor_25 rfl ?_
      obtain ⟨c9, h1⟩ := ob_if h1
      refine x_lrem C dX10_commonDivisor_27 c9 ?_
      refine x_lstore (lv' := [(9, .long (x1 - x1 / x2 * x2)), (8, .int x3), (6, .long x2), (4, .long x1)]) C dX10_commonDivisor_28 (by rw [e5]; decide) rfl ?_
      refine x_lload C 2 dX10_commonDivisor_30 rfl ?_
      refine x_lstore (lv' := [(4, .long x2), (9, .long (x1 - x1 / x2 * x2)), (8, .int x3), (6, .long x2)]) C dX10_commonDivisor_32 (by rw [e5]; decide) rfl ?_
      refine x_lload C 1 dX10_commonDivisor_34 rfl ?_
      refine x_lstore (lv' := [(6, .long (x1 - x1 / x2 * x2)), (4, .long x2), (9, .long (x1 - x1 / x2 * x2)), (8, .int x3)]) C dX10_commonDivisor_36 (by rw [e5]; decide) rfl ?_
      refine x_iinc (v := (x3 + 1)) (lv' := [(8, .int (x3 + 1)), (6, .long (x1 - x1 / x2 * x2)), (4, .long x2), (9, .long (x1 - x1 / x2 * x2))]) C 3 dX10_commonDivisor_38 rfl rfl (by rw [e5]; decide) rfl ?_
      refine x_goto C 9 dX10_commonDivisor_41 (by decide) ?_
      refine x_lv (lv' := [(8, .int (x3 + 1)), (6, .long (x1 - x1 / x2 * x2)), (4, .long x2)]) [0, 1, 2] rfl ?_
      exact ihL1 _ (Option.some.inj h1).symm
set_option maxHeartbeats 4000000 in
set_option maxRecDepth 100000 in
theorem c_X10_tell {l : Launch} {D : va_G} {ad : Nat → Nat} {cy : Nat → ClassId} (hJ : mJ LX ad) {σ τ : mS} {a1 : Int64} {a2 : Int64} {r : Unit}  (h0 : X10_tell σ a1 a2 = some (r, τ)) : MetG l LX D ad cy yX10_tell cX10_tell 7 none 1 [.ref (ad 0), .long a1, .long a2] σ (none) τ := by
  refine MetG.of hJ (by decide +kernel) [(0, .ref (ad 0)), (1, .long a1), (3, .long a2)] rfl (Nat.le_of_ble_eq_true rfl) ?_
  intro K e1 e2 e3 e4 e5 C R
  subst e1
  subst e2
  subst e3
  subst e4
  unfold X10_tell at h0
  refine x_lload_n C 1 dX10_tell_0 rfl ?_
  refine x_lload_n C 2 dX10_tell_1 rfl ?_
  obtain ⟨r1, g2, h0⟩ := ob_bind h0
  refine x_callS (ar := 2) (rest := []) C (c_X10_commonDivisor C.2.2.2.2.2.2.1  g2) hy_X10_commonDivisor ⟨tw689, tw690, tw63, tw691⟩ (by decide) (by decide) rfl rfl (Nat.le_of_ble_eq_true rfl) dX10_tell_2 ?_
  show Wx LX K σ 5 [(0, .ref (kad K 0)), (1, .long a1), (3, .long a2)] [.long r1]
  refine x_lstore (lv' := [(5, .long r1), (0, .ref (kad K 0)), (1, .long a1), (3, .long a2)]) C dX10_tell_5 (by rw [e5]; decide) rfl ?_
  refine x_lload C 0 dX10_tell_7 rfl ?_
  refine x_lconst (v := 0) C dX10_tell_9 rfl ?_
  refine x_lcmple C 30 dX10_tell_10 dX10_tell_11 (by decide) (fun c4 => ?_) (fun c4 => ?_)
  · replace h0 := ob_pos c4 h0
    cases h0
    exact x_vret C R dX10_tell_30
  · replace h0 := ob_neg c4 h0
    refine x_aload_n C 1 dX10_tell_14 rfl ?_
    refine x_lload_n C 2 dX10_tell_15 rfl ?_
    refine x_lload C 0 dX10_tell_16 rfl ?_
    obtain ⟨c5, h0⟩ := ob_if h0
    refine x_ldiv C dX10_tell_18 c5 ?_
    refine x_putL (j := 14) (i := 284) (q := (RX10, TX10, 18)) C tyX10 tyX10_ok nmX10 (iX 0 (by decide)) rfl rfl inBX10 (by decide) tw249 rfl (by decide +kernel) rfl dX10_tell_19 ?_
    refine x_aload_n C 1 dX10_tell_22 rfl ?_
    refine x_lload_n C 3 dX10_tell_23 rfl ?_
    refine x_lload C 0 dX10_tell_24 rfl ?_
    obtain ⟨c6, h0⟩ := ob_if h0
    refine x_ldiv C dX10_tell_26 c6 ?_
    refine x_putL (j := 15) (i := 70) (q := (RX10, TX10, 18)) C tyX10 tyX10_ok nmX10 (iX 0 (by decide)) rfl rfl inBX10 (by decide) tw250 rfl (by decide +kernel) rfl dX10_tell_27 ?_
    cases h0
    exact x_vret C R dX10_tell_30
set_option maxHeartbeats 4000000 in
set_option maxRecDepth 100000 in
theorem c_X10_tellAhead {l : Launch} {D : va_G} {ad : Nat → Nat} {cy : Nat → ClassId} (hJ : mJ LX ad) {σ τ : mS} {a1 : Int32} {a2 : Int32} {a3 : Int32} {r : Int32}  (h0 : X10_tellAhead σ a1 a2 a3 = some (r, τ)) : MetG l LX D ad cy yX10_tellAhead cX10_tellAhead 5 (some .int) 13 [.ref (ad 0), .int a1, .int a2, .int a3] σ (some (.int r)) τ := by
  refine MetG.of hJ (by decide +kernel) [(0, .ref (ad 0)), (1, .int a1), (2, .int a2), (3, .int a3)] rfl (Nat.le_of_ble_eq_true rfl) ?_
  intro K e1 e2 e3 e4 e5 C R
  subst e1
  subst e2
  subst e3
  subst e4
  unfold X10_tellAhead at h0
  refine x_aload_n C 0 dX10_tellAhead_0 rfl ?_
  refine x_iload_n C 1 dX10_tellAhead_1 rfl ?_
  refine x_callV (ar := 1) (q := (RX10, TX10, 18)) (rest := []) C (c_X10_isPlayer C.2.2.2.2.2.2.1  rfl) (iX 0 (by decide)) rfl rfl hy_X10_isPlayer ⟨tw390, tw392, tw8, tw63, tw393⟩ (by decide) (by decide) rfl rfl (Nat.le_of_ble_eq_true rfl) dX10_tellAhead_2 ?_
  show Wx LX K σ 5 [(0, .ref (kad K 0)), (1, .int a1), (2, .int a2), (3, .int a3)] [.int (X10_isPlayer σ a1)]
  refine x_ifeq C 17 dX10_tellAhead_5 (by decide) (fun c3 => ?_) (fun c3 => ?_)
  · replace h0 := ob_pos c3 h0
    refine x_iconst (v := (-1)) C dX10_tellAhead_17 rfl ?_
    cases h0
    exact x_iret C R dX10_tellAhead_18
  · replace h0 := ob_neg c3 h0
    refine x_iload_n C 2 dX10_tellAhead_8 rfl ?_
    refine x_iflt C 17 dX10_tellAhead_9 (by decide) (fun c5 => ?_) (fun c5 => ?_)
    · replace h0 := ob_pos c5 h0
      refine x_iconst (v := (-1)) C dX10_tellAhead_17 rfl ?_
      cases h0
      exact x_iret C R dX10_tellAhead_18
    · replace h0 := ob_neg c5 h0
      refine x_iload_n C 2 dX10_tellAhead_12 rfl ?_
      refine x_iconst (v := 3) C dX10_tellAhead_13 rfl ?_
      refine x_icmple C 19 dX10_tellAhead_14 (by decide) (fun c7 => ?_) (fun c7 => ?_)
      · replace h0 := ob_pos c7 h0
        refine x_aload_n C 0 dX10_tellAhead_19 rfl ?_
        refine x_iload_n C 2 dX10_tellAhead_20 rfl ?_
        obtain ⟨r8, s10, g9, h0⟩ := ob_bd h0
        refine x_callV (ar := 1) (q := (RX10, TX10, 18)) (rest := []) C (c_X10_callsAhead C.2.2.2.2.2.2.1  g9) (iX 0 (by decide)) rfl rfl hy_X10_callsAhead ⟨tw596, tw598, tw17, tw63, tw599⟩ (by decide) (by decide) rfl rfl (Nat.le_of_ble_eq_true rfl) dX10_tellAhead_21 ?_
        show Wx LX K s10 24 [(0, .ref (kad K 0)), (1, .int a1), (2, .int a2), (3, .int a3)] [.int r8]
        refine x_istore (lv' := [(4, .int r8), (0, .ref (kad K 0)), (1, .int a1), (2, .int a2), (3, .int a3)]) C dX10_tellAhead_24 (by rw [e5]; decide) rfl ?_
        refine x_aload_n C 1 dX10_tellAhead_26 rfl ?_
        refine x_aload_n C 1 dX10_tellAhead_27 rfl ?_
        refine x_iload_n C 2 dX10_tellAhead_28 rfl ?_
        refine x_iload_n C 4 dX10_tellAhead_29 rfl ?_
        refine x_iconst (v := 0) C dX10_tellAhead_30 rfl ?_
        refine x_iload C 0 dX10_tellAhead_31 rfl ?_
        obtain ⟨r11, s13, g12, h0⟩ := ob_bd h0
        refine x_callV (ar := 4) (q := (RX10, TX10, 18)) (rest := [.ref (kad K 0)]) C (c_X10_sumAhead C.2.2.2.2.2.2.1 6  g12) (iX 0 (by decide)) rfl rfl hy_X10_sumAhead ⟨tw677, tw679, tw28, tw63, tw680⟩ (by decide) (by decide) rfl rfl (Nat.le_of_ble_eq_true rfl) dX10_tellAhead_33 ?_
        show Wx LX K s13 36 [(4, .int r8), (0, .ref (kad K 0)), (1, .int a1), (2, .int a2), (3, .int a3)] [.long r11, .ref (kad K 0)]
        refine x_aload_n C 1 dX10_tellAhead_36 rfl ?_
        refine x_iload C 0 dX10_tellAhead_37 rfl ?_
        obtain ⟨r14, g15, h0⟩ := ob_bind h0
        refine x_callV (ar := 1) (q := (RX10, TX10, 18)) (rest := [.long r11, .ref (kad K 0)]) C (c_X10_orders C.2.2.2.2.2.2.1  g15) (iX 0 (by decide)) rfl rfl hy_X10_orders ⟨tw681, tw683, tw29, tw63, tw684⟩ (by decide) (by decide) rfl rfl (Nat.le_of_ble_eq_true rfl) dX10_tellAhead_39 ?_
        show Wx LX K s13 42 [(4, .int r8), (0, .ref (kad K 0)), (1, .int a1), (2, .int a2), (3, .int a3)] [.long r14, .long r11, .ref (kad K 0)]
        obtain ⟨r16, s18, g17, h0⟩ := ob_bd h0
        refine x_callV (ar := 2) (q := (RX10, TX10, 18)) (rest := []) C (c_X10_tell C.2.2.2.2.2.2.1  g17) (iX 0 (by decide)) rfl rfl hy_X10_tell ⟨tw685, tw687, tw30, tw63, tw688⟩ (by decide) (by decide) rfl rfl (Nat.le_of_ble_eq_true rfl) dX10_tellAhead_42 ?_
        show Wx LX K s18 45 [(4, .int r8), (0, .ref (kad K 0)), (1, .int a1), (2, .int a2), (3, .int a3)] []
        refine x_iconst (v := 1) C dX10_tellAhead_45 rfl ?_
        cases h0
        exact x_iret C R dX10_tellAhead_46
      · replace h0 := ob_neg c7 h0
        refine x_iconst (v := (-1)) C dX10_tellAhead_17 rfl ?_
        cases h0
        exact x_iret C R dX10_tellAhead_18
set_option maxHeartbeats 4000000 in
set_option maxRecDepth 100000 in
theorem c_X10_odds {l : Launch} {D : va_G} {ad : Nat → Nat} {cy : Nat → ClassId} (hJ : mJ LX ad) {σ τ : mS} {a1 : Int32} {a2 : Int32} {r : Int32}  (h0 : X10_odds σ a1 a2 = some (r, τ)) : MetG l LX D ad cy yX10_odds cX10_odds 3 (some .int) 14 [.ref (ad 0), .int a1, .int a2] σ (some (.int r)) τ := by
  refine MetG.of hJ (by decide +kernel) [(0, .ref (ad 0)), (1, .int a1), (2, .int a2)] rfl (Nat.le_of_ble_eq_true rfl) ?_
  intro K e1 e2 e3 e4 e5 C R
  subst e1
  subst e2
  subst e3
  subst e4
  unfold X10_odds at h0
  refine x_aload_n C 0 dX10_odds_0 rfl ?_
  refine x_iload_n C 1 dX10_odds_1 rfl ?_
  refine x_iload_n C 2 dX10_odds_2 rfl ?_
  refine x_iconst (v := 1) C dX10_odds_3 rfl ?_
  obtain ⟨r1, s3, g2, h0⟩ := ob_bd h0
  refine x_callV (ar := 3) (q := (RX10, TX10, 18)) (rest := []) C (c_X10_tellAhead C.2.2.2.2.2.2.1  g2) (iX 0 (by decide)) rfl rfl hy_X10_tellAhead ⟨tw673, tw675, tw27, tw63, tw676⟩ (by decide) (by decide) rfl rfl (Nat.le_of_ble_eq_true rfl) dX10_odds_4 ?_
  show Wx LX K s3 7 [(0, .ref (kad K 0)), (1, .int a1), (2, .int a2)] [.int r1]
  cases h0
  exact x_iret C R dX10_odds_7
set_option maxHeartbeats 4000000 in
set_option maxRecDepth 100000 in
theorem c_X10_mid {l : Launch} {D : va_G} {ad : Nat → Nat} {cy : Nat → ClassId} (hJ : mJ LX ad) {σ τ : mS} {a1 : Int32} {a2 : Int32} {r : Int32}  (h0 : X10_mid σ a1 a2 = some (r, τ)) : MetG l LX D ad cy yX10_mid cX10_mid 3 (some .int) 14 [.ref (ad 0), .int a1, .int a2] σ (some (.int r)) τ := by
  refine MetG.of hJ (by decide +kernel) [(0, .ref (ad 0)), (1, .int a1), (2, .int a2)] rfl (Nat.le_of_ble_eq_true rfl) ?_
  intro K e1 e2 e3 e4 e5 C R
  subst e1
  subst e2
  subst e3
  subst e4
  unfold X10_mid at h0
  refine x_aload_n C 0 dX10_mid_0 rfl ?_
  refine x_iload_n C 1 dX10_mid_1 rfl ?_
  refine x_iload_n C 2 dX10_mid_2 rfl ?_
  refine x_iconst (v := 0) C dX10_mid_3 rfl ?_
  obtain ⟨r1, s3, g2, h0⟩ := ob_bd h0
  refine x_callV (ar := 3) (q := (RX10, TX10, 18)) (rest := []) C (c_X10_tellAhead C.2.2.2.2.2.2.1  g2) (iX 0 (by decide)) rfl rfl hy_X10_tellAhead ⟨tw673, tw675, tw27, tw63, tw676⟩ (by decide) (by decide) rfl rfl (Nat.le_of_ble_eq_true rfl) dX10_mid_4 ?_
  show Wx LX K s3 7 [(0, .ref (kad K 0)), (1, .int a1), (2, .int a2)] [.int r1]
  cases h0
  exact x_iret C R dX10_mid_7
set_option maxHeartbeats 4000000 in
set_option maxRecDepth 100000 in
theorem c_X10_doLot {l : Launch} {D : va_G} {ad : Nat → Nat} {cy : Nat → ClassId} (hJ : mJ LX ad) {σ τ : mS} {a1 : Int32} {r : Unit}  (h0 : X10_doLot σ a1 = some (r, τ)) : MetG l LX D ad cy yX10_doLot cX10_doLot 4 none 6 [.ref (ad 0), .int a1] σ (none) τ := by
  refine MetG.of hJ (by decide +kernel) [(0, .ref (ad 0)), (1, .int a1)] rfl (Nat.le_of_ble_eq_true rfl) ?_
  intro K e1 e2 e3 e4 e5 C R
  subst e1
  subst e2
  subst e3
  subst e4
  unfold X10_doLot at h0
  refine x_iload_n C 1 dX10_doLot_0 rfl ?_
  refine x_bipush (v := 8) C dX10_doLot_1 rfl ?_
  refine x_idiv C dX10_doLot_3 (by decide) ?_
  refine x_bipush (v := 8) C dX10_doLot_4 rfl ?_
  refine x_irem C dX10_doLot_6 (by decide) ?_
  refine x_bipush (v := 7) C dX10_doLot_7 rfl ?_
  refine x_icmpeq C 22 dX10_doLot_9 (by decide) (fun c2 => ?_) (fun c2 => ?_)
  · replace h0 := ob_pos c2 h0
    refine x_aload_n C 0 dX10_doLot_22 rfl ?_
    refine x_getR (j := 5) (i := 36) (q := (RX10, TX10, 18)) C 88 (iX 0 (by decide)) rfl rfl inBX10 (by decide) tw240 rfl dX10_doLot_23 ?_
    refine x_getIN (j := 4) (i := 135) (q := (RX7, TX7, 5)) (host := "CalledNumbers") C (iX 88 (by decide)) rfl rfl inBX7 (by decide) twN173 rfl dX10_doLot_26 ?_
    refine x_ifle C 52 dX10_doLot_29 (by decide) (fun c4 => ?_) (fun c4 => ?_)
    · replace h0 := ob_pos c4 h0
      cases h0
      exact x_vret C R dX10_doLot_52
    · replace h0 := ob_neg c4 h0
      refine x_aload_n C 0 dX10_doLot_32 rfl ?_
      refine x_iload_n C 1 dX10_doLot_33 rfl ?_
      refine x_aload_n C 0 dX10_doLot_34 rfl ?_
      refine x_getR (j := 5) (i := 36) (q := (RX10, TX10, 18)) C 88 (iX 0 (by decide)) rfl rfl inBX10 (by decide) tw240 rfl dX10_doLot_35 ?_
      refine x_getIN (j := 4) (i := 135) (q := (RX7, TX7, 5)) (host := "CalledNumbers") C (iX 88 (by decide)) rfl rfl inBX7 (by decide) twN173 rfl dX10_doLot_38 ?_
      obtain ⟨c5, h0⟩ := ob_if h0
      refine x_irem C dX10_doLot_41 c5 ?_
      refine x_iload_n C 1 dX10_doLot_42 rfl ?_
      refine x_bipush (v := 64) C dX10_doLot_43 rfl ?_
      refine x_idiv C dX10_doLot_45 (by decide) ?_
      refine x_bipush (v := 6) C dX10_doLot_46 rfl ?_
      refine x_irem C dX10_doLot_48 (by decide) ?_
      obtain ⟨r6, s8, g7, h0⟩ := ob_bd h0
      refine x_callV (ar := 2) (q := (RX10, TX10, 18)) (rest := []) C (c_X10_doRub C.2.2.2.2.2.2.1  g7) (iX 0 (by decide)) rfl rfl hy_X10_doRub ⟨tw538, tw540, tw13, tw63, tw541⟩ (by decide) (by decide) rfl rfl (Nat.le_of_ble_eq_true rfl) dX10_doLot_49 ?_
      show Wx LX K s8 52 [(0, .ref (kad K 0)), (1, .int a1)] []
      cases h0
      exact x_vret C R dX10_doLot_52
  · replace h0 := ob_neg c2 h0
    refine x_aload_n C 0 dX10_doLot_12 rfl ?_
    refine x_getR (j := 6) (i := 45) (q := (RX10, TX10, 18)) C (144 + 5) (iX 0 (by decide)) rfl rfl inBX10 (by decide) tw241 rfl dX10_doLot_13 ?_
    refine x_getIN (j := 3) (i := 262) (q := (RX2, TX2, 6)) (host := "CalledNumbers") C (iX18 (by decide)) (lX18 (by decide)) rfl inBX2 (by decide) twN197 rfl dX10_doLot_16 ?_
    refine x_ifne C 53 dX10_doLot_19 (by decide) (fun c10 => ?_) (fun c10 => ?_)
    · replace h0 := ob_neg c10 h0
      refine x_iload_n C 1 dX10_doLot_53 rfl ?_
      refine x_bipush (v := 12) C dX10_doLot_54 rfl ?_
      refine x_irem C dX10_doLot_56 (by decide) ?_
      refine x_iconst (v := 1) C dX10_doLot_57 rfl ?_
      refine x_iadd C dX10_doLot_58 ?_
      refine x_istore_n (lv' := [(2, .int ((a1 - a1 / 12 * 12) + 1)), (0, .ref (kad K 0)), (1, .int a1)]) C dX10_doLot_59 (by rw [e5]; decide) rfl ?_
      refine x_iconst (v := 0) C dX10_doLot_60 rfl ?_
      refine x_istore_n (lv' := [(3, .int 0), (2, .int ((a1 - a1 / 12 * 12) + 1)), (0, .ref (kad K 0)), (1, .int a1)]) C dX10_doLot_61 (by rw [e5]; decide) rfl ?_
      obtain ⟨e22, g23, h0⟩ := ob_bind h0
      have J1 : ∀ (y13 : Int32), y13 = e22 → Wx LX K σ 92 [(2, .int y13), (0, .ref (kad K 0))] [] := by
        intro y13 e9
        subst e9
        replace h0 := un1_l h0
        refine x_aload_n C 1 dX10_doLot_92 rfl ?_
        refine x_iload_n C 0 dX10_doLot_93 rfl ?_
        obtain ⟨r14, s16, g15, h0⟩ := ob_bd h0
        refine x_callV (ar := 1) (q := (RX10, TX10, 18)) (rest := []) C (c_X10_doCall C.2.2.2.2.2.2.1  g15) (iX 0 (by decide)) rfl rfl hy_X10_doCall ⟨tw499, tw501, tw12, tw63, tw502⟩ (by decide) (by decide) rfl rfl (Nat.le_of_ble_eq_true rfl) dX10_doLot_94 ?_
        show Wx LX K s16 97 [(2, .int y13), (0, .ref (kad K 0))] [.int r14]
        refine x_pop C dX10_doLot_97 rfl ?_
        cases h0
        exact x_vret C R dX10_doLot_98
      refine x_lv (lv' := [(3, .int 0), (2, .int ((a1 - a1 / 12 * 12) + 1)), (0, .ref (kad K 0))]) [0, 1, 2] rfl ?_
      refine lp_G (G := fun q : Int32 × Int32 => Wx LX K σ 62 [(3, .int q.2), (2, .int q.1), (0, .ref (kad K 0))] []) (fun q x h1 ihL1 ihR1 => ?_) big _ g23
      obtain ⟨x11, x12⟩ := q
      replace h1 : X10_doLot_b62 σ x11 x12 = some x := h1
      unfold X10_doLot_b62 at h1
      show Wx LX K σ 62 [(3, .int x12), (2, .int x11), (0, .ref (kad K 0))] []
      refine x_iload_n C 0 dX10_doLot_62 rfl ?_
      refine x_bipush (v := 12) C dX10_doLot_63 rfl ?_
      refine x_icmpge C 92 dX10_doLot_65 (by decide) (fun c18 => ?_) (fun c18 => ?_)
      · replace h1 := ob_pos c18 h1
        refine x_lv (lv' := [(2, .int x11), (0, .ref (kad K 0))]) [1, 2] rfl ?_
        exact J1 _ (ihR1 _ (Option.some.inj h1).symm)
      · replace h1 := ob_neg c18 h1
        refine x_aload_n C 2 dX10_doLot_68 rfl ?_
        refine x_getR (j := 6) (i := 45) (q := (RX10, TX10, 18)) C (144 + 5) (iX 0 (by decide)) rfl rfl inBX10 (by decide) tw241 rfl dX10_doLot_69 ?_
        refine x_iload_n C 1 dX10_doLot_72 rfl ?_
        refine x_callV (ar := 1) (q := (RX2, TX2, 6)) (rest := []) C (c_X2_holds C.2.2.2.2.2.2.1 (by decide) rfl) (iX18 (by decide)) (lX18 (by decide)) rfl hy_X2_holds ⟨tw495, tw496, tw497, tw72, tw498⟩ (by decide) (by decide) rfl rfl (Nat.le_of_ble_eq_true rfl) dX10_doLot_73 ?_
        show Wx LX K σ 76 [(3, .int x12), (2, .int x11), (0, .ref (kad K 0))] [.int (X2_holds σ 5 x11)]
        refine x_ifne C 92 dX10_doLot_76 (by decide) (fun c21 => ?_) (fun c21 => ?_)
        · replace h1 := ob_neg c21 h1
          refine x_lv (lv' := [(2, .int x11), (0, .ref (kad K 0))]) [1, 2] rfl ?_
          exact J1 _ (ihR1 _ (Option.some.inj h1).symm)
        · replace h1 := ob_pos c21 h1
          refine x_iload_n C 1 dX10_doLot_79 rfl ?_
          refine x_bipush (v := 12) C dX10_doLot_80 rfl ?_
          refine x_irem C dX10_doLot_82 (by decide) ?_
          refine x_iconst (v := 1) C dX10_doLot_83 rfl ?_
          refine x_iadd C dX10_doLot_84 ?_
          refine x_istore_n (lv' := [(2, .int ((x11 - x11 / 12 * 12) + 1)), (3, .int x12), (0, .ref (kad K 0))]) C dX10_doLot_85 (by rw [e5]; decide) rfl ?_
          refine x_iinc (v := (x12 + 1)) (lv' := [(3, .int (x12 + 1)), (2, .int ((x11 - x11 / 12 * 12) + 1)), (0, .ref (kad K 0))]) C 1 dX10_doLot_86 rfl rfl (by rw [e5]; decide) rfl ?_
          refine x_goto C 62 dX10_doLot_89 (by decide) ?_
          refine x_lv (lv' := [(3, .int (x12 + 1)), (2, .int ((x11 - x11 / 12 * 12) + 1)), (0, .ref (kad K 0))]) [0, 1, 2] rfl ?_
          exact ihL1 _ (Option.some.inj h1).symm
    · replace h0 := ob_pos c10 h0
      refine x_aload_n C 0 dX10_doLot_22 rfl ?_
      refine x_getR (j := 5) (i := 36) (q := (RX10, TX10, 18)) C 88 (iX 0 (by decide)) rfl rfl inBX10 (by decide) tw240 rfl dX10_doLot_23 ?_
      refine x_getIN (j := 4) (i := 135) (q := (RX7, TX7, 5)) (host := "CalledNumbers") C (iX 88 (by decide)) rfl rfl inBX7 (by decide) twN173 rfl dX10_doLot_26 ?_
      refine x_ifle C 52 dX10_doLot_29 (by decide) (fun c25 => ?_) (fun c25 => ?_)
      · replace h0 := ob_pos c25 h0
        cases h0
        exact x_vret C R dX10_doLot_52
      · replace h0 := ob_neg c25 h0
        refine x_aload_n C 0 dX10_doLot_32 rfl ?_
        refine x_iload_n C 1 dX10_doLot_33 rfl ?_
        refine x_aload_n C 0 dX10_doLot_34 rfl ?_
        refine x_getR (j := 5) (i := 36) (q := (RX10, TX10, 18)) C 88 (iX 0 (by decide)) rfl rfl inBX10 (by decide) tw240 rfl dX10_doLot_35 ?_
        refine x_getIN (j := 4) (i := 135) (q := (RX7, TX7, 5)) (host := "CalledNumbers") C (iX 88 (by decide)) rfl rfl inBX7 (by decide) twN173 rfl dX10_doLot_38 ?_
        obtain ⟨c26, h0⟩ := ob_if h0
        refine x_irem C dX10_doLot_41 c26 ?_
        refine x_iload_n C 1 dX10_doLot_42 rfl ?_
        refine x_bipush (v := 64) C dX10_doLot_43 rfl ?_
        refine x_idiv C dX10_doLot_45 (by decide) ?_
        refine x_bipush (v := 6) C dX10_doLot_46 rfl ?_
        refine x_irem C dX10_doLot_48 (by decide) ?_
        obtain ⟨r27, s29, g28, h0⟩ := ob_bd h0
        refine x_callV (ar := 2) (q := (RX10, TX10, 18)) (rest := []) C (c_X10_doRub C.2.2.2.2.2.2.1  g28) (iX 0 (by decide)) rfl rfl hy_X10_doRub ⟨tw538, tw540, tw13, tw63, tw541⟩ (by decide) (by decide) rfl rfl (Nat.le_of_ble_eq_true rfl) dX10_doLot_49 ?_
        show Wx LX K s29 52 [(0, .ref (kad K 0)), (1, .int a1)] []
        cases h0
        exact x_vret C R dX10_doLot_52
set_option maxHeartbeats 4000000 in
set_option maxRecDepth 100000 in
theorem c_X10_lots {l : Launch} {D : va_G} {ad : Nat → Nat} {cy : Nat → ClassId} (hJ : mJ LX ad) {σ τ : mS} {a1 : Int32} {a2 : Int32} {r : Int32}  (h0 : X10_lots σ a1 a2 = some (r, τ)) : MetG l LX D ad cy yX10_lots cX10_lots 5 (some .int) 7 [.ref (ad 0), .int a1, .int a2] σ (some (.int r)) τ := by
  refine MetG.of hJ (by decide +kernel) [(0, .ref (ad 0)), (1, .int a1), (2, .int a2)] rfl (Nat.le_of_ble_eq_true rfl) ?_
  intro K e1 e2 e3 e4 e5 C R
  subst e1
  subst e2
  subst e3
  subst e4
  unfold X10_lots at h0
  refine x_iload_n C 1 dX10_lots_0 rfl ?_
  refine x_iconst (v := 1) C dX10_lots_1 rfl ?_
  refine x_icmplt C 25 dX10_lots_2 (by decide) (fun c2 => ?_) (fun c2 => ?_)
  · replace h0 := ob_pos c2 h0
    refine x_iconst (v := (-1)) C dX10_lots_25 rfl ?_
    cases h0
    exact x_iret C R dX10_lots_26
  · replace h0 := ob_neg c2 h0
    refine x_iload_n C 1 dX10_lots_5 rfl ?_
    refine x_bipush (v := 20) C dX10_lots_6 rfl ?_
    refine x_icmpgt C 25 dX10_lots_8 (by decide) (fun c4 => ?_) (fun c4 => ?_)
    · replace h0 := ob_pos c4 h0
      refine x_iconst (v := (-1)) C dX10_lots_25 rfl ?_
      cases h0
      exact x_iret C R dX10_lots_26
    · replace h0 := ob_neg c4 h0
      refine x_iload_n C 2 dX10_lots_11 rfl ?_
      refine x_iconst (v := 1) C dX10_lots_12 rfl ?_
      refine x_icmplt C 25 dX10_lots_13 (by decide) (fun c6 => ?_) (fun c6 => ?_)
      · replace h0 := ob_pos c6 h0
        refine x_iconst (v := (-1)) C dX10_lots_25 rfl ?_
        cases h0
        exact x_iret C R dX10_lots_26
      · replace h0 := ob_neg c6 h0
        refine x_iload_n C 2 dX10_lots_16 rfl ?_
        refine x_i2l C dX10_lots_17 ?_
        refine x_ldc2 C tw700 dX10_lots_18 ?_
        refine x_lcmplt C 27 dX10_lots_21 dX10_lots_22 (by decide) (fun c8 => ?_) (fun c8 => ?_)
        · replace h0 := ob_pos c8 h0
          refine x_aload_n C 0 dX10_lots_27 rfl ?_
          refine x_getR (j := 5) (i := 36) (q := (RX10, TX10, 18)) C 88 (iX 0 (by decide)) rfl rfl inBX10 (by decide) tw240 rfl dX10_lots_28 ?_
          refine x_getIN (j := 4) (i := 135) (q := (RX7, TX7, 5)) (host := "CalledNumbers") C (iX 88 (by decide)) rfl rfl inBX7 (by decide) twN173 rfl dX10_lots_31 ?_
          refine x_ifne C 40 dX10_lots_34 (by decide) (fun c10 => ?_) (fun c10 => ?_)
          · replace h0 := ob_neg c10 h0
            refine x_aload_n C 0 dX10_lots_40 rfl ?_
            refine x_getR (j := 7) (i := 52) (q := (RX10, TX10, 18)) C (160 + 3) (iX 0 (by decide)) rfl rfl inBX10 (by decide) tw242 rfl dX10_lots_41 ?_
            refine x_getIN (j := 1) (i := 83) (q := (RX1, TX1, 2)) (host := "CalledNumbers") C (iX20 (by decide)) (lX20 (by decide)) rfl inBX1 (by decide) twN223 rfl dX10_lots_44 ?_
            refine x_iload_n C 1 dX10_lots_47 rfl ?_
            refine x_iadd C dX10_lots_48 ?_
            refine x_bipush (v := 40) C dX10_lots_49 rfl ?_
            refine x_icmple C 57 dX10_lots_51 (by decide) (fun c12 => ?_) (fun c12 => ?_)
            · replace h0 := ob_pos c12 h0
              refine x_iload_n C 2 dX10_lots_57 rfl ?_
              refine x_istore_n (lv' := [(3, .int a2), (0, .ref (kad K 0)), (1, .int a1), (2, .int a2)]) C dX10_lots_58 (by rw [e5]; decide) rfl ?_
              refine x_iconst (v := 0) C dX10_lots_59 rfl ?_
              refine x_istore (lv' := [(4, .int 0), (3, .int a2), (0, .ref (kad K 0)), (1, .int a1), (2, .int a2)]) C dX10_lots_60 (by rw [e5]; decide) rfl ?_
              obtain ⟨e22, g23, h0⟩ := ob_bind h0
              have J1 : ∀ (s16 : mS), s16 = e22 → Wx LX K s16 91 [(0, .ref (kad K 0))] [] := by
                intro s16 e9
                subst e9
                replace h0 := un1_l h0
                refine x_aload_n C 0 dX10_lots_91 rfl ?_
                refine x_getR (j := 6) (i := 45) (q := (RX10, TX10, 18)) C (144 + 5) (iX 0 (by decide)) rfl rfl inBX10 (by decide) tw241 rfl dX10_lots_92 ?_
                refine x_getIN (j := 2) (i := 223) (q := (RX2, TX2, 6)) (host := "CalledNumbers") C (iX18 (by decide)) (lX18 (by decide)) rfl inBX2 (by decide) twN195 rfl dX10_lots_95 ?_
                cases h0
                exact x_iret C R dX10_lots_98
              refine x_lv (lv' := [(4, .int 0), (3, .int a2), (0, .ref (kad K 0)), (1, .int a1)]) [0, 1, 2, 3] rfl ?_
              refine lp_G (G := fun q : mS × Int32 × Int32 => Wx LX K q.1 62 [(4, .int q.2.2), (3, .int q.2.1), (0, .ref (kad K 0)), (1, .int a1)] []) (fun q x h1 ihL1 ihR1 => ?_) big _ g23
              obtain ⟨s13, x14, x15⟩ := q
              replace h1 : X10_lots_b62 a1 s13 x14 x15 = some x := h1
              unfold X10_lots_b62 at h1
              show Wx LX K s13 62 [(4, .int x15), (3, .int x14), (0, .ref (kad K 0)), (1, .int a1)] []
              refine x_iload C 0 dX10_lots_62 rfl ?_
              refine x_iload_n C 3 dX10_lots_64 rfl ?_
              refine x_icmpge C 91 dX10_lots_65 (by decide) (fun c18 => ?_) (fun c18 => ?_)
              · replace h1 := ob_pos c18 h1
                refine x_lv (lv' := [(0, .ref (kad K 0))]) [2] rfl ?_
                exact J1 _ (ihR1 _ (Option.some.inj h1).symm)
              · replace h1 := ob_neg c18 h1
                refine x_ldc2 C tw701 dX10_lots_68 ?_
                refine x_iload_n C 1 dX10_lots_71 rfl ?_
                refine x_i2l C dX10_lots_72 ?_
                refine x_lmul C dX10_lots_73 ?_
                refine x_ldc2 C tw700 dX10_lots_74 ?_
                refine x_lrem C dX10_lots_77 (by decide) ?_
                refine x_l2i C dX10_lots_78 ?_
                refine x_istore_n (lv' := [(3, .int ((((48271 * (x14).toInt64) - (48271 * (x14).toInt64) / 2147483647 * 2147483647)).toInt32)), (4, .int x15), (0, .ref (kad K 0)), (1, .int a1)]) C dX10_lots_79 (by rw [e5]; decide) rfl ?_
                refine x_aload_n C 2 dX10_lots_80 rfl ?_
                refine x_iload_n C 0 dX10_lots_81 rfl ?_
                obtain ⟨r19, s21, g20, h1⟩ := ob_bd h1
                refine x_callV (ar := 1) (q := (RX10, TX10, 18)) (rest := []) C (c_X10_doLot C.2.2.2.2.2.2.1  g20) (iX 0 (by decide)) rfl rfl hy_X10_doLot ⟨tw702, tw704, tw31, tw63, tw705⟩ (by decide) (by decide) rfl rfl (Nat.le_of_ble_eq_true rfl) dX10_lots_82 ?_
                show Wx LX K s21 85 [(3, .int ((((48271 * (x14).toInt64) - (48271 * (x14).toInt64) / 2147483647 * 2147483647)).toInt32)), (4, .int x15), (0, .ref (kad K 0)), (1, .int a1)] []
                refine x_iinc (v := (x15 + 1)) (lv' := [(4, .int (x15 + 1)), (3, .int ((((48271 * (x14).toInt64) - (48271 * (x14).toInt64) / 2147483647 * 2147483647)).toInt32)), (0, .ref (kad K 0)), (1, .int a1)]) C 1 dX10_lots_85 rfl rfl (by rw [e5]; decide) rfl ?_
                refine x_goto C 62 dX10_lots_88 (by decide) ?_
                refine x_lv (lv' := [(4, .int (x15 + 1)), (3, .int ((((48271 * (x14).toInt64) - (48271 * (x14).toInt64) / 2147483647 * 2147483647)).toInt32)), (0, .ref (kad K 0)), (1, .int a1)]) [0, 1, 2, 3] rfl ?_
                exact ihL1 _ (Option.some.inj h1).symm
            · replace h0 := ob_neg c12 h0
              refine x_bipush (v := (-2)) C dX10_lots_54 rfl ?_
              cases h0
              exact x_iret C R dX10_lots_56
          · replace h0 := ob_pos c10 h0
            refine x_bipush (v := (-4)) C dX10_lots_37 rfl ?_
            cases h0
            exact x_iret C R dX10_lots_39
        · replace h0 := ob_neg c8 h0
          refine x_iconst (v := (-1)) C dX10_lots_25 rfl ?_
          cases h0
          exact x_iret C R dX10_lots_26
set_option maxHeartbeats 4000000 in
set_option maxRecDepth 100000 in
theorem c_X10_asked {l : Launch} {D : va_G} {ad : Nat → Nat} {cy : Nat → ClassId} (hJ : mJ LX ad) {σ : mS}  {r : Int32}  (h0 : X10_asked σ = r) : MetG l LX D ad cy yX10_asked cX10_asked 1 (some .int) 0 [.ref (ad 0)] σ (some (.int r)) σ := by
  refine MetG.of hJ (by decide +kernel) [(0, .ref (ad 0))] rfl (Nat.le_of_ble_eq_true rfl) ?_
  intro K e1 e2 e3 e4 e5 C R
  subst e1
  subst e2
  subst e3
  subst e4
  unfold X10_asked at h0
  refine x_aload_n C 0 dX10_asked_0 rfl ?_
  refine x_getI (j := 13) (i := 99) (q := (RX10, TX10, 18)) C (iX 0 (by decide)) rfl rfl inBX10 (by decide) tw248 rfl dX10_asked_1 ?_
  subst h0
  exact x_iret C R dX10_asked_4
set_option maxHeartbeats 4000000 in
set_option maxRecDepth 100000 in
theorem c_X10_upper {l : Launch} {D : va_G} {ad : Nat → Nat} {cy : Nat → ClassId} (hJ : mJ LX ad) {σ : mS}  {r : Int64}  (h0 : X10_upper σ = r) : MetG l LX D ad cy yX10_upper cX10_upper 1 (some .long) 0 [.ref (ad 0)] σ (some (.long r)) σ := by
  refine MetG.of hJ (by decide +kernel) [(0, .ref (ad 0))] rfl (Nat.le_of_ble_eq_true rfl) ?_
  intro K e1 e2 e3 e4 e5 C R
  subst e1
  subst e2
  subst e3
  subst e4
  unfold X10_upper at h0
  refine x_aload_n C 0 dX10_upper_0 rfl ?_
  refine x_getL (j := 14) (i := 284) (q := (RX10, TX10, 18)) C (iX 0 (by decide)) rfl rfl inBX10 (by decide) tw249 rfl dX10_upper_1 ?_
  subst h0
  exact x_lret C R dX10_upper_4
set_option maxHeartbeats 4000000 in
set_option maxRecDepth 100000 in
theorem c_X10_lower {l : Launch} {D : va_G} {ad : Nat → Nat} {cy : Nat → ClassId} (hJ : mJ LX ad) {σ : mS}  {r : Int64}  (h0 : X10_lower σ = r) : MetG l LX D ad cy yX10_lower cX10_lower 1 (some .long) 0 [.ref (ad 0)] σ (some (.long r)) σ := by
  refine MetG.of hJ (by decide +kernel) [(0, .ref (ad 0))] rfl (Nat.le_of_ble_eq_true rfl) ?_
  intro K e1 e2 e3 e4 e5 C R
  subst e1
  subst e2
  subst e3
  subst e4
  unfold X10_lower at h0
  refine x_aload_n C 0 dX10_lower_0 rfl ?_
  refine x_getL (j := 15) (i := 70) (q := (RX10, TX10, 18)) C (iX 0 (by decide)) rfl rfl inBX10 (by decide) tw250 rfl dX10_lower_1 ?_
  subst h0
  exact x_lret C R dX10_lower_4
set_option maxHeartbeats 4000000 in
set_option maxRecDepth 100000 in
theorem c_X10_thoseThere {l : Launch} {D : va_G} {ad : Nat → Nat} {cy : Nat → ClassId} (hJ : mJ LX ad) {σ : mS} {k : Nat} {z : Nat} {r : Int32} (hk : k ∈ LX.1) (hd : LX.2 k = .inr (.inl (0, z))) (h0 : X10_thoseThere σ k z = some r) : MetG l LX D ad cy yX10_thoseThere cX10_thoseThere 6 (some .int) 0 [.ref (ad k)] σ (some (.int r)) σ := by
  refine MetG.of hJ (by decide +kernel) [(0, .ref (ad k))] rfl (Nat.le_of_ble_eq_true rfl) ?_
  intro K e1 e2 e3 e4 e5 C R
  subst e1
  subst e2
  subst e3
  subst e4
  unfold X10_thoseThere at h0
  refine x_iconst (v := 0) C dX10_thoseThere_0 rfl ?_
  refine x_istore_n (lv' := [(1, .int 0), (0, .ref (kad K k))]) C dX10_thoseThere_1 (by rw [e5]; decide) rfl ?_
  refine x_aload_n C 1 dX10_thoseThere_2 rfl ?_
  refine x_astore_n (lv' := [(2, .ref (kad K k)), (1, .int 0), (0, .ref (kad K k))]) C dX10_thoseThere_3 (by rw [e5]; decide) rfl ?_
  refine x_aload_n C 0 dX10_thoseThere_4 rfl ?_
  refine x_alen (b := 0) C hk hd rfl rfl dX10_thoseThere_5 ?_
  refine x_istore_n (lv' := [(3, .int (Int32.ofNat z)), (2, .ref (kad K k)), (1, .int 0), (0, .ref (kad K k))]) C dX10_thoseThere_6 (by rw [e5]; decide) rfl ?_
  refine x_iconst (v := 0) C dX10_thoseThere_7 rfl ?_
  refine x_istore (lv' := [(4, .int 0), (3, .int (Int32.ofNat z)), (2, .ref (kad K k)), (1, .int 0), (0, .ref (kad K k))]) C dX10_thoseThere_8 (by rw [e5]; decide) rfl ?_
  obtain ⟨e9, g10, h0⟩ := ob_bind h0
  have J1 : ∀ (y3 : Int32), y3 = e9 → Wx LX K σ 36 [(1, .int y3)] [] := by
    intro y3 e9
    subst e9
    replace h0 := un1_l h0
    refine x_iload_n C 0 dX10_thoseThere_36 rfl ?_
    cases h0
    exact x_iret C R dX10_thoseThere_37
  refine x_lv (lv' := [(4, .int 0), (3, .int (Int32.ofNat z)), (2, .ref (kad K k)), (1, .int 0)]) [0, 1, 2, 3] rfl ?_
  refine lp_G (G := fun q : Int32 × Int32 => Wx LX K σ 10 [(4, .int q.2), (3, .int (Int32.ofNat z)), (2, .ref (kad K k)), (1, .int q.1)] []) (fun q x h1 ihL1 ihR1 => ?_) big _ g10
  obtain ⟨x1, x2⟩ := q
  replace h1 : X10_thoseThere_b10 σ k z x1 x2 = some x := h1
  unfold X10_thoseThere_b10 at h1
  show Wx LX K σ 10 [(4, .int x2), (3, .int (Int32.ofNat z)), (2, .ref (kad K k)), (1, .int x1)] []
  refine x_iload C 0 dX10_thoseThere_10 rfl ?_
  refine x_iload_n C 1 dX10_thoseThere_12 rfl ?_
  refine x_icmpge C 36 dX10_thoseThere_13 (by decide) (fun c5 => ?_) (fun c5 => ?_)
  · replace h1 := ob_pos c5 h1
    refine x_lv (lv' := [(1, .int x1)]) [3] rfl ?_
    exact J1 _ (ihR1 _ (Option.some.inj h1).symm)
  · replace h1 := ob_neg c5 h1
    refine x_aload_n C 2 dX10_thoseThere_16 rfl ?_
    refine x_iload C 0 dX10_thoseThere_17 rfl ?_
    obtain ⟨c6, h1⟩ := ob_if h1
    refine x_iald C hk hd (vin_in c6) dX10_thoseThere_19 ?_
    refine x_istore (lv' := [(5, .int (σ.1 k x2.toNatClampNeg)), (4, .int x2), (3, .int (Int32.ofNat z)), (2, .ref (kad K k)), (1, .int x1)]) C dX10_thoseThere_20 (by rw [e5]; decide) rfl ?_
    refine x_iload C 0 dX10_thoseThere_22 rfl ?_
    refine x_iflt C 30 dX10_thoseThere_24 (by decide) (fun c8 => ?_) (fun c8 => ?_)
    · replace h1 := ob_pos c8 h1
      refine x_iinc (v := (x2 + 1)) (lv' := [(4, .int (x2 + 1)), (5, .int (σ.1 k x2.toNatClampNeg)), (3, .int (Int32.ofNat z)), (2, .ref (kad K k)), (1, .int x1)]) C 1 dX10_thoseThere_30 rfl rfl (by rw [e5]; decide) rfl ?_
      refine x_goto C 10 dX10_thoseThere_33 (by decide) ?_
      refine x_lv (lv' := [(4, .int (x2 + 1)), (3, .int (Int32.ofNat z)), (2, .ref (kad K k)), (1, .int x1)]) [0, 2, 3, 4] rfl ?_
      exact ihL1 _ (Option.some.inj h1).symm
    · replace h1 := ob_neg c8 h1
      refine x_iinc (v := (x1 + 1)) (lv' := [(1, .int (x1 + 1)), (5, .int (σ.1 k x2.toNatClampNeg)), (4, .int x2), (3, .int (Int32.ofNat z)), (2, .ref (kad K k))]) C 4 dX10_thoseThere_27 rfl rfl (by rw [e5]; decide) rfl ?_
      refine x_iinc (v := (x2 + 1)) (lv' := [(4, .int (x2 + 1)), (1, .int (x1 + 1)), (5, .int (σ.1 k x2.toNatClampNeg)), (3, .int (Int32.ofNat z)), (2, .ref (kad K k))]) C 2 dX10_thoseThere_30 rfl rfl (by rw [e5]; decide) rfl ?_
      refine x_goto C 10 dX10_thoseThere_33 (by decide) ?_
      refine x_lv (lv' := [(4, .int (x2 + 1)), (3, .int (Int32.ofNat z)), (2, .ref (kad K k)), (1, .int (x1 + 1))]) [0, 3, 4, 1] rfl ?_
      exact ihL1 _ (Option.some.inj h1).symm
set_option maxHeartbeats 4000000 in
set_option maxRecDepth 100000 in
theorem c_X10_keptHalls {l : Launch} {D : va_G} {ad : Nat → Nat} {cy : Nat → ClassId} (hJ : mJ LX ad) {σ : mS}  {r : Int32}  (h0 : X10_keptHalls σ = some r) : MetG l LX D ad cy yX10_keptHalls cX10_keptHalls 3 (some .int) 0 [.ref (ad 0)] σ (some (.int r)) σ := by
  refine MetG.of hJ (by decide +kernel) [(0, .ref (ad 0))] rfl (Nat.le_of_ble_eq_true rfl) ?_
  intro K e1 e2 e3 e4 e5 C R
  subst e1
  subst e2
  subst e3
  subst e4
  unfold X10_keptHalls at h0
  refine x_iconst (v := 0) C dX10_keptHalls_0 rfl ?_
  refine x_istore_n (lv' := [(1, .int 0), (0, .ref (kad K 0))]) C dX10_keptHalls_1 (by rw [e5]; decide) rfl ?_
  refine x_iconst (v := 0) C dX10_keptHalls_2 rfl ?_
  refine x_istore_n (lv' := [(2, .int 0), (1, .int 0), (0, .ref (kad K 0))]) C dX10_keptHalls_3 (by rw [e5]; decide) rfl ?_
  obtain ⟨e9, g10, h0⟩ := ob_bind h0
  have J1 : ∀ (y3 : Int32), y3 = e9 → Wx LX K σ 30 [(1, .int y3)] [] := by
    intro y3 e9
    subst e9
    replace h0 := un1_l h0
    refine x_iload_n C 0 dX10_keptHalls_30 rfl ?_
    cases h0
    exact x_iret C R dX10_keptHalls_31
  refine lp_G (G := fun q : Int32 × Int32 => Wx LX K σ 4 [(2, .int q.2), (1, .int q.1), (0, .ref (kad K 0))] []) (fun q x h1 ihL1 ihR1 => ?_) big _ g10
  obtain ⟨x1, x2⟩ := q
  replace h1 : X10_keptHalls_b4 σ x1 x2 = some x := h1
  unfold X10_keptHalls_b4 at h1
  show Wx LX K σ 4 [(2, .int x2), (1, .int x1), (0, .ref (kad K 0))] []
  refine x_iload_n C 0 dX10_keptHalls_4 rfl ?_
  refine x_iconst (v := 3) C dX10_keptHalls_5 rfl ?_
  refine x_icmpge C 30 dX10_keptHalls_6 (by decide) (fun c5 => ?_) (fun c5 => ?_)
  · replace h1 := ob_pos c5 h1
    refine x_lv (lv' := [(1, .int x1)]) [1] rfl ?_
    exact J1 _ (ihR1 _ (Option.some.inj h1).symm)
  · replace h1 := ob_neg c5 h1
    refine x_aload_n C 2 dX10_keptHalls_9 rfl ?_
    refine x_getR (j := 8) (i := 56) (q := (RX10, TX10, 18)) C 176 (iX 0 (by decide)) rfl rfl inBX10 (by decide) tw243 rfl dX10_keptHalls_10 ?_
    refine x_iload_n C 0 dX10_keptHalls_13 rfl ?_
    obtain ⟨c6, h1⟩ := ob_if h1
    refine x_aald C (iX 176 (by decide)) rfl rfl rfl (vin_in c6) dX10_keptHalls_14 ?_
    refine x_getIN (j := 1) (i := 83) (q := (RX1, TX1, 2)) (host := "CalledNumbers") C (iX20 (Nat.lt_of_lt_of_le (vin_lt c6) (by decide))) (lX20 (Nat.lt_of_lt_of_le (vin_lt c6) (by decide))) rfl inBX1 (by decide) twN223 rfl dX10_keptHalls_15 ?_
    refine x_iflt C 24 dX10_keptHalls_18 (by decide) (fun c8 => ?_) (fun c8 => ?_)
    · replace h1 := ob_pos c8 h1
      refine x_iinc (v := (x2 + 1)) (lv' := [(2, .int (x2 + 1)), (1, .int x1), (0, .ref (kad K 0))]) C 0 dX10_keptHalls_24 rfl rfl (by rw [e5]; decide) rfl ?_
      refine x_goto C 4 dX10_keptHalls_27 (by decide) ?_
      refine x_lv (lv' := [(2, .int (x2 + 1)), (1, .int x1), (0, .ref (kad K 0))]) [0, 1, 2] rfl ?_
      exact ihL1 _ (Option.some.inj h1).symm
    · replace h1 := ob_neg c8 h1
      refine x_iinc (v := (x1 + 1)) (lv' := [(1, .int (x1 + 1)), (2, .int x2), (0, .ref (kad K 0))]) C 1 dX10_keptHalls_21 rfl rfl (by rw [e5]; decide) rfl ?_
      refine x_iinc (v := (x2 + 1)) (lv' := [(2, .int (x2 + 1)), (1, .int (x1 + 1)), (0, .ref (kad K 0))]) C 1 dX10_keptHalls_24 rfl rfl (by rw [e5]; decide) rfl ?_
      refine x_goto C 4 dX10_keptHalls_27 (by decide) ?_
      refine x_lv (lv' := [(2, .int (x2 + 1)), (1, .int (x1 + 1)), (0, .ref (kad K 0))]) [0, 1, 2] rfl ?_
      exact ihL1 _ (Option.some.inj h1).symm
set_option maxHeartbeats 4000000 in
set_option maxRecDepth 100000 in
theorem c_X10_count {l : Launch} {D : va_G} {ad : Nat → Nat} {cy : Nat → ClassId} (hJ : mJ LX ad) {σ : mS} {a1 : Int32} {r : Int32}  (h0 : X10_count σ a1 = some r) : MetG l LX D ad cy yX10_count cX10_count 2 (some .int) 2 [.ref (ad 0), .int a1] σ (some (.int r)) σ := by
  refine MetG.of hJ (by decide +kernel) [(0, .ref (ad 0)), (1, .int a1)] rfl (Nat.le_of_ble_eq_true rfl) ?_
  intro K e1 e2 e3 e4 e5 C R
  subst e1
  subst e2
  subst e3
  subst e4
  unfold X10_count at h0
  refine x_iload_n C 1 dX10_count_0 rfl ?_
  by_cases c1 : a1 = 0
  · replace h0 := ob_pos c1 h0
    refine x_tableIn C 64 dX10_count_1 (by rw [c1]; decide) (by rw [c1]; decide) (by rw [c1]; rfl) (by decide) ?_
    refine x_aload_n C 0 dX10_count_64 rfl ?_
    refine x_getR (j := 5) (i := 36) (q := (RX10, TX10, 18)) C 88 (iX 0 (by decide)) rfl rfl inBX10 (by decide) tw240 rfl dX10_count_65 ?_
    refine x_getIN (j := 4) (i := 135) (q := (RX7, TX7, 5)) (host := "CalledNumbers") C (iX 88 (by decide)) rfl rfl inBX7 (by decide) twN173 rfl dX10_count_68 ?_
    cases h0
    exact x_iret C R dX10_count_71
  replace h0 := ob_neg c1 h0
  by_cases c2 : a1 = 1
  · replace h0 := ob_pos c2 h0
    refine x_tableIn C 72 dX10_count_1 (by rw [c2]; decide) (by rw [c2]; decide) (by rw [c2]; rfl) (by decide) ?_
    refine x_aload_n C 0 dX10_count_72 rfl ?_
    refine x_getR (j := 6) (i := 45) (q := (RX10, TX10, 18)) C (144 + 5) (iX 0 (by decide)) rfl rfl inBX10 (by decide) tw241 rfl dX10_count_73 ?_
    refine x_getIN (j := 5) (i := 164) (q := (RX2, TX2, 6)) (host := "CalledNumbers") C (iX18 (by decide)) (lX18 (by decide)) rfl inBX2 (by decide) twN201 rfl dX10_count_76 ?_
    cases h0
    exact x_iret C R dX10_count_79
  replace h0 := ob_neg c2 h0
  by_cases c3 : a1 = 2
  · replace h0 := ob_pos c3 h0
    refine x_tableIn C 80 dX10_count_1 (by rw [c3]; decide) (by rw [c3]; decide) (by rw [c3]; rfl) (by decide) ?_
    refine x_aload_n C 0 dX10_count_80 rfl ?_
    refine x_getR (j := 7) (i := 52) (q := (RX10, TX10, 18)) C (160 + 3) (iX 0 (by decide)) rfl rfl inBX10 (by decide) tw242 rfl dX10_count_81 ?_
    refine x_getIN (j := 1) (i := 83) (q := (RX1, TX1, 2)) (host := "CalledNumbers") C (iX20 (by decide)) (lX20 (by decide)) rfl inBX1 (by decide) twN223 rfl dX10_count_84 ?_
    cases h0
    exact x_iret C R dX10_count_87
  replace h0 := ob_neg c3 h0
  by_cases c4 : a1 = 3
  · replace h0 := ob_pos c4 h0
    refine x_tableIn C 88 dX10_count_1 (by rw [c4]; decide) (by rw [c4]; decide) (by rw [c4]; rfl) (by decide) ?_
    refine x_aload_n C 0 dX10_count_88 rfl ?_
    refine x_getR (j := 6) (i := 45) (q := (RX10, TX10, 18)) C (144 + 5) (iX 0 (by decide)) rfl rfl inBX10 (by decide) tw241 rfl dX10_count_89 ?_
    refine x_getIN (j := 3) (i := 262) (q := (RX2, TX2, 6)) (host := "CalledNumbers") C (iX18 (by decide)) (lX18 (by decide)) rfl inBX2 (by decide) twN197 rfl dX10_count_92 ?_
    cases h0
    exact x_iret C R dX10_count_95
  replace h0 := ob_neg c4 h0
  by_cases c5 : a1 = 4
  · replace h0 := ob_pos c5 h0
    refine x_tableIn C 96 dX10_count_1 (by rw [c5]; decide) (by rw [c5]; decide) (by rw [c5]; rfl) (by decide) ?_
    refine x_aload_n C 0 dX10_count_96 rfl ?_
    refine x_getR (j := 6) (i := 45) (q := (RX10, TX10, 18)) C (144 + 5) (iX 0 (by decide)) rfl rfl inBX10 (by decide) tw241 rfl dX10_count_97 ?_
    refine x_getIN (j := 4) (i := 177) (q := (RX2, TX2, 6)) (host := "CalledNumbers") C (iX18 (by decide)) (lX18 (by decide)) rfl inBX2 (by decide) twN199 rfl dX10_count_100 ?_
    cases h0
    exact x_iret C R dX10_count_103
  replace h0 := ob_neg c5 h0
  by_cases c6 : a1 = 5
  · replace h0 := ob_pos c6 h0
    refine x_tableIn C 104 dX10_count_1 (by rw [c6]; decide) (by rw [c6]; decide) (by rw [c6]; rfl) (by decide) ?_
    refine x_aload_n C 0 dX10_count_104 rfl ?_
    refine x_getR (j := 6) (i := 45) (q := (RX10, TX10, 18)) C (144 + 5) (iX 0 (by decide)) rfl rfl inBX10 (by decide) tw241 rfl dX10_count_105 ?_
    refine x_getIN (j := 2) (i := 223) (q := (RX2, TX2, 6)) (host := "CalledNumbers") C (iX18 (by decide)) (lX18 (by decide)) rfl inBX2 (by decide) twN195 rfl dX10_count_108 ?_
    cases h0
    exact x_iret C R dX10_count_111
  replace h0 := ob_neg c6 h0
  by_cases c7 : a1 = 6
  · replace h0 := ob_pos c7 h0
    refine x_tableIn C 112 dX10_count_1 (by rw [c7]; decide) (by rw [c7]; decide) (by rw [c7]; rfl) (by decide) ?_
    refine x_aload_n C 0 dX10_count_112 rfl ?_
    refine x_getR (j := 6) (i := 45) (q := (RX10, TX10, 18)) C (144 + 5) (iX 0 (by decide)) rfl rfl inBX10 (by decide) tw241 rfl dX10_count_113 ?_
    obtain ⟨r13, g14, h0⟩ := ob_bind h0
    refine x_callV (ar := 0) (q := (RX2, TX2, 6)) (rest := []) C (c_X2_allMarks C.2.2.2.2.2.2.1 (by decide) g14) (iX18 (by decide)) (lX18 (by decide)) rfl hy_X2_allMarks ⟨tw722, tw723, tw724, tw72, tw725⟩ (by decide) (by decide) rfl rfl (Nat.le_of_ble_eq_true rfl) dX10_count_116 ?_
    show Wx LX K σ 119 [(0, .ref (kad K 0)), (1, .int a1)] [.int r13]
    cases h0
    exact x_iret C R dX10_count_119
  replace h0 := ob_neg c7 h0
  by_cases c8 : a1 = 7
  · replace h0 := ob_pos c8 h0
    refine x_tableIn C 120 dX10_count_1 (by rw [c8]; decide) (by rw [c8]; decide) (by rw [c8]; rfl) (by decide) ?_
    refine x_aload_n C 0 dX10_count_120 rfl ?_
    refine x_getR (j := 5) (i := 36) (q := (RX10, TX10, 18)) C 88 (iX 0 (by decide)) rfl rfl inBX10 (by decide) tw240 rfl dX10_count_121 ?_
    obtain ⟨r15, g16, h0⟩ := ob_bind h0
    refine x_callV (ar := 0) (q := (RX7, TX7, 5)) (rest := []) C (c_X7_wholeOnes C.2.2.2.2.2.2.1  g16) (iX 88 (by decide)) rfl rfl hy_X7_wholeOnes ⟨tw726, tw727, tw728, tw65, tw729⟩ (by decide) (by decide) rfl rfl (Nat.le_of_ble_eq_true rfl) dX10_count_124 ?_
    show Wx LX K σ 127 [(0, .ref (kad K 0)), (1, .int a1)] [.int r15]
    cases h0
    exact x_iret C R dX10_count_127
  replace h0 := ob_neg c8 h0
  by_cases c9 : a1 = 8
  · replace h0 := ob_pos c9 h0
    refine x_tableIn C 128 dX10_count_1 (by rw [c9]; decide) (by rw [c9]; decide) (by rw [c9]; rfl) (by decide) ?_
    refine x_aload_n C 0 dX10_count_128 rfl ?_
    refine x_getR (j := 5) (i := 36) (q := (RX10, TX10, 18)) C 88 (iX 0 (by decide)) rfl rfl inBX10 (by decide) tw240 rfl dX10_count_129 ?_
    obtain ⟨r17, g18, h0⟩ := ob_bind h0
    refine x_callV (ar := 0) (q := (RX7, TX7, 5)) (rest := []) C (c_X7_deafOnes C.2.2.2.2.2.2.1  g18) (iX 88 (by decide)) rfl rfl hy_X7_deafOnes ⟨tw731, tw732, tw733, tw65, tw734⟩ (by decide) (by decide) rfl rfl (Nat.le_of_ble_eq_true rfl) dX10_count_132 ?_
    show Wx LX K σ 135 [(0, .ref (kad K 0)), (1, .int a1)] [.int r17]
    cases h0
    exact x_iret C R dX10_count_135
  replace h0 := ob_neg c9 h0
  by_cases c10 : a1 = 9
  · replace h0 := ob_pos c10 h0
    refine x_tableIn C 136 dX10_count_1 (by rw [c10]; decide) (by rw [c10]; decide) (by rw [c10]; rfl) (by decide) ?_
    refine x_aload_n C 0 dX10_count_136 rfl ?_
    refine x_getR (j := 1) (i := 14) (q := (RX10, TX10, 18)) C 24 (iX 0 (by decide)) rfl rfl inBX10 (by decide) tw236 rfl dX10_count_137 ?_
    obtain ⟨r19, g20, h0⟩ := ob_bind h0
    refine x_callS (ar := 1) (rest := []) C (c_X10_thoseThere C.2.2.2.2.2.2.1 (iX 24 (by decide)) rfl g20) hy_X10_thoseThere ⟨tw735, tw736, tw63, tw737⟩ (by decide) (by decide) rfl rfl (Nat.le_of_ble_eq_true rfl) dX10_count_140 ?_
    show Wx LX K σ 143 [(0, .ref (kad K 0)), (1, .int a1)] [.int r19]
    cases h0
    exact x_iret C R dX10_count_143
  replace h0 := ob_neg c10 h0
  by_cases c11 : a1 = 10
  · replace h0 := ob_pos c11 h0
    refine x_tableIn C 144 dX10_count_1 (by rw [c11]; decide) (by rw [c11]; decide) (by rw [c11]; rfl) (by decide) ?_
    refine x_aload_n C 0 dX10_count_144 rfl ?_
    refine x_getR (j := 3) (i := 23) (q := (RX10, TX10, 18)) C 48 (iX 0 (by decide)) rfl rfl inBX10 (by decide) tw238 rfl dX10_count_145 ?_
    obtain ⟨r21, g22, h0⟩ := ob_bind h0
    refine x_callS (ar := 1) (rest := []) C (c_X10_thoseThere C.2.2.2.2.2.2.1 (iX 48 (by decide)) rfl g22) hy_X10_thoseThere ⟨tw735, tw736, tw63, tw737⟩ (by decide) (by decide) rfl rfl (Nat.le_of_ble_eq_true rfl) dX10_count_148 ?_
    show Wx LX K σ 151 [(0, .ref (kad K 0)), (1, .int a1)] [.int r21]
    cases h0
    exact x_iret C R dX10_count_151
  replace h0 := ob_neg c11 h0
  by_cases c12 : a1 = 11
  · replace h0 := ob_pos c12 h0
    refine x_tableIn C 152 dX10_count_1 (by rw [c12]; decide) (by rw [c12]; decide) (by rw [c12]; rfl) (by decide) ?_
    refine x_aload_n C 0 dX10_count_152 rfl ?_
    obtain ⟨r23, g24, h0⟩ := ob_bind h0
    refine x_callV (ar := 0) (q := (RX10, TX10, 18)) (rest := []) C (c_X10_keptHalls C.2.2.2.2.2.2.1  g24) (iX 0 (by decide)) rfl rfl hy_X10_keptHalls ⟨tw738, tw740, tw32, tw63, tw741⟩ (by decide) (by decide) rfl rfl (Nat.le_of_ble_eq_true rfl) dX10_count_153 ?_
    show Wx LX K σ 156 [(0, .ref (kad K 0)), (1, .int a1)] [.int r23]
    cases h0
    exact x_iret C R dX10_count_156
  replace h0 := ob_neg c12 h0
  refine x_tableOut C 157 dX10_count_1 (sw_out (fun c g1 g2 => by
      have g3 : c = 0 ∨ c = 1 ∨ c = 2 ∨ c = 3 ∨ c = 4 ∨ c = 5 ∨ c = 6 ∨ c = 7 ∨ c = 8 ∨ c = 9 ∨ c = 10 ∨ c = 11 := by omega
      rcases g3 with rfl | rfl | rfl | rfl | rfl | rfl | rfl | rfl | rfl | rfl | rfl | rfl
      · exact c1
      · exact c2
      · exact c3
      · exact c4
      · exact c5
      · exact c6
      · exact c7
      · exact c8
      · exact c9
      · exact c10
      · exact c11
      · exact c12
      )) (by decide) ?_
  refine x_iconst (v := (-1)) C dX10_count_157 rfl ?_
  cases h0
  exact x_iret C R dX10_count_158
set_option maxHeartbeats 4000000 in
set_option maxRecDepth 100000 in
theorem c_X10_finding {l : Launch} {D : va_G} {ad : Nat → Nat} {cy : Nat → ClassId} (hJ : mJ LX ad) {σ : mS}  {r : Int32}  (h0 : X10_finding σ = r) : MetG l LX D ad cy yX10_finding cX10_finding 1 (some .int) 0 [.ref (ad 0)] σ (some (.int r)) σ := by
  refine MetG.of hJ (by decide +kernel) [(0, .ref (ad 0))] rfl (Nat.le_of_ble_eq_true rfl) ?_
  intro K e1 e2 e3 e4 e5 C R
  subst e1
  subst e2
  subst e3
  subst e4
  unfold X10_finding at h0
  refine x_aload_n C 0 dX10_finding_0 rfl ?_
  refine x_getI (j := 16) (i := 304) (q := (RX10, TX10, 18)) C (iX 0 (by decide)) rfl rfl inBX10 (by decide) tw251 rfl dX10_finding_1 ?_
  subst h0
  exact x_iret C R dX10_finding_4
set_option maxHeartbeats 4000000 in
set_option maxRecDepth 100000 in
theorem c_X10_findings {l : Launch} {D : va_G} {ad : Nat → Nat} {cy : Nat → ClassId} (hJ : mJ LX ad) {σ : mS} {a1 : Int32} {r : Int32}  (h0 : X10_findings σ a1 = some r) : MetG l LX D ad cy yX10_findings cX10_findings 2 (some .int) 0 [.ref (ad 0), .int a1] σ (some (.int r)) σ := by
  refine MetG.of hJ (by decide +kernel) [(0, .ref (ad 0)), (1, .int a1)] rfl (Nat.le_of_ble_eq_true rfl) ?_
  intro K e1 e2 e3 e4 e5 C R
  subst e1
  subst e2
  subst e3
  subst e4
  unfold X10_findings at h0
  refine x_iload_n C 1 dX10_findings_0 rfl ?_
  refine x_iconst (v := 1) C dX10_findings_1 rfl ?_
  refine x_icmplt C 10 dX10_findings_2 (by decide) (fun c2 => ?_) (fun c2 => ?_)
  · replace h0 := ob_pos c2 h0
    refine x_iconst (v := (-1)) C dX10_findings_10 rfl ?_
    cases h0
    exact x_iret C R dX10_findings_11
  · replace h0 := ob_neg c2 h0
    refine x_iload_n C 1 dX10_findings_5 rfl ?_
    refine x_iconst (v := 5) C dX10_findings_6 rfl ?_
    refine x_icmple C 12 dX10_findings_7 (by decide) (fun c4 => ?_) (fun c4 => ?_)
    · replace h0 := ob_pos c4 h0
      refine x_aload_n C 0 dX10_findings_12 rfl ?_
      refine x_getR (j := 17) (i := 74) (q := (RX10, TX10, 18)) C 208 (iX 0 (by decide)) rfl rfl inBX10 (by decide) tw252 rfl dX10_findings_13 ?_
      refine x_iload_n C 1 dX10_findings_16 rfl ?_
      obtain ⟨c5, h0⟩ := ob_if h0
      refine x_iald C (iX 208 (by decide)) rfl (vin_in c5) dX10_findings_17 ?_
      cases h0
      exact x_iret C R dX10_findings_18
    · replace h0 := ob_neg c4 h0
      refine x_iconst (v := (-1)) C dX10_findings_10 rfl ?_
      cases h0
      exact x_iret C R dX10_findings_11
set_option maxHeartbeats 4000000 in
set_option maxRecDepth 100000 in
theorem c_X10_digest {l : Launch} {D : va_G} {ad : Nat → Nat} {cy : Nat → ClassId} (hJ : mJ LX ad) {σ : mS}  {r : Int64}  (h0 : X10_digest σ = some r) : MetG l LX D ad cy yX10_digest cX10_digest 5 (some .long) 5 [.ref (ad 0)] σ (some (.long r)) σ := by
  refine MetG.of hJ (by decide +kernel) [(0, .ref (ad 0))] rfl (Nat.le_of_ble_eq_true rfl) ?_
  intro K e1 e2 e3 e4 e5 C R
  subst e1
  subst e2
  subst e3
  subst e4
  unfold X10_digest at h0
  refine x_ldc2 C tw754 dX10_digest_0 ?_
  refine x_lstore_n (lv' := [(1, .long 17), (0, .ref (kad K 0))]) C dX10_digest_3 (by rw [e5]; decide) rfl ?_
  refine x_iconst (v := 0) C dX10_digest_4 rfl ?_
  refine x_istore_n (lv' := [(3, .int 0), (1, .long 17), (0, .ref (kad K 0))]) C dX10_digest_5 (by rw [e5]; decide) rfl ?_
  obtain ⟨e77, g78, h0⟩ := ob_bind h0
  have J1 : ∀ (y3 : Int64), y3 = e77 → Wx LX K σ 31 [(1, .long y3), (0, .ref (kad K 0))] [] := by
    intro y3 e9
    subst e9
    replace h0 := un1_l h0
    refine x_iconst (v := 0) C dX10_digest_31 rfl ?_
    refine x_istore_n (lv' := [(3, .int 0), (1, .long y3), (0, .ref (kad K 0))]) C dX10_digest_32 (by rw [e5]; decide) rfl ?_
    obtain ⟨e71, g72, h0⟩ := ob_bind h0
    have J2 : ∀ (y6 : Int64), y6 = e71 → Wx LX K σ 116 [(1, .long y6), (0, .ref (kad K 0))] [] := by
      intro y6 e9
      subst e9
      replace h0 := un1_l h0
      refine x_iconst (v := 0) C dX10_digest_116 rfl ?_
      refine x_istore_n (lv' := [(3, .int 0), (1, .long y6), (0, .ref (kad K 0))]) C dX10_digest_117 (by rw [e5]; decide) rfl ?_
      obtain ⟨e49, g50, h0⟩ := ob_bind h0
      have J3 : ∀ (y9 : Int64), y9 = e49 → Wx LX K σ 146 [(1, .long y9), (0, .ref (kad K 0))] [] := by
        intro y9 e9
        subst e9
        replace h0 := un1_l h0
        refine x_iconst (v := 0) C dX10_digest_146 rfl ?_
        refine x_istore_n (lv' := [(3, .int 0), (1, .long y9), (0, .ref (kad K 0))]) C dX10_digest_147 (by rw [e5]; decide) rfl ?_
        obtain ⟨e44, g45, h0⟩ := ob_bind h0
        have J4 : ∀ (y12 : Int64), y12 = e44 → Wx LX K σ 211 [(1, .long y12), (0, .ref (kad K 0))] [] := by
          intro y12 e9
          subst e9
          replace h0 := un1_l h0
          refine x_iconst (v := 0) C dX10_digest_211 rfl ?_
          refine x_istore_n (lv' := [(3, .int 0), (1, .long y12), (0, .ref (kad K 0))]) C dX10_digest_212 (by rw [e5]; decide) rfl ?_
          obtain ⟨e29, g30, h0⟩ := ob_bind h0
          have J5 : ∀ (y15 : Int64), y15 = e29 → Wx LX K σ 275 [(1, .long y15)] [] := by
            intro y15 e9
            subst e9
            replace h0 := un1_l h0
            refine x_lload_n C 0 dX10_digest_275 rfl ?_
            cases h0
            exact x_lret C R dX10_digest_276
          refine lp_G (G := fun q : Int64 × Int32 => Wx LX K σ 213 [(3, .int q.2), (1, .long q.1), (0, .ref (kad K 0))] []) (fun q x h5 ihL5 ihR5 => ?_) big _ g30
          obtain ⟨x13, x14⟩ := q
          replace h5 : X10_digest_b213 σ x13 x14 = some x := h5
          unfold X10_digest_b213 at h5
          show Wx LX K σ 213 [(3, .int x14), (1, .long x13), (0, .ref (kad K 0))] []
          refine x_iload_n C 0 dX10_digest_213 rfl ?_
          refine x_iconst (v := 4) C dX10_digest_214 rfl ?_
          refine x_icmpge C 275 dX10_digest_215 (by decide) (fun c17 => ?_) (fun c17 => ?_)
          · replace h5 := ob_pos c17 h5
            refine x_lv (lv' := [(1, .long x13)]) [1] rfl ?_
            exact J5 _ (ihR5 _ (Option.some.inj h5).symm)
          · replace h5 := ob_neg c17 h5
            refine x_ldc2 C tw755 dX10_digest_218 ?_
            refine x_lload_n C 1 dX10_digest_221 rfl ?_
            refine x_lmul C dX10_digest_222 ?_
            refine x_aload_n C 2 dX10_digest_223 rfl ?_
            refine x_getR (j := 3) (i := 23) (q := (RX10, TX10, 18)) C 48 (iX 0 (by decide)) rfl rfl inBX10 (by decide) tw238 rfl dX10_digest_224 ?_
            refine x_iload_n C 0 dX10_digest_227 rfl ?_
            obtain ⟨c18, h5⟩ := ob_if h5
            refine x_iald C (iX 48 (by decide)) rfl (vin_in c18) dX10_digest_228 ?_
            refine x_i2l C dX10_digest_229 ?_
            refine x_ladd C dX10_digest_230 ?_
            refine x_lstore_n (lv' := [(1, .long ((31 * x13) + ((σ.1 48 x14.toNatClampNeg)).toInt64)), (3, .int x14), (0, .ref (kad K 0))]) C dX10_digest_231 (by rw [e5]; decide) rfl ?_
            refine x_iconst (v := 0) C dX10_digest_232 rfl ?_
            refine x_istore (lv' := [(4, .int 0), (1, .long ((31 * x13) + ((σ.1 48 x14.toNatClampNeg)).toInt64)), (3, .int x14), (0, .ref (kad K 0))]) C dX10_digest_233 (by rw [e5]; decide) rfl ?_
            obtain ⟨e27, g28, h5⟩ := ob_bind h5
            have J6 : ∀ (y21 : Int64), y21 = e27 → Wx LX K σ 269 [(1, .long y21), (3, .int x14), (0, .ref (kad K 0))] [] := by
              intro y21 e9
              subst e9
              replace h5 := un1_l h5
              refine x_iinc (v := (x14 + 1)) (lv' := [(3, .int (x14 + 1)), (1, .long y21), (0, .ref (kad K 0))]) C 1 dX10_digest_269 rfl rfl (by rw [e5]; decide) rfl ?_
              refine x_goto C 213 dX10_digest_272 (by decide) ?_
              refine x_lv (lv' := [(3, .int (x14 + 1)), (1, .long y21), (0, .ref (kad K 0))]) [0, 1, 2] rfl ?_
              exact ihL5 _ (Option.some.inj h5).symm
            refine lp_G (G := fun q : Int64 × Int32 => Wx LX K σ 235 [(4, .int q.2), (1, .long q.1), (3, .int x14), (0, .ref (kad K 0))] []) (fun q x h6 ihL6 ihR6 => ?_) big _ g28
            obtain ⟨x19, x20⟩ := q
            replace h6 : X10_digest_b235 σ x14 x19 x20 = some x := h6
            unfold X10_digest_b235 at h6
            show Wx LX K σ 235 [(4, .int x20), (1, .long x19), (3, .int x14), (0, .ref (kad K 0))] []
            refine x_iload C 0 dX10_digest_235 rfl ?_
            refine x_aload_n C 3 dX10_digest_237 rfl ?_
            refine x_getR (j := 3) (i := 23) (q := (RX10, TX10, 18)) C 48 (iX 0 (by decide)) rfl rfl inBX10 (by decide) tw238 rfl dX10_digest_238 ?_
            refine x_iload_n C 2 dX10_digest_241 rfl ?_
            obtain ⟨c22, h6⟩ := ob_if h6
            refine x_iald C (iX 48 (by decide)) rfl (vin_in c22) dX10_digest_242 ?_
            refine x_icmpge C 269 dX10_digest_243 (by decide) (fun c24 => ?_) (fun c24 => ?_)
            · replace h6 := ob_pos c24 h6
              refine x_lv (lv' := [(1, .long x19), (3, .int x14), (0, .ref (kad K 0))]) [1, 2, 3] rfl ?_
              exact J6 _ (ihR6 _ (Option.some.inj h6).symm)
            · replace h6 := ob_neg c24 h6
              refine x_ldc2 C tw755 dX10_digest_246 ?_
              refine x_lload_n C 1 dX10_digest_249 rfl ?_
              refine x_lmul C dX10_digest_250 ?_
              refine x_aload_n C 3 dX10_digest_251 rfl ?_
              refine x_getR (j := 2) (i := 20) (q := (RX10, TX10, 18)) C 32 (iX 0 (by decide)) rfl rfl inBX10 (by decide) tw237 rfl dX10_digest_252 ?_
              refine x_iload_n C 2 dX10_digest_255 rfl ?_
              obtain ⟨c25, h6⟩ := ob_if h6
              refine x_aald C (iX 32 (by decide)) rfl rfl rfl (vin_in c25) dX10_digest_256 ?_
              refine x_iload C 0 dX10_digest_257 rfl ?_
              obtain ⟨c26, h6⟩ := ob_if h6
              refine x_bald C (iX5 (vin_lt c25)) (lX5 (vin_lt c25)) (vin_in c26) dX10_digest_259 ?_
              refine x_i2l C dX10_digest_260 ?_
              refine x_ladd C dX10_digest_261 ?_
              refine x_lstore_n (lv' := [(1, .long ((31 * x19) + ((σ.1 (40 + x14.toNatClampNeg) x20.toNatClampNeg)).toInt64)), (4, .int x20), (3, .int x14), (0, .ref (kad K 0))]) C dX10_digest_262 (by rw [e5]; decide) rfl ?_
              refine x_iinc (v := (x20 + 1)) (lv' := [(4, .int (x20 + 1)), (1, .long ((31 * x19) + ((σ.1 (40 + x14.toNatClampNeg) x20.toNatClampNeg)).toInt64)), (3, .int x14), (0, .ref (kad K 0))]) C 1 dX10_digest_263 rfl rfl (by rw [e5]; decide) rfl ?_
              refine x_goto C 235 dX10_digest_266 (by decide) ?_
              refine x_lv (lv' := [(4, .int (x20 + 1)), (1, .long ((31 * x19) + ((σ.1 (40 + x14.toNatClampNeg) x20.toNatClampNeg)).toInt64)), (3, .int x14), (0, .ref (kad K 0))]) [0, 1, 2, 3] rfl ?_
              exact ihL6 _ (Option.some.inj h6).symm
        refine lp_G (G := fun q : Int64 × Int32 => Wx LX K σ 148 [(3, .int q.2), (1, .long q.1), (0, .ref (kad K 0))] []) (fun q x h4 ihL4 ihR4 => ?_) big _ g45
        obtain ⟨x10, x11⟩ := q
        replace h4 : X10_digest_b148 σ x10 x11 = some x := h4
        unfold X10_digest_b148 at h4
        show Wx LX K σ 148 [(3, .int x11), (1, .long x10), (0, .ref (kad K 0))] []
        refine x_iload_n C 0 dX10_digest_148 rfl ?_
        refine x_bipush (v := 6) C dX10_digest_149 rfl ?_
        refine x_icmpge C 211 dX10_digest_151 (by decide) (fun c32 => ?_) (fun c32 => ?_)
        · replace h4 := ob_pos c32 h4
          refine x_lv (lv' := [(1, .long x10), (0, .ref (kad K 0))]) [1, 2] rfl ?_
          exact J4 _ (ihR4 _ (Option.some.inj h4).symm)
        · replace h4 := ob_neg c32 h4
          refine x_ldc2 C tw755 dX10_digest_154 ?_
          refine x_lload_n C 1 dX10_digest_157 rfl ?_
          refine x_lmul C dX10_digest_158 ?_
          refine x_aload_n C 2 dX10_digest_159 rfl ?_
          refine x_getR (j := 1) (i := 14) (q := (RX10, TX10, 18)) C 24 (iX 0 (by decide)) rfl rfl inBX10 (by decide) tw236 rfl dX10_digest_160 ?_
          refine x_iload_n C 0 dX10_digest_163 rfl ?_
          obtain ⟨c33, h4⟩ := ob_if h4
          refine x_iald C (iX 24 (by decide)) rfl (vin_in c33) dX10_digest_164 ?_
          refine x_i2l C dX10_digest_165 ?_
          refine x_ladd C dX10_digest_166 ?_
          refine x_lstore_n (lv' := [(1, .long ((31 * x10) + ((σ.1 24 x11.toNatClampNeg)).toInt64)), (3, .int x11), (0, .ref (kad K 0))]) C dX10_digest_167 (by rw [e5]; decide) rfl ?_
          refine x_iconst (v := 0) C dX10_digest_168 rfl ?_
          refine x_istore (lv' := [(4, .int 0), (1, .long ((31 * x10) + ((σ.1 24 x11.toNatClampNeg)).toInt64)), (3, .int x11), (0, .ref (kad K 0))]) C dX10_digest_169 (by rw [e5]; decide) rfl ?_
          obtain ⟨e42, g43, h4⟩ := ob_bind h4
          have J7 : ∀ (y36 : Int64), y36 = e42 → Wx LX K σ 205 [(1, .long y36), (3, .int x11), (0, .ref (kad K 0))] [] := by
            intro y36 e9
            subst e9
            replace h4 := un1_l h4
            refine x_iinc (v := (x11 + 1)) (lv' := [(3, .int (x11 + 1)), (1, .long y36), (0, .ref (kad K 0))]) C 1 dX10_digest_205 rfl rfl (by rw [e5]; decide) rfl ?_
            refine x_goto C 148 dX10_digest_208 (by decide) ?_
            refine x_lv (lv' := [(3, .int (x11 + 1)), (1, .long y36), (0, .ref (kad K 0))]) [0, 1, 2] rfl ?_
            exact ihL4 _ (Option.some.inj h4).symm
          refine lp_G (G := fun q : Int64 × Int32 => Wx LX K σ 171 [(4, .int q.2), (1, .long q.1), (3, .int x11), (0, .ref (kad K 0))] []) (fun q x h7 ihL7 ihR7 => ?_) big _ g43
          obtain ⟨x34, x35⟩ := q
          replace h7 : X10_digest_b171 σ x11 x34 x35 = some x := h7
          unfold X10_digest_b171 at h7
          show Wx LX K σ 171 [(4, .int x35), (1, .long x34), (3, .int x11), (0, .ref (kad K 0))] []
          refine x_iload C 0 dX10_digest_171 rfl ?_
          refine x_aload_n C 3 dX10_digest_173 rfl ?_
          refine x_getR (j := 1) (i := 14) (q := (RX10, TX10, 18)) C 24 (iX 0 (by decide)) rfl rfl inBX10 (by decide) tw236 rfl dX10_digest_174 ?_
          refine x_iload_n C 2 dX10_digest_177 rfl ?_
          obtain ⟨c37, h7⟩ := ob_if h7
          refine x_iald C (iX 24 (by decide)) rfl (vin_in c37) dX10_digest_178 ?_
          refine x_icmpge C 205 dX10_digest_179 (by decide) (fun c39 => ?_) (fun c39 => ?_)
          · replace h7 := ob_pos c39 h7
            refine x_lv (lv' := [(1, .long x34), (3, .int x11), (0, .ref (kad K 0))]) [1, 2, 3] rfl ?_
            exact J7 _ (ihR7 _ (Option.some.inj h7).symm)
          · replace h7 := ob_neg c39 h7
            refine x_ldc2 C tw755 dX10_digest_182 ?_
            refine x_lload_n C 1 dX10_digest_185 rfl ?_
            refine x_lmul C dX10_digest_186 ?_
            refine x_aload_n C 3 dX10_digest_187 rfl ?_
            refine x_getR (j := 0) (i := 11) (q := (RX10, TX10, 18)) C 8 (iX 0 (by decide)) rfl rfl inBX10 (by decide) tw235 rfl dX10_digest_188 ?_
            refine x_iload_n C 2 dX10_digest_191 rfl ?_
            obtain ⟨c40, h7⟩ := ob_if h7
            refine x_aald C (iX 8 (by decide)) rfl rfl rfl (vin_in c40) dX10_digest_192 ?_
            refine x_iload C 0 dX10_digest_193 rfl ?_
            obtain ⟨c41, h7⟩ := ob_if h7
            refine x_iald C (iX2 (vin_lt c40)) (lX2 (vin_lt c40)) (vin_in c41) dX10_digest_195 ?_
            refine x_i2l C dX10_digest_196 ?_
            refine x_ladd C dX10_digest_197 ?_
            refine x_lstore_n (lv' := [(1, .long ((31 * x34) + ((σ.1 (16 + x11.toNatClampNeg) x35.toNatClampNeg)).toInt64)), (4, .int x35), (3, .int x11), (0, .ref (kad K 0))]) C dX10_digest_198 (by rw [e5]; decide) rfl ?_
            refine x_iinc (v := (x35 + 1)) (lv' := [(4, .int (x35 + 1)), (1, .long ((31 * x34) + ((σ.1 (16 + x11.toNatClampNeg) x35.toNatClampNeg)).toInt64)), (3, .int x11), (0, .ref (kad K 0))]) C 1 dX10_digest_199 rfl rfl (by rw [e5]; decide) rfl ?_
            refine x_goto C 171 dX10_digest_202 (by decide) ?_
            refine x_lv (lv' := [(4, .int (x35 + 1)), (1, .long ((31 * x34) + ((σ.1 (16 + x11.toNatClampNeg) x35.toNatClampNeg)).toInt64)), (3, .int x11), (0, .ref (kad K 0))]) [0, 1, 2, 3] rfl ?_
            exact ihL7 _ (Option.some.inj h7).symm
      refine lp_G (G := fun q : Int64 × Int32 => Wx LX K σ 118 [(3, .int q.2), (1, .long q.1), (0, .ref (kad K 0))] []) (fun q x h3 ihL3 ihR3 => ?_) big _ g50
      obtain ⟨x7, x8⟩ := q
      replace h3 : X10_digest_b118 σ x7 x8 = some x := h3
      unfold X10_digest_b118 at h3
      show Wx LX K σ 118 [(3, .int x8), (1, .long x7), (0, .ref (kad K 0))] []
      refine x_iload_n C 0 dX10_digest_118 rfl ?_
      refine x_iconst (v := 3) C dX10_digest_119 rfl ?_
      refine x_icmpge C 146 dX10_digest_120 (by decide) (fun c47 => ?_) (fun c47 => ?_)
      · replace h3 := ob_pos c47 h3
        refine x_lv (lv' := [(1, .long x7), (0, .ref (kad K 0))]) [1, 2] rfl ?_
        exact J3 _ (ihR3 _ (Option.some.inj h3).symm)
      · replace h3 := ob_neg c47 h3
        refine x_ldc2 C tw755 dX10_digest_123 ?_
        refine x_lload_n C 1 dX10_digest_126 rfl ?_
        refine x_lmul C dX10_digest_127 ?_
        refine x_aload_n C 2 dX10_digest_128 rfl ?_
        refine x_getR (j := 8) (i := 56) (q := (RX10, TX10, 18)) C 176 (iX 0 (by decide)) rfl rfl inBX10 (by decide) tw243 rfl dX10_digest_129 ?_
        refine x_iload_n C 0 dX10_digest_132 rfl ?_
        obtain ⟨c48, h3⟩ := ob_if h3
        refine x_aald C (iX 176 (by decide)) rfl rfl rfl (vin_in c48) dX10_digest_133 ?_
        refine x_getIN (j := 1) (i := 83) (q := (RX1, TX1, 2)) (host := "CalledNumbers") C (iX20 (Nat.lt_of_lt_of_le (vin_lt c48) (by decide))) (lX20 (Nat.lt_of_lt_of_le (vin_lt c48) (by decide))) rfl inBX1 (by decide) twN223 rfl dX10_digest_134 ?_
        refine x_i2l C dX10_digest_137 ?_
        refine x_ladd C dX10_digest_138 ?_
        refine x_lstore_n (lv' := [(1, .long ((31 * x7) + ((σ.1 (160 + x8.toNatClampNeg) 1)).toInt64)), (3, .int x8), (0, .ref (kad K 0))]) C dX10_digest_139 (by rw [e5]; decide) rfl ?_
        refine x_iinc (v := (x8 + 1)) (lv' := [(3, .int (x8 + 1)), (1, .long ((31 * x7) + ((σ.1 (160 + x8.toNatClampNeg) 1)).toInt64)), (0, .ref (kad K 0))]) C 1 dX10_digest_140 rfl rfl (by rw [e5]; decide) rfl ?_
        refine x_goto C 118 dX10_digest_143 (by decide) ?_
        refine x_lv (lv' := [(3, .int (x8 + 1)), (1, .long ((31 * x7) + ((σ.1 (160 + x8.toNatClampNeg) 1)).toInt64)), (0, .ref (kad K 0))]) [0, 1, 2] rfl ?_
        exact ihL3 _ (Option.some.inj h3).symm
    refine lp_G (G := fun q : Int64 × Int32 => Wx LX K σ 33 [(3, .int q.2), (1, .long q.1), (0, .ref (kad K 0))] []) (fun q x h2 ihL2 ihR2 => ?_) big _ g72
    obtain ⟨x4, x5⟩ := q
    replace h2 : X10_digest_b33 σ x4 x5 = some x := h2
    unfold X10_digest_b33 at h2
    show Wx LX K σ 33 [(3, .int x5), (1, .long x4), (0, .ref (kad K 0))] []
    refine x_iload_n C 0 dX10_digest_33 rfl ?_
    refine x_aload_n C 2 dX10_digest_34 rfl ?_
    refine x_getR (j := 5) (i := 36) (q := (RX10, TX10, 18)) C 88 (iX 0 (by decide)) rfl rfl inBX10 (by decide) tw240 rfl dX10_digest_35 ?_
    refine x_getIN (j := 4) (i := 135) (q := (RX7, TX7, 5)) (host := "CalledNumbers") C (iX 88 (by decide)) rfl rfl inBX7 (by decide) twN173 rfl dX10_digest_38 ?_
    refine x_icmpge C 116 dX10_digest_41 (by decide) (fun c52 => ?_) (fun c52 => ?_)
    · replace h2 := ob_pos c52 h2
      refine x_lv (lv' := [(1, .long x4), (0, .ref (kad K 0))]) [1, 2] rfl ?_
      exact J2 _ (ihR2 _ (Option.some.inj h2).symm)
    · replace h2 := ob_neg c52 h2
      refine x_iconst (v := 0) C dX10_digest_44 rfl ?_
      refine x_istore (lv' := [(4, .int 0), (3, .int x5), (1, .long x4), (0, .ref (kad K 0))]) C dX10_digest_45 (by rw [e5]; decide) rfl ?_
      obtain ⟨e69, g70, h2⟩ := ob_bind h2
      have J8 : ∀ (y55 : Int64), y55 = e69 → Wx LX K σ 74 [(3, .int x5), (1, .long y55), (0, .ref (kad K 0))] [] := by
        intro y55 e9
        subst e9
        replace h2 := un1_l h2
        refine x_iconst (v := 0) C dX10_digest_74 rfl ?_
        refine x_istore (lv' := [(4, .int 0), (3, .int x5), (1, .long y55), (0, .ref (kad K 0))]) C dX10_digest_75 (by rw [e5]; decide) rfl ?_
        obtain ⟨e63, g64, h2⟩ := ob_bind h2
        have J9 : ∀ (y58 : Int64), y58 = e63 → Wx LX K σ 110 [(3, .int x5), (1, .long y58), (0, .ref (kad K 0))] [] := by
          intro y58 e9
          subst e9
          replace h2 := un1_l h2
          refine x_iinc (v := (x5 + 1)) (lv' := [(3, .int (x5 + 1)), (1, .long y58), (0, .ref (kad K 0))]) C 0 dX10_digest_110 rfl rfl (by rw [e5]; decide) rfl ?_
          refine x_goto C 33 dX10_digest_113 (by decide) ?_
          refine x_lv (lv' := [(3, .int (x5 + 1)), (1, .long y58), (0, .ref (kad K 0))]) [0, 1, 2] rfl ?_
          exact ihL2 _ (Option.some.inj h2).symm
        refine lp_G (G := fun q : Int64 × Int32 => Wx LX K σ 77 [(4, .int q.2), (3, .int x5), (1, .long q.1), (0, .ref (kad K 0))] []) (fun q x h9 ihL9 ihR9 => ?_) big _ g64
        obtain ⟨x56, x57⟩ := q
        replace h9 : X10_digest_b77 σ x5 x56 x57 = some x := h9
        unfold X10_digest_b77 at h9
        show Wx LX K σ 77 [(4, .int x57), (3, .int x5), (1, .long x56), (0, .ref (kad K 0))] []
        refine x_iload C 0 dX10_digest_77 rfl ?_
        refine x_bipush (v := 6) C dX10_digest_79 rfl ?_
        refine x_icmpge C 110 dX10_digest_81 (by decide) (fun c60 => ?_) (fun c60 => ?_)
        · replace h9 := ob_pos c60 h9
          refine x_lv (lv' := [(3, .int x5), (1, .long x56), (0, .ref (kad K 0))]) [1, 2, 3] rfl ?_
          exact J9 _ (ihR9 _ (Option.some.inj h9).symm)
        · replace h9 := ob_neg c60 h9
          refine x_ldc2 C tw755 dX10_digest_84 ?_
          refine x_lload_n C 2 dX10_digest_87 rfl ?_
          refine x_lmul C dX10_digest_88 ?_
          refine x_aload_n C 3 dX10_digest_89 rfl ?_
          refine x_getR (j := 5) (i := 36) (q := (RX10, TX10, 18)) C 88 (iX 0 (by decide)) rfl rfl inBX10 (by decide) tw240 rfl dX10_digest_90 ?_
          refine x_getRN (j := 2) (i := 147) (q := (RX7, TX7, 5)) (host := "CalledNumbers") C 120 (iX 88 (by decide)) rfl rfl inBX7 (by decide) twN168 rfl dX10_digest_93 ?_
          refine x_iload_n C 1 dX10_digest_96 rfl ?_
          obtain ⟨c61, h9⟩ := ob_if h9
          refine x_aald C (iX 120 (by decide)) rfl rfl rfl (vin_in c61) dX10_digest_97 ?_
          refine x_iload C 0 dX10_digest_98 rfl ?_
          obtain ⟨c62, h9⟩ := ob_if h9
          refine x_iald C (iX16 (vin_lt c61)) (lX16 (vin_lt c61)) (vin_in c62) dX10_digest_100 ?_
          refine x_i2l C dX10_digest_101 ?_
          refine x_ladd C dX10_digest_102 ?_
          refine x_lstore_n (lv' := [(1, .long ((31 * x56) + ((σ.1 (128 + x5.toNatClampNeg) x57.toNatClampNeg)).toInt64)), (4, .int x57), (3, .int x5), (0, .ref (kad K 0))]) C dX10_digest_103 (by rw [e5]; decide) rfl ?_
          refine x_iinc (v := (x57 + 1)) (lv' := [(4, .int (x57 + 1)), (1, .long ((31 * x56) + ((σ.1 (128 + x5.toNatClampNeg) x57.toNatClampNeg)).toInt64)), (3, .int x5), (0, .ref (kad K 0))]) C 1 dX10_digest_104 rfl rfl (by rw [e5]; decide) rfl ?_
          refine x_goto C 77 dX10_digest_107 (by decide) ?_
          refine x_lv (lv' := [(4, .int (x57 + 1)), (3, .int x5), (1, .long ((31 * x56) + ((σ.1 (128 + x5.toNatClampNeg) x57.toNatClampNeg)).toInt64)), (0, .ref (kad K 0))]) [0, 2, 1, 3] rfl ?_
          exact ihL9 _ (Option.some.inj h9).symm
      refine lp_G (G := fun q : Int64 × Int32 => Wx LX K σ 47 [(4, .int q.2), (3, .int x5), (1, .long q.1), (0, .ref (kad K 0))] []) (fun q x h8 ihL8 ihR8 => ?_) big _ g70
      obtain ⟨x53, x54⟩ := q
      replace h8 : X10_digest_b47 σ x5 x53 x54 = some x := h8
      unfold X10_digest_b47 at h8
      show Wx LX K σ 47 [(4, .int x54), (3, .int x5), (1, .long x53), (0, .ref (kad K 0))] []
      refine x_iload C 0 dX10_digest_47 rfl ?_
      refine x_iconst (v := 4) C dX10_digest_49 rfl ?_
      refine x_icmpgt C 74 dX10_digest_50 (by decide) (fun c66 => ?_) (fun c66 => ?_)
      · replace h8 := ob_pos c66 h8
        refine x_lv (lv' := [(3, .int x5), (1, .long x53), (0, .ref (kad K 0))]) [1, 2, 3] rfl ?_
        exact J8 _ (ihR8 _ (Option.some.inj h8).symm)
      · replace h8 := ob_neg c66 h8
        refine x_ldc2 C tw755 dX10_digest_53 ?_
        refine x_lload_n C 2 dX10_digest_56 rfl ?_
        refine x_lmul C dX10_digest_57 ?_
        refine x_aload_n C 3 dX10_digest_58 rfl ?_
        refine x_iload_n C 1 dX10_digest_59 rfl ?_
        refine x_iload C 0 dX10_digest_60 rfl ?_
        obtain ⟨r67, g68, h8⟩ := ob_bind h8
        refine x_callV (ar := 2) (q := (RX10, TX10, 18)) (rest := [.long (31 * x53)]) C (c_X10_ofPlayer C.2.2.2.2.2.2.1  g68) (iX 0 (by decide)) rfl rfl hy_X10_ofPlayer ⟨tw394, tw396, tw9, tw63, tw397⟩ (by decide) (by decide) rfl rfl (Nat.le_of_ble_eq_true rfl) dX10_digest_62 ?_
        show Wx LX K σ 65 [(4, .int x54), (3, .int x5), (1, .long x53), (0, .ref (kad K 0))] [.int r67, .long (31 * x53)]
        refine x_i2l C dX10_digest_65 ?_
        refine x_ladd C dX10_digest_66 ?_
        refine x_lstore_n (lv' := [(1, .long ((31 * x53) + (r67).toInt64)), (4, .int x54), (3, .int x5), (0, .ref (kad K 0))]) C dX10_digest_67 (by rw [e5]; decide) rfl ?_
        refine x_iinc (v := (x54 + 1)) (lv' := [(4, .int (x54 + 1)), (1, .long ((31 * x53) + (r67).toInt64)), (3, .int x5), (0, .ref (kad K 0))]) C 1 dX10_digest_68 rfl rfl (by rw [e5]; decide) rfl ?_
        refine x_goto C 47 dX10_digest_71 (by decide) ?_
        refine x_lv (lv' := [(4, .int (x54 + 1)), (3, .int x5), (1, .long ((31 * x53) + (r67).toInt64)), (0, .ref (kad K 0))]) [0, 2, 1, 3] rfl ?_
        exact ihL8 _ (Option.some.inj h8).symm
  refine lp_G (G := fun q : Int64 × Int32 => Wx LX K σ 6 [(3, .int q.2), (1, .long q.1), (0, .ref (kad K 0))] []) (fun q x h1 ihL1 ihR1 => ?_) big _ g78
  obtain ⟨x1, x2⟩ := q
  replace h1 : X10_digest_b6 σ x1 x2 = some x := h1
  unfold X10_digest_b6 at h1
  show Wx LX K σ 6 [(3, .int x2), (1, .long x1), (0, .ref (kad K 0))] []
  refine x_iload_n C 0 dX10_digest_6 rfl ?_
  refine x_bipush (v := 11) C dX10_digest_7 rfl ?_
  refine x_icmpgt C 31 dX10_digest_9 (by decide) (fun c74 => ?_) (fun c74 => ?_)
  · replace h1 := ob_pos c74 h1
    refine x_lv (lv' := [(1, .long x1), (0, .ref (kad K 0))]) [1, 2] rfl ?_
    exact J1 _ (ihR1 _ (Option.some.inj h1).symm)
  · replace h1 := ob_neg c74 h1
    refine x_ldc2 C tw755 dX10_digest_12 ?_
    refine x_lload_n C 1 dX10_digest_15 rfl ?_
    refine x_lmul C dX10_digest_16 ?_
    refine x_aload_n C 2 dX10_digest_17 rfl ?_
    refine x_iload_n C 0 dX10_digest_18 rfl ?_
    obtain ⟨r75, g76, h1⟩ := ob_bind h1
    refine x_callV (ar := 1) (q := (RX10, TX10, 18)) (rest := [.long (31 * x1)]) C (c_X10_count C.2.2.2.2.2.2.1  g76) (iX 0 (by decide)) rfl rfl hy_X10_count ⟨tw756, tw719, tw720, tw63, tw721⟩ (by decide) (by decide) rfl rfl (Nat.le_of_ble_eq_true rfl) dX10_digest_19 ?_
    show Wx LX K σ 22 [(3, .int x2), (1, .long x1), (0, .ref (kad K 0))] [.int r75, .long (31 * x1)]
    refine x_i2l C dX10_digest_22 ?_
    refine x_ladd C dX10_digest_23 ?_
    refine x_lstore_n (lv' := [(1, .long ((31 * x1) + (r75).toInt64)), (3, .int x2), (0, .ref (kad K 0))]) C dX10_digest_24 (by rw [e5]; decide) rfl ?_
    refine x_iinc (v := (x2 + 1)) (lv' := [(3, .int (x2 + 1)), (1, .long ((31 * x1) + (r75).toInt64)), (0, .ref (kad K 0))]) C 1 dX10_digest_25 rfl rfl (by rw [e5]; decide) rfl ?_
    refine x_goto C 6 dX10_digest_28 (by decide) ?_
    refine x_lv (lv' := [(3, .int (x2 + 1)), (1, .long ((31 * x1) + (r75).toInt64)), (0, .ref (kad K 0))]) [0, 1, 2] rfl ?_
    exact ihL1 _ (Option.some.inj h1).symm
set_option maxHeartbeats 4000000 in
set_option maxRecDepth 100000 in
theorem c_X11_in {l : Launch} {D : va_G} {ad : Nat → Nat} {cy : Nat → ClassId} (hJ : mJ LM ad) {σ : mS} {a1 : Int64} {a2 : Int64} {a3 : Int64} {r : Int32}  (h0 : X11_in a1 a2 a3 = r) : MetG l LM D ad cy yX11_in cX11_in 6 (some .boolean) 0 [.long a1, .long a2, .long a3] σ (some (.int r)) σ := by
  refine MetG.of hJ (by decide +kernel) [(0, .long a1), (2, .long a2), (4, .long a3)] rfl (Nat.le_of_ble_eq_true rfl) ?_
  intro K e1 e2 e3 e4 e5 C R
  subst e1
  subst e2
  subst e3
  subst e4
  unfold X11_in at h0
  refine x_lload_n C 0 dX11_in_0 rfl ?_
  refine x_lload_n C 1 dX11_in_1 rfl ?_
  refine x_lcmplt C 17 dX11_in_2 dX11_in_3 (by decide) (fun c2 => ?_) (fun c2 => ?_)
  · replace h0 := ob_pos c2 h0
    refine x_iconst (v := 0) C dX11_in_17 rfl ?_
    subst h0
    exact x_zret C (Or.inl rfl) R dX11_in_18
  · replace h0 := ob_neg c2 h0
    refine x_lload_n C 0 dX11_in_6 rfl ?_
    refine x_lload C 2 dX11_in_7 rfl ?_
    refine x_lcmpgt C 17 dX11_in_9 dX11_in_10 (by decide) (fun c4 => ?_) (fun c4 => ?_)
    · replace h0 := ob_pos c4 h0
      refine x_iconst (v := 0) C dX11_in_17 rfl ?_
      subst h0
      exact x_zret C (Or.inl rfl) R dX11_in_18
    · replace h0 := ob_neg c4 h0
      refine x_iconst (v := 1) C dX11_in_13 rfl ?_
      refine x_goto C 18 dX11_in_14 (by decide) ?_
      subst h0
      exact x_zret C (Or.inr rfl) R dX11_in_18
set_option maxHeartbeats 4000000 in
set_option maxRecDepth 100000 in
theorem c_X11_has {l : Launch} {D : va_G} {ad : Nat → Nat} {cy : Nat → ClassId} (hJ : mJ LM ad) {σ : mS} {a1 : Int32} {a2 : Int32} {r : Int32}  (h0 : X11_has a1 a2 = r) : MetG l LM D ad cy yX11_has cX11_has 2 (some .boolean) 0 [.int a1, .int a2] σ (some (.int r)) σ := by
  refine MetG.of hJ (by decide +kernel) [(0, .int a1), (1, .int a2)] rfl (Nat.le_of_ble_eq_true rfl) ?_
  intro K e1 e2 e3 e4 e5 C R
  subst e1
  subst e2
  subst e3
  subst e4
  unfold X11_has at h0
  refine x_iload_n C 0 dX11_has_0 rfl ?_
  refine x_iload_n C 1 dX11_has_1 rfl ?_
  refine x_ishr C dX11_has_2 ?_
  refine x_iconst (v := 1) C dX11_has_3 rfl ?_
  refine x_iand C dX11_has_4 ?_
  refine x_iconst (v := 1) C dX11_has_5 rfl ?_
  refine x_icmpne C 13 dX11_has_6 (by decide) (fun c2 => ?_) (fun c2 => ?_)
  · replace h0 := ob_neg c2 h0
    refine x_iconst (v := 0) C dX11_has_13 rfl ?_
    subst h0
    exact x_zret C (Or.inl rfl) R dX11_has_14
  · replace h0 := ob_pos c2 h0
    refine x_iconst (v := 1) C dX11_has_9 rfl ?_
    refine x_goto C 14 dX11_has_10 (by decide) ?_
    subst h0
    exact x_zret C (Or.inr rfl) R dX11_has_14
set_option maxHeartbeats 4000000 in
set_option maxRecDepth 100000 in
theorem c_X11_bits {l : Launch} {D : va_G} {ad : Nat → Nat} {cy : Nat → ClassId} (hJ : mJ LM ad) {σ : mS} {a1 : Int32} {r : Int32}  (h0 : X11_bits a1 = some r) : MetG l LM D ad cy yX11_bits cX11_bits 3 (some .int) 0 [.int a1] σ (some (.int r)) σ := by
  refine MetG.of hJ (by decide +kernel) [(0, .int a1)] rfl (Nat.le_of_ble_eq_true rfl) ?_
  intro K e1 e2 e3 e4 e5 C R
  subst e1
  subst e2
  subst e3
  subst e4
  unfold X11_bits at h0
  refine x_iconst (v := 0) C dX11_bits_0 rfl ?_
  refine x_istore_n (lv' := [(1, .int 0), (0, .int a1)]) C dX11_bits_1 (by rw [e5]; decide) rfl ?_
  refine x_iconst (v := 0) C dX11_bits_2 rfl ?_
  refine x_istore_n (lv' := [(2, .int 0), (1, .int 0), (0, .int a1)]) C dX11_bits_3 (by rw [e5]; decide) rfl ?_
  obtain ⟨e6, g7, h0⟩ := ob_bind h0
  have J1 : ∀ (y3 : Int32), y3 = e6 → Wx LM K σ 24 [(1, .int y3)] [] := by
    intro y3 e9
    subst e9
    replace h0 := un1_l h0
    refine x_iload_n C 0 dX11_bits_24 rfl ?_
    cases h0
    exact x_iret C R dX11_bits_25
  refine lp_G (G := fun q : Int32 × Int32 => Wx LM K σ 4 [(2, .int q.2), (1, .int q.1), (0, .int a1)] []) (fun q x h1 ihL1 ihR1 => ?_) big _ g7
  obtain ⟨x1, x2⟩ := q
  replace h1 : X11_bits_b4 a1 x1 x2 = some x := h1
  unfold X11_bits_b4 at h1
  show Wx LM K σ 4 [(2, .int x2), (1, .int x1), (0, .int a1)] []
  refine x_iload_n C 0 dX11_bits_4 rfl ?_
  refine x_bipush (v := 14) C dX11_bits_5 rfl ?_
  refine x_icmpge C 24 dX11_bits_7 (by decide) (fun c5 => ?_) (fun c5 => ?_)
  · replace h1 := ob_pos c5 h1
    refine x_lv (lv' := [(1, .int x1)]) [1] rfl ?_
    exact J1 _ (ihR1 _ (Option.some.inj h1).symm)
  · replace h1 := ob_neg c5 h1
    refine x_iload_n C 1 dX11_bits_10 rfl ?_
    refine x_iload_n C 2 dX11_bits_11 rfl ?_
    refine x_iload_n C 0 dX11_bits_12 rfl ?_
    refine x_ishr C dX11_bits_13 ?_
    refine x_iconst (v := 1) C dX11_bits_14 rfl ?_
    refine x_iand C dX11_bits_15 ?_
    refine x_iadd C dX11_bits_16 ?_
    refine x_istore_n (lv' := [(1, .int (x1 + ((a1 >>> (x2 &&& 31)) &&& 1))), (2, .int x2), (0, .int a1)]) C dX11_bits_17 (by rw [e5]; decide) rfl ?_
    refine x_iinc (v := (x2 + 1)) (lv' := [(2, .int (x2 + 1)), (1, .int (x1 + ((a1 >>> (x2 &&& 31)) &&& 1))), (0, .int a1)]) C 1 dX11_bits_18 rfl rfl (by rw [e5]; decide) rfl ?_
    refine x_goto C 4 dX11_bits_21 (by decide) ?_
    refine x_lv (lv' := [(2, .int (x2 + 1)), (1, .int (x1 + ((a1 >>> (x2 &&& 31)) &&& 1))), (0, .int a1)]) [0, 1, 2] rfl ?_
    exact ihL1 _ (Option.some.inj h1).symm
set_option maxHeartbeats 4000000 in
set_option maxRecDepth 100000 in
theorem c_X11_lesser {l : Launch} {D : va_G} {ad : Nat → Nat} {cy : Nat → ClassId} (hJ : mJ LM ad) {σ : mS} {a1 : Int32} {a2 : Int32} {r : Int32}  (h0 : X11_lesser a1 a2 = r) : MetG l LM D ad cy yX11_lesser cX11_lesser 2 (some .int) 0 [.int a1, .int a2] σ (some (.int r)) σ := by
  refine MetG.of hJ (by decide +kernel) [(0, .int a1), (1, .int a2)] rfl (Nat.le_of_ble_eq_true rfl) ?_
  intro K e1 e2 e3 e4 e5 C R
  subst e1
  subst e2
  subst e3
  subst e4
  unfold X11_lesser at h0
  refine x_iload_n C 0 dX11_lesser_0 rfl ?_
  refine x_iload_n C 1 dX11_lesser_1 rfl ?_
  refine x_icmpge C 9 dX11_lesser_2 (by decide) (fun c2 => ?_) (fun c2 => ?_)
  · replace h0 := ob_pos c2 h0
    refine x_iload_n C 1 dX11_lesser_9 rfl ?_
    subst h0
    exact x_iret C R dX11_lesser_10
  · replace h0 := ob_neg c2 h0
    refine x_iload_n C 0 dX11_lesser_5 rfl ?_
    refine x_goto C 10 dX11_lesser_6 (by decide) ?_
    subst h0
    exact x_iret C R dX11_lesser_10
set_option maxHeartbeats 4000000 in
set_option maxRecDepth 100000 in
theorem c_X11_larger {l : Launch} {D : va_G} {ad : Nat → Nat} {cy : Nat → ClassId} (hJ : mJ LM ad) {σ : mS} {a1 : Int32} {a2 : Int32} {r : Int32}  (h0 : X11_larger a1 a2 = r) : MetG l LM D ad cy yX11_larger cX11_larger 2 (some .int) 0 [.int a1, .int a2] σ (some (.int r)) σ := by
  refine MetG.of hJ (by decide +kernel) [(0, .int a1), (1, .int a2)] rfl (Nat.le_of_ble_eq_true rfl) ?_
  intro K e1 e2 e3 e4 e5 C R
  subst e1
  subst e2
  subst e3
  subst e4
  unfold X11_larger at h0
  refine x_iload_n C 0 dX11_larger_0 rfl ?_
  refine x_iload_n C 1 dX11_larger_1 rfl ?_
  refine x_icmpge C 9 dX11_larger_2 (by decide) (fun c2 => ?_) (fun c2 => ?_)
  · replace h0 := ob_pos c2 h0
    refine x_iload_n C 0 dX11_larger_9 rfl ?_
    subst h0
    exact x_iret C R dX11_larger_10
  · replace h0 := ob_neg c2 h0
    refine x_iload_n C 1 dX11_larger_5 rfl ?_
    refine x_goto C 10 dX11_larger_6 (by decide) ?_
    subst h0
    exact x_iret C R dX11_larger_10
set_option maxHeartbeats 4000000 in
set_option maxRecDepth 100000 in
theorem c_X11_finds {l : Launch} {D : va_G} {ad : Nat → Nat} {cy : Nat → ClassId} (hJ : mJ LM ad) {σ τ : mS} {a1 : Int32} {r : Int32}  (h0 : X11_finds σ a1 = some (r, τ)) : MetG l LM D ad cy yX11_finds cX11_finds 2 (some .int) 0 [.ref (ad 0), .int a1] σ (some (.int r)) τ := by
  refine MetG.of hJ (by decide +kernel) [(0, .ref (ad 0)), (1, .int a1)] rfl (Nat.le_of_ble_eq_true rfl) ?_
  intro K e1 e2 e3 e4 e5 C R
  subst e1
  subst e2
  subst e3
  subst e4
  unfold X11_finds at h0
  refine x_aload_n C 0 dX11_finds_0 rfl ?_
  refine x_iload_n C 1 dX11_finds_1 rfl ?_
  refine x_putI (j := 17) (i := 60) (q := (RX11, TX11, 22)) C tyX11 tyX11_ok nmX11 (iM 0 (by decide)) rfl rfl inBX11 (by decide) tw780 rfl (by decide +kernel) rfl dX11_finds_2 ?_
  refine x_aload_n C 0 dX11_finds_5 rfl ?_
  refine x_getR (j := 18) (i := 48) (q := (RX11, TX11, 22)) C 12 (iM 0 (by decide)) rfl rfl inBX11 (by decide) tw781 rfl dX11_finds_6 ?_
  refine x_iload_n C 1 dX11_finds_9 rfl ?_
  refine x_dup2 C dX11_finds_10 rfl rfl ?_
  obtain ⟨c1, h0⟩ := ob_if h0
  refine x_iald C (iM 12 (by decide)) rfl (vin_in c1) dX11_finds_11 ?_
  refine x_iconst (v := 1) C dX11_finds_12 rfl ?_
  refine x_iadd C dX11_finds_13 ?_
  obtain ⟨c2, h0⟩ := ob_if h0
  refine x_iast C (iM 12 (by decide)) rfl (vin_in c2) dX11_finds_14 ?_
  refine x_bipush (v := (-3)) C dX11_finds_15 rfl ?_
  cases h0
  exact x_iret C R dX11_finds_17
set_option maxHeartbeats 4000000 in
set_option maxRecDepth 100000 in
theorem c_X11_tells {l : Launch} {D : va_G} {ad : Nat → Nat} {cy : Nat → ClassId} (hJ : mJ LM ad) {σ τ : mS} {a1 : Int32} {r : Int32}  (h0 : X11_tells σ a1 = some (r, τ)) : MetG l LM D ad cy yX11_tells cX11_tells 2 (some .int) 0 [.ref (ad 0), .int a1] σ (some (.int r)) τ := by
  refine MetG.of hJ (by decide +kernel) [(0, .ref (ad 0)), (1, .int a1)] rfl (Nat.le_of_ble_eq_true rfl) ?_
  intro K e1 e2 e3 e4 e5 C R
  subst e1
  subst e2
  subst e3
  subst e4
  unfold X11_tells at h0
  refine x_aload_n C 0 dX11_tells_0 rfl ?_
  refine x_iload_n C 1 dX11_tells_1 rfl ?_
  refine x_putI (j := 14) (i := 64) (q := (RX11, TX11, 22)) C tyX11 tyX11_ok nmX11 (iM 0 (by decide)) rfl rfl inBX11 (by decide) tw777 rfl (by decide +kernel) rfl dX11_tells_2 ?_
  refine x_iconst (v := 1) C dX11_tells_5 rfl ?_
  cases h0
  exact x_iret C R dX11_tells_6
set_option maxHeartbeats 4000000 in
set_option maxRecDepth 100000 in
theorem c_X11_isRow {l : Launch} {D : va_G} {ad : Nat → Nat} {cy : Nat → ClassId} (hJ : mJ LM ad) {σ : mS} {a1 : Int32} {r : Int32}  (h0 : X11_isRow a1 = r) : MetG l LM D ad cy yX11_isRow cX11_isRow 2 (some .boolean) 1 [.ref (ad 0), .int a1] σ (some (.int r)) σ := by
  refine MetG.of hJ (by decide +kernel) [(0, .ref (ad 0)), (1, .int a1)] rfl (Nat.le_of_ble_eq_true rfl) ?_
  intro K e1 e2 e3 e4 e5 C R
  subst e1
  subst e2
  subst e3
  subst e4
  unfold X11_isRow at h0
  refine x_iload_n C 1 dX11_isRow_0 rfl ?_
  refine x_i2l C dX11_isRow_1 ?_
  refine x_lconst (v := 0) C dX11_isRow_2 rfl ?_
  refine x_ldc2 C tw838 dX11_isRow_3 ?_
  refine x_callS (ar := 3) (rest := []) C (c_X11_in C.2.2.2.2.2.2.1  rfl) hy_X11_in ⟨tw839, tw840, tw75, tw841⟩ (by decide) (by decide) rfl rfl (Nat.le_of_ble_eq_true rfl) dX11_isRow_6 ?_
  show Wx LM K σ 9 [(0, .ref (kad K 0)), (1, .int a1)] [.int (X11_in ((a1).toInt64) (0) (5))]
  subst h0
  exact x_zret C (zb_X11_in ..) R dX11_isRow_9
set_option maxHeartbeats 4000000 in
set_option maxRecDepth 100000 in
theorem c_X11_isText {l : Launch} {D : va_G} {ad : Nat → Nat} {cy : Nat → ClassId} (hJ : mJ LM ad) {σ : mS} {a1 : Int32} {r : Int32}  (h0 : X11_isText a1 = r) : MetG l LM D ad cy yX11_isText cX11_isText 2 (some .boolean) 1 [.ref (ad 0), .int a1] σ (some (.int r)) σ := by
  refine MetG.of hJ (by decide +kernel) [(0, .ref (ad 0)), (1, .int a1)] rfl (Nat.le_of_ble_eq_true rfl) ?_
  intro K e1 e2 e3 e4 e5 C R
  subst e1
  subst e2
  subst e3
  subst e4
  unfold X11_isText at h0
  refine x_iload_n C 1 dX11_isText_0 rfl ?_
  refine x_i2l C dX11_isText_1 ?_
  refine x_lconst (v := 0) C dX11_isText_2 rfl ?_
  refine x_ldc2 C tw882 dX11_isText_3 ?_
  refine x_callS (ar := 3) (rest := []) C (c_X11_in C.2.2.2.2.2.2.1  rfl) hy_X11_in ⟨tw839, tw840, tw75, tw841⟩ (by decide) (by decide) rfl rfl (Nat.le_of_ble_eq_true rfl) dX11_isText_6 ?_
  show Wx LM K σ 9 [(0, .ref (kad K 0)), (1, .int a1)] [.int (X11_in ((a1).toInt64) (0) (3))]
  subst h0
  exact x_zret C (zb_X11_in ..) R dX11_isText_9
set_option maxHeartbeats 4000000 in
set_option maxRecDepth 100000 in
theorem c_X11_anew {l : Launch} {D : va_G} {ad : Nat → Nat} {cy : Nat → ClassId} (hJ : mJ LM ad) {σ τ : mS} {a1 : Int32} {a2 : Int32} {r : Unit}  (h0 : X11_anew σ a1 a2 = some (r, τ)) : MetG l LM D ad cy yX11_anew cX11_anew 4 none 0 [.ref (ad 0), .int a1, .int a2] σ (none) τ := by
  refine MetG.of hJ (by decide +kernel) [(0, .ref (ad 0)), (1, .int a1), (2, .int a2)] rfl (Nat.le_of_ble_eq_true rfl) ?_
  intro K e1 e2 e3 e4 e5 C R
  subst e1
  subst e2
  subst e3
  subst e4
  unfold X11_anew at h0
  refine x_aload_n C 0 dX11_anew_0 rfl ?_
  refine x_getR (j := 0) (i := 7) (q := (RX11, TX11, 22)) C 1 (iM 0 (by decide)) rfl rfl inBX11 (by decide) tw763 rfl dX11_anew_1 ?_
  refine x_iload_n C 1 dX11_anew_4 rfl ?_
  refine x_iload_n C 2 dX11_anew_5 rfl ?_
  obtain ⟨c1, h0⟩ := ob_if h0
  refine x_iast C (iM 1 (by decide)) rfl (vin_in c1) dX11_anew_6 ?_
  refine x_iconst (v := 0) C dX11_anew_7 rfl ?_
  refine x_istore_n (lv' := [(3, .int 0), (0, .ref (kad K 0)), (1, .int a1), (2, .int a2)]) C dX11_anew_8 (by rw [e5]; decide) rfl ?_
  obtain ⟨e8, g9, h0⟩ := ob_bind h0
  have J1 : ∀ (s4 : mS), s4 = e8 → Wx LM K s4 32 [] [] := by
    intro s4 e9
    subst e9
    replace h0 := un1_l h0
    cases h0
    exact x_vret C R dX11_anew_32
  refine lp_G (G := fun q : mS × Int32 => Wx LM K q.1 9 [(3, .int q.2), (0, .ref (kad K 0)), (1, .int a1), (2, .int a2)] []) (fun q x h1 ihL1 ihR1 => ?_) big _ g9
  obtain ⟨s2, x3⟩ := q
  replace h1 : X11_anew_b9 a1 a2 s2 x3 = some x := h1
  unfold X11_anew_b9 at h1
  show Wx LM K s2 9 [(3, .int x3), (0, .ref (kad K 0)), (1, .int a1), (2, .int a2)] []
  refine x_iload_n C 0 dX11_anew_9 rfl ?_
  refine x_iload_n C 3 dX11_anew_10 rfl ?_
  refine x_icmpge C 32 dX11_anew_11 (by decide) (fun c6 => ?_) (fun c6 => ?_)
  · replace h1 := ob_pos c6 h1
    refine x_lv (lv' := []) [] rfl ?_
    exact J1 _ (ihR1 _ (Option.some.inj h1).symm)
  · replace h1 := ob_neg c6 h1
    refine x_aload_n C 1 dX11_anew_14 rfl ?_
    refine x_getR (j := 1) (i := 13) (q := (RX11, TX11, 22)) C 2 (iM 0 (by decide)) rfl rfl inBX11 (by decide) tw764 rfl dX11_anew_15 ?_
    refine x_bipush (v := 40) C dX11_anew_18 rfl ?_
    refine x_iload_n C 2 dX11_anew_20 rfl ?_
    refine x_imul C dX11_anew_21 ?_
    refine x_iload_n C 0 dX11_anew_22 rfl ?_
    refine x_iadd C dX11_anew_23 ?_
    refine x_iconst (v := 0) C dX11_anew_24 rfl ?_
    obtain ⟨c7, h1⟩ := ob_if h1
    refine x_iast C (iM 2 (by decide)) rfl (vin_in c7) dX11_anew_25 ?_
    refine x_iinc (v := (x3 + 1)) (lv' := [(3, .int (x3 + 1)), (0, .ref (kad K 0)), (1, .int a1), (2, .int a2)]) C 0 dX11_anew_26 rfl rfl (by rw [e5]; decide) rfl ?_
    refine x_goto C 9 dX11_anew_29 (by decide) ?_
    refine x_lv (lv' := [(3, .int (x3 + 1)), (0, .ref (kad K 0)), (1, .int a1), (2, .int a2)]) [0, 1, 2, 3] rfl ?_
    exact ihL1 _ (Option.some.inj h1).symm
set_option maxHeartbeats 4000000 in
set_option maxRecDepth 100000 in
theorem c_X11_row {l : Launch} {D : va_G} {ad : Nat → Nat} {cy : Nat → ClassId} (hJ : mJ LM ad) {σ τ : mS} {a1 : Int32} {a2 : Int32} {r : Int32}  (h0 : X11_row σ a1 a2 = some (r, τ)) : MetG l LM D ad cy yX11_row cX11_row 3 (some .int) 2 [.ref (ad 0), .int a1, .int a2] σ (some (.int r)) τ := by
  refine MetG.of hJ (by decide +kernel) [(0, .ref (ad 0)), (1, .int a1), (2, .int a2)] rfl (Nat.le_of_ble_eq_true rfl) ?_
  intro K e1 e2 e3 e4 e5 C R
  subst e1
  subst e2
  subst e3
  subst e4
  unfold X11_row at h0
  refine x_aload_n C 0 dX11_row_0 rfl ?_
  refine x_iload_n C 1 dX11_row_1 rfl ?_
  refine x_callV (ar := 1) (q := (RX11, TX11, 22)) (rest := []) C (c_X11_isRow C.2.2.2.2.2.2.1  rfl) (iM 0 (by decide)) rfl rfl hy_X11_isRow ⟨tw834, tw836, tw33, tw75, tw837⟩ (by decide) (by decide) rfl rfl (Nat.le_of_ble_eq_true rfl) dX11_row_2 ?_
  show Wx LM K σ 5 [(0, .ref (kad K 0)), (1, .int a1), (2, .int a2)] [.int (X11_isRow a1)]
  refine x_ifeq C 14 dX11_row_5 (by decide) (fun c3 => ?_) (fun c3 => ?_)
  · replace h0 := ob_pos c3 h0
    refine x_iconst (v := (-1)) C dX11_row_14 rfl ?_
    cases h0
    exact x_iret C R dX11_row_15
  · replace h0 := ob_neg c3 h0
    refine x_iload_n C 2 dX11_row_8 rfl ?_
    refine x_bipush (v := 40) C dX11_row_9 rfl ?_
    refine x_icmple C 16 dX11_row_11 (by decide) (fun c5 => ?_) (fun c5 => ?_)
    · replace h0 := ob_pos c5 h0
      refine x_iload_n C 2 dX11_row_16 rfl ?_
      refine x_ifge C 26 dX11_row_17 (by decide) (fun c7 => ?_) (fun c7 => ?_)
      · replace h0 := ob_pos c7 h0
        refine x_aload_n C 0 dX11_row_26 rfl ?_
        refine x_iload_n C 1 dX11_row_27 rfl ?_
        refine x_iload_n C 2 dX11_row_28 rfl ?_
        obtain ⟨r8, s10, g9, h0⟩ := ob_bd h0
        refine x_callV (ar := 2) (q := (RX11, TX11, 22)) (rest := []) C (c_X11_anew C.2.2.2.2.2.2.1  g9) (iM 0 (by decide)) rfl rfl hy_X11_anew ⟨tw846, tw848, tw35, tw75, tw849⟩ (by decide) (by decide) rfl rfl (Nat.le_of_ble_eq_true rfl) dX11_row_29 ?_
        show Wx LM K s10 32 [(0, .ref (kad K 0)), (1, .int a1), (2, .int a2)] []
        refine x_iload_n C 2 dX11_row_32 rfl ?_
        cases h0
        exact x_iret C R dX11_row_33
      · replace h0 := ob_neg c7 h0
        refine x_aload_n C 0 dX11_row_20 rfl ?_
        refine x_iconst (v := 5) C dX11_row_21 rfl ?_
        obtain ⟨r11, s13, g12, h0⟩ := ob_bd h0
        refine x_callV (ar := 1) (q := (RX11, TX11, 22)) (rest := []) C (c_X11_finds C.2.2.2.2.2.2.1  g12) (iM 0 (by decide)) rfl rfl hy_X11_finds ⟨tw842, tw844, tw34, tw75, tw845⟩ (by decide) (by decide) rfl rfl (Nat.le_of_ble_eq_true rfl) dX11_row_22 ?_
        show Wx LM K s13 25 [(0, .ref (kad K 0)), (1, .int a1), (2, .int a2)] [.int r11]
        cases h0
        exact x_iret C R dX11_row_25
    · replace h0 := ob_neg c5 h0
      refine x_iconst (v := (-1)) C dX11_row_14 rfl ?_
      cases h0
      exact x_iret C R dX11_row_15
set_option maxHeartbeats 4000000 in
set_option maxRecDepth 100000 in
theorem c_X11_lay {l : Launch} {D : va_G} {ad : Nat → Nat} {cy : Nat → ClassId} (hJ : mJ LM ad) {σ τ : mS} {a1 : Int32} {a2 : Int32} {a3 : Int32} {r : Int32}  (h0 : X11_lay σ a1 a2 a3 = some (r, τ)) : MetG l LM D ad cy yX11_lay cX11_lay 5 (some .int) 2 [.ref (ad 0), .int a1, .int a2, .int a3] σ (some (.int r)) τ := by
  refine MetG.of hJ (by decide +kernel) [(0, .ref (ad 0)), (1, .int a1), (2, .int a2), (3, .int a3)] rfl (Nat.le_of_ble_eq_true rfl) ?_
  intro K e1 e2 e3 e4 e5 C R
  subst e1
  subst e2
  subst e3
  subst e4
  unfold X11_lay at h0
  refine x_aload_n C 0 dX11_lay_0 rfl ?_
  refine x_iload_n C 1 dX11_lay_1 rfl ?_
  refine x_callV (ar := 1) (q := (RX11, TX11, 22)) (rest := []) C (c_X11_isRow C.2.2.2.2.2.2.1  rfl) (iM 0 (by decide)) rfl rfl hy_X11_isRow ⟨tw834, tw836, tw33, tw75, tw837⟩ (by decide) (by decide) rfl rfl (Nat.le_of_ble_eq_true rfl) dX11_lay_2 ?_
  show Wx LM K σ 5 [(0, .ref (kad K 0)), (1, .int a1), (2, .int a2), (3, .int a3)] [.int (X11_isRow a1)]
  refine x_ifne C 10 dX11_lay_5 (by decide) (fun c3 => ?_) (fun c3 => ?_)
  · replace h0 := ob_neg c3 h0
    refine x_aload_n C 0 dX11_lay_10 rfl ?_
    refine x_getR (j := 0) (i := 7) (q := (RX11, TX11, 22)) C 1 (iM 0 (by decide)) rfl rfl inBX11 (by decide) tw763 rfl dX11_lay_11 ?_
    refine x_iload_n C 1 dX11_lay_14 rfl ?_
    obtain ⟨c4, h0⟩ := ob_if h0
    refine x_iald C (iM 1 (by decide)) rfl (vin_in c4) dX11_lay_15 ?_
    refine x_ifge C 25 dX11_lay_16 (by decide) (fun c6 => ?_) (fun c6 => ?_)
    · replace h0 := ob_pos c6 h0
      refine x_iload_n C 2 dX11_lay_25 rfl ?_
      refine x_i2l C dX11_lay_26 ?_
      refine x_lconst (v := 0) C dX11_lay_27 rfl ?_
      refine x_aload_n C 0 dX11_lay_28 rfl ?_
      refine x_getR (j := 0) (i := 7) (q := (RX11, TX11, 22)) C 1 (iM 0 (by decide)) rfl rfl inBX11 (by decide) tw763 rfl dX11_lay_29 ?_
      refine x_iload_n C 1 dX11_lay_32 rfl ?_
      obtain ⟨c7, h0⟩ := ob_if h0
      refine x_iald C (iM 1 (by decide)) rfl (vin_in c7) dX11_lay_33 ?_
      refine x_iconst (v := 1) C dX11_lay_34 rfl ?_
      refine x_isub C dX11_lay_35 ?_
      refine x_i2l C dX11_lay_36 ?_
      refine x_callS (ar := 3) (rest := []) C (c_X11_in C.2.2.2.2.2.2.1  rfl) hy_X11_in ⟨tw839, tw840, tw75, tw841⟩ (by decide) (by decide) rfl rfl (Nat.le_of_ble_eq_true rfl) dX11_lay_37 ?_
      show Wx LM K σ 40 [(0, .ref (kad K 0)), (1, .int a1), (2, .int a2), (3, .int a3)] [.int (X11_in ((a2).toInt64) (0) ((((σ.1 1 a1.toNatClampNeg) - 1)).toInt64))]
      refine x_ifne C 49 dX11_lay_40 (by decide) (fun c10 => ?_) (fun c10 => ?_)
      · replace h0 := ob_neg c10 h0
        refine x_aload_n C 0 dX11_lay_49 rfl ?_
        refine x_getR (j := 1) (i := 13) (q := (RX11, TX11, 22)) C 2 (iM 0 (by decide)) rfl rfl inBX11 (by decide) tw764 rfl dX11_lay_50 ?_
        refine x_bipush (v := 40) C dX11_lay_53 rfl ?_
        refine x_iload_n C 1 dX11_lay_55 rfl ?_
        refine x_imul C dX11_lay_56 ?_
        refine x_iload_n C 2 dX11_lay_57 rfl ?_
        refine x_iadd C dX11_lay_58 ?_
        obtain ⟨c11, h0⟩ := ob_if h0
        refine x_iald C (iM 2 (by decide)) rfl (vin_in c11) dX11_lay_59 ?_
        refine x_istore (lv' := [(4, .int (σ.1 2 (((40 : Int32) * a1) + a2).toNatClampNeg)), (0, .ref (kad K 0)), (1, .int a1), (2, .int a2), (3, .int a3)]) C dX11_lay_60 (by rw [e5]; decide) rfl ?_
        refine x_aload_n C 1 dX11_lay_62 rfl ?_
        refine x_getR (j := 1) (i := 13) (q := (RX11, TX11, 22)) C 2 (iM 0 (by decide)) rfl rfl inBX11 (by decide) tw764 rfl dX11_lay_63 ?_
        refine x_bipush (v := 40) C dX11_lay_66 rfl ?_
        refine x_iload_n C 2 dX11_lay_68 rfl ?_
        refine x_imul C dX11_lay_69 ?_
        refine x_iload_n C 3 dX11_lay_70 rfl ?_
        refine x_iadd C dX11_lay_71 ?_
        refine x_iload_n C 4 dX11_lay_72 rfl ?_
        obtain ⟨c12, h0⟩ := ob_if h0
        refine x_iast C (iM 2 (by decide)) rfl (vin_in c12) dX11_lay_73 ?_
        refine x_aload_n C 1 dX11_lay_74 rfl ?_
        refine x_iload C 0 dX11_lay_75 rfl ?_
        obtain ⟨r13, s15, g14, h0⟩ := ob_bd h0
        refine x_callV (ar := 1) (q := (RX11, TX11, 22)) (rest := []) C (c_X11_tells C.2.2.2.2.2.2.1  g14) (iM 0 (by decide)) rfl rfl hy_X11_tells ⟨tw854, tw856, tw36, tw75, tw857⟩ (by decide) (by decide) rfl rfl (Nat.le_of_ble_eq_true rfl) dX11_lay_77 ?_
        show Wx LM K s15 80 [(4, .int (σ.1 2 (((40 : Int32) * a1) + a2).toNatClampNeg)), (0, .ref (kad K 0)), (1, .int a1), (2, .int a2), (3, .int a3)] [.int r13]
        cases h0
        exact x_iret C R dX11_lay_80
      · replace h0 := ob_pos c10 h0
        refine x_aload_n C 0 dX11_lay_43 rfl ?_
        refine x_iconst (v := 2) C dX11_lay_44 rfl ?_
        obtain ⟨r16, s18, g17, h0⟩ := ob_bd h0
        refine x_callV (ar := 1) (q := (RX11, TX11, 22)) (rest := []) C (c_X11_finds C.2.2.2.2.2.2.1  g17) (iM 0 (by decide)) rfl rfl hy_X11_finds ⟨tw842, tw844, tw34, tw75, tw845⟩ (by decide) (by decide) rfl rfl (Nat.le_of_ble_eq_true rfl) dX11_lay_45 ?_
        show Wx LM K s18 48 [(0, .ref (kad K 0)), (1, .int a1), (2, .int a2), (3, .int a3)] [.int r16]
        cases h0
        exact x_iret C R dX11_lay_48
    · replace h0 := ob_neg c6 h0
      refine x_aload_n C 0 dX11_lay_19 rfl ?_
      refine x_iconst (v := 1) C dX11_lay_20 rfl ?_
      obtain ⟨r19, s21, g20, h0⟩ := ob_bd h0
      refine x_callV (ar := 1) (q := (RX11, TX11, 22)) (rest := []) C (c_X11_finds C.2.2.2.2.2.2.1  g20) (iM 0 (by decide)) rfl rfl hy_X11_finds ⟨tw842, tw844, tw34, tw75, tw845⟩ (by decide) (by decide) rfl rfl (Nat.le_of_ble_eq_true rfl) dX11_lay_21 ?_
      show Wx LM K s21 24 [(0, .ref (kad K 0)), (1, .int a1), (2, .int a2), (3, .int a3)] [.int r19]
      cases h0
      exact x_iret C R dX11_lay_24
  · replace h0 := ob_pos c3 h0
    refine x_iconst (v := (-1)) C dX11_lay_8 rfl ?_
    cases h0
    exact x_iret C R dX11_lay_9
