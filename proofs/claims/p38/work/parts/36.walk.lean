set_option maxHeartbeats 4000000 in
set_option maxRecDepth 100000 in
theorem c_X11_which {l : Launch} {D : va_G} {ad : Nat → Nat} {cy : Nat → ClassId} (hJ : mJ LM ad) {σ : mS} {a1 : Int32} {a2 : Int32} {r : Int32}  (h0 : X11_which σ a1 a2 = some r) : MetG l LM D ad cy yX11_which cX11_which 6 (some .int) 2 [.ref (ad 0), .int a1, .int a2] σ (some (.int r)) σ := by
  refine MetG.of hJ (by decide +kernel) [(0, .ref (ad 0)), (1, .int a1), (2, .int a2)] rfl (Nat.le_of_ble_eq_true rfl) ?_
  intro K e1 e2 e3 e4 e5 C R
  subst e1
  subst e2
  subst e3
  subst e4
  unfold X11_which at h0
  refine x_aload_n C 0 dX11_which_0 rfl ?_
  refine x_iload_n C 1 dX11_which_1 rfl ?_
  refine x_callV (ar := 1) (q := (RX11, TX11, 22)) (rest := []) C (c_X11_isPlayer C.2.2.2.2.2.2.1  rfl) (iM 0 (by decide)) rfl rfl hy_X11_isPlayer ⟨tw924, tw926, tw42, tw75, tw927⟩ (by decide) (by decide) rfl rfl (Nat.le_of_ble_eq_true rfl) dX11_which_2 ?_
  show Wx LM K σ 5 [(0, .ref (kad K 0)), (1, .int a1), (2, .int a2)] [.int (X11_isPlayer σ a1)]
  refine x_ifeq C 20 dX11_which_5 (by decide) (fun c3 => ?_) (fun c3 => ?_)
  · replace h0 := ob_pos c3 h0
    refine x_iconst (v := (-1)) C dX11_which_20 rfl ?_
    cases h0
    exact x_iret C R dX11_which_21
  · replace h0 := ob_neg c3 h0
    refine x_iload_n C 2 dX11_which_8 rfl ?_
    refine x_i2l C dX11_which_9 ?_
    refine x_lconst (v := 0) C dX11_which_10 rfl ?_
    refine x_ldc2 C tw1033 dX11_which_11 ?_
    refine x_callS (ar := 3) (rest := []) C (c_X11_in C.2.2.2.2.2.2.1  rfl) hy_X11_in ⟨tw839, tw840, tw75, tw841⟩ (by decide) (by decide) rfl rfl (Nat.le_of_ble_eq_true rfl) dX11_which_14 ?_
    show Wx LM K σ 17 [(0, .ref (kad K 0)), (1, .int a1), (2, .int a2)] [.int (X11_in ((a2).toInt64) (0) (63))]
    refine x_ifne C 22 dX11_which_17 (by decide) (fun c6 => ?_) (fun c6 => ?_)
    · replace h0 := ob_neg c6 h0
      refine x_iconst (v := 0) C dX11_which_22 rfl ?_
      refine x_istore_n (lv' := [(3, .int 0), (0, .ref (kad K 0)), (1, .int a1), (2, .int a2)]) C dX11_which_23 (by rw [e5]; decide) rfl ?_
      refine x_iconst (v := 1) C dX11_which_24 rfl ?_
      refine x_istore (lv' := [(4, .int 1), (3, .int 0), (0, .ref (kad K 0)), (1, .int a1), (2, .int a2)]) C dX11_which_25 (by rw [e5]; decide) rfl ?_
      obtain ⟨e25, g26, h0⟩ := ob_bind h0
      have J1 : ∀ (y9 : Int32), y9 = e25 → Wx LM K σ 110 [(3, .int y9)] [] := by
        intro y9 e9
        subst e9
        replace h0 := un1_l h0
        refine x_iload_n C 0 dX11_which_110 rfl ?_
        cases h0
        exact x_iret C R dX11_which_111
      refine lp_G (G := fun q : Int32 × Int32 => Wx LM K σ 27 [(4, .int q.2), (3, .int q.1), (0, .ref (kad K 0)), (1, .int a1), (2, .int a2)] []) (fun q x h1 ihL1 ihR1 => ?_) big _ g26
      obtain ⟨x7, x8⟩ := q
      replace h1 : X11_which_b27 σ a1 a2 x7 x8 = some x := h1
      unfold X11_which_b27 at h1
      show Wx LM K σ 27 [(4, .int x8), (3, .int x7), (0, .ref (kad K 0)), (1, .int a1), (2, .int a2)] []
      refine x_iload C 0 dX11_which_27 rfl ?_
      refine x_bipush (v := 13) C dX11_which_29 rfl ?_
      refine x_icmpge C 110 dX11_which_31 (by decide) (fun c11 => ?_) (fun c11 => ?_)
      · replace h1 := ob_pos c11 h1
        refine x_lv (lv' := [(3, .int x7)]) [1] rfl ?_
        exact J1 _ (ihR1 _ (Option.some.inj h1).symm)
      · replace h1 := ob_neg c11 h1
        refine x_aload_n C 2 dX11_which_34 rfl ?_
        refine x_getR (j := 11) (i := 38) (q := (RX11, TX11, 22)) C 10 (iM 0 (by decide)) rfl rfl inBX11 (by decide) tw774 rfl dX11_which_35 ?_
        refine x_iload_n C 3 dX11_which_38 rfl ?_
        obtain ⟨c12, h1⟩ := ob_if h1
        refine x_iald C (iM 10 (by decide)) rfl (vin_in c12) dX11_which_39 ?_
        refine x_aload_n C 2 dX11_which_40 rfl ?_
        refine x_iload_n C 3 dX11_which_41 rfl ?_
        refine x_aload_n C 2 dX11_which_42 rfl ?_
        refine x_getR (j := 6) (i := 26) (q := (RX11, TX11, 22)) C 6 (iM 0 (by decide)) rfl rfl inBX11 (by decide) tw769 rfl dX11_which_43 ?_
        refine x_iload_n C 3 dX11_which_46 rfl ?_
        obtain ⟨c13, h1⟩ := ob_if h1
        refine x_iald C (iM 6 (by decide)) rfl (vin_in c13) dX11_which_47 ?_
        refine x_iload C 0 dX11_which_48 rfl ?_
        refine x_aload_n C 2 dX11_which_50 rfl ?_
        refine x_getR (j := 11) (i := 38) (q := (RX11, TX11, 22)) C 10 (iM 0 (by decide)) rfl rfl inBX11 (by decide) tw774 rfl dX11_which_51 ?_
        refine x_bipush (v := 7) C dX11_which_54 rfl ?_
        obtain ⟨c14, h1⟩ := ob_if h1
        refine x_iald C (iM 10 (by decide)) rfl (vin_in c14) dX11_which_56 ?_
        refine x_aload_n C 2 dX11_which_57 rfl ?_
        refine x_getR (j := 11) (i := 38) (q := (RX11, TX11, 22)) C 10 (iM 0 (by decide)) rfl rfl inBX11 (by decide) tw774 rfl dX11_which_58 ?_
        refine x_bipush (v := 6) C dX11_which_61 rfl ?_
        obtain ⟨c15, h1⟩ := ob_if h1
        refine x_iald C (iM 10 (by decide)) rfl (vin_in c15) dX11_which_63 ?_
        refine x_callS (ar := 4) (rest := [.int a1, .ref (kad K 0), .int (σ.1 10 a1.toNatClampNeg)]) C (c_X11_heard C.2.2.2.2.2.2.1  rfl) hy_X11_heard ⟨tw976, tw977, tw75, tw978⟩ (by decide) (by decide) rfl rfl (Nat.le_of_ble_eq_true rfl) dX11_which_64 ?_
        show Wx LM K σ 67 [(4, .int x8), (3, .int x7), (0, .ref (kad K 0)), (1, .int a1), (2, .int a2)] [.int (X11_heard (σ.1 6 a1.toNatClampNeg) x8 (σ.1 10 (7 : Int32).toNatClampNeg) (σ.1 10 (6 : Int32).toNatClampNeg)), .int a1, .ref (kad K 0), .int (σ.1 10 a1.toNatClampNeg)]
        obtain ⟨r17, g18, h1⟩ := ob_bind h1
        refine x_callV (ar := 2) (q := (RX11, TX11, 22)) (rest := [.int (σ.1 10 a1.toNatClampNeg)]) C (c_X11_marksBy C.2.2.2.2.2.2.1  g18) (iM 0 (by decide)) rfl rfl hy_X11_marksBy ⟨tw953, tw955, tw44, tw75, tw956⟩ (by decide) (by decide) rfl rfl (Nat.le_of_ble_eq_true rfl) dX11_which_67 ?_
        show Wx LM K σ 70 [(4, .int x8), (3, .int x7), (0, .ref (kad K 0)), (1, .int a1), (2, .int a2)] [.int r17, .int (σ.1 10 a1.toNatClampNeg)]
        refine x_ior C dX11_which_70 ?_
        refine x_istore (lv' := [(5, .int ((σ.1 10 a1.toNatClampNeg) ||| r17)), (4, .int x8), (3, .int x7), (0, .ref (kad K 0)), (1, .int a1), (2, .int a2)]) C dX11_which_71 (by rw [e5]; decide) rfl ?_
        refine x_iload_n C 2 dX11_which_73 rfl ?_
        refine x_aload_n C 3 dX11_which_74 rfl ?_
        refine x_getR (j := 11) (i := 38) (q := (RX11, TX11, 22)) C 10 (iM 0 (by decide)) rfl rfl inBX11 (by decide) tw774 rfl dX11_which_75 ?_
        refine x_iconst (v := 5) C dX11_which_78 rfl ?_
        obtain ⟨c19, h1⟩ := ob_if h1
        refine x_iald C (iM 10 (by decide)) rfl (vin_in c19) dX11_which_79 ?_
        refine x_iload C 1 dX11_which_80 rfl ?_
        refine x_callS (ar := 2) (rest := [.int x7]) C (c_X11_has C.2.2.2.2.2.2.1  rfl) hy_X11_has ⟨tw957, tw958, tw75, tw959⟩ (by decide) (by decide) rfl rfl (Nat.le_of_ble_eq_true rfl) dX11_which_82 ?_
        show Wx LM K σ 85 [(5, .int ((σ.1 10 a1.toNatClampNeg) ||| r17)), (4, .int x8), (3, .int x7), (0, .ref (kad K 0)), (1, .int a1), (2, .int a2)] [.int (X11_has (σ.1 10 (5 : Int32).toNatClampNeg) x8), .int x7]
        refine x_ifeq C 101 dX11_which_85 (by decide) (fun c22 => ?_) (fun c22 => ?_)
        · replace h1 := ob_pos c22 h1
          refine x_iconst (v := 0) C dX11_which_101 rfl ?_
          refine x_ior C dX11_which_102 ?_
          refine x_istore_n (lv' := [(3, .int (x7 ||| 0)), (5, .int ((σ.1 10 a1.toNatClampNeg) ||| r17)), (4, .int x8), (0, .ref (kad K 0)), (1, .int a1), (2, .int a2)]) C dX11_which_103 (by rw [e5]; decide) rfl ?_
          refine x_iinc (v := (x8 + 1)) (lv' := [(4, .int (x8 + 1)), (3, .int (x7 ||| 0)), (5, .int ((σ.1 10 a1.toNatClampNeg) ||| r17)), (0, .ref (kad K 0)), (1, .int a1), (2, .int a2)]) C 2 dX11_which_104 rfl rfl (by rw [e5]; decide) rfl ?_
          refine x_goto C 27 dX11_which_107 (by decide) ?_
          refine x_lv (lv' := [(4, .int (x8 + 1)), (3, .int (x7 ||| 0)), (0, .ref (kad K 0)), (1, .int a1), (2, .int a2)]) [0, 1, 3, 4, 5] rfl ?_
          exact ihL1 _ (Option.some.inj h1).symm
        · replace h1 := ob_neg c22 h1
          refine x_iload C 0 dX11_which_88 rfl ?_
          refine x_iload_n C 5 dX11_which_90 rfl ?_
          refine x_icmpne C 101 dX11_which_91 (by decide) (fun c24 => ?_) (fun c24 => ?_)
          · replace h1 := ob_neg c24 h1
            refine x_iconst (v := 0) C dX11_which_101 rfl ?_
            refine x_ior C dX11_which_102 ?_
            refine x_istore_n (lv' := [(3, .int (x7 ||| 0)), (5, .int ((σ.1 10 a1.toNatClampNeg) ||| r17)), (4, .int x8), (0, .ref (kad K 0)), (1, .int a1), (2, .int a2)]) C dX11_which_103 (by rw [e5]; decide) rfl ?_
            refine x_iinc (v := (x8 + 1)) (lv' := [(4, .int (x8 + 1)), (3, .int (x7 ||| 0)), (5, .int ((σ.1 10 a1.toNatClampNeg) ||| r17)), (0, .ref (kad K 0)), (1, .int a1), (2, .int a2)]) C 2 dX11_which_104 rfl rfl (by rw [e5]; decide) rfl ?_
            refine x_goto C 27 dX11_which_107 (by decide) ?_
            refine x_lv (lv' := [(4, .int (x8 + 1)), (3, .int (x7 ||| 0)), (0, .ref (kad K 0)), (1, .int a1), (2, .int a2)]) [0, 1, 3, 4, 5] rfl ?_
            exact ihL1 _ (Option.some.inj h1).symm
          · replace h1 := ob_pos c24 h1
            refine x_iconst (v := 1) C dX11_which_94 rfl ?_
            refine x_iload C 1 dX11_which_95 rfl ?_
            refine x_ishl C dX11_which_97 ?_
            refine x_goto C 102 dX11_which_98 (by decide) ?_
            refine x_ior C dX11_which_102 ?_
            refine x_istore_n (lv' := [(3, .int (x7 ||| ((1 : Int32) <<< (x8 &&& 31)))), (5, .int ((σ.1 10 a1.toNatClampNeg) ||| r17)), (4, .int x8), (0, .ref (kad K 0)), (1, .int a1), (2, .int a2)]) C dX11_which_103 (by rw [e5]; decide) rfl ?_
            refine x_iinc (v := (x8 + 1)) (lv' := [(4, .int (x8 + 1)), (3, .int (x7 ||| ((1 : Int32) <<< (x8 &&& 31)))), (5, .int ((σ.1 10 a1.toNatClampNeg) ||| r17)), (0, .ref (kad K 0)), (1, .int a1), (2, .int a2)]) C 2 dX11_which_104 rfl rfl (by rw [e5]; decide) rfl ?_
            refine x_goto C 27 dX11_which_107 (by decide) ?_
            refine x_lv (lv' := [(4, .int (x8 + 1)), (3, .int (x7 ||| ((1 : Int32) <<< (x8 &&& 31)))), (0, .ref (kad K 0)), (1, .int a1), (2, .int a2)]) [0, 1, 3, 4, 5] rfl ?_
            exact ihL1 _ (Option.some.inj h1).symm
    · replace h0 := ob_pos c6 h0
      refine x_iconst (v := (-1)) C dX11_which_20 rfl ?_
      cases h0
      exact x_iret C R dX11_which_21
set_option maxHeartbeats 4000000 in
set_option maxRecDepth 100000 in
theorem c_X11_wrongOf {l : Launch} {D : va_G} {ad : Nat → Nat} {cy : Nat → ClassId} (hJ : mJ LM ad) {σ : mS} {a1 : Int32} {r : Int32}  (h0 : X11_wrongOf σ a1 = some r) : MetG l LM D ad cy yX11_wrongOf cX11_wrongOf 3 (some .int) 1 [.ref (ad 0), .int a1] σ (some (.int r)) σ := by
  refine MetG.of hJ (by decide +kernel) [(0, .ref (ad 0)), (1, .int a1)] rfl (Nat.le_of_ble_eq_true rfl) ?_
  intro K e1 e2 e3 e4 e5 C R
  subst e1
  subst e2
  subst e3
  subst e4
  unfold X11_wrongOf at h0
  refine x_aload_n C 0 dX11_wrongOf_0 rfl ?_
  refine x_getR (j := 0) (i := 7) (q := (RX11, TX11, 22)) C 1 (iM 0 (by decide)) rfl rfl inBX11 (by decide) tw763 rfl dX11_wrongOf_1 ?_
  refine x_iload_n C 1 dX11_wrongOf_4 rfl ?_
  obtain ⟨c1, h0⟩ := ob_if h0
  refine x_iald C (iM 1 (by decide)) rfl (vin_in c1) dX11_wrongOf_5 ?_
  refine x_ifge C 11 dX11_wrongOf_6 (by decide) (fun c3 => ?_) (fun c3 => ?_)
  · replace h0 := ob_pos c3 h0
    refine x_aload_n C 0 dX11_wrongOf_11 rfl ?_
    refine x_getR (j := 0) (i := 7) (q := (RX11, TX11, 22)) C 1 (iM 0 (by decide)) rfl rfl inBX11 (by decide) tw763 rfl dX11_wrongOf_12 ?_
    refine x_iload_n C 1 dX11_wrongOf_15 rfl ?_
    obtain ⟨c4, h0⟩ := ob_if h0
    refine x_iald C (iM 1 (by decide)) rfl (vin_in c4) dX11_wrongOf_16 ?_
    refine x_bipush (v := 16) C dX11_wrongOf_17 rfl ?_
    refine x_icmpgt C 34 dX11_wrongOf_19 (by decide) (fun c6 => ?_) (fun c6 => ?_)
    · replace h0 := ob_pos c6 h0
      refine x_iconst (v := 5) C dX11_wrongOf_34 rfl ?_
      cases h0
      exact x_iret C R dX11_wrongOf_35
    · replace h0 := ob_neg c6 h0
      refine x_aload_n C 0 dX11_wrongOf_22 rfl ?_
      refine x_getR (j := 0) (i := 7) (q := (RX11, TX11, 22)) C 1 (iM 0 (by decide)) rfl rfl inBX11 (by decide) tw763 rfl dX11_wrongOf_23 ?_
      refine x_iload_n C 1 dX11_wrongOf_26 rfl ?_
      obtain ⟨c7, h0⟩ := ob_if h0
      refine x_iald C (iM 1 (by decide)) rfl (vin_in c7) dX11_wrongOf_27 ?_
      refine x_iconst (v := 2) C dX11_wrongOf_28 rfl ?_
      refine x_irem C dX11_wrongOf_29 (by decide) ?_
      refine x_iconst (v := 1) C dX11_wrongOf_30 rfl ?_
      refine x_icmpne C 36 dX11_wrongOf_31 (by decide) (fun c9 => ?_) (fun c9 => ?_)
      · replace h0 := ob_neg c9 h0
        refine x_iconst (v := 0) C dX11_wrongOf_36 rfl ?_
        refine x_istore_n (lv' := [(2, .int 0), (0, .ref (kad K 0)), (1, .int a1)]) C dX11_wrongOf_37 (by rw [e5]; decide) rfl ?_
        obtain ⟨e32, g33, h0⟩ := ob_bind h0
        have J1 : ∀ (u9 : Unit), .inl u9 = e32 → Wx LM K σ 100 [] [] := by
          intro u9 e9
          subst e9
          replace h0 := sm1_l h0
          refine x_iconst (v := 0) C dX11_wrongOf_100 rfl ?_
          cases h0
          exact x_iret C R dX11_wrongOf_101
        refine lp_G (G := fun q : Int32 => Wx LM K σ 38 [(2, .int q), (0, .ref (kad K 0)), (1, .int a1)] []) (fun q x h1 ihL1 ihR1 => ?_) big _ g33
        obtain ⟨x10, rfl⟩ : ∃ z, z = q := ⟨_, rfl⟩
        replace h1 : X11_wrongOf_b38 σ a1 x10 = some x := h1
        unfold X11_wrongOf_b38 at h1
        show Wx LM K σ 38 [(2, .int x10), (0, .ref (kad K 0)), (1, .int a1)] []
        refine x_iload_n C 0 dX11_wrongOf_38 rfl ?_
        refine x_aload_n C 1 dX11_wrongOf_39 rfl ?_
        refine x_getR (j := 0) (i := 7) (q := (RX11, TX11, 22)) C 1 (iM 0 (by decide)) rfl rfl inBX11 (by decide) tw763 rfl dX11_wrongOf_40 ?_
        refine x_iload_n C 2 dX11_wrongOf_43 rfl ?_
        obtain ⟨c11, h1⟩ := ob_if h1
        refine x_iald C (iM 1 (by decide)) rfl (vin_in c11) dX11_wrongOf_44 ?_
        refine x_icmpge C 100 dX11_wrongOf_45 (by decide) (fun c13 => ?_) (fun c13 => ?_)
        · replace h1 := ob_pos c13 h1
          refine x_lv (lv' := []) [] rfl ?_
          exact J1 _ (ihR1 _ (Option.some.inj h1).symm)
        · replace h1 := ob_neg c13 h1
          refine x_aload_n C 1 dX11_wrongOf_48 rfl ?_
          refine x_getR (j := 1) (i := 13) (q := (RX11, TX11, 22)) C 2 (iM 0 (by decide)) rfl rfl inBX11 (by decide) tw764 rfl dX11_wrongOf_49 ?_
          refine x_bipush (v := 40) C dX11_wrongOf_52 rfl ?_
          refine x_iload_n C 2 dX11_wrongOf_54 rfl ?_
          refine x_imul C dX11_wrongOf_55 ?_
          refine x_iload_n C 0 dX11_wrongOf_56 rfl ?_
          refine x_iadd C dX11_wrongOf_57 ?_
          obtain ⟨c14, h1⟩ := ob_if h1
          refine x_iald C (iM 2 (by decide)) rfl (vin_in c14) dX11_wrongOf_58 ?_
          refine x_i2l C dX11_wrongOf_59 ?_
          refine x_iload_n C 0 dX11_wrongOf_60 rfl ?_
          refine x_iconst (v := 2) C dX11_wrongOf_61 rfl ?_
          refine x_irem C dX11_wrongOf_62 (by decide) ?_
          obtain ⟨e29, g28, h1⟩ := ob_un h1
          have J30 : ∀ (v17 : Int64), v17 = e29 → Wx LM K σ 71 [(2, .int x10), (0, .ref (kad K 0)), (1, .int a1)] [.long v17, .long (((σ.1 2 (((40 : Int32) * a1) + x10).toNatClampNeg)).toInt64)] := by
            intro v17 e9
            subst e9
            replace h1 := un1_l h1
            refine x_iload_n C 0 dX11_wrongOf_71 rfl ?_
            refine x_iconst (v := 2) C dX11_wrongOf_72 rfl ?_
            refine x_irem C dX11_wrongOf_73 (by decide) ?_
            obtain ⟨e25, g24, h1⟩ := ob_un h1
            have J26 : ∀ (v20 : Int64), v20 = e25 → Wx LM K σ 86 [(2, .int x10), (0, .ref (kad K 0)), (1, .int a1)] [.long v20, .long v17, .long (((σ.1 2 (((40 : Int32) * a1) + x10).toNatClampNeg)).toInt64)] := by
              intro v20 e9
              subst e9
              replace h1 := un1_l h1
              refine x_callS (ar := 3) (rest := []) C (c_X11_in C.2.2.2.2.2.2.1  rfl) hy_X11_in ⟨tw839, tw840, tw75, tw841⟩ (by decide) (by decide) rfl rfl (Nat.le_of_ble_eq_true rfl) dX11_wrongOf_86 ?_
              show Wx LM K σ 89 [(2, .int x10), (0, .ref (kad K 0)), (1, .int a1)] [.int (X11_in (((σ.1 2 (((40 : Int32) * a1) + x10).toNatClampNeg)).toInt64) v17 v20)]
              refine x_ifne C 94 dX11_wrongOf_89 (by decide) (fun c23 => ?_) (fun c23 => ?_)
              · replace h1 := ob_neg c23 h1
                refine x_iinc (v := (x10 + 1)) (lv' := [(2, .int (x10 + 1)), (0, .ref (kad K 0)), (1, .int a1)]) C 0 dX11_wrongOf_94 rfl rfl (by rw [e5]; decide) rfl ?_
                refine x_goto C 38 dX11_wrongOf_97 (by decide) ?_
                refine x_lv (lv' := [(2, .int (x10 + 1)), (0, .ref (kad K 0)), (1, .int a1)]) [0, 1, 2] rfl ?_
                exact ihL1 _ (Option.some.inj h1).symm
              · replace h1 := ob_pos c23 h1
                refine x_iconst (v := 3) C dX11_wrongOf_92 rfl ?_
                have e19 := ihR1 _ (Option.some.inj h1).symm
                subst e19
                replace h0 := sm1_r h0
                cases h0
                exact x_iret C R dX11_wrongOf_93
            refine x_ifne C 83 dX11_wrongOf_74 (by decide) (fun c27 => ?_) (fun c27 => ?_)
            · replace g24 := ob_neg c27 g24
              refine x_ldc2 C tw1042 dX11_wrongOf_83 ?_
              refine x_lv (lv' := [(2, .int x10), (0, .ref (kad K 0)), (1, .int a1)]) [0, 1, 2] rfl ?_
              exact J26 _ g24
            · replace g24 := ob_pos c27 g24
              refine x_ldc2 C tw911 dX11_wrongOf_77 ?_
              refine x_goto C 86 dX11_wrongOf_80 (by decide) ?_
              refine x_lv (lv' := [(2, .int x10), (0, .ref (kad K 0)), (1, .int a1)]) [0, 1, 2] rfl ?_
              exact J26 _ g24
          refine x_ifne C 70 dX11_wrongOf_63 (by decide) (fun c31 => ?_) (fun c31 => ?_)
          · replace g28 := ob_neg c31 g28
            refine x_lconst (v := 0) C dX11_wrongOf_70 rfl ?_
            refine x_lv (lv' := [(2, .int x10), (0, .ref (kad K 0)), (1, .int a1)]) [0, 1, 2] rfl ?_
            exact J30 _ g28
          · replace g28 := ob_pos c31 g28
            refine x_lconst (v := 1) C dX11_wrongOf_66 rfl ?_
            refine x_goto C 71 dX11_wrongOf_67 (by decide) ?_
            refine x_lv (lv' := [(2, .int x10), (0, .ref (kad K 0)), (1, .int a1)]) [0, 1, 2] rfl ?_
            exact J30 _ g28
      · replace h0 := ob_pos c9 h0
        refine x_iconst (v := 5) C dX11_wrongOf_34 rfl ?_
        cases h0
        exact x_iret C R dX11_wrongOf_35
  · replace h0 := ob_neg c3 h0
    refine x_iconst (v := 1) C dX11_wrongOf_9 rfl ?_
    cases h0
    exact x_iret C R dX11_wrongOf_10
set_option maxHeartbeats 4000000 in
set_option maxRecDepth 100000 in
theorem c_X11_kindsBy {l : Launch} {D : va_G} {ad : Nat → Nat} {cy : Nat → ClassId} (hJ : mJ LM ad) {σ τ : mS} {a1 : Int32} {a2 : Int32} {r : Int32}  (h0 : X11_kindsBy σ a1 a2 = some (r, τ)) : MetG l LM D ad cy yX11_kindsBy cX11_kindsBy 9 (some .int) 3 [.ref (ad 0), .int a1, .int a2] σ (some (.int r)) τ := by
  refine MetG.of hJ (by decide +kernel) [(0, .ref (ad 0)), (1, .int a1), (2, .int a2)] rfl (Nat.le_of_ble_eq_true rfl) ?_
  intro K e1 e2 e3 e4 e5 C R
  subst e1
  subst e2
  subst e3
  subst e4
  unfold X11_kindsBy at h0
  refine x_aload_n C 0 dX11_kindsBy_0 rfl ?_
  refine x_getR (j := 6) (i := 26) (q := (RX11, TX11, 22)) C 6 (iM 0 (by decide)) rfl rfl inBX11 (by decide) tw769 rfl dX11_kindsBy_1 ?_
  refine x_iload_n C 1 dX11_kindsBy_4 rfl ?_
  obtain ⟨c1, h0⟩ := ob_if h0
  refine x_iald C (iM 6 (by decide)) rfl (vin_in c1) dX11_kindsBy_5 ?_
  refine x_istore_n (lv' := [(3, .int (σ.1 6 a1.toNatClampNeg)), (0, .ref (kad K 0)), (1, .int a1), (2, .int a2)]) C dX11_kindsBy_6 (by rw [e5]; decide) rfl ?_
  refine x_iconst (v := 0) C dX11_kindsBy_7 rfl ?_
  refine x_istore (lv' := [(4, .int 0), (3, .int (σ.1 6 a1.toNatClampNeg)), (0, .ref (kad K 0)), (1, .int a1), (2, .int a2)]) C dX11_kindsBy_8 (by rw [e5]; decide) rfl ?_
  refine x_iconst (v := 0) C dX11_kindsBy_10 rfl ?_
  refine x_istore (lv' := [(5, .int 0), (4, .int 0), (3, .int (σ.1 6 a1.toNatClampNeg)), (0, .ref (kad K 0)), (1, .int a1), (2, .int a2)]) C dX11_kindsBy_11 (by rw [e5]; decide) rfl ?_
  obtain ⟨e42, g43, h0⟩ := ob_bind h0
  have J1 : ∀ (s5 : mS) (y6 : Int32), (s5, y6) = e42 → Wx LM K s5 171 [(4, .int y6), (3, .int (σ.1 6 a1.toNatClampNeg)), (0, .ref (kad K 0)), (1, .int a1)] [] := by
    intro s5 y6 e9
    subst e9
    replace h0 := un2_l h0
    refine x_aload_n C 2 dX11_kindsBy_171 rfl ?_
    refine x_getR (j := 6) (i := 26) (q := (RX11, TX11, 22)) C 6 (iM 0 (by decide)) rfl rfl inBX11 (by decide) tw769 rfl dX11_kindsBy_172 ?_
    refine x_iload_n C 3 dX11_kindsBy_175 rfl ?_
    refine x_iload_n C 1 dX11_kindsBy_176 rfl ?_
    obtain ⟨c7, h0⟩ := ob_if h0
    refine x_iast C (iM 6 (by decide)) rfl (vin_in c7) dX11_kindsBy_177 ?_
    refine x_iload C 0 dX11_kindsBy_178 rfl ?_
    cases h0
    exact x_iret C R dX11_kindsBy_180
  refine lp_G (G := fun q : mS × Int32 × Int32 => Wx LM K q.1 13 [(5, .int q.2.2), (4, .int q.2.1), (3, .int (σ.1 6 a1.toNatClampNeg)), (0, .ref (kad K 0)), (1, .int a1), (2, .int a2)] []) (fun q x h1 ihL1 ihR1 => ?_) big _ g43
  obtain ⟨s2, x3, x4⟩ := q
  replace h1 : X11_kindsBy_b13 a1 a2 s2 x3 x4 = some x := h1
  unfold X11_kindsBy_b13 at h1
  show Wx LM K s2 13 [(5, .int x4), (4, .int x3), (3, .int (σ.1 6 a1.toNatClampNeg)), (0, .ref (kad K 0)), (1, .int a1), (2, .int a2)] []
  refine x_iload C 0 dX11_kindsBy_13 rfl ?_
  refine x_bipush (v := 6) C dX11_kindsBy_15 rfl ?_
  refine x_icmpge C 171 dX11_kindsBy_17 (by decide) (fun c9 => ?_) (fun c9 => ?_)
  · replace h1 := ob_pos c9 h1
    refine x_lv (lv' := [(4, .int x3), (3, .int (σ.1 6 a1.toNatClampNeg)), (0, .ref (kad K 0)), (1, .int a1)]) [1, 2, 3, 4] rfl ?_
    exact J1 _ _ (ihR1 _ (Option.some.inj h1).symm)
  · replace h1 := ob_neg c9 h1
    refine x_aload_n C 3 dX11_kindsBy_20 rfl ?_
    refine x_getR (j := 6) (i := 26) (q := (RX11, TX11, 22)) C 6 (iM 0 (by decide)) rfl rfl inBX11 (by decide) tw769 rfl dX11_kindsBy_21 ?_
    refine x_iload_n C 4 dX11_kindsBy_24 rfl ?_
    refine x_iload C 0 dX11_kindsBy_25 rfl ?_
    obtain ⟨c10, h1⟩ := ob_if h1
    refine x_iast C (iM 6 (by decide)) rfl (vin_in c10) dX11_kindsBy_27 ?_
    refine x_aload_n C 3 dX11_kindsBy_28 rfl ?_
    refine x_iconst (v := 0) C dX11_kindsBy_29 rfl ?_
    refine x_sipush (v := 1312) C dX11_kindsBy_30 rfl ?_
    refine x_bipush (v := 8) C dX11_kindsBy_33 rfl ?_
    obtain ⟨r11, s13, g12, h1⟩ := ob_bd h1
    refine x_callV (ar := 3) (q := (RX11, TX11, 22)) (rest := []) C (c_X11_copies C.2.2.2.2.2.2.1  g12) (iM 0 (by decide)) rfl rfl hy_X11_copies ⟨tw968, tw970, tw46, tw75, tw971⟩ (by decide) (by decide) rfl rfl (Nat.le_of_ble_eq_true rfl) dX11_kindsBy_35 ?_
    show Wx LM K s13 38 [(5, .int x4), (4, .int x3), (3, .int (σ.1 6 a1.toNatClampNeg)), (0, .ref (kad K 0)), (1, .int a1), (2, .int a2)] []
    refine x_iconst (v := 1) C dX11_kindsBy_38 rfl ?_
    refine x_istore (lv' := [(6, .int 1), (5, .int x4), (4, .int x3), (3, .int (σ.1 6 a1.toNatClampNeg)), (0, .ref (kad K 0)), (1, .int a1), (2, .int a2)]) C dX11_kindsBy_39 (by rw [e5]; decide) rfl ?_
    refine x_iconst (v := 0) C dX11_kindsBy_41 rfl ?_
    refine x_istore (lv' := [(7, .int 0), (6, .int 1), (5, .int x4), (4, .int x3), (3, .int (σ.1 6 a1.toNatClampNeg)), (0, .ref (kad K 0)), (1, .int a1), (2, .int a2)]) C dX11_kindsBy_42 (by rw [e5]; decide) rfl ?_
    obtain ⟨e40, g41, h1⟩ := ob_bind h1
    have J2 : ∀ (s17 : mS) (y18 : Int32), (s17, y18) = e40 → Wx LM K s17 147 [(6, .int y18), (5, .int x4), (4, .int x3), (3, .int (σ.1 6 a1.toNatClampNeg)), (0, .ref (kad K 0)), (1, .int a1), (2, .int a2)] [] := by
      intro s17 y18 e9
      subst e9
      replace h1 := un2_l h1
      refine x_iload C 2 dX11_kindsBy_147 rfl ?_
      refine x_iload C 0 dX11_kindsBy_149 rfl ?_
      refine x_ifeq C 161 dX11_kindsBy_151 (by decide) (fun c20 => ?_) (fun c20 => ?_)
      · replace h1 := ob_pos c20 h1
        refine x_iconst (v := 0) C dX11_kindsBy_161 rfl ?_
        refine x_ior C dX11_kindsBy_162 ?_
        refine x_istore (lv' := [(4, .int (x3 ||| 0)), (6, .int y18), (5, .int x4), (3, .int (σ.1 6 a1.toNatClampNeg)), (0, .ref (kad K 0)), (1, .int a1), (2, .int a2)]) C dX11_kindsBy_163 (by rw [e5]; decide) rfl ?_
        refine x_iinc (v := (x4 + 1)) (lv' := [(5, .int (x4 + 1)), (4, .int (x3 ||| 0)), (6, .int y18), (3, .int (σ.1 6 a1.toNatClampNeg)), (0, .ref (kad K 0)), (1, .int a1), (2, .int a2)]) C 2 dX11_kindsBy_165 rfl rfl (by rw [e5]; decide) rfl ?_
        refine x_goto C 13 dX11_kindsBy_168 (by decide) ?_
        refine x_lv (lv' := [(5, .int (x4 + 1)), (4, .int (x3 ||| 0)), (3, .int (σ.1 6 a1.toNatClampNeg)), (0, .ref (kad K 0)), (1, .int a1), (2, .int a2)]) [0, 1, 3, 4, 5, 6] rfl ?_
        exact ihL1 _ (Option.some.inj h1).symm
      · replace h1 := ob_neg c20 h1
        refine x_iconst (v := 1) C dX11_kindsBy_154 rfl ?_
        refine x_iload C 1 dX11_kindsBy_155 rfl ?_
        refine x_ishl C dX11_kindsBy_157 ?_
        refine x_goto C 162 dX11_kindsBy_158 (by decide) ?_
        refine x_ior C dX11_kindsBy_162 ?_
        refine x_istore (lv' := [(4, .int (x3 ||| ((1 : Int32) <<< (x4 &&& 31)))), (6, .int y18), (5, .int x4), (3, .int (σ.1 6 a1.toNatClampNeg)), (0, .ref (kad K 0)), (1, .int a1), (2, .int a2)]) C dX11_kindsBy_163 (by rw [e5]; decide) rfl ?_
        refine x_iinc (v := (x4 + 1)) (lv' := [(5, .int (x4 + 1)), (4, .int (x3 ||| ((1 : Int32) <<< (x4 &&& 31)))), (6, .int y18), (3, .int (σ.1 6 a1.toNatClampNeg)), (0, .ref (kad K 0)), (1, .int a1), (2, .int a2)]) C 2 dX11_kindsBy_165 rfl rfl (by rw [e5]; decide) rfl ?_
        refine x_goto C 13 dX11_kindsBy_168 (by decide) ?_
        refine x_lv (lv' := [(5, .int (x4 + 1)), (4, .int (x3 ||| ((1 : Int32) <<< (x4 &&& 31)))), (3, .int (σ.1 6 a1.toNatClampNeg)), (0, .ref (kad K 0)), (1, .int a1), (2, .int a2)]) [0, 1, 3, 4, 5, 6] rfl ?_
        exact ihL1 _ (Option.some.inj h1).symm
    refine lp_G (G := fun q : mS × Int32 × Int32 => Wx LM K q.1 44 [(7, .int q.2.2), (6, .int q.2.1), (5, .int x4), (4, .int x3), (3, .int (σ.1 6 a1.toNatClampNeg)), (0, .ref (kad K 0)), (1, .int a1), (2, .int a2)] []) (fun q x h2 ihL2 ihR2 => ?_) big _ g41
    obtain ⟨s14, x15, x16⟩ := q
    replace h2 : X11_kindsBy_b44 a1 a2 s14 x15 x16 = some x := h2
    unfold X11_kindsBy_b44 at h2
    show Wx LM K s14 44 [(7, .int x16), (6, .int x15), (5, .int x4), (4, .int x3), (3, .int (σ.1 6 a1.toNatClampNeg)), (0, .ref (kad K 0)), (1, .int a1), (2, .int a2)] []
    refine x_iload C 0 dX11_kindsBy_44 rfl ?_
    refine x_aload_n C 5 dX11_kindsBy_46 rfl ?_
    refine x_getR (j := 0) (i := 7) (q := (RX11, TX11, 22)) C 1 (iM 0 (by decide)) rfl rfl inBX11 (by decide) tw763 rfl dX11_kindsBy_47 ?_
    refine x_iload_n C 7 dX11_kindsBy_50 rfl ?_
    obtain ⟨c21, h2⟩ := ob_if h2
    refine x_iald C (iM 1 (by decide)) rfl (vin_in c21) dX11_kindsBy_51 ?_
    refine x_icmpge C 147 dX11_kindsBy_52 (by decide) (fun c23 => ?_) (fun c23 => ?_)
    · replace h2 := ob_pos c23 h2
      refine x_lv (lv' := [(6, .int x15), (5, .int x4), (4, .int x3), (3, .int (σ.1 6 a1.toNatClampNeg)), (0, .ref (kad K 0)), (1, .int a1), (2, .int a2)]) [1, 2, 3, 4, 5, 6, 7] rfl ?_
      exact J2 _ _ (ihR2 _ (Option.some.inj h2).symm)
    · replace h2 := ob_neg c23 h2
      refine x_iload C 1 dX11_kindsBy_55 rfl ?_
      refine x_ifeq C 147 dX11_kindsBy_57 (by decide) (fun c25 => ?_) (fun c25 => ?_)
      · replace h2 := ob_pos c25 h2
        refine x_lv (lv' := [(6, .int x15), (5, .int x4), (4, .int x3), (3, .int (σ.1 6 a1.toNatClampNeg)), (0, .ref (kad K 0)), (1, .int a1), (2, .int a2)]) [1, 2, 3, 4, 5, 6, 7] rfl ?_
        exact J2 _ _ (ihR2 _ (Option.some.inj h2).symm)
      · replace h2 := ob_neg c25 h2
        refine x_aload_n C 5 dX11_kindsBy_60 rfl ?_
        refine x_getR (j := 1) (i := 13) (q := (RX11, TX11, 22)) C 2 (iM 0 (by decide)) rfl rfl inBX11 (by decide) tw764 rfl dX11_kindsBy_61 ?_
        refine x_bipush (v := 40) C dX11_kindsBy_64 rfl ?_
        refine x_iload_n C 7 dX11_kindsBy_66 rfl ?_
        refine x_imul C dX11_kindsBy_67 ?_
        refine x_iload C 0 dX11_kindsBy_68 rfl ?_
        refine x_iadd C dX11_kindsBy_70 ?_
        obtain ⟨c26, h2⟩ := ob_if h2
        refine x_iald C (iM 2 (by decide)) rfl (vin_in c26) dX11_kindsBy_71 ?_
        refine x_istore (lv' := [(8, .int (s14.1 2 (((40 : Int32) * a2) + x16).toNatClampNeg)), (7, .int x16), (6, .int x15), (5, .int x4), (4, .int x3), (3, .int (σ.1 6 a1.toNatClampNeg)), (0, .ref (kad K 0)), (1, .int a1), (2, .int a2)]) C dX11_kindsBy_72 (by rw [e5]; decide) rfl ?_
        refine x_aload_n C 6 dX11_kindsBy_74 rfl ?_
        refine x_getR (j := 11) (i := 38) (q := (RX11, TX11, 22)) C 10 (iM 0 (by decide)) rfl rfl inBX11 (by decide) tw774 rfl dX11_kindsBy_75 ?_
        refine x_sipush (v := 1317) C dX11_kindsBy_78 rfl ?_
        obtain ⟨c27, h2⟩ := ob_if h2
        refine x_iald C (iM 10 (by decide)) rfl (vin_in c27) dX11_kindsBy_81 ?_
        refine x_iload C 0 dX11_kindsBy_82 rfl ?_
        refine x_callS (ar := 2) (rest := []) C (c_X11_has C.2.2.2.2.2.2.1  rfl) hy_X11_has ⟨tw957, tw958, tw75, tw959⟩ (by decide) (by decide) rfl rfl (Nat.le_of_ble_eq_true rfl) dX11_kindsBy_84 ?_
        show Wx LM K s14 87 [(8, .int (s14.1 2 (((40 : Int32) * a2) + x16).toNatClampNeg)), (7, .int x16), (6, .int x15), (5, .int x4), (4, .int x3), (3, .int (σ.1 6 a1.toNatClampNeg)), (0, .ref (kad K 0)), (1, .int a1), (2, .int a2)] [.int (X11_has (s14.1 10 (1317 : Int32).toNatClampNeg) (s14.1 2 (((40 : Int32) * a2) + x16).toNatClampNeg))]
        refine x_istore (lv' := [(6, .int (X11_has (s14.1 10 (1317 : Int32).toNatClampNeg) (s14.1 2 (((40 : Int32) * a2) + x16).toNatClampNeg))), (8, .int (s14.1 2 (((40 : Int32) * a2) + x16).toNatClampNeg)), (7, .int x16), (5, .int x4), (4, .int x3), (3, .int (σ.1 6 a1.toNatClampNeg)), (0, .ref (kad K 0)), (1, .int a1), (2, .int a2)]) C dX11_kindsBy_87 (by rw [e5]; decide) rfl ?_
        refine x_iload C 0 dX11_kindsBy_89 rfl ?_
        refine x_ifeq C 141 dX11_kindsBy_91 (by decide) (fun c30 => ?_) (fun c30 => ?_)
        · replace h2 := ob_pos c30 h2
          refine x_iinc (v := (x16 + 2)) (lv' := [(7, .int (x16 + 2)), (6, .int (X11_has (s14.1 10 (1317 : Int32).toNatClampNeg) (s14.1 2 (((40 : Int32) * a2) + x16).toNatClampNeg))), (8, .int (s14.1 2 (((40 : Int32) * a2) + x16).toNatClampNeg)), (5, .int x4), (4, .int x3), (3, .int (σ.1 6 a1.toNatClampNeg)), (0, .ref (kad K 0)), (1, .int a1), (2, .int a2)]) C 2 dX11_kindsBy_141 rfl rfl (by rw [e5]; decide) rfl ?_
          refine x_goto C 44 dX11_kindsBy_144 (by decide) ?_
          refine x_lv (lv' := [(7, .int (x16 + 2)), (6, .int (X11_has (s14.1 10 (1317 : Int32).toNatClampNeg) (s14.1 2 (((40 : Int32) * a2) + x16).toNatClampNeg))), (5, .int x4), (4, .int x3), (3, .int (σ.1 6 a1.toNatClampNeg)), (0, .ref (kad K 0)), (1, .int a1), (2, .int a2)]) [0, 1, 3, 4, 5, 6, 7, 8] rfl ?_
          exact ihL2 _ (Option.some.inj h2).symm
        · replace h2 := ob_neg c30 h2
          refine x_aload_n C 6 dX11_kindsBy_94 rfl ?_
          refine x_sipush (v := 1312) C dX11_kindsBy_95 rfl ?_
          refine x_iload C 1 dX11_kindsBy_98 rfl ?_
          obtain ⟨r31, s33, g32, h2⟩ := ob_bd h2
          refine x_callV (ar := 2) (q := (RX11, TX11, 22)) (rest := []) C (c_X11_calls C.2.2.2.2.2.2.1  g32) (iM 0 (by decide)) rfl rfl hy_X11_calls ⟨tw972, tw974, tw47, tw75, tw975⟩ (by decide) (by decide) rfl rfl (Nat.le_of_ble_eq_true rfl) dX11_kindsBy_100 ?_
          show Wx LM K s33 103 [(6, .int (X11_has (s14.1 10 (1317 : Int32).toNatClampNeg) (s14.1 2 (((40 : Int32) * a2) + x16).toNatClampNeg))), (8, .int (s14.1 2 (((40 : Int32) * a2) + x16).toNatClampNeg)), (7, .int x16), (5, .int x4), (4, .int x3), (3, .int (σ.1 6 a1.toNatClampNeg)), (0, .ref (kad K 0)), (1, .int a1), (2, .int a2)] [.int r31]
          refine x_pop C dX11_kindsBy_103 rfl ?_
          refine x_aload_n C 6 dX11_kindsBy_104 rfl ?_
          refine x_getR (j := 11) (i := 38) (q := (RX11, TX11, 22)) C 10 (iM 0 (by decide)) rfl rfl inBX11 (by decide) tw774 rfl dX11_kindsBy_105 ?_
          refine x_sipush (v := 1312) C dX11_kindsBy_108 rfl ?_
          refine x_iload_n C 7 dX11_kindsBy_111 rfl ?_
          refine x_iadd C dX11_kindsBy_112 ?_
          obtain ⟨c34, h2⟩ := ob_if h2
          refine x_iald C (iM 10 (by decide)) rfl (vin_in c34) dX11_kindsBy_113 ?_
          obtain ⟨r35, g36, h2⟩ := ob_bind h2
          refine x_callS (ar := 1) (rest := []) C (c_X11_bits C.2.2.2.2.2.2.1  g36) hy_X11_bits ⟨tw936, tw937, tw75, tw938⟩ (by decide) (by decide) rfl rfl (Nat.le_of_ble_eq_true rfl) dX11_kindsBy_114 ?_
          show Wx LM K s33 117 [(6, .int (X11_has (s14.1 10 (1317 : Int32).toNatClampNeg) (s14.1 2 (((40 : Int32) * a2) + x16).toNatClampNeg))), (8, .int (s14.1 2 (((40 : Int32) * a2) + x16).toNatClampNeg)), (7, .int x16), (5, .int x4), (4, .int x3), (3, .int (σ.1 6 a1.toNatClampNeg)), (0, .ref (kad K 0)), (1, .int a1), (2, .int a2)] [.int r35]
          refine x_aload_n C 6 dX11_kindsBy_117 rfl ?_
          refine x_getR (j := 1) (i := 13) (q := (RX11, TX11, 22)) C 2 (iM 0 (by decide)) rfl rfl inBX11 (by decide) tw764 rfl dX11_kindsBy_118 ?_
          refine x_bipush (v := 40) C dX11_kindsBy_121 rfl ?_
          refine x_iload_n C 8 dX11_kindsBy_123 rfl ?_
          refine x_imul C dX11_kindsBy_124 ?_
          refine x_iload C 2 dX11_kindsBy_125 rfl ?_
          refine x_iadd C dX11_kindsBy_127 ?_
          refine x_iconst (v := 1) C dX11_kindsBy_128 rfl ?_
          refine x_iadd C dX11_kindsBy_129 ?_
          obtain ⟨c37, h2⟩ := ob_if h2
          refine x_iald C (iM 2 (by decide)) rfl (vin_in c37) dX11_kindsBy_130 ?_
          refine x_icmpne C 138 dX11_kindsBy_131 (by decide) (fun c39 => ?_) (fun c39 => ?_)
          · replace h2 := ob_neg c39 h2
            refine x_iconst (v := 0) C dX11_kindsBy_138 rfl ?_
            refine x_istore (lv' := [(6, .int 0), (8, .int (s14.1 2 (((40 : Int32) * a2) + x16).toNatClampNeg)), (7, .int x16), (5, .int x4), (4, .int x3), (3, .int (σ.1 6 a1.toNatClampNeg)), (0, .ref (kad K 0)), (1, .int a1), (2, .int a2)]) C dX11_kindsBy_139 (by rw [e5]; decide) rfl ?_
            refine x_iinc (v := (x16 + 2)) (lv' := [(7, .int (x16 + 2)), (6, .int 0), (8, .int (s14.1 2 (((40 : Int32) * a2) + x16).toNatClampNeg)), (5, .int x4), (4, .int x3), (3, .int (σ.1 6 a1.toNatClampNeg)), (0, .ref (kad K 0)), (1, .int a1), (2, .int a2)]) C 2 dX11_kindsBy_141 rfl rfl (by rw [e5]; decide) rfl ?_
            refine x_goto C 44 dX11_kindsBy_144 (by decide) ?_
            refine x_lv (lv' := [(7, .int (x16 + 2)), (6, .int 0), (5, .int x4), (4, .int x3), (3, .int (σ.1 6 a1.toNatClampNeg)), (0, .ref (kad K 0)), (1, .int a1), (2, .int a2)]) [0, 1, 3, 4, 5, 6, 7, 8] rfl ?_
            exact ihL2 _ (Option.some.inj h2).symm
          · replace h2 := ob_pos c39 h2
            refine x_iconst (v := 1) C dX11_kindsBy_134 rfl ?_
            refine x_goto C 139 dX11_kindsBy_135 (by decide) ?_
            refine x_istore (lv' := [(6, .int 1), (8, .int (s14.1 2 (((40 : Int32) * a2) + x16).toNatClampNeg)), (7, .int x16), (5, .int x4), (4, .int x3), (3, .int (σ.1 6 a1.toNatClampNeg)), (0, .ref (kad K 0)), (1, .int a1), (2, .int a2)]) C dX11_kindsBy_139 (by rw [e5]; decide) rfl ?_
            refine x_iinc (v := (x16 + 2)) (lv' := [(7, .int (x16 + 2)), (6, .int 1), (8, .int (s14.1 2 (((40 : Int32) * a2) + x16).toNatClampNeg)), (5, .int x4), (4, .int x3), (3, .int (σ.1 6 a1.toNatClampNeg)), (0, .ref (kad K 0)), (1, .int a1), (2, .int a2)]) C 2 dX11_kindsBy_141 rfl rfl (by rw [e5]; decide) rfl ?_
            refine x_goto C 44 dX11_kindsBy_144 (by decide) ?_
            refine x_lv (lv' := [(7, .int (x16 + 2)), (6, .int 1), (5, .int x4), (4, .int x3), (3, .int (σ.1 6 a1.toNatClampNeg)), (0, .ref (kad K 0)), (1, .int a1), (2, .int a2)]) [0, 1, 3, 4, 5, 6, 7, 8] rfl ?_
            exact ihL2 _ (Option.some.inj h2).symm
set_option maxHeartbeats 4000000 in
set_option maxRecDepth 100000 in
theorem c_X11_kinds {l : Launch} {D : va_G} {ad : Nat → Nat} {cy : Nat → ClassId} (hJ : mJ LM ad) {σ τ : mS} {a1 : Int32} {a2 : Int32} {r : Int32}  (h0 : X11_kinds σ a1 a2 = some (r, τ)) : MetG l LM D ad cy yX11_kinds cX11_kinds 4 (some .int) 4 [.ref (ad 0), .int a1, .int a2] σ (some (.int r)) τ := by
  refine MetG.of hJ (by decide +kernel) [(0, .ref (ad 0)), (1, .int a1), (2, .int a2)] rfl (Nat.le_of_ble_eq_true rfl) ?_
  intro K e1 e2 e3 e4 e5 C R
  subst e1
  subst e2
  subst e3
  subst e4
  unfold X11_kinds at h0
  refine x_aload_n C 0 dX11_kinds_0 rfl ?_
  refine x_iload_n C 1 dX11_kinds_1 rfl ?_
  refine x_callV (ar := 1) (q := (RX11, TX11, 22)) (rest := []) C (c_X11_isPlayer C.2.2.2.2.2.2.1  rfl) (iM 0 (by decide)) rfl rfl hy_X11_isPlayer ⟨tw924, tw926, tw42, tw75, tw927⟩ (by decide) (by decide) rfl rfl (Nat.le_of_ble_eq_true rfl) dX11_kinds_2 ?_
  show Wx LM K σ 5 [(0, .ref (kad K 0)), (1, .int a1), (2, .int a2)] [.int (X11_isPlayer σ a1)]
  refine x_ifeq C 16 dX11_kinds_5 (by decide) (fun c3 => ?_) (fun c3 => ?_)
  · replace h0 := ob_pos c3 h0
    refine x_iconst (v := (-1)) C dX11_kinds_16 rfl ?_
    cases h0
    exact x_iret C R dX11_kinds_17
  · replace h0 := ob_neg c3 h0
    refine x_aload_n C 0 dX11_kinds_8 rfl ?_
    refine x_iload_n C 2 dX11_kinds_9 rfl ?_
    refine x_callV (ar := 1) (q := (RX11, TX11, 22)) (rest := []) C (c_X11_isRow C.2.2.2.2.2.2.1  rfl) (iM 0 (by decide)) rfl rfl hy_X11_isRow ⟨tw834, tw836, tw33, tw75, tw837⟩ (by decide) (by decide) rfl rfl (Nat.le_of_ble_eq_true rfl) dX11_kinds_10 ?_
    show Wx LM K σ 13 [(0, .ref (kad K 0)), (1, .int a1), (2, .int a2)] [.int (X11_isRow a2)]
    refine x_ifne C 18 dX11_kinds_13 (by decide) (fun c6 => ?_) (fun c6 => ?_)
    · replace h0 := ob_neg c6 h0
      refine x_aload_n C 0 dX11_kinds_18 rfl ?_
      refine x_iload_n C 2 dX11_kinds_19 rfl ?_
      obtain ⟨r7, g8, h0⟩ := ob_bind h0
      refine x_callV (ar := 1) (q := (RX11, TX11, 22)) (rest := []) C (c_X11_wrongOf C.2.2.2.2.2.2.1  g8) (iM 0 (by decide)) rfl rfl hy_X11_wrongOf ⟨tw1038, tw1040, tw51, tw75, tw1041⟩ (by decide) (by decide) rfl rfl (Nat.le_of_ble_eq_true rfl) dX11_kinds_20 ?_
      show Wx LM K σ 23 [(0, .ref (kad K 0)), (1, .int a1), (2, .int a2)] [.int r7]
      refine x_istore_n (lv' := [(3, .int r7), (0, .ref (kad K 0)), (1, .int a1), (2, .int a2)]) C dX11_kinds_23 (by rw [e5]; decide) rfl ?_
      refine x_iload_n C 0 dX11_kinds_24 rfl ?_
      refine x_ifle C 36 dX11_kinds_25 (by decide) (fun c10 => ?_) (fun c10 => ?_)
      · replace h0 := ob_pos c10 h0
        refine x_aload_n C 1 dX11_kinds_36 rfl ?_
        refine x_iload_n C 2 dX11_kinds_37 rfl ?_
        refine x_iload_n C 3 dX11_kinds_38 rfl ?_
        obtain ⟨r11, s13, g12, h0⟩ := ob_bd h0
        refine x_callV (ar := 2) (q := (RX11, TX11, 22)) (rest := []) C (c_X11_kindsBy C.2.2.2.2.2.2.1  g12) (iM 0 (by decide)) rfl rfl hy_X11_kindsBy ⟨tw1043, tw1045, tw52, tw75, tw1046⟩ (by decide) (by decide) rfl rfl (Nat.le_of_ble_eq_true rfl) dX11_kinds_39 ?_
        show Wx LM K s13 42 [(3, .int r7), (0, .ref (kad K 0)), (1, .int a1), (2, .int a2)] [.int r11]
        cases h0
        exact x_iret C R dX11_kinds_42
      · replace h0 := ob_neg c10 h0
        refine x_aload_n C 1 dX11_kinds_28 rfl ?_
        refine x_iload_n C 0 dX11_kinds_29 rfl ?_
        obtain ⟨r14, s16, g15, h0⟩ := ob_bd h0
        refine x_callV (ar := 1) (q := (RX11, TX11, 22)) (rest := []) C (c_X11_finds C.2.2.2.2.2.2.1  g15) (iM 0 (by decide)) rfl rfl hy_X11_finds ⟨tw842, tw844, tw34, tw75, tw845⟩ (by decide) (by decide) rfl rfl (Nat.le_of_ble_eq_true rfl) dX11_kinds_30 ?_
        show Wx LM K s16 33 [(3, .int r7), (0, .ref (kad K 0)), (1, .int a1), (2, .int a2)] [.int r14]
        refine x_goto C 42 dX11_kinds_33 (by decide) ?_
        cases h0
        exact x_iret C R dX11_kinds_42
    · replace h0 := ob_pos c6 h0
      refine x_iconst (v := (-1)) C dX11_kinds_16 rfl ?_
      cases h0
      exact x_iret C R dX11_kinds_17
set_option maxHeartbeats 4000000 in
set_option maxRecDepth 100000 in
theorem c_X11_part {l : Launch} {D : va_G} {ad : Nat → Nat} {cy : Nat → ClassId} (hJ : mJ LM ad) {σ : mS} {a1 : Int32} {a2 : Int32} {a3 : Int32} {r : Int32}  (h0 : X11_part σ a1 a2 a3 = some r) : MetG l LM D ad cy yX11_part cX11_part 9 (some .int) 2 [.ref (ad 0), .int a1, .int a2, .int a3] σ (some (.int r)) σ := by
  refine MetG.of hJ (by decide +kernel) [(0, .ref (ad 0)), (1, .int a1), (2, .int a2), (3, .int a3)] rfl (Nat.le_of_ble_eq_true rfl) ?_
  intro K e1 e2 e3 e4 e5 C R
  subst e1
  subst e2
  subst e3
  subst e4
  unfold X11_part at h0
  refine x_iconst (v := 0) C dX11_part_0 rfl ?_
  refine x_istore (lv' := [(4, .int 0), (0, .ref (kad K 0)), (1, .int a1), (2, .int a2), (3, .int a3)]) C dX11_part_1 (by rw [e5]; decide) rfl ?_
  refine x_iconst (v := 0) C dX11_part_3 rfl ?_
  refine x_istore (lv' := [(5, .int 0), (4, .int 0), (0, .ref (kad K 0)), (1, .int a1), (2, .int a2), (3, .int a3)]) C dX11_part_4 (by rw [e5]; decide) rfl ?_
  obtain ⟨e27, g28, h0⟩ := ob_bind h0
  have J1 : ∀ (y3 : Int32), y3 = e27 → Wx LM K σ 110 [(4, .int y3)] [] := by
    intro y3 e9
    subst e9
    replace h0 := un1_l h0
    refine x_iload C 0 dX11_part_110 rfl ?_
    cases h0
    exact x_iret C R dX11_part_112
  refine lp_G (G := fun q : Int32 × Int32 => Wx LM K σ 6 [(5, .int q.2), (4, .int q.1), (0, .ref (kad K 0)), (1, .int a1), (2, .int a2), (3, .int a3)] []) (fun q x h1 ihL1 ihR1 => ?_) big _ g28
  obtain ⟨x1, x2⟩ := q
  replace h1 : X11_part_b6 σ a1 a2 a3 x1 x2 = some x := h1
  unfold X11_part_b6 at h1
  show Wx LM K σ 6 [(5, .int x2), (4, .int x1), (0, .ref (kad K 0)), (1, .int a1), (2, .int a2), (3, .int a3)] []
  refine x_iload C 0 dX11_part_6 rfl ?_
  refine x_bipush (v := 7) C dX11_part_8 rfl ?_
  refine x_icmpge C 110 dX11_part_10 (by decide) (fun c5 => ?_) (fun c5 => ?_)
  · replace h1 := ob_pos c5 h1
    refine x_lv (lv' := [(4, .int x1)]) [1] rfl ?_
    exact J1 _ (ihR1 _ (Option.some.inj h1).symm)
  · replace h1 := ob_neg c5 h1
    refine x_iconst (v := 0) C dX11_part_13 rfl ?_
    refine x_istore (lv' := [(6, .int 0), (5, .int x2), (4, .int x1), (0, .ref (kad K 0)), (1, .int a1), (2, .int a2), (3, .int a3)]) C dX11_part_14 (by rw [e5]; decide) rfl ?_
    refine x_iconst (v := 0) C dX11_part_16 rfl ?_
    refine x_istore (lv' := [(7, .int 0), (6, .int 0), (5, .int x2), (4, .int x1), (0, .ref (kad K 0)), (1, .int a1), (2, .int a2), (3, .int a3)]) C dX11_part_17 (by rw [e5]; decide) rfl ?_
    obtain ⟨e25, g26, h1⟩ := ob_bind h1
    have J2 : ∀ (y8 : Int32), y8 = e25 → Wx LM K σ 95 [(6, .int y8), (5, .int x2), (4, .int x1), (0, .ref (kad K 0)), (1, .int a1), (2, .int a2), (3, .int a3)] [] := by
      intro y8 e9
      subst e9
      replace h1 := un1_l h1
      refine x_iload C 2 dX11_part_95 rfl ?_
      refine x_iload C 0 dX11_part_97 rfl ?_
      refine x_callS (ar := 2) (rest := []) C (c_X11_larger C.2.2.2.2.2.2.1  rfl) hy_X11_larger ⟨tw939, tw940, tw75, tw941⟩ (by decide) (by decide) rfl rfl (Nat.le_of_ble_eq_true rfl) dX11_part_99 ?_
      show Wx LM K σ 102 [(6, .int y8), (5, .int x2), (4, .int x1), (0, .ref (kad K 0)), (1, .int a1), (2, .int a2), (3, .int a3)] [.int (X11_larger x1 y8)]
      refine x_istore (lv' := [(4, .int (X11_larger x1 y8)), (6, .int y8), (5, .int x2), (0, .ref (kad K 0)), (1, .int a1), (2, .int a2), (3, .int a3)]) C dX11_part_102 (by rw [e5]; decide) rfl ?_
      refine x_iinc (v := (x2 + 1)) (lv' := [(5, .int (x2 + 1)), (4, .int (X11_larger x1 y8)), (6, .int y8), (0, .ref (kad K 0)), (1, .int a1), (2, .int a2), (3, .int a3)]) C 2 dX11_part_104 rfl rfl (by rw [e5]; decide) rfl ?_
      refine x_goto C 6 dX11_part_107 (by decide) ?_
      refine x_lv (lv' := [(5, .int (x2 + 1)), (4, .int (X11_larger x1 y8)), (0, .ref (kad K 0)), (1, .int a1), (2, .int a2), (3, .int a3)]) [0, 1, 3, 4, 5, 6] rfl ?_
      exact ihL1 _ (Option.some.inj h1).symm
    refine lp_G (G := fun q : Int32 × Int32 => Wx LM K σ 19 [(7, .int q.2), (6, .int q.1), (5, .int x2), (4, .int x1), (0, .ref (kad K 0)), (1, .int a1), (2, .int a2), (3, .int a3)] []) (fun q x h2 ihL2 ihR2 => ?_) big _ g26
    obtain ⟨x6, x7⟩ := q
    replace h2 : X11_part_b19 σ a1 a2 a3 x2 x6 x7 = some x := h2
    unfold X11_part_b19 at h2
    show Wx LM K σ 19 [(7, .int x7), (6, .int x6), (5, .int x2), (4, .int x1), (0, .ref (kad K 0)), (1, .int a1), (2, .int a2), (3, .int a3)] []
    refine x_iload C 0 dX11_part_19 rfl ?_
    refine x_bipush (v := 6) C dX11_part_21 rfl ?_
    refine x_icmpge C 95 dX11_part_23 (by decide) (fun c11 => ?_) (fun c11 => ?_)
    · replace h2 := ob_pos c11 h2
      refine x_lv (lv' := [(6, .int x6), (5, .int x2), (4, .int x1), (0, .ref (kad K 0)), (1, .int a1), (2, .int a2), (3, .int a3)]) [1, 2, 3, 4, 5, 6, 7] rfl ?_
      exact J2 _ (ihR2 _ (Option.some.inj h2).symm)
    · replace h2 := ob_neg c11 h2
      refine x_aload_n C 4 dX11_part_26 rfl ?_
      refine x_getR (j := 11) (i := 38) (q := (RX11, TX11, 22)) C 10 (iM 0 (by decide)) rfl rfl inBX11 (by decide) tw774 rfl dX11_part_27 ?_
      refine x_iload_n C 5 dX11_part_30 rfl ?_
      obtain ⟨c12, h2⟩ := ob_if h2
      refine x_iald C (iM 10 (by decide)) rfl (vin_in c12) dX11_part_31 ?_
      refine x_aload_n C 4 dX11_part_32 rfl ?_
      refine x_iload_n C 5 dX11_part_33 rfl ?_
      refine x_iload C 0 dX11_part_34 rfl ?_
      refine x_iload_n C 7 dX11_part_36 rfl ?_
      refine x_aload_n C 4 dX11_part_37 rfl ?_
      refine x_getR (j := 11) (i := 38) (q := (RX11, TX11, 22)) C 10 (iM 0 (by decide)) rfl rfl inBX11 (by decide) tw774 rfl dX11_part_38 ?_
      refine x_bipush (v := 7) C dX11_part_41 rfl ?_
      obtain ⟨c13, h2⟩ := ob_if h2
      refine x_iald C (iM 10 (by decide)) rfl (vin_in c13) dX11_part_43 ?_
      refine x_aload_n C 4 dX11_part_44 rfl ?_
      refine x_getR (j := 11) (i := 38) (q := (RX11, TX11, 22)) C 10 (iM 0 (by decide)) rfl rfl inBX11 (by decide) tw774 rfl dX11_part_45 ?_
      refine x_bipush (v := 6) C dX11_part_48 rfl ?_
      obtain ⟨c14, h2⟩ := ob_if h2
      refine x_iald C (iM 10 (by decide)) rfl (vin_in c14) dX11_part_50 ?_
      refine x_callS (ar := 4) (rest := [.int a1, .ref (kad K 0), .int (σ.1 10 a1.toNatClampNeg)]) C (c_X11_heard C.2.2.2.2.2.2.1  rfl) hy_X11_heard ⟨tw976, tw977, tw75, tw978⟩ (by decide) (by decide) rfl rfl (Nat.le_of_ble_eq_true rfl) dX11_part_51 ?_
      show Wx LM K σ 54 [(7, .int x7), (6, .int x6), (5, .int x2), (4, .int x1), (0, .ref (kad K 0)), (1, .int a1), (2, .int a2), (3, .int a3)] [.int (X11_heard x7 a3 (σ.1 10 (7 : Int32).toNatClampNeg) (σ.1 10 (6 : Int32).toNatClampNeg)), .int a1, .ref (kad K 0), .int (σ.1 10 a1.toNatClampNeg)]
      obtain ⟨r16, g17, h2⟩ := ob_bind h2
      refine x_callV (ar := 2) (q := (RX11, TX11, 22)) (rest := [.int (σ.1 10 a1.toNatClampNeg)]) C (c_X11_marksBy C.2.2.2.2.2.2.1  g17) (iM 0 (by decide)) rfl rfl hy_X11_marksBy ⟨tw953, tw955, tw44, tw75, tw956⟩ (by decide) (by decide) rfl rfl (Nat.le_of_ble_eq_true rfl) dX11_part_54 ?_
      show Wx LM K σ 57 [(7, .int x7), (6, .int x6), (5, .int x2), (4, .int x1), (0, .ref (kad K 0)), (1, .int a1), (2, .int a2), (3, .int a3)] [.int r16, .int (σ.1 10 a1.toNatClampNeg)]
      refine x_ior C dX11_part_57 ?_
      refine x_istore (lv' := [(8, .int ((σ.1 10 a1.toNatClampNeg) ||| r16)), (7, .int x7), (6, .int x6), (5, .int x2), (4, .int x1), (0, .ref (kad K 0)), (1, .int a1), (2, .int a2), (3, .int a3)]) C dX11_part_58 (by rw [e5]; decide) rfl ?_
      refine x_iload C 2 dX11_part_60 rfl ?_
      refine x_iload_n C 7 dX11_part_62 rfl ?_
      refine x_iload C 1 dX11_part_63 rfl ?_
      refine x_callS (ar := 2) (rest := [.int x6]) C (c_X11_has C.2.2.2.2.2.2.1  rfl) hy_X11_has ⟨tw957, tw958, tw75, tw959⟩ (by decide) (by decide) rfl rfl (Nat.le_of_ble_eq_true rfl) dX11_part_65 ?_
      show Wx LM K σ 68 [(8, .int ((σ.1 10 a1.toNatClampNeg) ||| r16)), (7, .int x7), (6, .int x6), (5, .int x2), (4, .int x1), (0, .ref (kad K 0)), (1, .int a1), (2, .int a2), (3, .int a3)] [.int (X11_has a2 x7), .int x6]
      refine x_ifeq C 85 dX11_part_68 (by decide) (fun c20 => ?_) (fun c20 => ?_)
      · replace h2 := ob_pos c20 h2
        refine x_iconst (v := 0) C dX11_part_85 rfl ?_
        refine x_iadd C dX11_part_86 ?_
        refine x_istore (lv' := [(6, .int (x6 + 0)), (8, .int ((σ.1 10 a1.toNatClampNeg) ||| r16)), (7, .int x7), (5, .int x2), (4, .int x1), (0, .ref (kad K 0)), (1, .int a1), (2, .int a2), (3, .int a3)]) C dX11_part_87 (by rw [e5]; decide) rfl ?_
        refine x_iinc (v := (x7 + 1)) (lv' := [(7, .int (x7 + 1)), (6, .int (x6 + 0)), (8, .int ((σ.1 10 a1.toNatClampNeg) ||| r16)), (5, .int x2), (4, .int x1), (0, .ref (kad K 0)), (1, .int a1), (2, .int a2), (3, .int a3)]) C 2 dX11_part_89 rfl rfl (by rw [e5]; decide) rfl ?_
        refine x_goto C 19 dX11_part_92 (by decide) ?_
        refine x_lv (lv' := [(7, .int (x7 + 1)), (6, .int (x6 + 0)), (5, .int x2), (4, .int x1), (0, .ref (kad K 0)), (1, .int a1), (2, .int a2), (3, .int a3)]) [0, 1, 3, 4, 5, 6, 7, 8] rfl ?_
        exact ihL2 _ (Option.some.inj h2).symm
      · replace h2 := ob_neg c20 h2
        refine x_iload C 0 dX11_part_71 rfl ?_
        obtain ⟨r21, g22, h2⟩ := ob_bind h2
        refine x_callS (ar := 1) (rest := [.int x6]) C (c_X11_bits C.2.2.2.2.2.2.1  g22) hy_X11_bits ⟨tw936, tw937, tw75, tw938⟩ (by decide) (by decide) rfl rfl (Nat.le_of_ble_eq_true rfl) dX11_part_73 ?_
        show Wx LM K σ 76 [(8, .int ((σ.1 10 a1.toNatClampNeg) ||| r16)), (7, .int x7), (6, .int x6), (5, .int x2), (4, .int x1), (0, .ref (kad K 0)), (1, .int a1), (2, .int a2), (3, .int a3)] [.int r21, .int x6]
        refine x_iload C 3 dX11_part_76 rfl ?_
        refine x_icmpne C 85 dX11_part_78 (by decide) (fun c24 => ?_) (fun c24 => ?_)
        · replace h2 := ob_neg c24 h2
          refine x_iconst (v := 0) C dX11_part_85 rfl ?_
          refine x_iadd C dX11_part_86 ?_
          refine x_istore (lv' := [(6, .int (x6 + 0)), (8, .int ((σ.1 10 a1.toNatClampNeg) ||| r16)), (7, .int x7), (5, .int x2), (4, .int x1), (0, .ref (kad K 0)), (1, .int a1), (2, .int a2), (3, .int a3)]) C dX11_part_87 (by rw [e5]; decide) rfl ?_
          refine x_iinc (v := (x7 + 1)) (lv' := [(7, .int (x7 + 1)), (6, .int (x6 + 0)), (8, .int ((σ.1 10 a1.toNatClampNeg) ||| r16)), (5, .int x2), (4, .int x1), (0, .ref (kad K 0)), (1, .int a1), (2, .int a2), (3, .int a3)]) C 2 dX11_part_89 rfl rfl (by rw [e5]; decide) rfl ?_
          refine x_goto C 19 dX11_part_92 (by decide) ?_
          refine x_lv (lv' := [(7, .int (x7 + 1)), (6, .int (x6 + 0)), (5, .int x2), (4, .int x1), (0, .ref (kad K 0)), (1, .int a1), (2, .int a2), (3, .int a3)]) [0, 1, 3, 4, 5, 6, 7, 8] rfl ?_
          exact ihL2 _ (Option.some.inj h2).symm
        · replace h2 := ob_pos c24 h2
          refine x_iconst (v := 1) C dX11_part_81 rfl ?_
          refine x_goto C 86 dX11_part_82 (by decide) ?_
          refine x_iadd C dX11_part_86 ?_
          refine x_istore (lv' := [(6, .int (x6 + 1)), (8, .int ((σ.1 10 a1.toNatClampNeg) ||| r16)), (7, .int x7), (5, .int x2), (4, .int x1), (0, .ref (kad K 0)), (1, .int a1), (2, .int a2), (3, .int a3)]) C dX11_part_87 (by rw [e5]; decide) rfl ?_
          refine x_iinc (v := (x7 + 1)) (lv' := [(7, .int (x7 + 1)), (6, .int (x6 + 1)), (8, .int ((σ.1 10 a1.toNatClampNeg) ||| r16)), (5, .int x2), (4, .int x1), (0, .ref (kad K 0)), (1, .int a1), (2, .int a2), (3, .int a3)]) C 2 dX11_part_89 rfl rfl (by rw [e5]; decide) rfl ?_
          refine x_goto C 19 dX11_part_92 (by decide) ?_
          refine x_lv (lv' := [(7, .int (x7 + 1)), (6, .int (x6 + 1)), (5, .int x2), (4, .int x1), (0, .ref (kad K 0)), (1, .int a1), (2, .int a2), (3, .int a3)]) [0, 1, 3, 4, 5, 6, 7, 8] rfl ?_
          exact ihL2 _ (Option.some.inj h2).symm
set_option maxHeartbeats 4000000 in
set_option maxRecDepth 100000 in
theorem c_X11_next {l : Launch} {D : va_G} {ad : Nat → Nat} {cy : Nat → ClassId} (hJ : mJ LM ad) {σ τ : mS} {a1 : Int32} {a2 : Int32} {r : Int32}  (h0 : X11_next σ a1 a2 = some (r, τ)) : MetG l LM D ad cy yX11_next cX11_next 9 (some .int) 4 [.ref (ad 0), .int a1, .int a2] σ (some (.int r)) τ := by
  refine MetG.of hJ (by decide +kernel) [(0, .ref (ad 0)), (1, .int a1), (2, .int a2)] rfl (Nat.le_of_ble_eq_true rfl) ?_
  intro K e1 e2 e3 e4 e5 C R
  subst e1
  subst e2
  subst e3
  subst e4
  unfold X11_next at h0
  refine x_aload_n C 0 dX11_next_0 rfl ?_
  refine x_iload_n C 1 dX11_next_1 rfl ?_
  refine x_callV (ar := 1) (q := (RX11, TX11, 22)) (rest := []) C (c_X11_isPlayer C.2.2.2.2.2.2.1  rfl) (iM 0 (by decide)) rfl rfl hy_X11_isPlayer ⟨tw924, tw926, tw42, tw75, tw927⟩ (by decide) (by decide) rfl rfl (Nat.le_of_ble_eq_true rfl) dX11_next_2 ?_
  show Wx LM K σ 5 [(0, .ref (kad K 0)), (1, .int a1), (2, .int a2)] [.int (X11_isPlayer σ a1)]
  refine x_ifeq C 16 dX11_next_5 (by decide) (fun c3 => ?_) (fun c3 => ?_)
  · replace h0 := ob_pos c3 h0
    refine x_iconst (v := (-1)) C dX11_next_16 rfl ?_
    cases h0
    exact x_iret C R dX11_next_17
  · replace h0 := ob_neg c3 h0
    refine x_aload_n C 0 dX11_next_8 rfl ?_
    refine x_iload_n C 2 dX11_next_9 rfl ?_
    refine x_callV (ar := 1) (q := (RX11, TX11, 22)) (rest := []) C (c_X11_isRow C.2.2.2.2.2.2.1  rfl) (iM 0 (by decide)) rfl rfl hy_X11_isRow ⟨tw834, tw836, tw33, tw75, tw837⟩ (by decide) (by decide) rfl rfl (Nat.le_of_ble_eq_true rfl) dX11_next_10 ?_
    show Wx LM K σ 13 [(0, .ref (kad K 0)), (1, .int a1), (2, .int a2)] [.int (X11_isRow a2)]
    refine x_ifne C 18 dX11_next_13 (by decide) (fun c6 => ?_) (fun c6 => ?_)
    · replace h0 := ob_neg c6 h0
      refine x_aload_n C 0 dX11_next_18 rfl ?_
      refine x_iload_n C 2 dX11_next_19 rfl ?_
      obtain ⟨r7, g8, h0⟩ := ob_bind h0
      refine x_callV (ar := 1) (q := (RX11, TX11, 22)) (rest := []) C (c_X11_wrongOf C.2.2.2.2.2.2.1  g8) (iM 0 (by decide)) rfl rfl hy_X11_wrongOf ⟨tw1038, tw1040, tw51, tw75, tw1041⟩ (by decide) (by decide) rfl rfl (Nat.le_of_ble_eq_true rfl) dX11_next_20 ?_
      show Wx LM K σ 23 [(0, .ref (kad K 0)), (1, .int a1), (2, .int a2)] [.int r7]
      refine x_istore_n (lv' := [(3, .int r7), (0, .ref (kad K 0)), (1, .int a1), (2, .int a2)]) C dX11_next_23 (by rw [e5]; decide) rfl ?_
      refine x_iload_n C 0 dX11_next_24 rfl ?_
      refine x_ifle C 34 dX11_next_25 (by decide) (fun c10 => ?_) (fun c10 => ?_)
      · replace h0 := ob_pos c10 h0
        refine x_aload_n C 1 dX11_next_34 rfl ?_
        refine x_iload_n C 2 dX11_next_35 rfl ?_
        refine x_iload_n C 3 dX11_next_36 rfl ?_
        obtain ⟨r11, s13, g12, h0⟩ := ob_bd h0
        refine x_callV (ar := 2) (q := (RX11, TX11, 22)) (rest := []) C (c_X11_kindsBy C.2.2.2.2.2.2.1  g12) (iM 0 (by decide)) rfl rfl hy_X11_kindsBy ⟨tw1043, tw1045, tw52, tw75, tw1046⟩ (by decide) (by decide) rfl rfl (Nat.le_of_ble_eq_true rfl) dX11_next_37 ?_
        show Wx LM K s13 40 [(3, .int r7), (0, .ref (kad K 0)), (1, .int a1), (2, .int a2)] [.int r11]
        refine x_istore (lv' := [(4, .int r11), (3, .int r7), (0, .ref (kad K 0)), (1, .int a1), (2, .int a2)]) C dX11_next_40 (by rw [e5]; decide) rfl ?_
        refine x_bipush (v := (-9)) C dX11_next_42 rfl ?_
        refine x_istore (lv' := [(5, .int (-9)), (4, .int r11), (3, .int r7), (0, .ref (kad K 0)), (1, .int a1), (2, .int a2)]) C dX11_next_44 (by rw [e5]; decide) rfl ?_
        refine x_bipush (v := 9) C dX11_next_46 rfl ?_
        refine x_istore (lv' := [(6, .int 9), (5, .int (-9)), (4, .int r11), (3, .int r7), (0, .ref (kad K 0)), (1, .int a1), (2, .int a2)]) C dX11_next_48 (by rw [e5]; decide) rfl ?_
        refine x_iconst (v := 1) C dX11_next_50 rfl ?_
        refine x_istore (lv' := [(7, .int 1), (6, .int 9), (5, .int (-9)), (4, .int r11), (3, .int r7), (0, .ref (kad K 0)), (1, .int a1), (2, .int a2)]) C dX11_next_51 (by rw [e5]; decide) rfl ?_
        obtain ⟨e44, g45, h0⟩ := ob_bind h0
        have J1 : ∀ (y17 : Int32) (y18 : Int32), (y17, y18) = e44 → Wx LM K s13 126 [(6, .int y18), (5, .int y17), (0, .ref (kad K 0))] [] := by
          intro y17 y18 e9
          subst e9
          replace h0 := un2_l h0
          refine x_aload_n C 2 dX11_next_126 rfl ?_
          refine x_iload C 1 dX11_next_127 rfl ?_
          refine x_ifge C 139 dX11_next_129 (by decide) (fun c20 => ?_) (fun c20 => ?_)
          · replace h0 := ob_pos c20 h0
            refine x_iload C 0 dX11_next_139 rfl ?_
            refine x_putI (j := 14) (i := 64) (q := (RX11, TX11, 22)) C tyX11 tyX11_ok nmX11 (iM 0 (by decide)) rfl rfl inBX11 (by decide) tw777 rfl (by decide +kernel) rfl dX11_next_141 ?_
            refine x_iload C 1 dX11_next_144 rfl ?_
            cases h0
            exact x_iret C R dX11_next_146
          · replace h0 := ob_neg c20 h0
            refine x_aload_n C 2 dX11_next_132 rfl ?_
            refine x_getI (j := 14) (i := 64) (q := (RX11, TX11, 22)) C (iM 0 (by decide)) rfl rfl inBX11 (by decide) tw777 rfl dX11_next_133 ?_
            refine x_goto C 141 dX11_next_136 (by decide) ?_
            refine x_putI (j := 14) (i := 64) (q := (RX11, TX11, 22)) C tyX11 tyX11_ok nmX11 (iM 0 (by decide)) rfl rfl inBX11 (by decide) tw777 rfl (by decide +kernel) rfl dX11_next_141 ?_
            refine x_iload C 1 dX11_next_144 rfl ?_
            cases h0
            exact x_iret C R dX11_next_146
        refine x_lv (lv' := [(7, .int 1), (6, .int 9), (5, .int (-9)), (4, .int r11), (0, .ref (kad K 0)), (1, .int a1)]) [0, 1, 2, 3, 5, 6] rfl ?_
        refine lp_G (G := fun q : Int32 × Int32 × Int32 => Wx LM K s13 53 [(7, .int q.2.2), (6, .int q.2.1), (5, .int q.1), (4, .int r11), (0, .ref (kad K 0)), (1, .int a1)] []) (fun q x h1 ihL1 ihR1 => ?_) big _ g45
        obtain ⟨x14, x15, x16⟩ := q
        replace h1 : X11_next_b53 a1 r11 s13 x14 x15 x16 = some x := h1
        unfold X11_next_b53 at h1
        show Wx LM K s13 53 [(7, .int x16), (6, .int x15), (5, .int x14), (4, .int r11), (0, .ref (kad K 0)), (1, .int a1)] []
        refine x_iload C 0 dX11_next_53 rfl ?_
        refine x_bipush (v := 13) C dX11_next_55 rfl ?_
        refine x_icmpge C 126 dX11_next_57 (by decide) (fun c22 => ?_) (fun c22 => ?_)
        · replace h1 := ob_pos c22 h1
          refine x_lv (lv' := [(6, .int x15), (5, .int x14), (0, .ref (kad K 0))]) [1, 2, 4] rfl ?_
          exact J1 _ _ (ihR1 _ (Option.some.inj h1).symm)
        · replace h1 := ob_neg c22 h1
          refine x_iload C 3 dX11_next_60 rfl ?_
          refine x_ifeq C 126 dX11_next_62 (by decide) (fun c24 => ?_) (fun c24 => ?_)
          · replace h1 := ob_pos c24 h1
            refine x_lv (lv' := [(6, .int x15), (5, .int x14), (0, .ref (kad K 0))]) [1, 2, 4] rfl ?_
            exact J1 _ _ (ihR1 _ (Option.some.inj h1).symm)
          · replace h1 := ob_neg c24 h1
            refine x_aload_n C 4 dX11_next_65 rfl ?_
            refine x_getR (j := 11) (i := 38) (q := (RX11, TX11, 22)) C 10 (iM 0 (by decide)) rfl rfl inBX11 (by decide) tw774 rfl dX11_next_66 ?_
            refine x_iconst (v := 5) C dX11_next_69 rfl ?_
            obtain ⟨c25, h1⟩ := ob_if h1
            refine x_iald C (iM 10 (by decide)) rfl (vin_in c25) dX11_next_70 ?_
            refine x_iload C 0 dX11_next_71 rfl ?_
            refine x_callS (ar := 2) (rest := []) C (c_X11_has C.2.2.2.2.2.2.1  rfl) hy_X11_has ⟨tw957, tw958, tw75, tw959⟩ (by decide) (by decide) rfl rfl (Nat.le_of_ble_eq_true rfl) dX11_next_73 ?_
            show Wx LM K s13 76 [(7, .int x16), (6, .int x15), (5, .int x14), (4, .int r11), (0, .ref (kad K 0)), (1, .int a1)] [.int (X11_has (s13.1 10 (5 : Int32).toNatClampNeg) x16)]
            obtain ⟨e39, g38, h1⟩ := ob_bind h1
            have J40 : ∀ (v29 : Int32), v29 = e39 → Wx LM K s13 93 [(7, .int x16), (6, .int x15), (5, .int x14), (4, .int r11), (0, .ref (kad K 0)), (1, .int a1)] [.int v29] := by
              intro v29 e9
              subst e9
              replace h1 := un1_l h1
              refine x_istore (lv' := [(8, .int v29), (7, .int x16), (6, .int x15), (5, .int x14), (4, .int r11), (0, .ref (kad K 0)), (1, .int a1)]) C dX11_next_93 (by rw [e5]; decide) rfl ?_
              refine x_iload C 0 dX11_next_95 rfl ?_
              refine x_iload C 2 dX11_next_97 rfl ?_
              obtain ⟨e35, g34, h1⟩ := ob_un h1
              have J36 : ∀ (v32 : Int32), v32 = e35 → Wx LM K s13 109 [(8, .int v29), (7, .int x16), (6, .int x15), (4, .int r11), (0, .ref (kad K 0)), (1, .int a1)] [.int v32] := by
                intro v32 e9
                subst e9
                replace h1 := un1_l h1
                refine x_istore (lv' := [(5, .int v32), (8, .int v29), (7, .int x16), (6, .int x15), (4, .int r11), (0, .ref (kad K 0)), (1, .int a1)]) C dX11_next_109 (by rw [e5]; decide) rfl ?_
                refine x_iload C 1 dX11_next_111 rfl ?_
                refine x_iload C 3 dX11_next_113 rfl ?_
                refine x_callS (ar := 2) (rest := []) C (c_X11_lesser C.2.2.2.2.2.2.1  rfl) hy_X11_lesser ⟨tw908, tw909, tw75, tw910⟩ (by decide) (by decide) rfl rfl (Nat.le_of_ble_eq_true rfl) dX11_next_115 ?_
                show Wx LM K s13 118 [(5, .int v32), (8, .int v29), (7, .int x16), (6, .int x15), (4, .int r11), (0, .ref (kad K 0)), (1, .int a1)] [.int (X11_lesser v29 x15)]
                refine x_istore (lv' := [(6, .int (X11_lesser v29 x15)), (5, .int v32), (8, .int v29), (7, .int x16), (4, .int r11), (0, .ref (kad K 0)), (1, .int a1)]) C dX11_next_118 (by rw [e5]; decide) rfl ?_
                refine x_iinc (v := (x16 + 1)) (lv' := [(7, .int (x16 + 1)), (6, .int (X11_lesser v29 x15)), (5, .int v32), (8, .int v29), (4, .int r11), (0, .ref (kad K 0)), (1, .int a1)]) C 3 dX11_next_120 rfl rfl (by rw [e5]; decide) rfl ?_
                refine x_goto C 53 dX11_next_123 (by decide) ?_
                refine x_lv (lv' := [(7, .int (x16 + 1)), (6, .int (X11_lesser v29 x15)), (5, .int v32), (4, .int r11), (0, .ref (kad K 0)), (1, .int a1)]) [0, 1, 2, 4, 5, 6] rfl ?_
                exact ihL1 _ (Option.some.inj h1).symm
              refine x_icmpge C 107 dX11_next_99 (by decide) (fun c37 => ?_) (fun c37 => ?_)
              · replace g34 := ob_pos c37 g34
                refine x_iload C 3 dX11_next_107 rfl ?_
                refine x_lv (lv' := [(8, .int v29), (7, .int x16), (6, .int x15), (4, .int r11), (0, .ref (kad K 0)), (1, .int a1)]) [0, 1, 2, 4, 5, 6] rfl ?_
                exact J36 _ g34
              · replace g34 := ob_neg c37 g34
                refine x_iload C 1 dX11_next_102 rfl ?_
                refine x_goto C 109 dX11_next_104 (by decide) ?_
                refine x_lv (lv' := [(8, .int v29), (7, .int x16), (6, .int x15), (4, .int r11), (0, .ref (kad K 0)), (1, .int a1)]) [0, 1, 2, 4, 5, 6] rfl ?_
                exact J36 _ g34
            refine x_ifeq C 91 dX11_next_76 (by decide) (fun c41 => ?_) (fun c41 => ?_)
            · replace g38 := ob_pos c41 g38
              refine x_bipush (v := 9) C dX11_next_91 rfl ?_
              refine x_lv (lv' := [(7, .int x16), (6, .int x15), (5, .int x14), (4, .int r11), (0, .ref (kad K 0)), (1, .int a1)]) [0, 1, 2, 3, 4, 5] rfl ?_
              exact J40 _ (Option.some.inj g38)
            · replace g38 := ob_neg c41 g38
              refine x_aload_n C 4 dX11_next_79 rfl ?_
              refine x_iload_n C 5 dX11_next_80 rfl ?_
              refine x_iload C 3 dX11_next_81 rfl ?_
              refine x_iload C 0 dX11_next_83 rfl ?_
              obtain ⟨r42, g43, g38⟩ := ob_bind g38
              refine x_callV (ar := 3) (q := (RX11, TX11, 22)) (rest := []) C (c_X11_part C.2.2.2.2.2.2.1  g43) (iM 0 (by decide)) rfl rfl hy_X11_part ⟨tw1051, tw1053, tw53, tw75, tw1054⟩ (by decide) (by decide) rfl rfl (Nat.le_of_ble_eq_true rfl) dX11_next_85 ?_
              show Wx LM K s13 88 [(7, .int x16), (6, .int x15), (5, .int x14), (4, .int r11), (0, .ref (kad K 0)), (1, .int a1)] [.int r42]
              refine x_goto C 93 dX11_next_88 (by decide) ?_
              refine x_lv (lv' := [(7, .int x16), (6, .int x15), (5, .int x14), (4, .int r11), (0, .ref (kad K 0)), (1, .int a1)]) [0, 1, 2, 3, 4, 5] rfl ?_
              exact J40 _ (Option.some.inj g38)
      · replace h0 := ob_neg c10 h0
        refine x_aload_n C 1 dX11_next_28 rfl ?_
        refine x_iload_n C 0 dX11_next_29 rfl ?_
        obtain ⟨r46, s48, g47, h0⟩ := ob_bd h0
        refine x_callV (ar := 1) (q := (RX11, TX11, 22)) (rest := []) C (c_X11_finds C.2.2.2.2.2.2.1  g47) (iM 0 (by decide)) rfl rfl hy_X11_finds ⟨tw842, tw844, tw34, tw75, tw845⟩ (by decide) (by decide) rfl rfl (Nat.le_of_ble_eq_true rfl) dX11_next_30 ?_
        show Wx LM K s48 33 [(3, .int r7), (0, .ref (kad K 0)), (1, .int a1), (2, .int a2)] [.int r46]
        cases h0
        exact x_iret C R dX11_next_33
    · replace h0 := ob_pos c6 h0
      refine x_iconst (v := (-1)) C dX11_next_16 rfl ?_
      cases h0
      exact x_iret C R dX11_next_17
set_option maxHeartbeats 4000000 in
set_option maxRecDepth 100000 in
theorem c_X11_worthOf {l : Launch} {D : va_G} {ad : Nat → Nat} {cy : Nat → ClassId} (hJ : mJ LM ad) {σ : mS} {a1 : Int32} {a2 : Int32} {a3 : Int32} {r : Int32}  (h0 : X11_worthOf σ a1 a2 a3 = some r) : MetG l LM D ad cy yX11_worthOf cX11_worthOf 5 (some .int) 1 [.ref (ad 0), .int a1, .int a2, .int a3] σ (some (.int r)) σ := by
  refine MetG.of hJ (by decide +kernel) [(0, .ref (ad 0)), (1, .int a1), (2, .int a2), (3, .int a3)] rfl (Nat.le_of_ble_eq_true rfl) ?_
  intro K e1 e2 e3 e4 e5 C R
  subst e1
  subst e2
  subst e3
  subst e4
  unfold X11_worthOf at h0
  refine x_aload_n C 0 dX11_worthOf_0 rfl ?_
  refine x_getR (j := 11) (i := 38) (q := (RX11, TX11, 22)) C 10 (iM 0 (by decide)) rfl rfl inBX11 (by decide) tw774 rfl dX11_worthOf_1 ?_
  refine x_iload_n C 1 dX11_worthOf_4 rfl ?_
  refine x_iconst (v := 4) C dX11_worthOf_5 rfl ?_
  refine x_iadd C dX11_worthOf_6 ?_
  obtain ⟨c1, h0⟩ := ob_if h0
  refine x_iald C (iM 10 (by decide)) rfl (vin_in c1) dX11_worthOf_7 ?_
  refine x_istore (lv' := [(4, .int (σ.1 10 (a1 + 4).toNatClampNeg)), (0, .ref (kad K 0)), (1, .int a1), (2, .int a2), (3, .int a3)]) C dX11_worthOf_8 (by rw [e5]; decide) rfl ?_
  refine x_aload_n C 1 dX11_worthOf_10 rfl ?_
  refine x_getR (j := 11) (i := 38) (q := (RX11, TX11, 22)) C 10 (iM 0 (by decide)) rfl rfl inBX11 (by decide) tw774 rfl dX11_worthOf_11 ?_
  refine x_iload_n C 2 dX11_worthOf_14 rfl ?_
  refine x_iload_n C 3 dX11_worthOf_15 rfl ?_
  refine x_iadd C dX11_worthOf_16 ?_
  obtain ⟨c2, h0⟩ := ob_if h0
  refine x_iald C (iM 10 (by decide)) rfl (vin_in c2) dX11_worthOf_17 ?_
  obtain ⟨r3, g4, h0⟩ := ob_bind h0
  refine x_callS (ar := 1) (rest := []) C (c_X11_bits C.2.2.2.2.2.2.1  g4) hy_X11_bits ⟨tw936, tw937, tw75, tw938⟩ (by decide) (by decide) rfl rfl (Nat.le_of_ble_eq_true rfl) dX11_worthOf_18 ?_
  show Wx LM K σ 21 [(4, .int (σ.1 10 (a1 + 4).toNatClampNeg)), (0, .ref (kad K 0)), (1, .int a1), (2, .int a2), (3, .int a3)] [.int r3]
  refine x_aload_n C 1 dX11_worthOf_21 rfl ?_
  refine x_getR (j := 11) (i := 38) (q := (RX11, TX11, 22)) C 10 (iM 0 (by decide)) rfl rfl inBX11 (by decide) tw774 rfl dX11_worthOf_22 ?_
  refine x_iload_n C 2 dX11_worthOf_25 rfl ?_
  refine x_iload_n C 4 dX11_worthOf_26 rfl ?_
  refine x_iadd C dX11_worthOf_27 ?_
  obtain ⟨c5, h0⟩ := ob_if h0
  refine x_iald C (iM 10 (by decide)) rfl (vin_in c5) dX11_worthOf_28 ?_
  obtain ⟨r6, g7, h0⟩ := ob_bind h0
  refine x_callS (ar := 1) (rest := [.int r3]) C (c_X11_bits C.2.2.2.2.2.2.1  g7) hy_X11_bits ⟨tw936, tw937, tw75, tw938⟩ (by decide) (by decide) rfl rfl (Nat.le_of_ble_eq_true rfl) dX11_worthOf_29 ?_
  show Wx LM K σ 32 [(4, .int (σ.1 10 (a1 + 4).toNatClampNeg)), (0, .ref (kad K 0)), (1, .int a1), (2, .int a2), (3, .int a3)] [.int r6, .int r3]
  refine x_isub C dX11_worthOf_32 ?_
  refine x_iload C 0 dX11_worthOf_33 rfl ?_
  refine x_iload_n C 3 dX11_worthOf_35 rfl ?_
  refine x_callS (ar := 2) (rest := [.int (r3 - r6)]) C (c_X11_has C.2.2.2.2.2.2.1  rfl) hy_X11_has ⟨tw957, tw958, tw75, tw959⟩ (by decide) (by decide) rfl rfl (Nat.le_of_ble_eq_true rfl) dX11_worthOf_36 ?_
  show Wx LM K σ 39 [(4, .int (σ.1 10 (a1 + 4).toNatClampNeg)), (0, .ref (kad K 0)), (1, .int a1), (2, .int a2), (3, .int a3)] [.int (X11_has (σ.1 10 (a1 + 4).toNatClampNeg) a2), .int (r3 - r6)]
  obtain ⟨e16, g15, h0⟩ := ob_un h0
  have J17 : ∀ (v11 : Int32), v11 = e16 → Wx LM K σ 48 [(4, .int (σ.1 10 (a1 + 4).toNatClampNeg)), (3, .int a3)] [.int v11, .int (r3 - r6)] := by
    intro v11 e9
    subst e9
    replace h0 := un1_l h0
    refine x_iadd C dX11_worthOf_48 ?_
    refine x_iload C 0 dX11_worthOf_49 rfl ?_
    refine x_iload_n C 1 dX11_worthOf_51 rfl ?_
    refine x_callS (ar := 2) (rest := [.int ((r3 - r6) + v11)]) C (c_X11_has C.2.2.2.2.2.2.1  rfl) hy_X11_has ⟨tw957, tw958, tw75, tw959⟩ (by decide) (by decide) rfl rfl (Nat.le_of_ble_eq_true rfl) dX11_worthOf_52 ?_
    show Wx LM K σ 55 [(4, .int (σ.1 10 (a1 + 4).toNatClampNeg)), (3, .int a3)] [.int (X11_has (σ.1 10 (a1 + 4).toNatClampNeg) a3), .int ((r3 - r6) + v11)]
    refine x_ifeq C 63 dX11_worthOf_55 (by decide) (fun c14 => ?_) (fun c14 => ?_)
    · replace h0 := ob_pos c14 h0
      refine x_iconst (v := 0) C dX11_worthOf_63 rfl ?_
      refine x_isub C dX11_worthOf_64 ?_
      cases h0
      exact x_iret C R dX11_worthOf_65
    · replace h0 := ob_neg c14 h0
      refine x_bipush (v := 10) C dX11_worthOf_58 rfl ?_
      refine x_goto C 64 dX11_worthOf_60 (by decide) ?_
      refine x_isub C dX11_worthOf_64 ?_
      cases h0
      exact x_iret C R dX11_worthOf_65
  refine x_ifeq C 47 dX11_worthOf_39 (by decide) (fun c18 => ?_) (fun c18 => ?_)
  · replace g15 := ob_pos c18 g15
    refine x_iconst (v := 0) C dX11_worthOf_47 rfl ?_
    refine x_lv (lv' := [(4, .int (σ.1 10 (a1 + 4).toNatClampNeg)), (3, .int a3)]) [0, 4] rfl ?_
    exact J17 _ g15
  · replace g15 := ob_neg c18 g15
    refine x_bipush (v := 10) C dX11_worthOf_42 rfl ?_
    refine x_goto C 48 dX11_worthOf_44 (by decide) ?_
    refine x_lv (lv' := [(4, .int (σ.1 10 (a1 + 4).toNatClampNeg)), (3, .int a3)]) [0, 4] rfl ?_
    exact J17 _ g15
set_option maxHeartbeats 4000000 in
set_option maxRecDepth 100000 in
theorem c_X11_better {l : Launch} {D : va_G} {ad : Nat → Nat} {cy : Nat → ClassId} (hJ : mJ LM ad) {σ τ : mS} {a1 : Int32} {a2 : Int32} {r : Unit}  (h0 : X11_better σ a1 a2 = some (r, τ)) : MetG l LM D ad cy yX11_better cX11_better 3 none 1 [.ref (ad 0), .int a1, .int a2] σ (none) τ := by
  refine MetG.of hJ (by decide +kernel) [(0, .ref (ad 0)), (1, .int a1), (2, .int a2)] rfl (Nat.le_of_ble_eq_true rfl) ?_
  intro K e1 e2 e3 e4 e5 C R
  subst e1
  subst e2
  subst e3
  subst e4
  unfold X11_better at h0
  refine x_aload_n C 0 dX11_better_0 rfl ?_
  refine x_getR (j := 21) (i := 57) (q := (RX11, TX11, 22)) C 15 (iM 0 (by decide)) rfl rfl inBX11 (by decide) tw784 rfl dX11_better_1 ?_
  refine x_iload_n C 1 dX11_better_4 rfl ?_
  refine x_iload_n C 1 dX11_better_5 rfl ?_
  refine x_iconst (v := 2) C dX11_better_6 rfl ?_
  refine x_irem C dX11_better_7 (by decide) ?_
  refine x_ifne C 24 dX11_better_8 (by decide) (fun c2 => ?_) (fun c2 => ?_)
  · replace h0 := ob_neg c2 h0
    refine x_aload_n C 0 dX11_better_24 rfl ?_
    refine x_getR (j := 21) (i := 57) (q := (RX11, TX11, 22)) C 15 (iM 0 (by decide)) rfl rfl inBX11 (by decide) tw784 rfl dX11_better_25 ?_
    refine x_iload_n C 1 dX11_better_28 rfl ?_
    obtain ⟨c3, h0⟩ := ob_if h0
    refine x_iald C (iM 15 (by decide)) rfl (vin_in c3) dX11_better_29 ?_
    refine x_iload_n C 2 dX11_better_30 rfl ?_
    refine x_callS (ar := 2) (rest := [.int a1, .ref (kad K 15)]) C (c_X11_lesser C.2.2.2.2.2.2.1  rfl) hy_X11_lesser ⟨tw908, tw909, tw75, tw910⟩ (by decide) (by decide) rfl rfl (Nat.le_of_ble_eq_true rfl) dX11_better_31 ?_
    show Wx LM K σ 34 [(0, .ref (kad K 0)), (1, .int a1), (2, .int a2)] [.int (X11_lesser (σ.1 15 a1.toNatClampNeg) a2), .int a1, .ref (kad K 15)]
    obtain ⟨c5, h0⟩ := ob_if h0
    refine x_iast C (iM 15 (by decide)) rfl (vin_in c5) dX11_better_34 ?_
    cases h0
    exact x_vret C R dX11_better_35
  · replace h0 := ob_pos c2 h0
    refine x_aload_n C 0 dX11_better_11 rfl ?_
    refine x_getR (j := 21) (i := 57) (q := (RX11, TX11, 22)) C 15 (iM 0 (by decide)) rfl rfl inBX11 (by decide) tw784 rfl dX11_better_12 ?_
    refine x_iload_n C 1 dX11_better_15 rfl ?_
    obtain ⟨c6, h0⟩ := ob_if h0
    refine x_iald C (iM 15 (by decide)) rfl (vin_in c6) dX11_better_16 ?_
    refine x_iload_n C 2 dX11_better_17 rfl ?_
    refine x_callS (ar := 2) (rest := [.int a1, .ref (kad K 15)]) C (c_X11_larger C.2.2.2.2.2.2.1  rfl) hy_X11_larger ⟨tw939, tw940, tw75, tw941⟩ (by decide) (by decide) rfl rfl (Nat.le_of_ble_eq_true rfl) dX11_better_18 ?_
    show Wx LM K σ 21 [(0, .ref (kad K 0)), (1, .int a1), (2, .int a2)] [.int (X11_larger (σ.1 15 a1.toNatClampNeg) a2), .int a1, .ref (kad K 15)]
    refine x_goto C 34 dX11_better_21 (by decide) ?_
    obtain ⟨c8, h0⟩ := ob_if h0
    refine x_iast C (iM 15 (by decide)) rfl (vin_in c8) dX11_better_34 ?_
    cases h0
    exact x_vret C R dX11_better_35
set_option maxHeartbeats 4000000 in
set_option maxRecDepth 100000 in
theorem c_X11_duel {l : Launch} {D : va_G} {ad : Nat → Nat} {cy : Nat → ClassId} (hJ : mJ LM ad) {σ τ : mS} {a1 : Int32} {a2 : Int32} {a3 : Int32} {r : Int32}  (h0 : X11_duel σ a1 a2 a3 = some (r, τ)) : MetG l LM D ad cy yX11_duel cX11_duel 8 (some .int) 3 [.ref (ad 0), .int a1, .int a2, .int a3] σ (some (.int r)) τ := by
  refine MetG.of hJ (by decide +kernel) [(0, .ref (ad 0)), (1, .int a1), (2, .int a2), (3, .int a3)] rfl (Nat.le_of_ble_eq_true rfl) ?_
  intro K e1 e2 e3 e4 e5 C R
  subst e1
  subst e2
  subst e3
  subst e4
  unfold X11_duel at h0
  refine x_aload_n C 0 dX11_duel_0 rfl ?_
  refine x_iload_n C 1 dX11_duel_1 rfl ?_
  refine x_callV (ar := 1) (q := (RX11, TX11, 22)) (rest := []) C (c_X11_isPlayer C.2.2.2.2.2.2.1  rfl) (iM 0 (by decide)) rfl rfl hy_X11_isPlayer ⟨tw924, tw926, tw42, tw75, tw927⟩ (by decide) (by decide) rfl rfl (Nat.le_of_ble_eq_true rfl) dX11_duel_2 ?_
  show Wx LM K σ 5 [(0, .ref (kad K 0)), (1, .int a1), (2, .int a2), (3, .int a3)] [.int (X11_isPlayer σ a1)]
  refine x_ifeq C 33 dX11_duel_5 (by decide) (fun c3 => ?_) (fun c3 => ?_)
  · replace h0 := ob_pos c3 h0
    refine x_iconst (v := (-1)) C dX11_duel_33 rfl ?_
    cases h0
    exact x_iret C R dX11_duel_34
  · replace h0 := ob_neg c3 h0
    refine x_aload_n C 0 dX11_duel_8 rfl ?_
    refine x_iload_n C 2 dX11_duel_9 rfl ?_
    refine x_callV (ar := 1) (q := (RX11, TX11, 22)) (rest := []) C (c_X11_isPlayer C.2.2.2.2.2.2.1  rfl) (iM 0 (by decide)) rfl rfl hy_X11_isPlayer ⟨tw924, tw926, tw42, tw75, tw927⟩ (by decide) (by decide) rfl rfl (Nat.le_of_ble_eq_true rfl) dX11_duel_10 ?_
    show Wx LM K σ 13 [(0, .ref (kad K 0)), (1, .int a1), (2, .int a2), (3, .int a3)] [.int (X11_isPlayer σ a2)]
    refine x_ifeq C 33 dX11_duel_13 (by decide) (fun c6 => ?_) (fun c6 => ?_)
    · replace h0 := ob_pos c6 h0
      refine x_iconst (v := (-1)) C dX11_duel_33 rfl ?_
      cases h0
      exact x_iret C R dX11_duel_34
    · replace h0 := ob_neg c6 h0
      refine x_iload_n C 1 dX11_duel_16 rfl ?_
      refine x_iload_n C 2 dX11_duel_17 rfl ?_
      refine x_icmpeq C 33 dX11_duel_18 (by decide) (fun c8 => ?_) (fun c8 => ?_)
      · replace h0 := ob_pos c8 h0
        refine x_iconst (v := (-1)) C dX11_duel_33 rfl ?_
        cases h0
        exact x_iret C R dX11_duel_34
      · replace h0 := ob_neg c8 h0
        refine x_iload_n C 3 dX11_duel_21 rfl ?_
        refine x_i2l C dX11_duel_22 ?_
        refine x_lconst (v := 0) C dX11_duel_23 rfl ?_
        refine x_ldc2 C tw991 dX11_duel_24 ?_
        refine x_callS (ar := 3) (rest := []) C (c_X11_in C.2.2.2.2.2.2.1  rfl) hy_X11_in ⟨tw839, tw840, tw75, tw841⟩ (by decide) (by decide) rfl rfl (Nat.le_of_ble_eq_true rfl) dX11_duel_27 ?_
        show Wx LM K σ 30 [(0, .ref (kad K 0)), (1, .int a1), (2, .int a2), (3, .int a3)] [.int (X11_in ((a3).toInt64) (0) (2))]
        refine x_ifne C 35 dX11_duel_30 (by decide) (fun c11 => ?_) (fun c11 => ?_)
        · replace h0 := ob_neg c11 h0
          refine x_iconst (v := 2) C dX11_duel_35 rfl ?_
          refine x_iload_n C 3 dX11_duel_36 rfl ?_
          refine x_imul C dX11_duel_37 ?_
          refine x_aload_n C 0 dX11_duel_38 rfl ?_
          refine x_getR (j := 11) (i := 38) (q := (RX11, TX11, 22)) C 10 (iM 0 (by decide)) rfl rfl inBX11 (by decide) tw774 rfl dX11_duel_39 ?_
          refine x_iconst (v := 5) C dX11_duel_42 rfl ?_
          obtain ⟨c12, h0⟩ := ob_if h0
          refine x_iald C (iM 10 (by decide)) rfl (vin_in c12) dX11_duel_43 ?_
          obtain ⟨r13, g14, h0⟩ := ob_bind h0
          refine x_callS (ar := 1) (rest := [.int ((2 : Int32) * a3)]) C (c_X11_bits C.2.2.2.2.2.2.1  g14) hy_X11_bits ⟨tw936, tw937, tw75, tw938⟩ (by decide) (by decide) rfl rfl (Nat.le_of_ble_eq_true rfl) dX11_duel_44 ?_
          show Wx LM K σ 47 [(0, .ref (kad K 0)), (1, .int a1), (2, .int a2), (3, .int a3)] [.int r13, .int ((2 : Int32) * a3)]
          refine x_callS (ar := 2) (rest := []) C (c_X11_lesser C.2.2.2.2.2.2.1  rfl) hy_X11_lesser ⟨tw908, tw909, tw75, tw910⟩ (by decide) (by decide) rfl rfl (Nat.le_of_ble_eq_true rfl) dX11_duel_47 ?_
          show Wx LM K σ 50 [(0, .ref (kad K 0)), (1, .int a1), (2, .int a2), (3, .int a3)] [.int (X11_lesser ((2 : Int32) * a3) r13)]
          refine x_istore (lv' := [(4, .int (X11_lesser ((2 : Int32) * a3) r13)), (0, .ref (kad K 0)), (1, .int a1), (2, .int a2), (3, .int a3)]) C dX11_duel_50 (by rw [e5]; decide) rfl ?_
          refine x_aload_n C 1 dX11_duel_52 rfl ?_
          refine x_iconst (v := 0) C dX11_duel_53 rfl ?_
          refine x_sipush (v := 1312) C dX11_duel_54 rfl ?_
          refine x_bipush (v := 8) C dX11_duel_57 rfl ?_
          obtain ⟨r16, s18, g17, h0⟩ := ob_bd h0
          refine x_callV (ar := 3) (q := (RX11, TX11, 22)) (rest := []) C (c_X11_copies C.2.2.2.2.2.2.1  g17) (iM 0 (by decide)) rfl rfl hy_X11_copies ⟨tw968, tw970, tw46, tw75, tw971⟩ (by decide) (by decide) rfl rfl (Nat.le_of_ble_eq_true rfl) dX11_duel_59 ?_
          show Wx LM K s18 62 [(4, .int (X11_lesser ((2 : Int32) * a3) r13)), (0, .ref (kad K 0)), (1, .int a1), (2, .int a2), (3, .int a3)] []
          refine x_iconst (v := 0) C dX11_duel_62 rfl ?_
          refine x_istore (lv' := [(5, .int 0), (4, .int (X11_lesser ((2 : Int32) * a3) r13)), (0, .ref (kad K 0)), (1, .int a1), (2, .int a2), (3, .int a3)]) C dX11_duel_63 (by rw [e5]; decide) rfl ?_
          refine x_aload_n C 2 dX11_duel_65 rfl ?_
          refine x_getR (j := 19) (i := 51) (q := (RX11, TX11, 22)) C 13 (iM 0 (by decide)) rfl rfl inBX11 (by decide) tw782 rfl dX11_duel_66 ?_
          refine x_iconst (v := 0) C dX11_duel_69 rfl ?_
          refine x_iconst (v := 0) C dX11_duel_70 rfl ?_
          obtain ⟨c19, h0⟩ := ob_if h0
          refine x_iast C (iM 13 (by decide)) rfl (vin_in c19) dX11_duel_71 ?_
          refine x_aload_n C 2 dX11_duel_72 rfl ?_
          refine x_getR (j := 21) (i := 57) (q := (RX11, TX11, 22)) C 15 (iM 0 (by decide)) rfl rfl inBX11 (by decide) tw784 rfl dX11_duel_73 ?_
          refine x_iconst (v := 0) C dX11_duel_76 rfl ?_
          refine x_iload C 1 dX11_duel_77 rfl ?_
          obtain ⟨e83, g82, h0⟩ := ob_bind h0
          have J84 : ∀ (v22 : Int32), v22 = e83 → Wx LM K (mwI s18 13 (0 : Int32).toNatClampNeg 0) 97 [(5, .int 0), (4, .int (X11_lesser ((2 : Int32) * a3) r13)), (0, .ref (kad K 0)), (1, .int a1), (2, .int a2)] [.int v22, .int 0, .ref (kad K 15)] := by
            intro v22 e9
            subst e9
            replace h0 := un1_l h0
            obtain ⟨c23, h0⟩ := ob_if h0
            refine x_iast C (iM 15 (by decide)) rfl (vin_in c23) dX11_duel_97 ?_
            obtain ⟨e80, g81, h0⟩ := ob_bind h0
            have J1 : ∀ (s26 : mS), s26 = e80 → Wx LM K s26 326 [(0, .ref (kad K 0))] [] := by
              intro s26 e9
              subst e9
              replace h0 := un1_l h0
              refine x_aload_n C 0 dX11_duel_326 rfl ?_
              refine x_aload_n C 0 dX11_duel_327 rfl ?_
              refine x_getR (j := 21) (i := 57) (q := (RX11, TX11, 22)) C 15 (iM 0 (by decide)) rfl rfl inBX11 (by decide) tw784 rfl dX11_duel_328 ?_
              refine x_iconst (v := 0) C dX11_duel_331 rfl ?_
              obtain ⟨c27, h0⟩ := ob_if h0
              refine x_iald C (iM 15 (by decide)) rfl (vin_in c27) dX11_duel_332 ?_
              obtain ⟨r28, s30, g29, h0⟩ := ob_bd h0
              refine x_callV (ar := 1) (q := (RX11, TX11, 22)) (rest := []) C (c_X11_tells C.2.2.2.2.2.2.1  g29) (iM 0 (by decide)) rfl rfl hy_X11_tells ⟨tw854, tw856, tw36, tw75, tw857⟩ (by decide) (by decide) rfl rfl (Nat.le_of_ble_eq_true rfl) dX11_duel_333 ?_
              show Wx LM K s30 336 [(0, .ref (kad K 0))] [.int r28]
              cases h0
              exact x_iret C R dX11_duel_336
            refine lp_G (G := fun q : mS × Int32 => Wx LM K q.1 98 [(5, .int q.2), (4, .int (X11_lesser ((2 : Int32) * a3) r13)), (0, .ref (kad K 0)), (1, .int a1), (2, .int a2)] []) (fun q x h1 ihL1 ihR1 => ?_) big _ g81
            obtain ⟨s24, x25⟩ := q
            replace h1 : X11_duel_b98 a1 a2 a3 r13 s24 x25 = some x := h1
            unfold X11_duel_b98 at h1
            show Wx LM K s24 98 [(5, .int x25), (4, .int (X11_lesser ((2 : Int32) * a3) r13)), (0, .ref (kad K 0)), (1, .int a1), (2, .int a2)] []
            refine x_iload C 0 dX11_duel_98 rfl ?_
            refine x_iflt C 326 dX11_duel_100 (by decide) (fun c32 => ?_) (fun c32 => ?_)
            · replace h1 := ob_pos c32 h1
              refine x_lv (lv' := [(0, .ref (kad K 0))]) [2] rfl ?_
              exact J1 _ (ihR1 _ (Option.some.inj h1).symm)
            · replace h1 := ob_neg c32 h1
              refine x_iload C 1 dX11_duel_103 rfl ?_
              refine x_ifle C 326 dX11_duel_105 (by decide) (fun c34 => ?_) (fun c34 => ?_)
              · replace h1 := ob_pos c34 h1
                refine x_lv (lv' := [(0, .ref (kad K 0))]) [2] rfl ?_
                exact J1 _ (ihR1 _ (Option.some.inj h1).symm)
              · replace h1 := ob_neg c34 h1
                refine x_aload_n C 2 dX11_duel_108 rfl ?_
                refine x_getR (j := 19) (i := 51) (q := (RX11, TX11, 22)) C 13 (iM 0 (by decide)) rfl rfl inBX11 (by decide) tw782 rfl dX11_duel_109 ?_
                refine x_iload C 0 dX11_duel_112 rfl ?_
                obtain ⟨c35, h1⟩ := ob_if h1
                refine x_iald C (iM 13 (by decide)) rfl (vin_in c35) dX11_duel_114 ?_
                refine x_iconst (v := 1) C dX11_duel_115 rfl ?_
                refine x_iadd C dX11_duel_116 ?_
                refine x_istore (lv' := [(6, .int ((s24.1 13 x25.toNatClampNeg) + 1)), (5, .int x25), (4, .int (X11_lesser ((2 : Int32) * a3) r13)), (0, .ref (kad K 0)), (1, .int a1), (2, .int a2)]) C dX11_duel_117 (by rw [e5]; decide) rfl ?_
                obtain ⟨e78, g79, h1⟩ := ob_bind h1
                have J2 : ∀ (y37 : Int32), y37 = e78 → Wx LM K s24 156 [(6, .int y37), (5, .int x25), (4, .int (X11_lesser ((2 : Int32) * a3) r13)), (0, .ref (kad K 0)), (1, .int a1), (2, .int a2)] [] := by
                  intro y37 e9
                  subst e9
                  replace h1 := un1_l h1
                  refine x_iload C 0 dX11_duel_156 rfl ?_
                  refine x_bipush (v := 12) C dX11_duel_158 rfl ?_
                  obtain ⟨e69, g68, h1⟩ := ob_un h1
                  have J70 : ∀ (v40 : Int32), v40 = e69 → Wx LM K s24 168 [(6, .int y37), (5, .int x25), (4, .int (X11_lesser ((2 : Int32) * a3) r13)), (0, .ref (kad K 0)), (1, .int a1), (2, .int a2)] [.int v40] := by
                    intro v40 e9
                    subst e9
                    replace h1 := un1_l h1
                    refine x_istore (lv' := [(7, .int v40), (6, .int y37), (5, .int x25), (4, .int (X11_lesser ((2 : Int32) * a3) r13)), (0, .ref (kad K 0)), (1, .int a1), (2, .int a2)]) C dX11_duel_168 (by rw [e5]; decide) rfl ?_
                    refine x_iload C 0 dX11_duel_170 rfl ?_
                    refine x_ifne C 300 dX11_duel_172 (by decide) (fun c42 => ?_) (fun c42 => ?_)
                    · replace h1 := ob_neg c42 h1
                      refine x_iload C 2 dX11_duel_300 rfl ?_
                      refine x_ifle C 320 dX11_duel_302 (by decide) (fun c44 => ?_) (fun c44 => ?_)
                      · replace h1 := ob_pos c44 h1
                        refine x_iinc (v := (x25 + (-1))) (lv' := [(5, .int (x25 + (-1))), (7, .int v40), (6, .int y37), (4, .int (X11_lesser ((2 : Int32) * a3) r13)), (0, .ref (kad K 0)), (1, .int a1), (2, .int a2)]) C 2 dX11_duel_320 rfl rfl (by rw [e5]; decide) rfl ?_
                        refine x_goto C 98 dX11_duel_323 (by decide) ?_
                        refine x_lv (lv' := [(5, .int (x25 + (-1))), (4, .int (X11_lesser ((2 : Int32) * a3) r13)), (0, .ref (kad K 0)), (1, .int a1), (2, .int a2)]) [0, 3, 4, 5, 6] rfl ?_
                        exact ihL1 _ (Option.some.inj h1).symm
                      · replace h1 := ob_neg c44 h1
                        refine x_aload_n C 4 dX11_duel_305 rfl ?_
                        refine x_iload C 2 dX11_duel_306 rfl ?_
                        refine x_iconst (v := 1) C dX11_duel_308 rfl ?_
                        refine x_isub C dX11_duel_309 ?_
                        refine x_aload_n C 4 dX11_duel_310 rfl ?_
                        refine x_getR (j := 21) (i := 57) (q := (RX11, TX11, 22)) C 15 (iM 0 (by decide)) rfl rfl inBX11 (by decide) tw784 rfl dX11_duel_311 ?_
                        refine x_iload C 2 dX11_duel_314 rfl ?_
                        obtain ⟨c45, h1⟩ := ob_if h1
                        refine x_iald C (iM 15 (by decide)) rfl (vin_in c45) dX11_duel_316 ?_
                        obtain ⟨r46, s48, g47, h1⟩ := ob_bd h1
                        refine x_callV (ar := 2) (q := (RX11, TX11, 22)) (rest := []) C (c_X11_better C.2.2.2.2.2.2.1  g47) (iM 0 (by decide)) rfl rfl hy_X11_better ⟨tw1063, tw1065, tw55, tw75, tw1066⟩ (by decide) (by decide) rfl rfl (Nat.le_of_ble_eq_true rfl) dX11_duel_317 ?_
                        show Wx LM K s48 320 [(7, .int v40), (6, .int y37), (5, .int x25), (4, .int (X11_lesser ((2 : Int32) * a3) r13)), (0, .ref (kad K 0)), (1, .int a1), (2, .int a2)] []
                        refine x_iinc (v := (x25 + (-1))) (lv' := [(5, .int (x25 + (-1))), (7, .int v40), (6, .int y37), (4, .int (X11_lesser ((2 : Int32) * a3) r13)), (0, .ref (kad K 0)), (1, .int a1), (2, .int a2)]) C 2 dX11_duel_320 rfl rfl (by rw [e5]; decide) rfl ?_
                        refine x_goto C 98 dX11_duel_323 (by decide) ?_
                        refine x_lv (lv' := [(5, .int (x25 + (-1))), (4, .int (X11_lesser ((2 : Int32) * a3) r13)), (0, .ref (kad K 0)), (1, .int a1), (2, .int a2)]) [0, 3, 4, 5, 6] rfl ?_
                        exact ihL1 _ (Option.some.inj h1).symm
                    · replace h1 := ob_pos c42 h1
                      refine x_aload_n C 4 dX11_duel_175 rfl ?_
                      refine x_getR (j := 19) (i := 51) (q := (RX11, TX11, 22)) C 13 (iM 0 (by decide)) rfl rfl inBX11 (by decide) tw782 rfl dX11_duel_176 ?_
                      refine x_iload C 2 dX11_duel_179 rfl ?_
                      refine x_iload C 1 dX11_duel_181 rfl ?_
                      obtain ⟨c49, h1⟩ := ob_if h1
                      refine x_iast C (iM 13 (by decide)) rfl (vin_in c49) dX11_duel_183 ?_
                      refine x_aload_n C 4 dX11_duel_184 rfl ?_
                      refine x_sipush (v := 1312) C dX11_duel_185 rfl ?_
                      refine x_iload C 2 dX11_duel_188 rfl ?_
                      refine x_bipush (v := 8) C dX11_duel_190 rfl ?_
                      refine x_imul C dX11_duel_192 ?_
                      refine x_iadd C dX11_duel_193 ?_
                      refine x_sipush (v := 1312) C dX11_duel_194 rfl ?_
                      refine x_iload C 2 dX11_duel_197 rfl ?_
                      refine x_iconst (v := 1) C dX11_duel_199 rfl ?_
                      refine x_iadd C dX11_duel_200 ?_
                      refine x_bipush (v := 8) C dX11_duel_201 rfl ?_
                      refine x_imul C dX11_duel_203 ?_
                      refine x_iadd C dX11_duel_204 ?_
                      refine x_bipush (v := 8) C dX11_duel_205 rfl ?_
                      obtain ⟨r50, s52, g51, h1⟩ := ob_bd h1
                      refine x_callV (ar := 3) (q := (RX11, TX11, 22)) (rest := []) C (c_X11_copies C.2.2.2.2.2.2.1  g51) (iM 0 (by decide)) rfl rfl hy_X11_copies ⟨tw968, tw970, tw46, tw75, tw971⟩ (by decide) (by decide) rfl rfl (Nat.le_of_ble_eq_true rfl) dX11_duel_207 ?_
                      show Wx LM K s52 210 [(7, .int v40), (6, .int y37), (5, .int x25), (4, .int (X11_lesser ((2 : Int32) * a3) r13)), (0, .ref (kad K 0)), (1, .int a1), (2, .int a2)] []
                      refine x_aload_n C 4 dX11_duel_210 rfl ?_
                      refine x_sipush (v := 1312) C dX11_duel_211 rfl ?_
                      refine x_iload C 2 dX11_duel_214 rfl ?_
                      refine x_iconst (v := 1) C dX11_duel_216 rfl ?_
                      refine x_iadd C dX11_duel_217 ?_
                      refine x_bipush (v := 8) C dX11_duel_218 rfl ?_
                      refine x_imul C dX11_duel_220 ?_
                      refine x_iadd C dX11_duel_221 ?_
                      refine x_iload C 1 dX11_duel_222 rfl ?_
                      obtain ⟨r53, s55, g54, h1⟩ := ob_bd h1
                      refine x_callV (ar := 2) (q := (RX11, TX11, 22)) (rest := []) C (c_X11_calls C.2.2.2.2.2.2.1  g54) (iM 0 (by decide)) rfl rfl hy_X11_calls ⟨tw972, tw974, tw47, tw75, tw975⟩ (by decide) (by decide) rfl rfl (Nat.le_of_ble_eq_true rfl) dX11_duel_224 ?_
                      show Wx LM K s55 227 [(7, .int v40), (6, .int y37), (5, .int x25), (4, .int (X11_lesser ((2 : Int32) * a3) r13)), (0, .ref (kad K 0)), (1, .int a1), (2, .int a2)] [.int r53]
                      refine x_pop C dX11_duel_227 rfl ?_
                      refine x_iload C 2 dX11_duel_228 rfl ?_
                      refine x_iconst (v := 1) C dX11_duel_230 rfl ?_
                      refine x_iadd C dX11_duel_231 ?_
                      refine x_iload C 3 dX11_duel_232 rfl ?_
                      refine x_icmpne C 263 dX11_duel_234 (by decide) (fun c57 => ?_) (fun c57 => ?_)
                      · replace h1 := ob_neg c57 h1
                        refine x_iinc (v := (x25 + 1)) (lv' := [(5, .int (x25 + 1)), (7, .int v40), (6, .int y37), (4, .int (X11_lesser ((2 : Int32) * a3) r13)), (0, .ref (kad K 0)), (1, .int a1), (2, .int a2)]) C 2 dX11_duel_263 rfl rfl (by rw [e5]; decide) rfl ?_
                        refine x_aload_n C 4 dX11_duel_266 rfl ?_
                        refine x_getR (j := 19) (i := 51) (q := (RX11, TX11, 22)) C 13 (iM 0 (by decide)) rfl rfl inBX11 (by decide) tw782 rfl dX11_duel_267 ?_
                        refine x_iload C 0 dX11_duel_270 rfl ?_
                        refine x_iconst (v := 0) C dX11_duel_272 rfl ?_
                        obtain ⟨c58, h1⟩ := ob_if h1
                        refine x_iast C (iM 13 (by decide)) rfl (vin_in c58) dX11_duel_273 ?_
                        refine x_aload_n C 4 dX11_duel_274 rfl ?_
                        refine x_getR (j := 21) (i := 57) (q := (RX11, TX11, 22)) C 15 (iM 0 (by decide)) rfl rfl inBX11 (by decide) tw784 rfl dX11_duel_275 ?_
                        refine x_iload C 0 dX11_duel_278 rfl ?_
                        refine x_iload C 0 dX11_duel_280 rfl ?_
                        refine x_iconst (v := 2) C dX11_duel_282 rfl ?_
                        refine x_irem C dX11_duel_283 (by decide) ?_
                        refine x_ifne C 293 dX11_duel_284 (by decide) (fun c60 => ?_) (fun c60 => ?_)
                        · replace h1 := ob_neg c60 h1
                          refine x_sipush (v := 999) C dX11_duel_293 rfl ?_
                          obtain ⟨c61, h1⟩ := ob_if h1
                          refine x_iast C (iM 15 (by decide)) rfl (vin_in c61) dX11_duel_296 ?_
                          refine x_goto C 323 dX11_duel_297 (by decide) ?_
                          refine x_goto C 98 dX11_duel_323 (by decide) ?_
                          refine x_lv (lv' := [(5, .int (x25 + 1)), (4, .int (X11_lesser ((2 : Int32) * a3) r13)), (0, .ref (kad K 0)), (1, .int a1), (2, .int a2)]) [0, 3, 4, 5, 6] rfl ?_
                          exact ihL1 _ (Option.some.inj h1).symm
                        · replace h1 := ob_pos c60 h1
                          refine x_sipush (v := (-999)) C dX11_duel_287 rfl ?_
                          refine x_goto C 296 dX11_duel_290 (by decide) ?_
                          obtain ⟨c62, h1⟩ := ob_if h1
                          refine x_iast C (iM 15 (by decide)) rfl (vin_in c62) dX11_duel_296 ?_
                          refine x_goto C 323 dX11_duel_297 (by decide) ?_
                          refine x_goto C 98 dX11_duel_323 (by decide) ?_
                          refine x_lv (lv' := [(5, .int (x25 + 1)), (4, .int (X11_lesser ((2 : Int32) * a3) r13)), (0, .ref (kad K 0)), (1, .int a1), (2, .int a2)]) [0, 3, 4, 5, 6] rfl ?_
                          exact ihL1 _ (Option.some.inj h1).symm
                      · replace h1 := ob_pos c57 h1
                        refine x_aload_n C 4 dX11_duel_237 rfl ?_
                        refine x_iload C 2 dX11_duel_238 rfl ?_
                        refine x_aload_n C 4 dX11_duel_240 rfl ?_
                        refine x_sipush (v := 1312) C dX11_duel_241 rfl ?_
                        refine x_iload C 2 dX11_duel_244 rfl ?_
                        refine x_iconst (v := 1) C dX11_duel_246 rfl ?_
                        refine x_iadd C dX11_duel_247 ?_
                        refine x_bipush (v := 8) C dX11_duel_248 rfl ?_
                        refine x_imul C dX11_duel_250 ?_
                        refine x_iadd C dX11_duel_251 ?_
                        refine x_iload_n C 5 dX11_duel_252 rfl ?_
                        refine x_iload_n C 6 dX11_duel_253 rfl ?_
                        obtain ⟨r63, g64, h1⟩ := ob_bind h1
                        refine x_callV (ar := 3) (q := (RX11, TX11, 22)) (rest := [.int x25, .ref (kad K 0)]) C (c_X11_worthOf C.2.2.2.2.2.2.1  g64) (iM 0 (by decide)) rfl rfl hy_X11_worthOf ⟨tw1059, tw1061, tw54, tw75, tw1062⟩ (by decide) (by decide) rfl rfl (Nat.le_of_ble_eq_true rfl) dX11_duel_254 ?_
                        show Wx LM K s55 257 [(7, .int v40), (6, .int y37), (5, .int x25), (4, .int (X11_lesser ((2 : Int32) * a3) r13)), (0, .ref (kad K 0)), (1, .int a1), (2, .int a2)] [.int r63, .int x25, .ref (kad K 0)]
                        obtain ⟨r65, s67, g66, h1⟩ := ob_bd h1
                        refine x_callV (ar := 2) (q := (RX11, TX11, 22)) (rest := []) C (c_X11_better C.2.2.2.2.2.2.1  g66) (iM 0 (by decide)) rfl rfl hy_X11_better ⟨tw1063, tw1065, tw55, tw75, tw1066⟩ (by decide) (by decide) rfl rfl (Nat.le_of_ble_eq_true rfl) dX11_duel_257 ?_
                        show Wx LM K s67 260 [(7, .int v40), (6, .int y37), (5, .int x25), (4, .int (X11_lesser ((2 : Int32) * a3) r13)), (0, .ref (kad K 0)), (1, .int a1), (2, .int a2)] []
                        refine x_goto C 323 dX11_duel_260 (by decide) ?_
                        refine x_goto C 98 dX11_duel_323 (by decide) ?_
                        refine x_lv (lv' := [(5, .int x25), (4, .int (X11_lesser ((2 : Int32) * a3) r13)), (0, .ref (kad K 0)), (1, .int a1), (2, .int a2)]) [2, 3, 4, 5, 6] rfl ?_
                        exact ihL1 _ (Option.some.inj h1).symm
                  refine x_icmple C 167 dX11_duel_160 (by decide) (fun c71 => ?_) (fun c71 => ?_)
                  · replace g68 := ob_pos c71 g68
                    refine x_iconst (v := 0) C dX11_duel_167 rfl ?_
                    refine x_lv (lv' := [(6, .int y37), (5, .int x25), (4, .int (X11_lesser ((2 : Int32) * a3) r13)), (0, .ref (kad K 0)), (1, .int a1), (2, .int a2)]) [0, 1, 2, 3, 4, 5] rfl ?_
                    exact J70 _ g68
                  · replace g68 := ob_neg c71 g68
                    refine x_iconst (v := 1) C dX11_duel_163 rfl ?_
                    refine x_goto C 168 dX11_duel_164 (by decide) ?_
                    refine x_lv (lv' := [(6, .int y37), (5, .int x25), (4, .int (X11_lesser ((2 : Int32) * a3) r13)), (0, .ref (kad K 0)), (1, .int a1), (2, .int a2)]) [0, 1, 2, 3, 4, 5] rfl ?_
                    exact J70 _ g68
                refine lp_G (G := fun q : Int32 => Wx LM K s24 119 [(6, .int q), (5, .int x25), (4, .int (X11_lesser ((2 : Int32) * a3) r13)), (0, .ref (kad K 0)), (1, .int a1), (2, .int a2)] []) (fun q x h2 ihL2 ihR2 => ?_) big _ g79
                obtain ⟨x36, rfl⟩ : ∃ z, z = q := ⟨_, rfl⟩
                replace h2 : X11_duel_b119 s24 x25 x36 = some x := h2
                unfold X11_duel_b119 at h2
                show Wx LM K s24 119 [(6, .int x36), (5, .int x25), (4, .int (X11_lesser ((2 : Int32) * a3) r13)), (0, .ref (kad K 0)), (1, .int a1), (2, .int a2)] []
                refine x_iload C 0 dX11_duel_119 rfl ?_
                refine x_bipush (v := 13) C dX11_duel_121 rfl ?_
                refine x_icmpge C 156 dX11_duel_123 (by decide) (fun c73 => ?_) (fun c73 => ?_)
                · replace h2 := ob_pos c73 h2
                  refine x_lv (lv' := [(6, .int x36), (5, .int x25), (4, .int (X11_lesser ((2 : Int32) * a3) r13)), (0, .ref (kad K 0)), (1, .int a1), (2, .int a2)]) [0, 1, 2, 3, 4, 5] rfl ?_
                  exact J2 _ (ihR2 _ (Option.some.inj h2).symm)
                · replace h2 := ob_neg c73 h2
                  refine x_aload_n C 3 dX11_duel_126 rfl ?_
                  refine x_getR (j := 11) (i := 38) (q := (RX11, TX11, 22)) C 10 (iM 0 (by decide)) rfl rfl inBX11 (by decide) tw774 rfl dX11_duel_127 ?_
                  refine x_sipush (v := 1312) C dX11_duel_130 rfl ?_
                  refine x_iload C 1 dX11_duel_133 rfl ?_
                  refine x_bipush (v := 8) C dX11_duel_135 rfl ?_
                  refine x_imul C dX11_duel_137 ?_
                  refine x_iadd C dX11_duel_138 ?_
                  refine x_iconst (v := 5) C dX11_duel_139 rfl ?_
                  refine x_iadd C dX11_duel_140 ?_
                  obtain ⟨c74, h2⟩ := ob_if h2
                  refine x_iald C (iM 10 (by decide)) rfl (vin_in c74) dX11_duel_141 ?_
                  refine x_iload C 0 dX11_duel_142 rfl ?_
                  refine x_callS (ar := 2) (rest := []) C (c_X11_has C.2.2.2.2.2.2.1  rfl) hy_X11_has ⟨tw957, tw958, tw75, tw959⟩ (by decide) (by decide) rfl rfl (Nat.le_of_ble_eq_true rfl) dX11_duel_144 ?_
                  show Wx LM K s24 147 [(6, .int x36), (5, .int x25), (4, .int (X11_lesser ((2 : Int32) * a3) r13)), (0, .ref (kad K 0)), (1, .int a1), (2, .int a2)] [.int (X11_has (s24.1 10 (((1312 : Int32) + (x25 * 8)) + 5).toNatClampNeg) x36)]
                  refine x_ifne C 156 dX11_duel_147 (by decide) (fun c77 => ?_) (fun c77 => ?_)
                  · replace h2 := ob_neg c77 h2
                    refine x_lv (lv' := [(6, .int x36), (5, .int x25), (4, .int (X11_lesser ((2 : Int32) * a3) r13)), (0, .ref (kad K 0)), (1, .int a1), (2, .int a2)]) [0, 1, 2, 3, 4, 5] rfl ?_
                    exact J2 _ (ihR2 _ (Option.some.inj h2).symm)
                  · replace h2 := ob_pos c77 h2
                    refine x_iinc (v := (x36 + 1)) (lv' := [(6, .int (x36 + 1)), (5, .int x25), (4, .int (X11_lesser ((2 : Int32) * a3) r13)), (0, .ref (kad K 0)), (1, .int a1), (2, .int a2)]) C 0 dX11_duel_150 rfl rfl (by rw [e5]; decide) rfl ?_
                    refine x_goto C 119 dX11_duel_153 (by decide) ?_
                    refine x_lv (lv' := [(6, .int (x36 + 1)), (5, .int x25), (4, .int (X11_lesser ((2 : Int32) * a3) r13)), (0, .ref (kad K 0)), (1, .int a1), (2, .int a2)]) [0, 1, 2, 3, 4, 5] rfl ?_
                    exact ihL2 _ (Option.some.inj h2).symm
          refine x_ifne C 94 dX11_duel_79 (by decide) (fun c85 => ?_) (fun c85 => ?_)
          · replace g82 := ob_neg c85 g82
            refine x_sipush (v := (-999)) C dX11_duel_94 rfl ?_
            refine x_lv (lv' := [(5, .int 0), (4, .int (X11_lesser ((2 : Int32) * a3) r13)), (0, .ref (kad K 0)), (1, .int a1), (2, .int a2)]) [0, 1, 2, 3, 4] rfl ?_
            exact J84 _ (Option.some.inj g82)
          · replace g82 := ob_pos c85 g82
            refine x_aload_n C 2 dX11_duel_82 rfl ?_
            refine x_sipush (v := 1312) C dX11_duel_83 rfl ?_
            refine x_iload_n C 3 dX11_duel_86 rfl ?_
            refine x_iload_n C 4 dX11_duel_87 rfl ?_
            obtain ⟨r86, g87, g82⟩ := ob_bind g82
            refine x_callV (ar := 3) (q := (RX11, TX11, 22)) (rest := [.int 0, .ref (kad K 15)]) C (c_X11_worthOf C.2.2.2.2.2.2.1  g87) (iM 0 (by decide)) rfl rfl hy_X11_worthOf ⟨tw1059, tw1061, tw54, tw75, tw1062⟩ (by decide) (by decide) rfl rfl (Nat.le_of_ble_eq_true rfl) dX11_duel_88 ?_
            show Wx LM K (mwI s18 13 (0 : Int32).toNatClampNeg 0) 91 [(5, .int 0), (4, .int (X11_lesser ((2 : Int32) * a3) r13)), (0, .ref (kad K 0)), (1, .int a1), (2, .int a2), (3, .int a3)] [.int r86, .int 0, .ref (kad K 15)]
            refine x_goto C 97 dX11_duel_91 (by decide) ?_
            refine x_lv (lv' := [(5, .int 0), (4, .int (X11_lesser ((2 : Int32) * a3) r13)), (0, .ref (kad K 0)), (1, .int a1), (2, .int a2)]) [0, 1, 2, 3, 4] rfl ?_
            exact J84 _ (Option.some.inj g82)
        · replace h0 := ob_pos c11 h0
          refine x_iconst (v := (-1)) C dX11_duel_33 rfl ?_
          cases h0
          exact x_iret C R dX11_duel_34
set_option maxHeartbeats 4000000 in
set_option maxRecDepth 100000 in
theorem c_X11_fraction {l : Launch} {D : va_G} {ad : Nat → Nat} {cy : Nat → ClassId} (hJ : mJ LM ad) {σ τ : mS} {a1 : Int64} {a2 : Int64} {r : Int32}  (h0 : X11_fraction σ a1 a2 = some (r, τ)) : MetG l LM D ad cy yX11_fraction cX11_fraction 11 (some .int) 0 [.ref (ad 0), .long a1, .long a2] σ (some (.int r)) τ := by
  refine MetG.of hJ (by decide +kernel) [(0, .ref (ad 0)), (1, .long a1), (3, .long a2)] rfl (Nat.le_of_ble_eq_true rfl) ?_
  intro K e1 e2 e3 e4 e5 C R
  subst e1
  subst e2
  subst e3
  subst e4
  unfold X11_fraction at h0
  refine x_lload_n C 1 dX11_fraction_0 rfl ?_
  refine x_lstore (lv' := [(5, .long a1), (0, .ref (kad K 0)), (1, .long a1), (3, .long a2)]) C dX11_fraction_1 (by rw [e5]; decide) rfl ?_
  refine x_lload_n C 3 dX11_fraction_3 rfl ?_
  refine x_lstore (lv' := [(7, .long a2), (5, .long a1), (0, .ref (kad K 0)), (1, .long a1), (3, .long a2)]) C dX11_fraction_4 (by rw [e5]; decide) rfl ?_
  obtain ⟨e9, g10, h0⟩ := ob_bind h0
  have J1 : ∀ (y3 : Int64), y3 = e9 → Wx LM K σ 31 [(5, .long y3), (0, .ref (kad K 0)), (1, .long a1), (3, .long a2)] [] := by
    intro y3 e9
    subst e9
    replace h0 := un1_l h0
    refine x_aload_n C 1 dX11_fraction_31 rfl ?_
    refine x_lload_n C 2 dX11_fraction_32 rfl ?_
    refine x_lload C 0 dX11_fraction_33 rfl ?_
    obtain ⟨c4, h0⟩ := ob_if h0
    refine x_ldiv C dX11_fraction_35 c4 ?_
    refine x_putL (j := 15) (i := 204) (q := (RX11, TX11, 22)) C tyX11 tyX11_ok nmX11 (iM 0 (by decide)) rfl rfl inBX11 (by decide) tw778 rfl (by decide +kernel) rfl dX11_fraction_36 ?_
    refine x_aload_n C 1 dX11_fraction_39 rfl ?_
    refine x_lload_n C 3 dX11_fraction_40 rfl ?_
    refine x_lload C 0 dX11_fraction_41 rfl ?_
    obtain ⟨c5, h0⟩ := ob_if h0
    refine x_ldiv C dX11_fraction_43 c5 ?_
    refine x_putL (j := 16) (i := 44) (q := (RX11, TX11, 22)) C tyX11 tyX11_ok nmX11 (iM 0 (by decide)) rfl rfl inBX11 (by decide) tw779 rfl (by decide +kernel) rfl dX11_fraction_44 ?_
    refine x_iconst (v := 1) C dX11_fraction_47 rfl ?_
    cases h0
    exact x_iret C R dX11_fraction_48
  refine lp_G (G := fun q : Int64 × Int64 => Wx LM K σ 6 [(7, .long q.2), (5, .long q.1), (0, .ref (kad K 0)), (1, .long a1), (3, .long a2)] []) (fun q x h1 ihL1 ihR1 => ?_) big _ g10
  obtain ⟨x1, x2⟩ := q
  replace h1 : X11_fraction_b6 x1 x2 = some x := h1
  unfold X11_fraction_b6 at h1
  show Wx LM K σ 6 [(7, .long x2), (5, .long x1), (0, .ref (kad K 0)), (1, .long a1), (3, .long a2)] []
  refine x_lload C 0 dX11_fraction_6 rfl ?_
  refine x_lconst (v := 0) C dX11_fraction_8 rfl ?_
  refine x_lcmpeq C 31 dX11_fraction_9 dX11_fraction_10 (by decide) (fun c7 => ?_) (fun c7 => ?_)
  · replace h1 := ob_pos c7 h1
    refine x_lv (lv' := [(5, .long x1), (0, .ref (kad K 0)), (1, .long a1), (3, .long a2)]) [1, 2, 3, 4] rfl ?_
    exact J1 _ (ihR1 _ (Option.some.inj h1).symm)
  · replace h1 := ob_neg c7 h1
    refine x_lload C 1 dX11_fraction_13 rfl ?_
    refine x_lload C 0 dX11_fraction_15 rfl ?_
    obtain ⟨c8, h1⟩ := ob_if h1
    refine x_lrem C dX11_fraction_17 c8 ?_
    refine x_lstore (lv' := [(9, .long (x1 - x1 / x2 * x2)), (7, .long x2), (5, .long x1), (0, .ref (kad K 0)), (1, .long a1), (3, .long a2)]) C dX11_fraction_18 (by rw [e5]; decide) rfl ?_
    refine x_lload C 1 dX11_fraction_20 rfl ?_
    refine x_lstore (lv' := [(5, .long x2), (9, .long (x1 - x1 / x2 * x2)), (7, .long x2), (0, .ref (kad K 0)), (1, .long a1), (3, .long a2)]) C dX11_fraction_22 (by rw [e5]; decide) rfl ?_
    refine x_lload C 1 dX11_fraction_24 rfl ?_
    refine x_lstore (lv' := [(7, .long (x1 - x1 / x2 * x2)), (5, .long x2), (9, .long (x1 - x1 / x2 * x2)), (0, .ref (kad K 0)), (1, .long a1), (3, .long a2)]) C dX11_fraction_26 (by rw [e5]; decide) rfl ?_
    refine x_goto C 6 dX11_fraction_28 (by decide) ?_
    refine x_lv (lv' := [(7, .long (x1 - x1 / x2 * x2)), (5, .long x2), (0, .ref (kad K 0)), (1, .long a1), (3, .long a2)]) [0, 1, 3, 4, 5] rfl ?_
    exact ihL1 _ (Option.some.inj h1).symm
set_option maxHeartbeats 4000000 in
set_option maxRecDepth 100000 in
theorem c_X11_lot {l : Launch} {D : va_G} {ad : Nat → Nat} {cy : Nat → ClassId} (hJ : mJ LM ad) {σ τ : mS} {a1 : Int32} {a2 : Int32} {a3 : Int32} {r : Int32}  (h0 : X11_lot σ a1 a2 a3 = some (r, τ)) : MetG l LM D ad cy yX11_lot cX11_lot 11 (some .int) 4 [.ref (ad 0), .int a1, .int a2, .int a3] σ (some (.int r)) τ := by
  refine MetG.of hJ (by decide +kernel) [(0, .ref (ad 0)), (1, .int a1), (2, .int a2), (3, .int a3)] rfl (Nat.le_of_ble_eq_true rfl) ?_
  intro K e1 e2 e3 e4 e5 C R
  subst e1
  subst e2
  subst e3
  subst e4
  unfold X11_lot at h0
  refine x_iload_n C 2 dX11_lot_0 rfl ?_
  refine x_aload_n C 0 dX11_lot_1 rfl ?_
  refine x_getR (j := 11) (i := 38) (q := (RX11, TX11, 22)) C 10 (iM 0 (by decide)) rfl rfl inBX11 (by decide) tw774 rfl dX11_lot_2 ?_
  refine x_iconst (v := 5) C dX11_lot_5 rfl ?_
  obtain ⟨c1, h0⟩ := ob_if h0
  refine x_iald C (iM 10 (by decide)) rfl (vin_in c1) dX11_lot_6 ?_
  obtain ⟨r2, g3, h0⟩ := ob_bind h0
  refine x_callS (ar := 1) (rest := [.int a2]) C (c_X11_bits C.2.2.2.2.2.2.1  g3) hy_X11_bits ⟨tw936, tw937, tw75, tw938⟩ (by decide) (by decide) rfl rfl (Nat.le_of_ble_eq_true rfl) dX11_lot_7 ?_
  show Wx LM K σ 10 [(0, .ref (kad K 0)), (1, .int a1), (2, .int a2), (3, .int a3)] [.int r2, .int a2]
  refine x_callS (ar := 2) (rest := []) C (c_X11_lesser C.2.2.2.2.2.2.1  rfl) hy_X11_lesser ⟨tw908, tw909, tw75, tw910⟩ (by decide) (by decide) rfl rfl (Nat.le_of_ble_eq_true rfl) dX11_lot_10 ?_
  show Wx LM K σ 13 [(0, .ref (kad K 0)), (1, .int a1), (2, .int a2), (3, .int a3)] [.int (X11_lesser a2 r2)]
  refine x_istore (lv' := [(4, .int (X11_lesser a2 r2)), (0, .ref (kad K 0)), (1, .int a1), (2, .int a2), (3, .int a3)]) C dX11_lot_13 (by rw [e5]; decide) rfl ?_
  refine x_iload C 0 dX11_lot_15 rfl ?_
  obtain ⟨e61, g60, h0⟩ := ob_bind h0
  have J62 : ∀ (v10 : Int64), v10 = e61 → Wx LM K σ 52 [(4, .int (X11_lesser a2 r2)), (0, .ref (kad K 0)), (1, .int a1), (3, .int a3)] [.long v10] := by
    intro v10 e9
    subst e9
    replace h0 := un1_l h0
    refine x_lstore (lv' := [(5, .long v10), (4, .int (X11_lesser a2 r2)), (0, .ref (kad K 0)), (1, .int a1), (3, .int a3)]) C dX11_lot_52 (by rw [e5]; decide) rfl ?_
    refine x_iload C 1 dX11_lot_54 rfl ?_
    obtain ⟨e57, g56, h0⟩ := ob_un h0
    have J58 : ∀ (v13 : Int64), v13 = e57 → Wx LM K σ 64 [(5, .long v10), (4, .int (X11_lesser a2 r2)), (0, .ref (kad K 0)), (1, .int a1), (3, .int a3)] [.long v13] := by
      intro v13 e9
      subst e9
      replace h0 := un1_l h0
      refine x_lstore (lv' := [(7, .long v13), (5, .long v10), (4, .int (X11_lesser a2 r2)), (0, .ref (kad K 0)), (1, .int a1), (3, .int a3)]) C dX11_lot_64 (by rw [e5]; decide) rfl ?_
      refine x_iload C 2 dX11_lot_66 rfl ?_
      obtain ⟨e48, g47, h0⟩ := ob_bind h0
      have J49 : ∀ (s16 : mS) (v17 : Int32), (s16, v17) = e48 → Wx LM K s16 86 [(7, .long v13), (5, .long v10), (4, .int (X11_lesser a2 r2)), (0, .ref (kad K 0)), (1, .int a1), (3, .int a3)] [.int v17] := by
        intro s16 v17 e9
        subst e9
        replace h0 := un2_l h0
        refine x_istore (lv' := [(9, .int v17), (7, .long v13), (5, .long v10), (4, .int (X11_lesser a2 r2)), (0, .ref (kad K 0)), (1, .int a1), (3, .int a3)]) C dX11_lot_86 (by rw [e5]; decide) rfl ?_
        obtain ⟨e45, g46, h0⟩ := ob_bind h0
        have J1 : ∀ (s22 : mS) (y23 : Int64) (y24 : Int64), (s22, y23, y24) = e45 → Wx LM K s22 161 [(7, .long y24), (5, .long y23), (0, .ref (kad K 0))] [] := by
          intro s22 y23 y24 e9
          subst e9
          replace h0 := un3_l h0
          refine x_aload_n C 2 dX11_lot_161 rfl ?_
          refine x_lload C 1 dX11_lot_162 rfl ?_
          refine x_lload C 0 dX11_lot_164 rfl ?_
          obtain ⟨r25, s27, g26, h0⟩ := ob_bd h0
          refine x_callV (ar := 2) (q := (RX11, TX11, 22)) (rest := []) C (c_X11_fraction C.2.2.2.2.2.2.1  g26) (iM 0 (by decide)) rfl rfl hy_X11_fraction ⟨tw1075, tw1077, tw57, tw75, tw1078⟩ (by decide) (by decide) rfl rfl (Nat.le_of_ble_eq_true rfl) dX11_lot_166 ?_
          show Wx LM K s27 169 [(7, .long y24), (5, .long y23), (0, .ref (kad K 0))] [.int r25]
          cases h0
          exact x_iret C R dX11_lot_169
        refine lp_G (G := fun q : mS × Int64 × Int64 × Int32 => Wx LM K q.1 88 [(9, .int q.2.2.2), (7, .long q.2.2.1), (5, .long q.2.1), (4, .int (X11_lesser a2 r2)), (0, .ref (kad K 0)), (1, .int a1), (3, .int a3)] []) (fun q x h1 ihL1 ihR1 => ?_) big _ g46
        obtain ⟨s18, x19, x20, x21⟩ := q
        replace h1 : X11_lot_b88 a1 a2 a3 r2 s18 x19 x20 x21 = some x := h1
        unfold X11_lot_b88 at h1
        show Wx LM K s18 88 [(9, .int x21), (7, .long x20), (5, .long x19), (4, .int (X11_lesser a2 r2)), (0, .ref (kad K 0)), (1, .int a1), (3, .int a3)] []
        refine x_iload C 0 dX11_lot_88 rfl ?_
        refine x_ifeq C 161 dX11_lot_90 (by decide) (fun c29 => ?_) (fun c29 => ?_)
        · replace h1 := ob_pos c29 h1
          refine x_lv (lv' := [(7, .long x20), (5, .long x19), (0, .ref (kad K 0))]) [1, 2, 4] rfl ?_
          exact J1 _ _ _ (ihR1 _ (Option.some.inj h1).symm)
        · replace h1 := ob_neg c29 h1
          refine x_sipush (v := 1312) C dX11_lot_93 rfl ?_
          refine x_iload C 3 dX11_lot_96 rfl ?_
          refine x_bipush (v := 8) C dX11_lot_98 rfl ?_
          refine x_imul C dX11_lot_100 ?_
          refine x_iadd C dX11_lot_101 ?_
          refine x_istore (lv' := [(10, .int ((1312 : Int32) + ((X11_lesser a2 r2) * 8))), (9, .int x21), (7, .long x20), (5, .long x19), (4, .int (X11_lesser a2 r2)), (0, .ref (kad K 0)), (1, .int a1), (3, .int a3)]) C dX11_lot_102 (by rw [e5]; decide) rfl ?_
          refine x_lload C 3 dX11_lot_104 rfl ?_
          refine x_iload_n C 7 dX11_lot_106 rfl ?_
          obtain ⟨e38, g37, h1⟩ := ob_bind h1
          have J39 : ∀ (v33 : Int64), v33 = e38 → Wx LM K s18 140 [(7, .long x20), (4, .int (X11_lesser a2 r2)), (0, .ref (kad K 0)), (1, .int a1), (3, .int a3)] [.long v33, .long x19] := by
            intro v33 e9
            subst e9
            replace h1 := un1_l h1
            refine x_ladd C dX11_lot_140 ?_
            refine x_lstore (lv' := [(5, .long (x19 + v33)), (7, .long x20), (4, .int (X11_lesser a2 r2)), (0, .ref (kad K 0)), (1, .int a1), (3, .int a3)]) C dX11_lot_141 (by rw [e5]; decide) rfl ?_
            refine x_lload C 1 dX11_lot_143 rfl ?_
            refine x_lconst (v := 1) C dX11_lot_145 rfl ?_
            refine x_ladd C dX11_lot_146 ?_
            refine x_lstore (lv' := [(7, .long (x20 + 1)), (5, .long (x19 + v33)), (4, .int (X11_lesser a2 r2)), (0, .ref (kad K 0)), (1, .int a1), (3, .int a3)]) C dX11_lot_147 (by rw [e5]; decide) rfl ?_
            refine x_aload_n C 3 dX11_lot_149 rfl ?_
            refine x_iload C 2 dX11_lot_150 rfl ?_
            refine x_iconst (v := 0) C dX11_lot_152 rfl ?_
            obtain ⟨r34, s36, g35, h1⟩ := ob_bd h1
            refine x_callV (ar := 2) (q := (RX11, TX11, 22)) (rest := []) C (c_X11_follows C.2.2.2.2.2.2.1  g35) (iM 0 (by decide)) rfl rfl hy_X11_follows ⟨tw1013, tw1015, tw48, tw75, tw1016⟩ (by decide) (by decide) rfl rfl (Nat.le_of_ble_eq_true rfl) dX11_lot_153 ?_
            show Wx LM K s36 156 [(7, .long (x20 + 1)), (5, .long (x19 + v33)), (4, .int (X11_lesser a2 r2)), (0, .ref (kad K 0)), (1, .int a1), (3, .int a3)] [.int r34]
            refine x_istore (lv' := [(9, .int r34), (7, .long (x20 + 1)), (5, .long (x19 + v33)), (4, .int (X11_lesser a2 r2)), (0, .ref (kad K 0)), (1, .int a1), (3, .int a3)]) C dX11_lot_156 (by rw [e5]; decide) rfl ?_
            refine x_goto C 88 dX11_lot_158 (by decide) ?_
            refine x_lv (lv' := [(9, .int r34), (7, .long (x20 + 1)), (5, .long (x19 + v33)), (4, .int (X11_lesser a2 r2)), (0, .ref (kad K 0)), (1, .int a1), (3, .int a3)]) [0, 1, 2, 3, 4, 5, 6] rfl ?_
            exact ihL1 _ (Option.some.inj h1).symm
          refine x_ifeq C 126 dX11_lot_107 (by decide) (fun c40 => ?_) (fun c40 => ?_)
          · replace g37 := ob_pos c40 g37
            refine x_aload_n C 5 dX11_lot_126 rfl ?_
            refine x_getR (j := 11) (i := 38) (q := (RX11, TX11, 22)) C 10 (iM 0 (by decide)) rfl rfl inBX11 (by decide) tw774 rfl dX11_lot_127 ?_
            refine x_iload C 0 dX11_lot_130 rfl ?_
            refine x_iconst (v := 4) C dX11_lot_132 rfl ?_
            refine x_iadd C dX11_lot_133 ?_
            obtain ⟨c41, g37⟩ := ob_if g37
            refine x_iald C (iM 10 (by decide)) rfl (vin_in c41) dX11_lot_134 ?_
            refine x_iload_n C 6 dX11_lot_135 rfl ?_
            refine x_ishr C dX11_lot_136 ?_
            refine x_iconst (v := 1) C dX11_lot_137 rfl ?_
            refine x_iand C dX11_lot_138 ?_
            refine x_i2l C dX11_lot_139 ?_
            refine x_lv (lv' := [(7, .long x20), (4, .int (X11_lesser a2 r2)), (0, .ref (kad K 0)), (1, .int a1), (3, .int a3)]) [2, 4, 5, 6, 7] rfl ?_
            exact J39 _ (Option.some.inj g37)
          · replace g37 := ob_neg c40 g37
            refine x_aload_n C 5 dX11_lot_110 rfl ?_
            refine x_getR (j := 11) (i := 38) (q := (RX11, TX11, 22)) C 10 (iM 0 (by decide)) rfl rfl inBX11 (by decide) tw774 rfl dX11_lot_111 ?_
            refine x_iload C 0 dX11_lot_114 rfl ?_
            refine x_iload_n C 6 dX11_lot_116 rfl ?_
            refine x_iadd C dX11_lot_117 ?_
            obtain ⟨c42, g37⟩ := ob_if g37
            refine x_iald C (iM 10 (by decide)) rfl (vin_in c42) dX11_lot_118 ?_
            obtain ⟨r43, g44, g37⟩ := ob_bind g37
            refine x_callS (ar := 1) (rest := [.long x19]) C (c_X11_bits C.2.2.2.2.2.2.1  g44) hy_X11_bits ⟨tw936, tw937, tw75, tw938⟩ (by decide) (by decide) rfl rfl (Nat.le_of_ble_eq_true rfl) dX11_lot_119 ?_
            show Wx LM K s18 122 [(10, .int ((1312 : Int32) + ((X11_lesser a2 r2) * 8))), (9, .int x21), (7, .long x20), (5, .long x19), (4, .int (X11_lesser a2 r2)), (0, .ref (kad K 0)), (1, .int a1), (3, .int a3)] [.int r43, .long x19]
            refine x_i2l C dX11_lot_122 ?_
            refine x_goto C 140 dX11_lot_123 (by decide) ?_
            refine x_lv (lv' := [(7, .long x20), (4, .int (X11_lesser a2 r2)), (0, .ref (kad K 0)), (1, .int a1), (3, .int a3)]) [2, 4, 5, 6, 7] rfl ?_
            exact J39 _ (Option.some.inj g37)
      refine x_ifle C 85 dX11_lot_68 (by decide) (fun c50 => ?_) (fun c50 => ?_)
      · replace g47 := ob_pos c50 g47
        refine x_iconst (v := 0) C dX11_lot_85 rfl ?_
        refine x_lv (lv' := [(7, .long v13), (5, .long v10), (4, .int (X11_lesser a2 r2)), (0, .ref (kad K 0)), (1, .int a1), (3, .int a3)]) [0, 1, 2, 3, 4, 5] rfl ?_
        exact J49 _ _ (Option.some.inj g47)
      · replace g47 := ob_neg c50 g47
        refine x_aload_n C 3 dX11_lot_71 rfl ?_
        refine x_iload C 2 dX11_lot_72 rfl ?_
        refine x_iconst (v := 1) C dX11_lot_74 rfl ?_
        obtain ⟨r51, s53, g52, g47⟩ := ob_bd g47
        refine x_callV (ar := 2) (q := (RX11, TX11, 22)) (rest := []) C (c_X11_follows C.2.2.2.2.2.2.1  g52) (iM 0 (by decide)) rfl rfl hy_X11_follows ⟨tw1013, tw1015, tw48, tw75, tw1016⟩ (by decide) (by decide) rfl rfl (Nat.le_of_ble_eq_true rfl) dX11_lot_75 ?_
        show Wx LM K s53 78 [(7, .long v13), (5, .long v10), (4, .int (X11_lesser a2 r2)), (0, .ref (kad K 0)), (1, .int a1), (3, .int a3)] [.int r51]
        refine x_ifeq C 85 dX11_lot_78 (by decide) (fun c55 => ?_) (fun c55 => ?_)
        · replace g47 := ob_pos c55 g47
          refine x_iconst (v := 0) C dX11_lot_85 rfl ?_
          refine x_lv (lv' := [(7, .long v13), (5, .long v10), (4, .int (X11_lesser a2 r2)), (0, .ref (kad K 0)), (1, .int a1), (3, .int a3)]) [0, 1, 2, 3, 4, 5] rfl ?_
          exact J49 _ _ (Option.some.inj g47)
        · replace g47 := ob_neg c55 g47
          refine x_iconst (v := 1) C dX11_lot_81 rfl ?_
          refine x_goto C 86 dX11_lot_82 (by decide) ?_
          refine x_lv (lv' := [(7, .long v13), (5, .long v10), (4, .int (X11_lesser a2 r2)), (0, .ref (kad K 0)), (1, .int a1), (3, .int a3)]) [0, 1, 2, 3, 4, 5] rfl ?_
          exact J49 _ _ (Option.some.inj g47)
    refine x_ifle C 63 dX11_lot_56 (by decide) (fun c59 => ?_) (fun c59 => ?_)
    · replace g56 := ob_pos c59 g56
      refine x_lconst (v := 1) C dX11_lot_63 rfl ?_
      refine x_lv (lv' := [(5, .long v10), (4, .int (X11_lesser a2 r2)), (0, .ref (kad K 0)), (1, .int a1), (3, .int a3)]) [0, 1, 2, 3, 4] rfl ?_
      exact J58 _ g56
    · replace g56 := ob_neg c59 g56
      refine x_lconst (v := 0) C dX11_lot_59 rfl ?_
      refine x_goto C 64 dX11_lot_60 (by decide) ?_
      refine x_lv (lv' := [(5, .long v10), (4, .int (X11_lesser a2 r2)), (0, .ref (kad K 0)), (1, .int a1), (3, .int a3)]) [0, 1, 2, 3, 4] rfl ?_
      exact J58 _ g56
  refine x_ifle C 24 dX11_lot_17 (by decide) (fun c63 => ?_) (fun c63 => ?_)
  · replace g60 := ob_pos c63 g60
    refine x_iload_n C 4 dX11_lot_24 rfl ?_
    refine x_ifeq C 41 dX11_lot_25 (by decide) (fun c65 => ?_) (fun c65 => ?_)
    · replace g60 := ob_pos c65 g60
      refine x_aload_n C 1 dX11_lot_41 rfl ?_
      refine x_getR (j := 11) (i := 38) (q := (RX11, TX11, 22)) C 10 (iM 0 (by decide)) rfl rfl inBX11 (by decide) tw774 rfl dX11_lot_42 ?_
      refine x_iconst (v := 4) C dX11_lot_45 rfl ?_
      obtain ⟨c66, g60⟩ := ob_if g60
      refine x_iald C (iM 10 (by decide)) rfl (vin_in c66) dX11_lot_46 ?_
      refine x_iload_n C 2 dX11_lot_47 rfl ?_
      refine x_ishr C dX11_lot_48 ?_
      refine x_iconst (v := 1) C dX11_lot_49 rfl ?_
      refine x_iand C dX11_lot_50 ?_
      refine x_i2l C dX11_lot_51 ?_
      refine x_lv (lv' := [(4, .int (X11_lesser a2 r2)), (0, .ref (kad K 0)), (1, .int a1), (3, .int a3)]) [0, 1, 2, 4] rfl ?_
      exact J62 _ (Option.some.inj g60)
    · replace g60 := ob_neg c65 g60
      refine x_aload_n C 1 dX11_lot_28 rfl ?_
      refine x_getR (j := 11) (i := 38) (q := (RX11, TX11, 22)) C 10 (iM 0 (by decide)) rfl rfl inBX11 (by decide) tw774 rfl dX11_lot_29 ?_
      refine x_iload_n C 2 dX11_lot_32 rfl ?_
      obtain ⟨c67, g60⟩ := ob_if g60
      refine x_iald C (iM 10 (by decide)) rfl (vin_in c67) dX11_lot_33 ?_
      obtain ⟨r68, g69, g60⟩ := ob_bind g60
      refine x_callS (ar := 1) (rest := []) C (c_X11_bits C.2.2.2.2.2.2.1  g69) hy_X11_bits ⟨tw936, tw937, tw75, tw938⟩ (by decide) (by decide) rfl rfl (Nat.le_of_ble_eq_true rfl) dX11_lot_34 ?_
      show Wx LM K σ 37 [(4, .int (X11_lesser a2 r2)), (0, .ref (kad K 0)), (1, .int a1), (2, .int a2), (3, .int a3)] [.int r68]
      refine x_i2l C dX11_lot_37 ?_
      refine x_goto C 52 dX11_lot_38 (by decide) ?_
      refine x_lv (lv' := [(4, .int (X11_lesser a2 r2)), (0, .ref (kad K 0)), (1, .int a1), (3, .int a3)]) [0, 1, 2, 4] rfl ?_
      exact J62 _ (Option.some.inj g60)
  · replace g60 := ob_neg c63 g60
    refine x_lconst (v := 0) C dX11_lot_20 rfl ?_
    refine x_goto C 52 dX11_lot_21 (by decide) ?_
    refine x_lv (lv' := [(4, .int (X11_lesser a2 r2)), (0, .ref (kad K 0)), (1, .int a1), (3, .int a3)]) [0, 1, 2, 4] rfl ?_
    exact J62 _ (Option.some.inj g60)
set_option maxHeartbeats 4000000 in
set_option maxRecDepth 100000 in
theorem c_X11_odds {l : Launch} {D : va_G} {ad : Nat → Nat} {cy : Nat → ClassId} (hJ : mJ LM ad) {σ τ : mS} {a1 : Int32} {a2 : Int32} {r : Int32}  (h0 : X11_odds σ a1 a2 = some (r, τ)) : MetG l LM D ad cy yX11_odds cX11_odds 3 (some .int) 5 [.ref (ad 0), .int a1, .int a2] σ (some (.int r)) τ := by
  refine MetG.of hJ (by decide +kernel) [(0, .ref (ad 0)), (1, .int a1), (2, .int a2)] rfl (Nat.le_of_ble_eq_true rfl) ?_
  intro K e1 e2 e3 e4 e5 C R
  subst e1
  subst e2
  subst e3
  subst e4
  unfold X11_odds at h0
  refine x_aload_n C 0 dX11_odds_0 rfl ?_
  refine x_iload_n C 1 dX11_odds_1 rfl ?_
  refine x_callV (ar := 1) (q := (RX11, TX11, 22)) (rest := []) C (c_X11_isPlayer C.2.2.2.2.2.2.1  rfl) (iM 0 (by decide)) rfl rfl hy_X11_isPlayer ⟨tw924, tw926, tw42, tw75, tw927⟩ (by decide) (by decide) rfl rfl (Nat.le_of_ble_eq_true rfl) dX11_odds_2 ?_
  show Wx LM K σ 5 [(0, .ref (kad K 0)), (1, .int a1), (2, .int a2)] [.int (X11_isPlayer σ a1)]
  refine x_ifeq C 30 dX11_odds_5 (by decide) (fun c3 => ?_) (fun c3 => ?_)
  · replace h0 := ob_pos c3 h0
    refine x_iconst (v := (-1)) C dX11_odds_30 rfl ?_
    cases h0
    exact x_iret C R dX11_odds_31
  · replace h0 := ob_neg c3 h0
    refine x_iload_n C 2 dX11_odds_8 rfl ?_
    refine x_i2l C dX11_odds_9 ?_
    refine x_lconst (v := 0) C dX11_odds_10 rfl ?_
    refine x_ldc2 C tw882 dX11_odds_11 ?_
    refine x_callS (ar := 3) (rest := []) C (c_X11_in C.2.2.2.2.2.2.1  rfl) hy_X11_in ⟨tw839, tw840, tw75, tw841⟩ (by decide) (by decide) rfl rfl (Nat.le_of_ble_eq_true rfl) dX11_odds_14 ?_
    show Wx LM K σ 17 [(0, .ref (kad K 0)), (1, .int a1), (2, .int a2)] [.int (X11_in ((a2).toInt64) (0) (3))]
    refine x_ifeq C 30 dX11_odds_17 (by decide) (fun c6 => ?_) (fun c6 => ?_)
    · replace h0 := ob_pos c6 h0
      refine x_iconst (v := (-1)) C dX11_odds_30 rfl ?_
      cases h0
      exact x_iret C R dX11_odds_31
    · replace h0 := ob_neg c6 h0
      refine x_aload_n C 0 dX11_odds_20 rfl ?_
      refine x_iload_n C 1 dX11_odds_21 rfl ?_
      refine x_iload_n C 2 dX11_odds_22 rfl ?_
      refine x_iconst (v := 0) C dX11_odds_23 rfl ?_
      obtain ⟨r7, s9, g8, h0⟩ := ob_bd h0
      refine x_callV (ar := 3) (q := (RX11, TX11, 22)) (rest := []) C (c_X11_lot C.2.2.2.2.2.2.1  g8) (iM 0 (by decide)) rfl rfl hy_X11_lot ⟨tw1071, tw1073, tw56, tw75, tw1074⟩ (by decide) (by decide) rfl rfl (Nat.le_of_ble_eq_true rfl) dX11_odds_24 ?_
      show Wx LM K s9 27 [(0, .ref (kad K 0)), (1, .int a1), (2, .int a2)] [.int r7]
      refine x_goto C 31 dX11_odds_27 (by decide) ?_
      cases h0
      exact x_iret C R dX11_odds_31
set_option maxHeartbeats 4000000 in
set_option maxRecDepth 100000 in
theorem c_X11_mid {l : Launch} {D : va_G} {ad : Nat → Nat} {cy : Nat → ClassId} (hJ : mJ LM ad) {σ τ : mS} {a1 : Int32} {a2 : Int32} {r : Int32}  (h0 : X11_mid σ a1 a2 = some (r, τ)) : MetG l LM D ad cy yX11_mid cX11_mid 3 (some .int) 5 [.ref (ad 0), .int a1, .int a2] σ (some (.int r)) τ := by
  refine MetG.of hJ (by decide +kernel) [(0, .ref (ad 0)), (1, .int a1), (2, .int a2)] rfl (Nat.le_of_ble_eq_true rfl) ?_
  intro K e1 e2 e3 e4 e5 C R
  subst e1
  subst e2
  subst e3
  subst e4
  unfold X11_mid at h0
  refine x_aload_n C 0 dX11_mid_0 rfl ?_
  refine x_iload_n C 1 dX11_mid_1 rfl ?_
  refine x_callV (ar := 1) (q := (RX11, TX11, 22)) (rest := []) C (c_X11_isPlayer C.2.2.2.2.2.2.1  rfl) (iM 0 (by decide)) rfl rfl hy_X11_isPlayer ⟨tw924, tw926, tw42, tw75, tw927⟩ (by decide) (by decide) rfl rfl (Nat.le_of_ble_eq_true rfl) dX11_mid_2 ?_
  show Wx LM K σ 5 [(0, .ref (kad K 0)), (1, .int a1), (2, .int a2)] [.int (X11_isPlayer σ a1)]
  refine x_ifeq C 30 dX11_mid_5 (by decide) (fun c3 => ?_) (fun c3 => ?_)
  · replace h0 := ob_pos c3 h0
    refine x_iconst (v := (-1)) C dX11_mid_30 rfl ?_
    cases h0
    exact x_iret C R dX11_mid_31
  · replace h0 := ob_neg c3 h0
    refine x_iload_n C 2 dX11_mid_8 rfl ?_
    refine x_i2l C dX11_mid_9 ?_
    refine x_lconst (v := 0) C dX11_mid_10 rfl ?_
    refine x_ldc2 C tw882 dX11_mid_11 ?_
    refine x_callS (ar := 3) (rest := []) C (c_X11_in C.2.2.2.2.2.2.1  rfl) hy_X11_in ⟨tw839, tw840, tw75, tw841⟩ (by decide) (by decide) rfl rfl (Nat.le_of_ble_eq_true rfl) dX11_mid_14 ?_
    show Wx LM K σ 17 [(0, .ref (kad K 0)), (1, .int a1), (2, .int a2)] [.int (X11_in ((a2).toInt64) (0) (3))]
    refine x_ifeq C 30 dX11_mid_17 (by decide) (fun c6 => ?_) (fun c6 => ?_)
    · replace h0 := ob_pos c6 h0
      refine x_iconst (v := (-1)) C dX11_mid_30 rfl ?_
      cases h0
      exact x_iret C R dX11_mid_31
    · replace h0 := ob_neg c6 h0
      refine x_aload_n C 0 dX11_mid_20 rfl ?_
      refine x_iload_n C 1 dX11_mid_21 rfl ?_
      refine x_iload_n C 2 dX11_mid_22 rfl ?_
      refine x_iconst (v := 1) C dX11_mid_23 rfl ?_
      obtain ⟨r7, s9, g8, h0⟩ := ob_bd h0
      refine x_callV (ar := 3) (q := (RX11, TX11, 22)) (rest := []) C (c_X11_lot C.2.2.2.2.2.2.1  g8) (iM 0 (by decide)) rfl rfl hy_X11_lot ⟨tw1071, tw1073, tw56, tw75, tw1074⟩ (by decide) (by decide) rfl rfl (Nat.le_of_ble_eq_true rfl) dX11_mid_24 ?_
      show Wx LM K s9 27 [(0, .ref (kad K 0)), (1, .int a1), (2, .int a2)] [.int r7]
      refine x_goto C 31 dX11_mid_27 (by decide) ?_
      cases h0
      exact x_iret C R dX11_mid_31
set_option maxHeartbeats 4000000 in
set_option maxRecDepth 100000 in
theorem c_X11_lots {l : Launch} {D : va_G} {ad : Nat → Nat} {cy : Nat → ClassId} (hJ : mJ LM ad) {σ τ : mS} {a1 : Int32} {a2 : Int32} {r : Int32}  (h0 : X11_lots σ a1 a2 = some (r, τ)) : MetG l LM D ad cy yX11_lots cX11_lots 8 (some .int) 3 [.ref (ad 0), .int a1, .int a2] σ (some (.int r)) τ := by
  refine MetG.of hJ (by decide +kernel) [(0, .ref (ad 0)), (1, .int a1), (2, .int a2)] rfl (Nat.le_of_ble_eq_true rfl) ?_
  intro K e1 e2 e3 e4 e5 C R
  subst e1
  subst e2
  subst e3
  subst e4
  unfold X11_lots at h0
  refine x_iload_n C 1 dX11_lots_0 rfl ?_
  refine x_i2l C dX11_lots_1 ?_
  refine x_lconst (v := 1) C dX11_lots_2 rfl ?_
  refine x_ldc2 C tw1087 dX11_lots_3 ?_
  refine x_callS (ar := 3) (rest := []) C (c_X11_in C.2.2.2.2.2.2.1  rfl) hy_X11_in ⟨tw839, tw840, tw75, tw841⟩ (by decide) (by decide) rfl rfl (Nat.le_of_ble_eq_true rfl) dX11_lots_6 ?_
  show Wx LM K σ 9 [(0, .ref (kad K 0)), (1, .int a1), (2, .int a2)] [.int (X11_in ((a1).toInt64) (1) (20))]
  refine x_ifeq C 24 dX11_lots_9 (by decide) (fun c3 => ?_) (fun c3 => ?_)
  · replace h0 := ob_pos c3 h0
    refine x_iconst (v := (-1)) C dX11_lots_24 rfl ?_
    cases h0
    exact x_iret C R dX11_lots_25
  · replace h0 := ob_neg c3 h0
    refine x_iload_n C 2 dX11_lots_12 rfl ?_
    refine x_i2l C dX11_lots_13 ?_
    refine x_lconst (v := 1) C dX11_lots_14 rfl ?_
    refine x_ldc2 C tw1088 dX11_lots_15 ?_
    refine x_callS (ar := 3) (rest := []) C (c_X11_in C.2.2.2.2.2.2.1  rfl) hy_X11_in ⟨tw839, tw840, tw75, tw841⟩ (by decide) (by decide) rfl rfl (Nat.le_of_ble_eq_true rfl) dX11_lots_18 ?_
    show Wx LM K σ 21 [(0, .ref (kad K 0)), (1, .int a1), (2, .int a2)] [.int (X11_in ((a2).toInt64) (1) (2147483646))]
    refine x_ifne C 26 dX11_lots_21 (by decide) (fun c6 => ?_) (fun c6 => ?_)
    · replace h0 := ob_neg c6 h0
      refine x_aload_n C 0 dX11_lots_26 rfl ?_
      refine x_getI (j := 5) (i := 124) (q := (RX11, TX11, 22)) C (iM 0 (by decide)) rfl rfl inBX11 (by decide) tw768 rfl dX11_lots_27 ?_
      refine x_ifne C 36 dX11_lots_30 (by decide) (fun c8 => ?_) (fun c8 => ?_)
      · replace h0 := ob_neg c8 h0
        refine x_aload_n C 0 dX11_lots_36 rfl ?_
        refine x_getI (j := 12) (i := 127) (q := (RX11, TX11, 22)) C (iM 0 (by decide)) rfl rfl inBX11 (by decide) tw775 rfl dX11_lots_37 ?_
        refine x_iload_n C 1 dX11_lots_40 rfl ?_
        refine x_iadd C dX11_lots_41 ?_
        refine x_bipush (v := 40) C dX11_lots_42 rfl ?_
        refine x_icmple C 50 dX11_lots_44 (by decide) (fun c10 => ?_) (fun c10 => ?_)
        · replace h0 := ob_pos c10 h0
          refine x_iload_n C 2 dX11_lots_50 rfl ?_
          refine x_i2l C dX11_lots_51 ?_
          refine x_lstore_n (lv' := [(3, .long ((a2).toInt64)), (0, .ref (kad K 0)), (1, .int a1), (2, .int a2)]) C dX11_lots_52 (by rw [e5]; decide) rfl ?_
          refine x_iconst (v := 0) C dX11_lots_53 rfl ?_
          refine x_istore (lv' := [(5, .int 0), (3, .long ((a2).toInt64)), (0, .ref (kad K 0)), (1, .int a1), (2, .int a2)]) C dX11_lots_54 (by rw [e5]; decide) rfl ?_
          obtain ⟨e43, g44, h0⟩ := ob_bind h0
          have J1 : ∀ (s14 : mS), s14 = e43 → Wx LM K s14 179 [(0, .ref (kad K 0))] [] := by
            intro s14 e9
            subst e9
            replace h0 := un1_l h0
            refine x_aload_n C 0 dX11_lots_179 rfl ?_
            refine x_getR (j := 11) (i := 38) (q := (RX11, TX11, 22)) C 10 (iM 0 (by decide)) rfl rfl inBX11 (by decide) tw774 rfl dX11_lots_180 ?_
            refine x_iconst (v := 4) C dX11_lots_183 rfl ?_
            obtain ⟨c15, h0⟩ := ob_if h0
            refine x_iald C (iM 10 (by decide)) rfl (vin_in c15) dX11_lots_184 ?_
            cases h0
            exact x_iret C R dX11_lots_185
          refine x_lv (lv' := [(5, .int 0), (3, .long ((a2).toInt64)), (0, .ref (kad K 0)), (1, .int a1)]) [0, 1, 2, 3] rfl ?_
          refine lp_G (G := fun q : mS × Int64 × Int32 => Wx LM K q.1 56 [(5, .int q.2.2), (3, .long q.2.1), (0, .ref (kad K 0)), (1, .int a1)] []) (fun q x h1 ihL1 ihR1 => ?_) big _ g44
          obtain ⟨s11, x12, x13⟩ := q
          replace h1 : X11_lots_b56 a1 s11 x12 x13 = some x := h1
          unfold X11_lots_b56 at h1
          show Wx LM K s11 56 [(5, .int x13), (3, .long x12), (0, .ref (kad K 0)), (1, .int a1)] []
          refine x_iload C 0 dX11_lots_56 rfl ?_
          refine x_iload_n C 3 dX11_lots_58 rfl ?_
          refine x_icmpge C 179 dX11_lots_59 (by decide) (fun c17 => ?_) (fun c17 => ?_)
          · replace h1 := ob_pos c17 h1
            refine x_lv (lv' := [(0, .ref (kad K 0))]) [2] rfl ?_
            exact J1 _ (ihR1 _ (Option.some.inj h1).symm)
          · replace h1 := ob_neg c17 h1
            refine x_lload_n C 1 dX11_lots_62 rfl ?_
            refine x_ldc2 C tw1089 dX11_lots_63 ?_
            refine x_lmul C dX11_lots_66 ?_
            refine x_ldc2 C tw1090 dX11_lots_67 ?_
            refine x_lrem C dX11_lots_70 (by decide) ?_
            refine x_lstore_n (lv' := [(3, .long ((x12 * 48271) - (x12 * 48271) / 2147483647 * 2147483647)), (5, .int x13), (0, .ref (kad K 0)), (1, .int a1)]) C dX11_lots_71 (by rw [e5]; decide) rfl ?_
            refine x_lload_n C 0 dX11_lots_72 rfl ?_
            refine x_l2i C dX11_lots_73 ?_
            refine x_istore (lv' := [(6, .int ((((x12 * 48271) - (x12 * 48271) / 2147483647 * 2147483647)).toInt32)), (3, .long ((x12 * 48271) - (x12 * 48271) / 2147483647 * 2147483647)), (5, .int x13), (0, .ref (kad K 0)), (1, .int a1)]) C dX11_lots_74 (by rw [e5]; decide) rfl ?_
            refine x_aload_n C 3 dX11_lots_76 rfl ?_
            obtain ⟨r18, s20, g19, h1⟩ := ob_bd h1
            refine x_callV (ar := 0) (q := (RX11, TX11, 22)) (rest := []) C (c_X11_known C.2.2.2.2.2.2.1  g19) (iM 0 (by decide)) rfl rfl hy_X11_known ⟨tw964, tw966, tw45, tw75, tw967⟩ (by decide) (by decide) rfl rfl (Nat.le_of_ble_eq_true rfl) dX11_lots_77 ?_
            show Wx LM K s20 80 [(6, .int ((((x12 * 48271) - (x12 * 48271) / 2147483647 * 2147483647)).toInt32)), (3, .long ((x12 * 48271) - (x12 * 48271) / 2147483647 * 2147483647)), (5, .int x13), (0, .ref (kad K 0)), (1, .int a1)] []
            refine x_iload C 0 dX11_lots_80 rfl ?_
            refine x_bipush (v := 8) C dX11_lots_82 rfl ?_
            refine x_idiv C dX11_lots_84 (by decide) ?_
            refine x_bipush (v := 8) C dX11_lots_85 rfl ?_
            refine x_irem C dX11_lots_87 (by decide) ?_
            refine x_bipush (v := 7) C dX11_lots_88 rfl ?_
            refine x_icmpeq C 102 dX11_lots_90 (by decide) (fun c22 => ?_) (fun c22 => ?_)
            · replace h1 := ob_pos c22 h1
              refine x_aload_n C 3 dX11_lots_102 rfl ?_
              refine x_getR (j := 11) (i := 38) (q := (RX11, TX11, 22)) C 10 (iM 0 (by decide)) rfl rfl inBX11 (by decide) tw774 rfl dX11_lots_103 ?_
              refine x_iload C 0 dX11_lots_106 rfl ?_
              refine x_aload_n C 3 dX11_lots_108 rfl ?_
              refine x_getI (j := 5) (i := 124) (q := (RX11, TX11, 22)) C (iM 0 (by decide)) rfl rfl inBX11 (by decide) tw768 rfl dX11_lots_109 ?_
              obtain ⟨c23, h1⟩ := ob_if h1
              refine x_irem C dX11_lots_112 c23 ?_
              refine x_dup2 C dX11_lots_113 rfl rfl ?_
              obtain ⟨c24, h1⟩ := ob_if h1
              refine x_iald C (iM 10 (by decide)) rfl (vin_in c24) dX11_lots_114 ?_
              refine x_iconst (v := 1) C dX11_lots_115 rfl ?_
              refine x_iload C 0 dX11_lots_116 rfl ?_
              refine x_bipush (v := 64) C dX11_lots_118 rfl ?_
              refine x_idiv C dX11_lots_120 (by decide) ?_
              refine x_bipush (v := 6) C dX11_lots_121 rfl ?_
              refine x_irem C dX11_lots_123 (by decide) ?_
              refine x_ishl C dX11_lots_124 ?_
              refine x_ixor C dX11_lots_125 ?_
              obtain ⟨c25, h1⟩ := ob_if h1
              refine x_iast C (iM 10 (by decide)) rfl (vin_in c25) dX11_lots_126 ?_
              refine x_goto C 173 dX11_lots_127 (by decide) ?_
              refine x_iinc (v := (x13 + 1)) (lv' := [(5, .int (x13 + 1)), (6, .int ((((x12 * 48271) - (x12 * 48271) / 2147483647 * 2147483647)).toInt32)), (3, .long ((x12 * 48271) - (x12 * 48271) / 2147483647 * 2147483647)), (0, .ref (kad K 0)), (1, .int a1)]) C 2 dX11_lots_173 rfl rfl (by rw [e5]; decide) rfl ?_
              refine x_goto C 56 dX11_lots_176 (by decide) ?_
              refine x_lv (lv' := [(5, .int (x13 + 1)), (3, .long ((x12 * 48271) - (x12 * 48271) / 2147483647 * 2147483647)), (0, .ref (kad K 0)), (1, .int a1)]) [0, 2, 3, 4] rfl ?_
              exact ihL1 _ (Option.some.inj h1).symm
            · replace h1 := ob_neg c22 h1
              refine x_aload_n C 3 dX11_lots_93 rfl ?_
              refine x_getR (j := 11) (i := 38) (q := (RX11, TX11, 22)) C 10 (iM 0 (by decide)) rfl rfl inBX11 (by decide) tw774 rfl dX11_lots_94 ?_
              refine x_iconst (v := 5) C dX11_lots_97 rfl ?_
              obtain ⟨c26, h1⟩ := ob_if h1
              refine x_iald C (iM 10 (by decide)) rfl (vin_in c26) dX11_lots_98 ?_
              refine x_ifne C 130 dX11_lots_99 (by decide) (fun c28 => ?_) (fun c28 => ?_)
              · replace h1 := ob_neg c28 h1
                refine x_iload C 0 dX11_lots_130 rfl ?_
                refine x_bipush (v := 12) C dX11_lots_132 rfl ?_
                refine x_irem C dX11_lots_134 (by decide) ?_
                refine x_iconst (v := 1) C dX11_lots_135 rfl ?_
                refine x_iadd C dX11_lots_136 ?_
                refine x_istore (lv' := [(7, .int (((((x12 * 48271) - (x12 * 48271) / 2147483647 * 2147483647)).toInt32 - (((x12 * 48271) - (x12 * 48271) / 2147483647 * 2147483647)).toInt32 / 12 * 12) + 1)), (6, .int ((((x12 * 48271) - (x12 * 48271) / 2147483647 * 2147483647)).toInt32)), (3, .long ((x12 * 48271) - (x12 * 48271) / 2147483647 * 2147483647)), (5, .int x13), (0, .ref (kad K 0)), (1, .int a1)]) C dX11_lots_137 (by rw [e5]; decide) rfl ?_
                obtain ⟨e38, g39, h1⟩ := ob_bind h1
                have J2 : ∀ (y30 : Int32), y30 = e38 → Wx LM K s20 165 [(7, .int y30), (3, .long ((x12 * 48271) - (x12 * 48271) / 2147483647 * 2147483647)), (5, .int x13), (0, .ref (kad K 0)), (1, .int a1)] [] := by
                  intro y30 e9
                  subst e9
                  replace h1 := un1_l h1
                  refine x_aload_n C 3 dX11_lots_165 rfl ?_
                  refine x_iconst (v := 0) C dX11_lots_166 rfl ?_
                  refine x_iload C 0 dX11_lots_167 rfl ?_
                  obtain ⟨r31, s33, g32, h1⟩ := ob_bd h1
                  refine x_callV (ar := 2) (q := (RX11, TX11, 22)) (rest := []) C (c_X11_calls C.2.2.2.2.2.2.1  g32) (iM 0 (by decide)) rfl rfl hy_X11_calls ⟨tw972, tw974, tw47, tw75, tw975⟩ (by decide) (by decide) rfl rfl (Nat.le_of_ble_eq_true rfl) dX11_lots_169 ?_
                  show Wx LM K s33 172 [(7, .int y30), (3, .long ((x12 * 48271) - (x12 * 48271) / 2147483647 * 2147483647)), (5, .int x13), (0, .ref (kad K 0)), (1, .int a1)] [.int r31]
                  refine x_pop C dX11_lots_172 rfl ?_
                  refine x_iinc (v := (x13 + 1)) (lv' := [(5, .int (x13 + 1)), (7, .int y30), (3, .long ((x12 * 48271) - (x12 * 48271) / 2147483647 * 2147483647)), (0, .ref (kad K 0)), (1, .int a1)]) C 2 dX11_lots_173 rfl rfl (by rw [e5]; decide) rfl ?_
                  refine x_goto C 56 dX11_lots_176 (by decide) ?_
                  refine x_lv (lv' := [(5, .int (x13 + 1)), (3, .long ((x12 * 48271) - (x12 * 48271) / 2147483647 * 2147483647)), (0, .ref (kad K 0)), (1, .int a1)]) [0, 2, 3, 4] rfl ?_
                  exact ihL1 _ (Option.some.inj h1).symm
                refine x_lv (lv' := [(7, .int (((((x12 * 48271) - (x12 * 48271) / 2147483647 * 2147483647)).toInt32 - (((x12 * 48271) - (x12 * 48271) / 2147483647 * 2147483647)).toInt32 / 12 * 12) + 1)), (3, .long ((x12 * 48271) - (x12 * 48271) / 2147483647 * 2147483647)), (5, .int x13), (0, .ref (kad K 0)), (1, .int a1)]) [0, 2, 3, 4, 5] rfl ?_
                refine lp_G (G := fun q : Int32 => Wx LM K s20 139 [(7, .int q), (3, .long ((x12 * 48271) - (x12 * 48271) / 2147483647 * 2147483647)), (5, .int x13), (0, .ref (kad K 0)), (1, .int a1)] []) (fun q x h2 ihL2 ihR2 => ?_) big _ g39
                obtain ⟨x29, rfl⟩ : ∃ z, z = q := ⟨_, rfl⟩
                replace h2 : X11_lots_b139 s20 x29 = some x := h2
                unfold X11_lots_b139 at h2
                show Wx LM K s20 139 [(7, .int x29), (3, .long ((x12 * 48271) - (x12 * 48271) / 2147483647 * 2147483647)), (5, .int x13), (0, .ref (kad K 0)), (1, .int a1)] []
                refine x_aload_n C 3 dX11_lots_139 rfl ?_
                refine x_getR (j := 11) (i := 38) (q := (RX11, TX11, 22)) C 10 (iM 0 (by decide)) rfl rfl inBX11 (by decide) tw774 rfl dX11_lots_140 ?_
                refine x_iconst (v := 5) C dX11_lots_143 rfl ?_
                obtain ⟨c34, h2⟩ := ob_if h2
                refine x_iald C (iM 10 (by decide)) rfl (vin_in c34) dX11_lots_144 ?_
                refine x_iload C 0 dX11_lots_145 rfl ?_
                refine x_callS (ar := 2) (rest := []) C (c_X11_has C.2.2.2.2.2.2.1  rfl) hy_X11_has ⟨tw957, tw958, tw75, tw959⟩ (by decide) (by decide) rfl rfl (Nat.le_of_ble_eq_true rfl) dX11_lots_147 ?_
                show Wx LM K s20 150 [(7, .int x29), (3, .long ((x12 * 48271) - (x12 * 48271) / 2147483647 * 2147483647)), (5, .int x13), (0, .ref (kad K 0)), (1, .int a1)] [.int (X11_has (s20.1 10 (5 : Int32).toNatClampNeg) x29)]
                refine x_ifne C 165 dX11_lots_150 (by decide) (fun c37 => ?_) (fun c37 => ?_)
                · replace h2 := ob_neg c37 h2
                  refine x_lv (lv' := [(7, .int x29), (3, .long ((x12 * 48271) - (x12 * 48271) / 2147483647 * 2147483647)), (5, .int x13), (0, .ref (kad K 0)), (1, .int a1)]) [0, 1, 2, 3, 4] rfl ?_
                  exact J2 _ (ihR2 _ (Option.some.inj h2).symm)
                · replace h2 := ob_pos c37 h2
                  refine x_iload C 0 dX11_lots_153 rfl ?_
                  refine x_bipush (v := 12) C dX11_lots_155 rfl ?_
                  refine x_irem C dX11_lots_157 (by decide) ?_
                  refine x_iconst (v := 1) C dX11_lots_158 rfl ?_
                  refine x_iadd C dX11_lots_159 ?_
                  refine x_istore (lv' := [(7, .int ((x29 - x29 / 12 * 12) + 1)), (3, .long ((x12 * 48271) - (x12 * 48271) / 2147483647 * 2147483647)), (5, .int x13), (0, .ref (kad K 0)), (1, .int a1)]) C dX11_lots_160 (by rw [e5]; decide) rfl ?_
                  refine x_goto C 139 dX11_lots_162 (by decide) ?_
                  refine x_lv (lv' := [(7, .int ((x29 - x29 / 12 * 12) + 1)), (3, .long ((x12 * 48271) - (x12 * 48271) / 2147483647 * 2147483647)), (5, .int x13), (0, .ref (kad K 0)), (1, .int a1)]) [0, 1, 2, 3, 4] rfl ?_
                  exact ihL2 _ (Option.some.inj h2).symm
              · replace h1 := ob_pos c28 h1
                refine x_aload_n C 3 dX11_lots_102 rfl ?_
                refine x_getR (j := 11) (i := 38) (q := (RX11, TX11, 22)) C 10 (iM 0 (by decide)) rfl rfl inBX11 (by decide) tw774 rfl dX11_lots_103 ?_
                refine x_iload C 0 dX11_lots_106 rfl ?_
                refine x_aload_n C 3 dX11_lots_108 rfl ?_
                refine x_getI (j := 5) (i := 124) (q := (RX11, TX11, 22)) C (iM 0 (by decide)) rfl rfl inBX11 (by decide) tw768 rfl dX11_lots_109 ?_
                obtain ⟨c40, h1⟩ := ob_if h1
                refine x_irem C dX11_lots_112 c40 ?_
                refine x_dup2 C dX11_lots_113 rfl rfl ?_
                obtain ⟨c41, h1⟩ := ob_if h1
                refine x_iald C (iM 10 (by decide)) rfl (vin_in c41) dX11_lots_114 ?_
                refine x_iconst (v := 1) C dX11_lots_115 rfl ?_
                refine x_iload C 0 dX11_lots_116 rfl ?_
                refine x_bipush (v := 64) C dX11_lots_118 rfl ?_
                refine x_idiv C dX11_lots_120 (by decide) ?_
                refine x_bipush (v := 6) C dX11_lots_121 rfl ?_
                refine x_irem C dX11_lots_123 (by decide) ?_
                refine x_ishl C dX11_lots_124 ?_
                refine x_ixor C dX11_lots_125 ?_
                obtain ⟨c42, h1⟩ := ob_if h1
                refine x_iast C (iM 10 (by decide)) rfl (vin_in c42) dX11_lots_126 ?_
                refine x_goto C 173 dX11_lots_127 (by decide) ?_
                refine x_iinc (v := (x13 + 1)) (lv' := [(5, .int (x13 + 1)), (6, .int ((((x12 * 48271) - (x12 * 48271) / 2147483647 * 2147483647)).toInt32)), (3, .long ((x12 * 48271) - (x12 * 48271) / 2147483647 * 2147483647)), (0, .ref (kad K 0)), (1, .int a1)]) C 2 dX11_lots_173 rfl rfl (by rw [e5]; decide) rfl ?_
                refine x_goto C 56 dX11_lots_176 (by decide) ?_
                refine x_lv (lv' := [(5, .int (x13 + 1)), (3, .long ((x12 * 48271) - (x12 * 48271) / 2147483647 * 2147483647)), (0, .ref (kad K 0)), (1, .int a1)]) [0, 2, 3, 4] rfl ?_
                exact ihL1 _ (Option.some.inj h1).symm
        · replace h0 := ob_neg c10 h0
          refine x_bipush (v := (-2)) C dX11_lots_47 rfl ?_
          cases h0
          exact x_iret C R dX11_lots_49
      · replace h0 := ob_pos c8 h0
        refine x_bipush (v := (-4)) C dX11_lots_33 rfl ?_
        cases h0
        exact x_iret C R dX11_lots_35
    · replace h0 := ob_pos c6 h0
      refine x_iconst (v := (-1)) C dX11_lots_24 rfl ?_
      cases h0
      exact x_iret C R dX11_lots_25
set_option maxHeartbeats 4000000 in
set_option maxRecDepth 100000 in
theorem c_X11_asked {l : Launch} {D : va_G} {ad : Nat → Nat} {cy : Nat → ClassId} (hJ : mJ LM ad) {σ : mS}  {r : Int32}  (h0 : X11_asked σ = r) : MetG l LM D ad cy yX11_asked cX11_asked 1 (some .int) 0 [.ref (ad 0)] σ (some (.int r)) σ := by
  refine MetG.of hJ (by decide +kernel) [(0, .ref (ad 0))] rfl (Nat.le_of_ble_eq_true rfl) ?_
  intro K e1 e2 e3 e4 e5 C R
  subst e1
  subst e2
  subst e3
  subst e4
  unfold X11_asked at h0
  refine x_aload_n C 0 dX11_asked_0 rfl ?_
  refine x_getI (j := 14) (i := 64) (q := (RX11, TX11, 22)) C (iM 0 (by decide)) rfl rfl inBX11 (by decide) tw777 rfl dX11_asked_1 ?_
  subst h0
  exact x_iret C R dX11_asked_4
set_option maxHeartbeats 4000000 in
set_option maxRecDepth 100000 in
theorem c_X11_upper {l : Launch} {D : va_G} {ad : Nat → Nat} {cy : Nat → ClassId} (hJ : mJ LM ad) {σ : mS}  {r : Int64}  (h0 : X11_upper σ = r) : MetG l LM D ad cy yX11_upper cX11_upper 1 (some .long) 0 [.ref (ad 0)] σ (some (.long r)) σ := by
  refine MetG.of hJ (by decide +kernel) [(0, .ref (ad 0))] rfl (Nat.le_of_ble_eq_true rfl) ?_
  intro K e1 e2 e3 e4 e5 C R
  subst e1
  subst e2
  subst e3
  subst e4
  unfold X11_upper at h0
  refine x_aload_n C 0 dX11_upper_0 rfl ?_
  refine x_getL (j := 15) (i := 204) (q := (RX11, TX11, 22)) C (iM 0 (by decide)) rfl rfl inBX11 (by decide) tw778 rfl dX11_upper_1 ?_
  subst h0
  exact x_lret C R dX11_upper_4
set_option maxHeartbeats 4000000 in
set_option maxRecDepth 100000 in
theorem c_X11_lower {l : Launch} {D : va_G} {ad : Nat → Nat} {cy : Nat → ClassId} (hJ : mJ LM ad) {σ : mS}  {r : Int64}  (h0 : X11_lower σ = r) : MetG l LM D ad cy yX11_lower cX11_lower 1 (some .long) 0 [.ref (ad 0)] σ (some (.long r)) σ := by
  refine MetG.of hJ (by decide +kernel) [(0, .ref (ad 0))] rfl (Nat.le_of_ble_eq_true rfl) ?_
  intro K e1 e2 e3 e4 e5 C R
  subst e1
  subst e2
  subst e3
  subst e4
  unfold X11_lower at h0
  refine x_aload_n C 0 dX11_lower_0 rfl ?_
  refine x_getL (j := 16) (i := 44) (q := (RX11, TX11, 22)) C (iM 0 (by decide)) rfl rfl inBX11 (by decide) tw779 rfl dX11_lower_1 ?_
  subst h0
  exact x_lret C R dX11_lower_4
