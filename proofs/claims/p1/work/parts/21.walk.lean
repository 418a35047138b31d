set_option maxHeartbeats 4000000 in
set_option maxRecDepth 100000 in
theorem c_X10_found {l : Launch} {D : va_G} {ad : Nat → Nat} {cy : Nat → ClassId} (hJ : mJ LX ad) {σ τ : mS} {a1 : Int32} {r : Int32}  (h0 : X10_found σ a1 = some (r, τ)) : MetG l LX D ad cy yX10_found cX10_found 2 (some .int) 0 [.ref (ad 0), .int a1] σ (some (.int r)) τ := by
  refine MetG.of hJ (by decide +kernel) [(0, .ref (ad 0)), (1, .int a1)] rfl (Nat.le_of_ble_eq_true rfl) ?_
  intro K e1 e2 e3 e4 e5 C R
  subst e1
  subst e2
  subst e3
  subst e4
  unfold X10_found at h0
  refine x_aload_n C 0 dX10_found_0 rfl ?_
  refine x_iload_n C 1 dX10_found_1 rfl ?_
  refine x_putI (j := 16) (i := 304) (q := (RX10, TX10, 18)) C tyX10 tyX10_ok nmX10 (iX 0 (by decide)) rfl rfl inBX10 (by decide) tw251 rfl (by decide +kernel) rfl dX10_found_2 ?_
  refine x_aload_n C 0 dX10_found_5 rfl ?_
  refine x_getR (j := 17) (i := 74) (q := (RX10, TX10, 18)) C 208 (iX 0 (by decide)) rfl rfl inBX10 (by decide) tw252 rfl dX10_found_6 ?_
  refine x_iload_n C 1 dX10_found_9 rfl ?_
  refine x_dup2 C dX10_found_10 rfl rfl ?_
  obtain ⟨c1, h0⟩ := ob_if h0
  refine x_iald C (iX 208 (by decide)) rfl (vin_in c1) dX10_found_11 ?_
  refine x_iconst (v := 1) C dX10_found_12 rfl ?_
  refine x_iadd C dX10_found_13 ?_
  obtain ⟨c2, h0⟩ := ob_if h0
  refine x_iast C (iX 208 (by decide)) rfl (vin_in c2) dX10_found_14 ?_
  refine x_bipush (v := (-3)) C dX10_found_15 rfl ?_
  cases h0
  exact x_iret C R dX10_found_17
set_option maxHeartbeats 4000000 in
set_option maxRecDepth 100000 in
theorem c_X10_isRow {l : Launch} {D : va_G} {ad : Nat → Nat} {cy : Nat → ClassId} (hJ : mJ LX ad) {σ : mS} {a1 : Int32} {r : Int32}  (h0 : X10_isRow a1 = r) : MetG l LX D ad cy yX10_isRow cX10_isRow 2 (some .boolean) 0 [.ref (ad 0), .int a1] σ (some (.int r)) σ := by
  refine MetG.of hJ (by decide +kernel) [(0, .ref (ad 0)), (1, .int a1)] rfl (Nat.le_of_ble_eq_true rfl) ?_
  intro K e1 e2 e3 e4 e5 C R
  subst e1
  subst e2
  subst e3
  subst e4
  unfold X10_isRow at h0
  refine x_iload_n C 1 dX10_isRow_0 rfl ?_
  refine x_iflt C 14 dX10_isRow_1 (by decide) (fun c1 => ?_) (fun c1 => ?_)
  · replace h0 := ob_pos c1 h0
    refine x_iconst (v := 0) C dX10_isRow_14 rfl ?_
    subst h0
    exact x_zret C (Or.inl rfl) R dX10_isRow_15
  · replace h0 := ob_neg c1 h0
    refine x_iload_n C 1 dX10_isRow_4 rfl ?_
    refine x_bipush (v := 6) C dX10_isRow_5 rfl ?_
    refine x_icmpge C 14 dX10_isRow_7 (by decide) (fun c2 => ?_) (fun c2 => ?_)
    · replace h0 := ob_pos c2 h0
      refine x_iconst (v := 0) C dX10_isRow_14 rfl ?_
      subst h0
      exact x_zret C (Or.inl rfl) R dX10_isRow_15
    · replace h0 := ob_neg c2 h0
      refine x_iconst (v := 1) C dX10_isRow_10 rfl ?_
      refine x_goto C 15 dX10_isRow_11 (by decide) ?_
      subst h0
      exact x_zret C (Or.inr rfl) R dX10_isRow_15
set_option maxHeartbeats 4000000 in
set_option maxRecDepth 100000 in
theorem c_J7_fill_53178 {l : Launch} {Y : mY} {D : va_G} {ad : Nat → Nat} {cy : Nat → ClassId} (hJ : mJ Y ad) {σ τ : mS} {k : Nat} {z : Nat} {a2 : Int32} {r : Unit} (hk : k ∈ Y.1) (hd : Y.2 k = .inr (.inl (0, z))) (h0 : J7_fill_53178 σ k z a2 = some (r, τ)) : MetG l Y D ad cy yJ7_fill_53178 cJ7_fill_53178 4 none 0 [.ref (ad k), .int a2] σ (none) τ := by
  refine MetG.of hJ (by decide +kernel) [(0, .ref (ad k)), (1, .int a2)] rfl (Nat.le_of_ble_eq_true rfl) ?_
  intro K e1 e2 e3 e4 e5 C R
  subst e1
  subst e2
  subst e3
  subst e4
  unfold J7_fill_53178 at h0
  refine x_iconst (v := 0) C dJ7_fill_53178_0 rfl ?_
  refine x_istore_n (lv' := [(2, .int 0), (0, .ref (kad K k)), (1, .int a2)]) C dJ7_fill_53178_1 (by rw [e5]; decide) rfl ?_
  refine x_aload_n C 1 dJ7_fill_53178_2 rfl ?_
  refine x_alen (b := 0) C hk hd rfl rfl dJ7_fill_53178_3 ?_
  refine x_istore_n (lv' := [(3, .int (Int32.ofNat z)), (2, .int 0), (0, .ref (kad K k)), (1, .int a2)]) C dJ7_fill_53178_4 (by rw [e5]; decide) rfl ?_
  obtain ⟨e6, g7, h0⟩ := ob_bind h0
  have J1 : ∀ (s3 : mS), s3 = e6 → Wx Y K s3 20 [] [] := by
    intro s3 e9
    subst e9
    replace h0 := un1_l h0
    cases h0
    exact x_vret C R dJ7_fill_53178_20
  refine lp_G (G := fun q : mS × Int32 => Wx Y K q.1 5 [(3, .int (Int32.ofNat z)), (2, .int q.2), (0, .ref (kad K k)), (1, .int a2)] []) (fun q x h1 ihL1 ihR1 => ?_) big _ g7
  obtain ⟨s1, x2⟩ := q
  replace h1 : J7_fill_53178_b5 k z a2 s1 x2 = some x := h1
  unfold J7_fill_53178_b5 at h1
  show Wx Y K s1 5 [(3, .int (Int32.ofNat z)), (2, .int x2), (0, .ref (kad K k)), (1, .int a2)] []
  refine x_iload_n C 1 dJ7_fill_53178_5 rfl ?_
  refine x_iload_n C 0 dJ7_fill_53178_6 rfl ?_
  refine x_icmpge C 20 dJ7_fill_53178_7 (by decide) (fun c4 => ?_) (fun c4 => ?_)
  · replace h1 := ob_pos c4 h1
    refine x_lv (lv' := []) [] rfl ?_
    exact J1 _ (ihR1 _ (Option.some.inj h1).symm)
  · replace h1 := ob_neg c4 h1
    refine x_aload_n C 2 dJ7_fill_53178_10 rfl ?_
    refine x_iload_n C 1 dJ7_fill_53178_11 rfl ?_
    refine x_iload_n C 3 dJ7_fill_53178_12 rfl ?_
    obtain ⟨c5, h1⟩ := ob_if h1
    refine x_iast C hk hd (vin_in c5) dJ7_fill_53178_13 ?_
    refine x_iinc (v := (x2 + 1)) (lv' := [(2, .int (x2 + 1)), (3, .int (Int32.ofNat z)), (0, .ref (kad K k)), (1, .int a2)]) C 1 dJ7_fill_53178_14 rfl rfl (by rw [e5]; decide) rfl ?_
    refine x_goto C 5 dJ7_fill_53178_17 (by decide) ?_
    refine x_lv (lv' := [(3, .int (Int32.ofNat z)), (2, .int (x2 + 1)), (0, .ref (kad K k)), (1, .int a2)]) [1, 0, 2, 3] rfl ?_
    exact ihL1 _ (Option.some.inj h1).symm
set_option maxHeartbeats 4000000 in
set_option maxRecDepth 100000 in
theorem c_X10_row {l : Launch} {D : va_G} {ad : Nat → Nat} {cy : Nat → ClassId} (hJ : mJ LX ad) {σ τ : mS} {a1 : Int32} {a2 : Int32} {r : Int32}  (h0 : X10_row σ a1 a2 = some (r, τ)) : MetG l LX D ad cy yX10_row cX10_row 3 (some .int) 1 [.ref (ad 0), .int a1, .int a2] σ (some (.int r)) τ := by
  refine MetG.of hJ (by decide +kernel) [(0, .ref (ad 0)), (1, .int a1), (2, .int a2)] rfl (Nat.le_of_ble_eq_true rfl) ?_
  intro K e1 e2 e3 e4 e5 C R
  subst e1
  subst e2
  subst e3
  subst e4
  unfold X10_row at h0
  refine x_aload_n C 0 dX10_row_0 rfl ?_
  refine x_iload_n C 1 dX10_row_1 rfl ?_
  refine x_callV (ar := 1) (q := (RX10, TX10, 18)) (rest := []) C (c_X10_isRow C.2.2.2.2.2.2.1  rfl) (iX 0 (by decide)) rfl rfl hy_X10_isRow ⟨tw294, tw296, tw0, tw63, tw297⟩ (by decide) (by decide) rfl rfl (Nat.le_of_ble_eq_true rfl) dX10_row_2 ?_
  show Wx LX K σ 5 [(0, .ref (kad K 0)), (1, .int a1), (2, .int a2)] [.int (X10_isRow a1)]
  refine x_ifeq C 14 dX10_row_5 (by decide) (fun c2 => ?_) (fun c2 => ?_)
  · replace h0 := ob_pos c2 h0
    refine x_iconst (v := (-1)) C dX10_row_14 rfl ?_
    cases h0
    exact x_iret C R dX10_row_15
  · replace h0 := ob_neg c2 h0
    refine x_iload_n C 2 dX10_row_8 rfl ?_
    refine x_bipush (v := 40) C dX10_row_9 rfl ?_
    refine x_icmple C 16 dX10_row_11 (by decide) (fun c3 => ?_) (fun c3 => ?_)
    · replace h0 := ob_pos c3 h0
      refine x_iload_n C 2 dX10_row_16 rfl ?_
      refine x_ifge C 26 dX10_row_17 (by decide) (fun c4 => ?_) (fun c4 => ?_)
      · replace h0 := ob_pos c4 h0
        refine x_aload_n C 0 dX10_row_26 rfl ?_
        refine x_getR (j := 0) (i := 11) (q := (RX10, TX10, 18)) C 8 (iX 0 (by decide)) rfl rfl inBX10 (by decide) tw235 rfl dX10_row_27 ?_
        refine x_iload_n C 1 dX10_row_30 rfl ?_
        obtain ⟨c5, h0⟩ := ob_if h0
        refine x_aald C (iX 8 (by decide)) rfl rfl rfl (vin_in c5) dX10_row_31 ?_
        refine x_iconst (v := 0) C dX10_row_32 rfl ?_
        obtain ⟨r6, s8, g7, h0⟩ := ob_bd h0
        refine x_callS (ar := 2) (rest := []) C (c_J7_fill_53178 C.2.2.2.2.2.2.1 (iX2 (vin_lt c5)) (lX2 (vin_lt c5)) g7) hy_J7_fill_53178 ⟨tw232, tw233, tw74, tw234⟩ (by decide) (by decide) rfl rfl (Nat.le_of_ble_eq_true rfl) dX10_row_33 ?_
        show Wx LX K s8 36 [(0, .ref (kad K 0)), (1, .int a1), (2, .int a2)] []
        refine x_aload_n C 0 dX10_row_36 rfl ?_
        refine x_getR (j := 1) (i := 14) (q := (RX10, TX10, 18)) C 24 (iX 0 (by decide)) rfl rfl inBX10 (by decide) tw236 rfl dX10_row_37 ?_
        refine x_iload_n C 1 dX10_row_40 rfl ?_
        refine x_iload_n C 2 dX10_row_41 rfl ?_
        obtain ⟨c9, h0⟩ := ob_if h0
        refine x_iast C (iX 24 (by decide)) rfl (vin_in c9) dX10_row_42 ?_
        refine x_iload_n C 2 dX10_row_43 rfl ?_
        cases h0
        exact x_iret C R dX10_row_44
      · replace h0 := ob_neg c4 h0
        refine x_aload_n C 0 dX10_row_20 rfl ?_
        refine x_iconst (v := 5) C dX10_row_21 rfl ?_
        obtain ⟨r10, s12, g11, h0⟩ := ob_bd h0
        refine x_callV (ar := 1) (q := (RX10, TX10, 18)) (rest := []) C (c_X10_found C.2.2.2.2.2.2.1  g11) (iX 0 (by decide)) rfl rfl hy_X10_found ⟨tw298, tw300, tw1, tw63, tw301⟩ (by decide) (by decide) rfl rfl (Nat.le_of_ble_eq_true rfl) dX10_row_22 ?_
        show Wx LX K s12 25 [(0, .ref (kad K 0)), (1, .int a1), (2, .int a2)] [.int r10]
        cases h0
        exact x_iret C R dX10_row_25
    · replace h0 := ob_neg c3 h0
      refine x_iconst (v := (-1)) C dX10_row_14 rfl ?_
      cases h0
      exact x_iret C R dX10_row_15
