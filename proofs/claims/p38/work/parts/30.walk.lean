set_option maxHeartbeats 4000000 in
set_option maxRecDepth 100000 in
theorem c_X0_heard {l : Launch} {D : va_G} {ad : Nat → Nat} {cy : Nat → ClassId} (hJ : mJ LX ad) {σ : mS} {i : Nat} {a1 : Int32} {a2 : Int32} {a3 : Int32} {r : Int32} (hi : i = 2 ∨ i = 5) (h0 : X0_heard a1 a2 a3 = r) : MetG l LX D ad cy yX0_heard cX0_heard 4 (some .int) 0 [.ref (ad (104 + i)), .int a1, .int a2, .int a3] σ (some (.int r)) σ := by
  refine MetG.of hJ (by decide +kernel) [(0, .ref (ad (104 + i))), (1, .int a1), (2, .int a2), (3, .int a3)] rfl (Nat.le_of_ble_eq_true rfl) ?_
  intro K e1 e2 e3 e4 e5 C R
  subst e1
  subst e2
  subst e3
  subst e4
  unfold X0_heard at h0
  refine x_iload_n C 3 dX0_heard_0 rfl ?_
  refine x_iconst (v := 3) C dX0_heard_1 rfl ?_
  refine x_irem C dX0_heard_2 (by decide) ?_
  refine x_iconst (v := 2) C dX0_heard_3 rfl ?_
  refine x_icmpne C 11 dX0_heard_4 (by decide) (fun c2 => ?_) (fun c2 => ?_)
  · replace h0 := ob_neg c2 h0
    refine x_iconst (v := 1) C dX0_heard_11 rfl ?_
    refine x_iload_n C 1 dX0_heard_12 rfl ?_
    refine x_ishl C dX0_heard_13 ?_
    subst h0
    exact x_iret C R dX0_heard_14
  · replace h0 := ob_pos c2 h0
    refine x_iconst (v := 0) C dX0_heard_7 rfl ?_
    refine x_goto C 14 dX0_heard_8 (by decide) ?_
    subst h0
    exact x_iret C R dX0_heard_14
set_option maxHeartbeats 4000000 in
set_option maxRecDepth 100000 in
theorem c_X0_callsTillDeaf {l : Launch} {D : va_G} {ad : Nat → Nat} {cy : Nat → ClassId} (hJ : mJ LX ad) {σ : mS} {i : Nat} {a1 : Int32} {r : Int32} (hi : i = 2 ∨ i = 5) (h0 : X0_callsTillDeaf a1 = r) : MetG l LX D ad cy yX0_callsTillDeaf cX0_callsTillDeaf 2 (some .int) 0 [.ref (ad (104 + i)), .int a1] σ (some (.int r)) σ := by
  refine MetG.of hJ (by decide +kernel) [(0, .ref (ad (104 + i))), (1, .int a1)] rfl (Nat.le_of_ble_eq_true rfl) ?_
  intro K e1 e2 e3 e4 e5 C R
  subst e1
  subst e2
  subst e3
  subst e4
  unfold X0_callsTillDeaf at h0
  refine x_iconst (v := 2) C dX0_callsTillDeaf_0 rfl ?_
  refine x_iload_n C 1 dX0_callsTillDeaf_1 rfl ?_
  refine x_iconst (v := 3) C dX0_callsTillDeaf_2 rfl ?_
  refine x_irem C dX0_callsTillDeaf_3 (by decide) ?_
  refine x_isub C dX0_callsTillDeaf_4 ?_
  subst h0
  exact x_iret C R dX0_callsTillDeaf_5
set_option maxHeartbeats 4000000 in
set_option maxRecDepth 100000 in
theorem c_X1_add {l : Launch} {D : va_G} {ad : Nat → Nat} {cy : Nat → ClassId} (hJ : mJ LX ad) {σ τ : mS} {i : Nat} {a1 : Int32} {r : Unit} (hi : i < 4) (h0 : X1_add σ i a1 = some (r, τ)) : MetG l LX D ad cy yX1_add cX1_add 2 none 0 [.ref (ad (160 + i)), .int a1] σ (none) τ := by
  refine MetG.of hJ (by decide +kernel) [(0, .ref (ad (160 + i))), (1, .int a1)] rfl (Nat.le_of_ble_eq_true rfl) ?_
  intro K e1 e2 e3 e4 e5 C R
  subst e1
  subst e2
  subst e3
  subst e4
  unfold X1_add at h0
  refine x_aload_n C 0 dX1_add_0 rfl ?_
  refine x_getI (j := 1) (i := 15) (q := (RX1, TX1, 2)) C (iX20 hi) (lX20 hi) rfl inBX1 (by decide) tw224 rfl dX1_add_1 ?_
  refine x_bipush (v := 40) C dX1_add_4 rfl ?_
  refine x_icmpge C 29 dX1_add_6 (by decide) (fun c2 => ?_) (fun c2 => ?_)
  · replace h0 := ob_pos c2 h0
    cases h0
    exact x_vret C R dX1_add_29
  · replace h0 := ob_neg c2 h0
    refine x_aload_n C 0 dX1_add_9 rfl ?_
    refine x_getR (j := 0) (i := 9) (q := (RX1, TX1, 2)) C (168 + i) (iX20 hi) (lX20 hi) rfl inBX1 (by decide) tw221 rfl dX1_add_10 ?_
    refine x_aload_n C 0 dX1_add_13 rfl ?_
    refine x_getI (j := 1) (i := 15) (q := (RX1, TX1, 2)) C (iX20 hi) (lX20 hi) rfl inBX1 (by decide) tw224 rfl dX1_add_14 ?_
    refine x_iload_n C 1 dX1_add_17 rfl ?_
    obtain ⟨c3, h0⟩ := ob_if h0
    refine x_iast C (iX21 hi) (lX21 hi) (vin_in c3) dX1_add_18 ?_
    refine x_aload_n C 0 dX1_add_19 rfl ?_
    refine x_dup C dX1_add_20 rfl ?_
    refine x_getI (j := 1) (i := 15) (q := (RX1, TX1, 2)) C (iX20 hi) (lX20 hi) rfl inBX1 (by decide) tw224 rfl dX1_add_21 ?_
    refine x_iconst (v := 1) C dX1_add_24 rfl ?_
    refine x_iadd C dX1_add_25 ?_
    refine x_putI (j := 1) (i := 15) (q := (RX1, TX1, 2)) C tyX1 tyX1_ok nmX1 (iX20 hi) (lX20 hi) rfl inBX1 (by decide) tw224 rfl (by decide +kernel) rfl dX1_add_26 ?_
    cases h0
    exact x_vret C R dX1_add_29
set_option maxHeartbeats 4000000 in
set_option maxRecDepth 100000 in
theorem c_X1_take {l : Launch} {D : va_G} {ad : Nat → Nat} {cy : Nat → ClassId} (hJ : mJ LX ad) {σ τ : mS} {i : Nat} {i1 : Nat} {r : Unit} (hi : i < 4) (hi1 : i1 < 4) (h0 : X1_take σ i i1 = some (r, τ)) : MetG l LX D ad cy yX1_take cX1_take 3 none 0 [.ref (ad (160 + i)), .ref (ad (160 + i1))] σ (none) τ := by
  refine MetG.of hJ (by decide +kernel) [(0, .ref (ad (160 + i))), (1, .ref (ad (160 + i1)))] rfl (Nat.le_of_ble_eq_true rfl) ?_
  intro K e1 e2 e3 e4 e5 C R
  subst e1
  subst e2
  subst e3
  subst e4
  unfold X1_take at h0
  refine x_aload_n C 0 dX1_take_0 rfl ?_
  refine x_aload_n C 1 dX1_take_1 rfl ?_
  refine x_getI (j := 1) (i := 15) (q := (RX1, TX1, 2)) C (iX20 hi1) (lX20 hi1) rfl inBX1 (by decide) tw224 rfl dX1_take_2 ?_
  refine x_putI (j := 1) (i := 15) (q := (RX1, TX1, 2)) C tyX1 tyX1_ok nmX1 (iX20 hi) (lX20 hi) rfl inBX1 (by decide) tw224 rfl (by decide +kernel) rfl dX1_take_5 ?_
  refine x_iconst (v := 0) C dX1_take_8 rfl ?_
  refine x_istore_n (lv' := [(2, .int 0), (0, .ref (kad K (160 + i))), (1, .ref (kad K (160 + i1)))]) C dX1_take_9 (by rw [e5]; decide) rfl ?_
  obtain ⟨e8, g9, h0⟩ := ob_bind h0
  have J1 : ∀ (s3 : mS), s3 = e8 → Wx LX K s3 36 [] [] := by
    intro s3 e9
    subst e9
    replace h0 := un1_l h0
    cases h0
    exact x_vret C R dX1_take_36
  refine lp_G (G := fun q : mS × Int32 => Wx LX K q.1 10 [(2, .int q.2), (0, .ref (kad K (160 + i))), (1, .ref (kad K (160 + i1)))] []) (fun q x h1 ihL1 ihR1 => ?_) big _ g9
  obtain ⟨s1, x2⟩ := q
  replace h1 : X1_take_b10 i i1 s1 x2 = some x := h1
  unfold X1_take_b10 at h1
  show Wx LX K s1 10 [(2, .int x2), (0, .ref (kad K (160 + i))), (1, .ref (kad K (160 + i1)))] []
  refine x_iload_n C 0 dX1_take_10 rfl ?_
  refine x_aload_n C 1 dX1_take_11 rfl ?_
  refine x_getI (j := 1) (i := 15) (q := (RX1, TX1, 2)) C (iX20 hi) (lX20 hi) rfl inBX1 (by decide) tw224 rfl dX1_take_12 ?_
  refine x_icmpge C 36 dX1_take_15 (by decide) (fun c5 => ?_) (fun c5 => ?_)
  · replace h1 := ob_pos c5 h1
    refine x_lv (lv' := []) [] rfl ?_
    exact J1 _ (ihR1 _ (Option.some.inj h1).symm)
  · replace h1 := ob_neg c5 h1
    refine x_aload_n C 1 dX1_take_18 rfl ?_
    refine x_getR (j := 0) (i := 9) (q := (RX1, TX1, 2)) C (168 + i) (iX20 hi) (lX20 hi) rfl inBX1 (by decide) tw221 rfl dX1_take_19 ?_
    refine x_iload_n C 0 dX1_take_22 rfl ?_
    refine x_aload_n C 2 dX1_take_23 rfl ?_
    refine x_getR (j := 0) (i := 9) (q := (RX1, TX1, 2)) C (168 + i1) (iX20 hi1) (lX20 hi1) rfl inBX1 (by decide) tw221 rfl dX1_take_24 ?_
    refine x_iload_n C 0 dX1_take_27 rfl ?_
    obtain ⟨c6, h1⟩ := ob_if h1
    refine x_iald C (iX21 hi1) (lX21 hi1) (vin_in c6) dX1_take_28 ?_
    obtain ⟨c7, h1⟩ := ob_if h1
    refine x_iast C (iX21 hi) (lX21 hi) (vin_in c7) dX1_take_29 ?_
    refine x_iinc (v := (x2 + 1)) (lv' := [(2, .int (x2 + 1)), (0, .ref (kad K (160 + i))), (1, .ref (kad K (160 + i1)))]) C 0 dX1_take_30 rfl rfl (by rw [e5]; decide) rfl ?_
    refine x_goto C 10 dX1_take_33 (by decide) ?_
    refine x_lv (lv' := [(2, .int (x2 + 1)), (0, .ref (kad K (160 + i))), (1, .ref (kad K (160 + i1)))]) [0, 1, 2] rfl ?_
    exact ihL1 _ (Option.some.inj h1).symm
set_option maxHeartbeats 4000000 in
set_option maxRecDepth 100000 in
theorem c_J7_fill_53178 {l : Launch} {Y : mY} {D : va_G} {ad : Nat → Nat} {cy : Nat → ClassId} (hJ : mJ Y ad) {σ τ : mS} {k : Nat} {z : Nat} {a2 : Int32} {r : Unit} (hk : k ∈ Y.1) (hd : Y.2 k = .inr (.inl (0, z))) (h0 : J7_fill_53178 σ k z a2 = some (r, τ)) : MetG l Y D ad cy yJ7_fill_53178 cJ7_fill_53178 4 none 0 [.ref (ad k), .int a2] σ (none) τ := by
  refine MetG.of hJ (by decide +kernel) [(0, .ref (ad k)), (1, .int a2)] rfl (Nat.le_of_ble_eq_true rfl) ?_
  intro K e1 e2 e3 e4 e5 C R
  subst e1
  subst e2
  subst e3
  subst e4
  unfold J7_fill_53178 at h0
  refine x_iconst (v := 0) C dJ7_fill_53178_0 rfl ?_
  refine x_istore_n (lv' := [(2, .int 0), (0, .ref (kad K k)), (1, .int a2)]) C dJ7_fill_53178_1 (by rw [e5]; decide) rfl ?_
  refine x_aload_n C 1 dJ7_fill_53178_2 rfl ?_
  refine x_alen (b := 0) C hk hd rfl rfl dJ7_fill_53178_3 ?_
  refine x_istore_n (lv' := [(3, .int (Int32.ofNat z)), (2, .int 0), (0, .ref (kad K k)), (1, .int a2)]) C dJ7_fill_53178_4 (by rw [e5]; decide) rfl ?_
  obtain ⟨e7, g8, h0⟩ := ob_bind h0
  have J1 : ∀ (s3 : mS), s3 = e7 → Wx Y K s3 20 [] [] := by
    intro s3 e9
    subst e9
    replace h0 := un1_l h0
    cases h0
    exact x_vret C R dJ7_fill_53178_20
  refine lp_G (G := fun q : mS × Int32 => Wx Y K q.1 5 [(3, .int (Int32.ofNat z)), (2, .int q.2), (0, .ref (kad K k)), (1, .int a2)] []) (fun q x h1 ihL1 ihR1 => ?_) big _ g8
  obtain ⟨s1, x2⟩ := q
  replace h1 : J7_fill_53178_b5 k z a2 s1 x2 = some x := h1
  unfold J7_fill_53178_b5 at h1
  show Wx Y K s1 5 [(3, .int (Int32.ofNat z)), (2, .int x2), (0, .ref (kad K k)), (1, .int a2)] []
  refine x_iload_n C 1 dJ7_fill_53178_5 rfl ?_
  refine x_iload_n C 0 dJ7_fill_53178_6 rfl ?_
  refine x_icmpge C 20 dJ7_fill_53178_7 (by decide) (fun c5 => ?_) (fun c5 => ?_)
  · replace h1 := ob_pos c5 h1
    refine x_lv (lv' := []) [] rfl ?_
    exact J1 _ (ihR1 _ (Option.some.inj h1).symm)
  · replace h1 := ob_neg c5 h1
    refine x_aload_n C 2 dJ7_fill_53178_10 rfl ?_
    refine x_iload_n C 1 dJ7_fill_53178_11 rfl ?_
    refine x_iload_n C 3 dJ7_fill_53178_12 rfl ?_
    obtain ⟨c6, h1⟩ := ob_if h1
    refine x_iast C hk hd (vin_in c6) dJ7_fill_53178_13 ?_
    refine x_iinc (v := (x2 + 1)) (lv' := [(2, .int (x2 + 1)), (3, .int (Int32.ofNat z)), (0, .ref (kad K k)), (1, .int a2)]) C 1 dJ7_fill_53178_14 rfl rfl (by rw [e5]; decide) rfl ?_
    refine x_goto C 5 dJ7_fill_53178_17 (by decide) ?_
    refine x_lv (lv' := [(3, .int (Int32.ofNat z)), (2, .int (x2 + 1)), (0, .ref (kad K k)), (1, .int a2)]) [1, 0, 2, 3] rfl ?_
    exact ihL1 _ (Option.some.inj h1).symm
set_option maxHeartbeats 4000000 in
set_option maxRecDepth 100000 in
theorem c_X2_begin {l : Launch} {D : va_G} {ad : Nat → Nat} {cy : Nat → ClassId} (hJ : mJ LX ad) {σ τ : mS} {i : Nat} {r : Unit} (hi : i < 6) (h0 : X2_begin σ i = some (r, τ)) : MetG l LX D ad cy yX2_begin cX2_begin 1 none 1 [.ref (ad (144 + i))] σ (none) τ := by
  refine MetG.of hJ (by decide +kernel) [(0, .ref (ad (144 + i)))] rfl (Nat.le_of_ble_eq_true rfl) ?_
  intro K e1 e2 e3 e4 e5 C R
  subst e1
  subst e2
  subst e3
  subst e4
  unfold X2_begin at h0
  refine x_aload_n C 0 dX2_begin_0 rfl ?_
  refine x_getR (j := 1) (i := 9) (q := (RX2, TX2, 6)) C (152 + i) (iX18 hi) (lX18 hi) rfl inBX2 (by decide) tw192 rfl dX2_begin_1 ?_
  refine x_iconst (v := 0) C dX2_begin_4 rfl ?_
  obtain ⟨r1, s3, g2, h0⟩ := ob_bd h0
  refine x_callS (ar := 2) (rest := []) C (c_J7_fill_53178 C.2.2.2.2.2.2.1 (iX19 hi) (lX19 hi) g2) hy_J7_fill_53178 ⟨tw385, tw233, tw74, tw234⟩ (by decide) (by decide) rfl rfl (Nat.le_of_ble_eq_true rfl) dX2_begin_5 ?_
  show Wx LX K s3 8 [(0, .ref (kad K (144 + i)))] []
  refine x_aload_n C 0 dX2_begin_8 rfl ?_
  refine x_iconst (v := 0) C dX2_begin_9 rfl ?_
  refine x_putI (j := 2) (i := 25) (q := (RX2, TX2, 6)) C tyX2 tyX2_ok nmX2 (iX18 hi) (lX18 hi) rfl inBX2 (by decide) tw194 rfl (by decide +kernel) rfl dX2_begin_10 ?_
  refine x_aload_n C 0 dX2_begin_13 rfl ?_
  refine x_aload_n C 0 dX2_begin_14 rfl ?_
  refine x_getR (j := 0) (i := 15) (q := (RX2, TX2, 6)) C 88 (iX18 hi) (lX18 hi) rfl inBX2 (by decide) tw191 rfl dX2_begin_15 ?_
  refine x_getIN (j := 4) (i := 29) (q := (RX7, TX7, 5)) (host := "CalledNumbers") C (iX 88 (by decide)) rfl rfl inBX7 (by decide) twN172 rfl dX2_begin_18 ?_
  obtain ⟨e8, g7, h0⟩ := ob_un h0
  have J9 : ∀ (v6 : Int32), v6 = e8 → Wx LX K (mwI s3 (144 + i) 2 0) 31 [(0, .ref (kad K (144 + i)))] [.int v6, .ref (kad K (144 + i))] := by
    intro v6 e9
    subst e9
    replace h0 := un1_l h0
    refine x_putI (j := 3) (i := 34) (q := (RX2, TX2, 6)) C tyX2 tyX2_ok nmX2 (iX18 hi) (lX18 hi) rfl inBX2 (by decide) tw196 rfl (by decide +kernel) rfl dX2_begin_31 ?_
    refine x_aload_n C 0 dX2_begin_34 rfl ?_
    refine x_iconst (v := 0) C dX2_begin_35 rfl ?_
    refine x_putI (j := 4) (i := 37) (q := (RX2, TX2, 6)) C tyX2 tyX2_ok nmX2 (iX18 hi) (lX18 hi) rfl inBX2 (by decide) tw198 rfl (by decide +kernel) rfl dX2_begin_36 ?_
    refine x_aload_n C 0 dX2_begin_39 rfl ?_
    refine x_iconst (v := 0) C dX2_begin_40 rfl ?_
    refine x_putI (j := 5) (i := 40) (q := (RX2, TX2, 6)) C tyX2 tyX2_ok nmX2 (iX18 hi) (lX18 hi) rfl inBX2 (by decide) tw200 rfl (by decide +kernel) rfl dX2_begin_41 ?_
    cases h0
    exact x_vret C R dX2_begin_44
  refine x_ifne C 28 dX2_begin_21 (by decide) (fun c10 => ?_) (fun c10 => ?_)
  · replace g7 := ob_neg c10 g7
    refine x_sipush (v := 8190) C dX2_begin_28 rfl ?_
    refine x_lv (lv' := [(0, .ref (kad K (144 + i)))]) [0] rfl ?_
    exact J9 _ g7
  · replace g7 := ob_pos c10 g7
    refine x_iconst (v := 0) C dX2_begin_24 rfl ?_
    refine x_goto C 31 dX2_begin_25 (by decide) ?_
    refine x_lv (lv' := [(0, .ref (kad K (144 + i)))]) [0] rfl ?_
    exact J9 _ g7
set_option maxHeartbeats 4000000 in
set_option maxRecDepth 100000 in
theorem c_X2_take {l : Launch} {D : va_G} {ad : Nat → Nat} {cy : Nat → ClassId} (hJ : mJ LX ad) {σ τ : mS} {i : Nat} {i1 : Nat} {r : Unit} (hi : i < 6) (hi1 : i1 < 6) (h0 : X2_take σ i i1 = some (r, τ)) : MetG l LX D ad cy yX2_take cX2_take 3 none 0 [.ref (ad (144 + i)), .ref (ad (144 + i1))] σ (none) τ := by
  refine MetG.of hJ (by decide +kernel) [(0, .ref (ad (144 + i))), (1, .ref (ad (144 + i1)))] rfl (Nat.le_of_ble_eq_true rfl) ?_
  intro K e1 e2 e3 e4 e5 C R
  subst e1
  subst e2
  subst e3
  subst e4
  unfold X2_take at h0
  refine x_iconst (v := 0) C dX2_take_0 rfl ?_
  refine x_istore_n (lv' := [(2, .int 0), (0, .ref (kad K (144 + i))), (1, .ref (kad K (144 + i1)))]) C dX2_take_1 (by rw [e5]; decide) rfl ?_
  obtain ⟨e8, g9, h0⟩ := ob_bind h0
  have J1 : ∀ (s3 : mS), s3 = e8 → Wx LX K s3 25 [(0, .ref (kad K (144 + i))), (1, .ref (kad K (144 + i1)))] [] := by
    intro s3 e9
    subst e9
    replace h0 := un1_l h0
    refine x_aload_n C 0 dX2_take_25 rfl ?_
    refine x_aload_n C 1 dX2_take_26 rfl ?_
    refine x_getI (j := 2) (i := 25) (q := (RX2, TX2, 6)) C (iX18 hi1) (lX18 hi1) rfl inBX2 (by decide) tw194 rfl dX2_take_27 ?_
    refine x_putI (j := 2) (i := 25) (q := (RX2, TX2, 6)) C tyX2 tyX2_ok nmX2 (iX18 hi) (lX18 hi) rfl inBX2 (by decide) tw194 rfl (by decide +kernel) rfl dX2_take_30 ?_
    refine x_aload_n C 0 dX2_take_33 rfl ?_
    refine x_aload_n C 1 dX2_take_34 rfl ?_
    refine x_getI (j := 3) (i := 34) (q := (RX2, TX2, 6)) C (iX18 hi1) (lX18 hi1) rfl inBX2 (by decide) tw196 rfl dX2_take_35 ?_
    refine x_putI (j := 3) (i := 34) (q := (RX2, TX2, 6)) C tyX2 tyX2_ok nmX2 (iX18 hi) (lX18 hi) rfl inBX2 (by decide) tw196 rfl (by decide +kernel) rfl dX2_take_38 ?_
    refine x_aload_n C 0 dX2_take_41 rfl ?_
    refine x_aload_n C 1 dX2_take_42 rfl ?_
    refine x_getI (j := 4) (i := 37) (q := (RX2, TX2, 6)) C (iX18 hi1) (lX18 hi1) rfl inBX2 (by decide) tw198 rfl dX2_take_43 ?_
    refine x_putI (j := 4) (i := 37) (q := (RX2, TX2, 6)) C tyX2 tyX2_ok nmX2 (iX18 hi) (lX18 hi) rfl inBX2 (by decide) tw198 rfl (by decide +kernel) rfl dX2_take_46 ?_
    refine x_aload_n C 0 dX2_take_49 rfl ?_
    refine x_aload_n C 1 dX2_take_50 rfl ?_
    refine x_getI (j := 5) (i := 40) (q := (RX2, TX2, 6)) C (iX18 hi1) (lX18 hi1) rfl inBX2 (by decide) tw200 rfl dX2_take_51 ?_
    refine x_putI (j := 5) (i := 40) (q := (RX2, TX2, 6)) C tyX2 tyX2_ok nmX2 (iX18 hi) (lX18 hi) rfl inBX2 (by decide) tw200 rfl (by decide +kernel) rfl dX2_take_54 ?_
    cases h0
    exact x_vret C R dX2_take_57
  refine lp_G (G := fun q : mS × Int32 => Wx LX K q.1 2 [(2, .int q.2), (0, .ref (kad K (144 + i))), (1, .ref (kad K (144 + i1)))] []) (fun q x h1 ihL1 ihR1 => ?_) big _ g9
  obtain ⟨s1, x2⟩ := q
  replace h1 : X2_take_b2 i i1 s1 x2 = some x := h1
  unfold X2_take_b2 at h1
  show Wx LX K s1 2 [(2, .int x2), (0, .ref (kad K (144 + i))), (1, .ref (kad K (144 + i1)))] []
  refine x_iload_n C 0 dX2_take_2 rfl ?_
  refine x_iconst (v := 4) C dX2_take_3 rfl ?_
  refine x_icmpge C 25 dX2_take_4 (by decide) (fun c5 => ?_) (fun c5 => ?_)
  · replace h1 := ob_pos c5 h1
    refine x_lv (lv' := [(0, .ref (kad K (144 + i))), (1, .ref (kad K (144 + i1)))]) [1, 2] rfl ?_
    exact J1 _ (ihR1 _ (Option.some.inj h1).symm)
  · replace h1 := ob_neg c5 h1
    refine x_aload_n C 1 dX2_take_7 rfl ?_
    refine x_getR (j := 1) (i := 9) (q := (RX2, TX2, 6)) C (152 + i) (iX18 hi) (lX18 hi) rfl inBX2 (by decide) tw192 rfl dX2_take_8 ?_
    refine x_iload_n C 0 dX2_take_11 rfl ?_
    refine x_aload_n C 2 dX2_take_12 rfl ?_
    refine x_getR (j := 1) (i := 9) (q := (RX2, TX2, 6)) C (152 + i1) (iX18 hi1) (lX18 hi1) rfl inBX2 (by decide) tw192 rfl dX2_take_13 ?_
    refine x_iload_n C 0 dX2_take_16 rfl ?_
    obtain ⟨c6, h1⟩ := ob_if h1
    refine x_iald C (iX19 hi1) (lX19 hi1) (vin_in c6) dX2_take_17 ?_
    obtain ⟨c7, h1⟩ := ob_if h1
    refine x_iast C (iX19 hi) (lX19 hi) (vin_in c7) dX2_take_18 ?_
    refine x_iinc (v := (x2 + 1)) (lv' := [(2, .int (x2 + 1)), (0, .ref (kad K (144 + i))), (1, .ref (kad K (144 + i1)))]) C 0 dX2_take_19 rfl rfl (by rw [e5]; decide) rfl ?_
    refine x_goto C 2 dX2_take_22 (by decide) ?_
    refine x_lv (lv' := [(2, .int (x2 + 1)), (0, .ref (kad K (144 + i))), (1, .ref (kad K (144 + i1)))]) [0, 1, 2] rfl ?_
    exact ihL1 _ (Option.some.inj h1).symm
set_option maxHeartbeats 4000000 in
set_option maxRecDepth 100000 in
theorem c_X2_holds {l : Launch} {D : va_G} {ad : Nat → Nat} {cy : Nat → ClassId} (hJ : mJ LX ad) {σ : mS} {i : Nat} {a1 : Int32} {r : Int32} (hi : i < 6) (h0 : X2_holds σ i a1 = r) : MetG l LX D ad cy yX2_holds cX2_holds 2 (some .boolean) 0 [.ref (ad (144 + i)), .int a1] σ (some (.int r)) σ := by
  refine MetG.of hJ (by decide +kernel) [(0, .ref (ad (144 + i))), (1, .int a1)] rfl (Nat.le_of_ble_eq_true rfl) ?_
  intro K e1 e2 e3 e4 e5 C R
  subst e1
  subst e2
  subst e3
  subst e4
  unfold X2_holds at h0
  refine x_aload_n C 0 dX2_holds_0 rfl ?_
  refine x_getI (j := 3) (i := 34) (q := (RX2, TX2, 6)) C (iX18 hi) (lX18 hi) rfl inBX2 (by decide) tw196 rfl dX2_holds_1 ?_
  refine x_iload_n C 1 dX2_holds_4 rfl ?_
  refine x_ishr C dX2_holds_5 ?_
  refine x_iconst (v := 1) C dX2_holds_6 rfl ?_
  refine x_iand C dX2_holds_7 ?_
  refine x_iconst (v := 1) C dX2_holds_8 rfl ?_
  refine x_icmpne C 16 dX2_holds_9 (by decide) (fun c2 => ?_) (fun c2 => ?_)
  · replace h0 := ob_neg c2 h0
    refine x_iconst (v := 0) C dX2_holds_16 rfl ?_
    subst h0
    exact x_zret C (Or.inl rfl) R dX2_holds_17
  · replace h0 := ob_pos c2 h0
    refine x_iconst (v := 1) C dX2_holds_12 rfl ?_
    refine x_goto C 17 dX2_holds_13 (by decide) ?_
    subst h0
    exact x_zret C (Or.inr rfl) R dX2_holds_17
set_option maxHeartbeats 4000000 in
set_option maxRecDepth 100000 in
theorem c_X2_hasWon {l : Launch} {D : va_G} {ad : Nat → Nat} {cy : Nat → ClassId} (hJ : mJ LX ad) {σ : mS} {i : Nat} {a1 : Int32} {r : Int32} (hi : i < 6) (h0 : X2_hasWon σ i a1 = r) : MetG l LX D ad cy yX2_hasWon cX2_hasWon 2 (some .boolean) 0 [.ref (ad (144 + i)), .int a1] σ (some (.int r)) σ := by
  refine MetG.of hJ (by decide +kernel) [(0, .ref (ad (144 + i))), (1, .int a1)] rfl (Nat.le_of_ble_eq_true rfl) ?_
  intro K e1 e2 e3 e4 e5 C R
  subst e1
  subst e2
  subst e3
  subst e4
  unfold X2_hasWon at h0
  refine x_aload_n C 0 dX2_hasWon_0 rfl ?_
  refine x_getI (j := 2) (i := 25) (q := (RX2, TX2, 6)) C (iX18 hi) (lX18 hi) rfl inBX2 (by decide) tw194 rfl dX2_hasWon_1 ?_
  refine x_iload_n C 1 dX2_hasWon_4 rfl ?_
  refine x_ishr C dX2_hasWon_5 ?_
  refine x_iconst (v := 1) C dX2_hasWon_6 rfl ?_
  refine x_iand C dX2_hasWon_7 ?_
  refine x_iconst (v := 1) C dX2_hasWon_8 rfl ?_
  refine x_icmpne C 16 dX2_hasWon_9 (by decide) (fun c2 => ?_) (fun c2 => ?_)
  · replace h0 := ob_neg c2 h0
    refine x_iconst (v := 0) C dX2_hasWon_16 rfl ?_
    subst h0
    exact x_zret C (Or.inl rfl) R dX2_hasWon_17
  · replace h0 := ob_pos c2 h0
    refine x_iconst (v := 1) C dX2_hasWon_12 rfl ?_
    refine x_goto C 17 dX2_hasWon_13 (by decide) ?_
    subst h0
    exact x_zret C (Or.inr rfl) R dX2_hasWon_17
set_option maxHeartbeats 4000000 in
set_option maxRecDepth 100000 in
theorem c_X7_kindAt {l : Launch} {D : va_G} {ad : Nat → Nat} {cy : Nat → ClassId} (hJ : mJ LX ad) {σ : mS} {a1 : Int32} {r : Nat}  (h0 : X7_kindAt σ a1 = some r) : MetG l LX D ad cy yX7_kindAt cX7_kindAt 2 (some (.object "CalledNumbers$Plain")) 0 [.ref (ad 88), .int a1] σ (some (.ref (ad (104 + r)))) σ := by
  refine MetG.of hJ (by decide +kernel) [(0, .ref (ad 88)), (1, .int a1)] rfl (Nat.le_of_ble_eq_true rfl) ?_
  intro K e1 e2 e3 e4 e5 C R
  subst e1
  subst e2
  subst e3
  subst e4
  unfold X7_kindAt at h0
  refine x_aload_n C 0 dX7_kindAt_0 rfl ?_
  refine x_getR (j := 0) (i := 27) (q := (RX7, TX7, 5)) C 96 (iX 88 (by decide)) rfl rfl inBX7 (by decide) tw163 rfl dX7_kindAt_1 ?_
  refine x_aload_n C 0 dX7_kindAt_4 rfl ?_
  refine x_getR (j := 1) (i := 33) (q := (RX7, TX7, 5)) C 112 (iX 88 (by decide)) rfl rfl inBX7 (by decide) tw165 rfl dX7_kindAt_5 ?_
  refine x_iload_n C 1 dX7_kindAt_8 rfl ?_
  obtain ⟨c1, h0⟩ := ob_if h0
  refine x_iald C (iX 112 (by decide)) rfl (vin_in c1) dX7_kindAt_9 ?_
  obtain ⟨c2, h0⟩ := ob_if h0
  refine x_aald C (iX 96 (by decide)) rfl rfl rfl (vin_in c2) dX7_kindAt_10 ?_
  cases h0
  exact x_aret C R dX7_kindAt_11
theorem KB_X7_kindAt {σ : mS} {a : Int32} {r : Nat} (h : X7_kindAt σ a = some r) : r < 6 := by
  unfold X7_kindAt at h
  obtain ⟨c1, h⟩ := ob_if h
  obtain ⟨c2, h⟩ := ob_if h
  cases h
  exact vin_lt c2
set_option maxHeartbeats 4000000 in
set_option maxRecDepth 100000 in
theorem c_X4_heard {l : Launch} {D : va_G} {ad : Nat → Nat} {cy : Nat → ClassId} (hJ : mJ LX ad) {σ : mS} {a1 : Int32} {a2 : Int32} {a3 : Int32} {r : Int32}  (h0 : X4_heard a1 a2 a3 = r) : MetG l LX D ad cy yX4_heard cX4_heard 4 (some .int) 0 [.ref (ad (104 + 4)), .int a1, .int a2, .int a3] σ (some (.int r)) σ := by
  refine MetG.of hJ (by decide +kernel) [(0, .ref (ad (104 + 4))), (1, .int a1), (2, .int a2), (3, .int a3)] rfl (Nat.le_of_ble_eq_true rfl) ?_
  intro K e1 e2 e3 e4 e5 C R
  subst e1
  subst e2
  subst e3
  subst e4
  unfold X4_heard at h0
  refine x_iload_n C 2 dX4_heard_0 rfl ?_
  refine x_ifne C 8 dX4_heard_1 (by decide) (fun c2 => ?_) (fun c2 => ?_)
  · replace h0 := ob_neg c2 h0
    refine x_iconst (v := 1) C dX4_heard_8 rfl ?_
    refine x_iload_n C 2 dX4_heard_9 rfl ?_
    refine x_ishl C dX4_heard_10 ?_
    subst h0
    exact x_iret C R dX4_heard_11
  · replace h0 := ob_pos c2 h0
    refine x_iconst (v := 0) C dX4_heard_4 rfl ?_
    refine x_goto C 11 dX4_heard_5 (by decide) ?_
    subst h0
    exact x_iret C R dX4_heard_11
set_option maxHeartbeats 4000000 in
set_option maxRecDepth 100000 in
theorem c_X5_heard {l : Launch} {D : va_G} {ad : Nat → Nat} {cy : Nat → ClassId} (hJ : mJ LX ad) {σ : mS} {i : Nat} {a1 : Int32} {a2 : Int32} {a3 : Int32} {r : Int32} (hi : i < 6) (h0 : X5_heard a1 a2 a3 = r) : MetG l LX D ad cy yX5_heard cX5_heard 4 (some .int) 0 [.ref (ad (104 + i)), .int a1, .int a2, .int a3] σ (some (.int r)) σ := by
  refine MetG.of hJ (by decide +kernel) [(0, .ref (ad (104 + i))), (1, .int a1), (2, .int a2), (3, .int a3)] rfl (Nat.le_of_ble_eq_true rfl) ?_
  intro K e1 e2 e3 e4 e5 C R
  subst e1
  subst e2
  subst e3
  subst e4
  unfold X5_heard at h0
  refine x_iconst (v := 1) C dX5_heard_0 rfl ?_
  refine x_iload_n C 1 dX5_heard_1 rfl ?_
  refine x_ishl C dX5_heard_2 ?_
  subst h0
  exact x_iret C R dX5_heard_3
set_option maxHeartbeats 4000000 in
set_option maxRecDepth 100000 in
theorem c_X8_behind {l : Launch} {D : va_G} {ad : Nat → Nat} {cy : Nat → ClassId} (hJ : mJ LX ad) {σ : mS} {a1 : Int32} {r : Int32}  (h0 : X8_behind a1 = r) : MetG l LX D ad cy yX8_behind cX8_behind 1 (some .int) 0 [.int a1] σ (some (.int r)) σ := by
  refine MetG.of hJ (by decide +kernel) [(0, .int a1)] rfl (Nat.le_of_ble_eq_true rfl) ?_
  intro K e1 e2 e3 e4 e5 C R
  subst e1
  subst e2
  subst e3
  subst e4
  unfold X8_behind at h0
  refine x_iload_n C 0 dX8_behind_0 rfl ?_
  refine x_bipush (v := 12) C dX8_behind_1 rfl ?_
  refine x_irem C dX8_behind_3 (by decide) ?_
  refine x_iconst (v := 1) C dX8_behind_4 rfl ?_
  refine x_iadd C dX8_behind_5 ?_
  subst h0
  exact x_iret C R dX8_behind_6
set_option maxHeartbeats 4000000 in
set_option maxRecDepth 100000 in
theorem c_X8_heard {l : Launch} {D : va_G} {ad : Nat → Nat} {cy : Nat → ClassId} (hJ : mJ LX ad) {σ : mS} {a1 : Int32} {a2 : Int32} {a3 : Int32} {r : Int32}  (h0 : X8_heard a1 a2 a3 = r) : MetG l LX D ad cy yX8_heard cX8_heard 5 (some .int) 1 [.ref (ad (104 + 5)), .int a1, .int a2, .int a3] σ (some (.int r)) σ := by
  refine MetG.of hJ (by decide +kernel) [(0, .ref (ad (104 + 5))), (1, .int a1), (2, .int a2), (3, .int a3)] rfl (Nat.le_of_ble_eq_true rfl) ?_
  intro K e1 e2 e3 e4 e5 C R
  subst e1
  subst e2
  subst e3
  subst e4
  unfold X8_heard at h0
  refine x_aload_n C 0 dX8_heard_0 rfl ?_
  refine x_iload_n C 1 dX8_heard_1 rfl ?_
  refine x_iload_n C 2 dX8_heard_2 rfl ?_
  refine x_iload_n C 3 dX8_heard_3 rfl ?_
  refine x_callSU (ar := 3) (As := [.int a1, .int a2, .int a3]) (q := (RX8, TX8, 0)) (rest := []) C (c_X0_heard C.2.2.2.2.2.2.1 (i := 5) (by decide) rfl) (iX13 (i := 5) (by decide)) rfl rfl (by decide +kernel) tw526 tw1155 tw161 tw517 tw68 tw518 (by decide) (by decide) rfl rfl (Nat.le_of_ble_eq_true rfl) dX8_heard_4 ?_
  show Wx LX K σ 7 [(0, .ref (kad K (104 + 5))), (1, .int a1), (2, .int a2), (3, .int a3)] [.int (X0_heard a1 a2 a3)]
  refine x_istore (lv' := [(4, .int (X0_heard a1 a2 a3)), (0, .ref (kad K (104 + 5))), (1, .int a1), (2, .int a2), (3, .int a3)]) C dX8_heard_7 (by rw [e5]; decide) rfl ?_
  refine x_iload C 0 dX8_heard_9 rfl ?_
  refine x_ifne C 18 dX8_heard_11 (by decide) (fun c2 => ?_) (fun c2 => ?_)
  · replace h0 := ob_neg c2 h0
    refine x_iload C 0 dX8_heard_18 rfl ?_
    refine x_iconst (v := 1) C dX8_heard_20 rfl ?_
    refine x_iload_n C 2 dX8_heard_21 rfl ?_
    refine x_callS (ar := 1) (rest := [.int 1, .int (X0_heard a1 a2 a3)]) C (c_X8_behind C.2.2.2.2.2.2.1  rfl) hy_X8_behind ⟨tw484, tw485, tw71, tw486⟩ (by decide) (by decide) rfl rfl (Nat.le_of_ble_eq_true rfl) dX8_heard_22 ?_
    show Wx LX K σ 25 [(4, .int (X0_heard a1 a2 a3)), (0, .ref (kad K (104 + 5))), (1, .int a1), (2, .int a2), (3, .int a3)] [.int (X8_behind a1), .int 1, .int (X0_heard a1 a2 a3)]
    refine x_ishl C dX8_heard_25 ?_
    refine x_ior C dX8_heard_26 ?_
    subst h0
    exact x_iret C R dX8_heard_27
  · replace h0 := ob_pos c2 h0
    refine x_iconst (v := 0) C dX8_heard_14 rfl ?_
    refine x_goto C 27 dX8_heard_15 (by decide) ?_
    subst h0
    exact x_iret C R dX8_heard_27
set_option maxRecDepth 100000 in
theorem x_K_X5_heard {K : Kx} {cc : ByteArray} {own : String} {n : Nat} {σ : mS} {pc : Nat} {lv : List (Nat × Value)} {rest : List Value} (C : Cx LX K cc own n) {r i : Nat} {a1 a2 a3 : Int32} (hr : r < 6) (hl : Cond.methodLink own i yX5_heard ∈ mB) (hn : 1 < n) (hr9 : (rest.map fun v => v.category).sum ≤ 8) (d : decode cc pc = .ok (.invokevirtual i, 3)) (kk : Wx LX K σ (pc + 3) lv (.int (kd_X5_heard r a1 a2 a3) :: rest)) : Wx LX K σ pc lv (.int a3 :: .int a2 :: .int a1 :: .ref (kad K (104 + r)) :: rest) := by
  rcases (show r = 0 ∨ r = 1 ∨ r = 2 ∨ r = 3 ∨ r = 4 ∨ r = 5 by omega) with rfl | rfl | rfl | rfl | rfl | rfl
  · exact x_callO (ar := 3) (x := yX5_heard) (owner := "CalledNumbers$Plain") (As := [.int a1, .int a2, .int a3]) (q := (RX5, TX5, 0)) (rest := rest) C (c_X5_heard C.2.2.2.2.2.2.1 (i := 0) (by decide) rfl) (iX13 (i := 0) (by decide)) rfl rfl (by decide +kernel) hl tw515 tw513 tw514 tw513 tw66 tw528 tw528 (Nat.lt_of_le_of_lt (by decide) hn) (by decide) rfl rfl hr9 d kk
  · exact x_callO (ar := 3) (x := yX5_heard) (owner := "CalledNumbers$Plain") (As := [.int a1, .int a2, .int a3]) (q := (RX9, TX9, 0)) (rest := rest) C (c_X5_heard C.2.2.2.2.2.2.1 (i := 1) (by decide) rfl) (iX13 (i := 1) (by decide)) rfl rfl (by decide +kernel) hl tw515 tw513 tw527 tw513 tw66 tw528 tw528 (Nat.lt_of_le_of_lt (by decide) hn) (by decide) rfl rfl hr9 d kk
  · exact x_callO (ar := 3) (x := yX5_heard) (owner := "CalledNumbers$Plain") (As := [.int a1, .int a2, .int a3]) (q := (RX0, TX0, 0)) (rest := rest) C (c_X0_heard C.2.2.2.2.2.2.1 (i := 2) (by decide) rfl) (iX13 (i := 2) (by decide)) rfl rfl (by decide +kernel) hl tw515 tw513 tw516 tw517 tw68 tw518 tw528 (Nat.lt_of_le_of_lt (by decide) hn) (by decide) rfl rfl hr9 d kk
  · exact x_callO (ar := 3) (x := yX5_heard) (owner := "CalledNumbers$Plain") (As := [.int a1, .int a2, .int a3]) (q := (RX3, TX3, 0)) (rest := rest) C (c_X5_heard C.2.2.2.2.2.2.1 (i := 3) (by decide) rfl) (iX13 (i := 3) (by decide)) rfl rfl (by decide +kernel) hl tw515 tw513 tw519 tw513 tw66 tw528 tw528 (Nat.lt_of_le_of_lt (by decide) hn) (by decide) rfl rfl hr9 d kk
  · exact x_callO (ar := 3) (x := yX5_heard) (owner := "CalledNumbers$Plain") (As := [.int a1, .int a2, .int a3]) (q := (RX4, TX4, 0)) (rest := rest) C (c_X4_heard C.2.2.2.2.2.2.1 rfl) (iX13 (i := 4) (by decide)) rfl rfl (by decide +kernel) hl tw515 tw513 tw520 tw521 tw70 tw522 tw528 (Nat.lt_of_le_of_lt (by decide) hn) (by decide) rfl rfl hr9 d kk
  · exact x_callO (ar := 3) (x := yX5_heard) (owner := "CalledNumbers$Plain") (As := [.int a1, .int a2, .int a3]) (q := (RX8, TX8, 0)) (rest := rest) C (c_X8_heard C.2.2.2.2.2.2.1 rfl) (iX13 (i := 5) (by decide)) rfl rfl (by decide +kernel) hl tw515 tw513 tw523 tw524 tw71 tw525 tw528 (Nat.lt_of_le_of_lt (by decide) hn) (by decide) rfl rfl hr9 d kk
set_option maxHeartbeats 4000000 in
set_option maxRecDepth 100000 in
theorem c_X7_marked {l : Launch} {D : va_G} {ad : Nat → Nat} {cy : Nat → ClassId} (hJ : mJ LX ad) {σ : mS} {a1 : Int32} {a2 : Int32} {a3 : Int32} {r : Int32}  (h0 : X7_marked σ a1 a2 a3 = some r) : MetG l LX D ad cy yX7_marked cX7_marked 6 (some .int) 0 [.ref (ad 88), .int a1, .int a2, .int a3] σ (some (.int r)) σ := by
  refine MetG.of hJ (by decide +kernel) [(0, .ref (ad 88)), (1, .int a1), (2, .int a2), (3, .int a3)] rfl (Nat.le_of_ble_eq_true rfl) ?_
  intro K e1 e2 e3 e4 e5 C R
  subst e1
  subst e2
  subst e3
  subst e4
  unfold X7_marked at h0
  refine x_iload_n C 2 dX7_marked_0 rfl ?_
  refine x_istore (lv' := [(4, .int a2), (0, .ref (kad K 88)), (1, .int a1), (2, .int a2), (3, .int a3)]) C dX7_marked_1 (by rw [e5]; decide) rfl ?_
  refine x_iload_n C 4 dX7_marked_3 rfl ?_
  refine x_aload_n C 1 dX7_marked_4 rfl ?_
  refine x_getR (j := 3) (i := 42) (q := (RX7, TX7, 5)) C 136 (iX 88 (by decide)) rfl rfl inBX7 (by decide) tw169 rfl dX7_marked_5 ?_
  refine x_iload_n C 2 dX7_marked_8 rfl ?_
  obtain ⟨c1, h0⟩ := ob_if h0
  refine x_iald C (iX 136 (by decide)) rfl (vin_in c1) dX7_marked_9 ?_
  refine x_iand C dX7_marked_10 ?_
  refine x_ifeq C 51 dX7_marked_11 (by decide) (fun c3 => ?_) (fun c3 => ?_)
  · replace h0 := ob_pos c3 h0
    refine x_iload C 0 dX7_marked_51 rfl ?_
    cases h0
    exact x_iret C R dX7_marked_53
  · replace h0 := ob_neg c3 h0
    refine x_iconst (v := 0) C dX7_marked_14 rfl ?_
    refine x_istore (lv' := [(5, .int 0), (4, .int a2), (0, .ref (kad K 88)), (1, .int a1), (2, .int a2), (3, .int a3)]) C dX7_marked_15 (by rw [e5]; decide) rfl ?_
    obtain ⟨e11, g12, h0⟩ := ob_bind h0
    have J1 : ∀ (y6 : Int32), y6 = e11 → Wx LX K σ 51 [(4, .int y6)] [] := by
      intro y6 e9
      subst e9
      replace h0 := un1_l h0
      refine x_iload C 0 dX7_marked_51 rfl ?_
      cases h0
      exact x_iret C R dX7_marked_53
    refine x_lv (lv' := [(5, .int 0), (4, .int a2), (0, .ref (kad K 88)), (1, .int a1), (3, .int a3)]) [0, 1, 2, 3, 5] rfl ?_
    refine lp_G (G := fun q : Int32 × Int32 => Wx LX K σ 17 [(5, .int q.2), (4, .int q.1), (0, .ref (kad K 88)), (1, .int a1), (3, .int a3)] []) (fun q x h1 ihL1 ihR1 => ?_) big _ g12
    obtain ⟨x4, x5⟩ := q
    replace h1 : X7_marked_b17 σ a1 a3 x4 x5 = some x := h1
    unfold X7_marked_b17 at h1
    show Wx LX K σ 17 [(5, .int x5), (4, .int x4), (0, .ref (kad K 88)), (1, .int a1), (3, .int a3)] []
    refine x_iload C 0 dX7_marked_17 rfl ?_
    refine x_bipush (v := 6) C dX7_marked_19 rfl ?_
    refine x_icmpge C 51 dX7_marked_21 (by decide) (fun c8 => ?_) (fun c8 => ?_)
    · replace h1 := ob_pos c8 h1
      refine x_lv (lv' := [(4, .int x4)]) [1] rfl ?_
      exact J1 _ (ihR1 _ (Option.some.inj h1).symm)
    · replace h1 := ob_neg c8 h1
      refine x_iload C 1 dX7_marked_24 rfl ?_
      refine x_iload_n C 4 dX7_marked_26 rfl ?_
      refine x_aload_n C 2 dX7_marked_27 rfl ?_
      refine x_getR (j := 2) (i := 39) (q := (RX7, TX7, 5)) C 120 (iX 88 (by decide)) rfl rfl inBX7 (by decide) tw167 rfl dX7_marked_28 ?_
      refine x_iload_n C 3 dX7_marked_31 rfl ?_
      obtain ⟨c9, h1⟩ := ob_if h1
      refine x_aald C (iX 120 (by decide)) rfl rfl rfl (vin_in c9) dX7_marked_32 ?_
      refine x_iload C 0 dX7_marked_33 rfl ?_
      obtain ⟨c10, h1⟩ := ob_if h1
      refine x_iald C (iX16 (vin_lt c9)) (lX16 (vin_lt c9)) (vin_in c10) dX7_marked_35 ?_
      refine x_ishr C dX7_marked_36 ?_
      refine x_iconst (v := 1) C dX7_marked_37 rfl ?_
      refine x_iand C dX7_marked_38 ?_
      refine x_iload C 0 dX7_marked_39 rfl ?_
      refine x_ishl C dX7_marked_41 ?_
      refine x_ior C dX7_marked_42 ?_
      refine x_istore (lv' := [(4, .int (x4 ||| (((a3 >>> ((σ.1 (128 + a1.toNatClampNeg) x5.toNatClampNeg) &&& 31)) &&& 1) <<< (x5 &&& 31)))), (5, .int x5), (0, .ref (kad K 88)), (1, .int a1), (3, .int a3)]) C dX7_marked_43 (by rw [e5]; decide) rfl ?_
      refine x_iinc (v := (x5 + 1)) (lv' := [(5, .int (x5 + 1)), (4, .int (x4 ||| (((a3 >>> ((σ.1 (128 + a1.toNatClampNeg) x5.toNatClampNeg) &&& 31)) &&& 1) <<< (x5 &&& 31)))), (0, .ref (kad K 88)), (1, .int a1), (3, .int a3)]) C 1 dX7_marked_45 rfl rfl (by rw [e5]; decide) rfl ?_
      refine x_goto C 17 dX7_marked_48 (by decide) ?_
      refine x_lv (lv' := [(5, .int (x5 + 1)), (4, .int (x4 ||| (((a3 >>> ((σ.1 (128 + a1.toNatClampNeg) x5.toNatClampNeg) &&& 31)) &&& 1) <<< (x5 &&& 31)))), (0, .ref (kad K 88)), (1, .int a1), (3, .int a3)]) [0, 1, 2, 3, 4] rfl ?_
      exact ihL1 _ (Option.some.inj h1).symm
set_option maxHeartbeats 4000000 in
set_option maxRecDepth 100000 in
theorem c_J6_bitCount_0f7a4 {l : Launch} {Y : mY} {D : va_G} {ad : Nat → Nat} {cy : Nat → ClassId} (hJ : mJ Y ad) {σ : mS} {a1 : Int32} {r : Int32}  (h0 : J6_bitCount_0f7a4 a1 = r) : MetG l Y D ad cy yJ6_bitCount_0f7a4 cJ6_bitCount_0f7a4 1 (some .int) 0 [.int a1] σ (some (.int r)) σ := by
  refine MetG.of hJ (by decide +kernel) [(0, .int a1)] rfl (Nat.le_of_ble_eq_true rfl) ?_
  intro K e1 e2 e3 e4 e5 C R
  subst e1
  subst e2
  subst e3
  subst e4
  unfold J6_bitCount_0f7a4 at h0
  refine x_iload_n C 0 dJ6_bitCount_0f7a4_0 rfl ?_
  refine x_iload_n C 0 dJ6_bitCount_0f7a4_1 rfl ?_
  refine x_iconst (v := 1) C dJ6_bitCount_0f7a4_2 rfl ?_
  refine x_iushr C dJ6_bitCount_0f7a4_3 rfl ?_
  refine x_ldcw C tw419 dJ6_bitCount_0f7a4_4 ?_
  refine x_iand C dJ6_bitCount_0f7a4_7 ?_
  refine x_isub C dJ6_bitCount_0f7a4_8 ?_
  refine x_istore_n (lv' := [(0, .int (a1 - (((a1).toUInt32 >>> ((1 : Int32).toUInt32 &&& Int32.toUInt32 31)).toInt32 &&& 1431655765)))]) C dJ6_bitCount_0f7a4_9 (by rw [e5]; decide) rfl ?_
  refine x_iload_n C 0 dJ6_bitCount_0f7a4_10 rfl ?_
  refine x_ldcw C tw420 dJ6_bitCount_0f7a4_11 ?_
  refine x_iand C dJ6_bitCount_0f7a4_14 ?_
  refine x_iload_n C 0 dJ6_bitCount_0f7a4_15 rfl ?_
  refine x_iconst (v := 2) C dJ6_bitCount_0f7a4_16 rfl ?_
  refine x_iushr C dJ6_bitCount_0f7a4_17 rfl ?_
  refine x_ldcw C tw420 dJ6_bitCount_0f7a4_18 ?_
  refine x_iand C dJ6_bitCount_0f7a4_21 ?_
  refine x_iadd C dJ6_bitCount_0f7a4_22 ?_
  refine x_istore_n (lv' := [(0, .int (((a1 - (((a1).toUInt32 >>> ((1 : Int32).toUInt32 &&& Int32.toUInt32 31)).toInt32 &&& 1431655765)) &&& 858993459) + ((((a1 - (((a1).toUInt32 >>> ((1 : Int32).toUInt32 &&& Int32.toUInt32 31)).toInt32 &&& 1431655765))).toUInt32 >>> ((2 : Int32).toUInt32 &&& Int32.toUInt32 31)).toInt32 &&& 858993459)))]) C dJ6_bitCount_0f7a4_23 (by rw [e5]; decide) rfl ?_
  refine x_iload_n C 0 dJ6_bitCount_0f7a4_24 rfl ?_
  refine x_iload_n C 0 dJ6_bitCount_0f7a4_25 rfl ?_
  refine x_iconst (v := 4) C dJ6_bitCount_0f7a4_26 rfl ?_
  refine x_iushr C dJ6_bitCount_0f7a4_27 rfl ?_
  refine x_iadd C dJ6_bitCount_0f7a4_28 ?_
  refine x_ldcw C tw421 dJ6_bitCount_0f7a4_29 ?_
  refine x_iand C dJ6_bitCount_0f7a4_32 ?_
  refine x_istore_n (lv' := [(0, .int (((((a1 - (((a1).toUInt32 >>> ((1 : Int32).toUInt32 &&& Int32.toUInt32 31)).toInt32 &&& 1431655765)) &&& 858993459) + ((((a1 - (((a1).toUInt32 >>> ((1 : Int32).toUInt32 &&& Int32.toUInt32 31)).toInt32 &&& 1431655765))).toUInt32 >>> ((2 : Int32).toUInt32 &&& Int32.toUInt32 31)).toInt32 &&& 858993459)) + (((((a1 - (((a1).toUInt32 >>> ((1 : Int32).toUInt32 &&& Int32.toUInt32 31)).toInt32 &&& 1431655765)) &&& 858993459) + ((((a1 - (((a1).toUInt32 >>> ((1 : Int32).toUInt32 &&& Int32.toUInt32 31)).toInt32 &&& 1431655765))).toUInt32 >>> ((2 : Int32).toUInt32 &&& Int32.toUInt32 31)).toInt32 &&& 858993459))).toUInt32 >>> ((4 : Int32).toUInt32 &&& Int32.toUInt32 31)).toInt32) &&& 252645135))]) C dJ6_bitCount_0f7a4_33 (by rw [e5]; decide) rfl ?_
  refine x_iload_n C 0 dJ6_bitCount_0f7a4_34 rfl ?_
  refine x_iload_n C 0 dJ6_bitCount_0f7a4_35 rfl ?_
  refine x_bipush (v := 8) C dJ6_bitCount_0f7a4_36 rfl ?_
  refine x_iushr C dJ6_bitCount_0f7a4_38 rfl ?_
  refine x_iadd C dJ6_bitCount_0f7a4_39 ?_
  refine x_istore_n (lv' := [(0, .int ((((((a1 - (((a1).toUInt32 >>> ((1 : Int32).toUInt32 &&& Int32.toUInt32 31)).toInt32 &&& 1431655765)) &&& 858993459) + ((((a1 - (((a1).toUInt32 >>> ((1 : Int32).toUInt32 &&& Int32.toUInt32 31)).toInt32 &&& 1431655765))).toUInt32 >>> ((2 : Int32).toUInt32 &&& Int32.toUInt32 31)).toInt32 &&& 858993459)) + (((((a1 - (((a1).toUInt32 >>> ((1 : Int32).toUInt32 &&& Int32.toUInt32 31)).toInt32 &&& 1431655765)) &&& 858993459) + ((((a1 - (((a1).toUInt32 >>> ((1 : Int32).toUInt32 &&& Int32.toUInt32 31)).toInt32 &&& 1431655765))).toUInt32 >>> ((2 : Int32).toUInt32 &&& Int32.toUInt32 31)).toInt32 &&& 858993459))).toUInt32 >>> ((4 : Int32).toUInt32 &&& Int32.toUInt32 31)).toInt32) &&& 252645135) + (((((((a1 - (((a1).toUInt32 >>> ((1 : Int32).toUInt32 &&& Int32.toUInt32 31)).toInt32 &&& 1431655765)) &&& 858993459) + ((((a1 - (((a1).toUInt32 >>> ((1 : Int32).toUInt32 &&& Int32.toUInt32 31)).toInt32 &&& 1431655765))).toUInt32 >>> ((2 : Int32).toUInt32 &&& Int32.toUInt32 31)).toInt32 &&& 858993459)) + (((((a1 - (((a1).toUInt32 >>> ((1 : Int32).toUInt32 &&& Int32.toUInt32 31)).toInt32 &&& 1431655765)) &&& 858993459) + ((((a1 - (((a1).toUInt32 >>> ((1 : Int32).toUInt32 &&& Int32.toUInt32 31)).toInt32 &&& 1431655765))).toUInt32 >>> ((2 : Int32).toUInt32 &&& Int32.toUInt32 31)).toInt32 &&& 858993459))).toUInt32 >>> ((4 : Int32).toUInt32 &&& Int32.toUInt32 31)).toInt32) &&& 252645135)).toUInt32 >>> ((8 : Int32).toUInt32 &&& Int32.toUInt32 31)).toInt32))]) C dJ6_bitCount_0f7a4_40 (by rw [e5]; decide) rfl ?_
  refine x_iload_n C 0 dJ6_bitCount_0f7a4_41 rfl ?_
  refine x_iload_n C 0 dJ6_bitCount_0f7a4_42 rfl ?_
  refine x_bipush (v := 16) C dJ6_bitCount_0f7a4_43 rfl ?_
  refine x_iushr C dJ6_bitCount_0f7a4_45 rfl ?_
  refine x_iadd C dJ6_bitCount_0f7a4_46 ?_
  refine x_istore_n (lv' := [(0, .int (((((((a1 - (((a1).toUInt32 >>> ((1 : Int32).toUInt32 &&& Int32.toUInt32 31)).toInt32 &&& 1431655765)) &&& 858993459) + ((((a1 - (((a1).toUInt32 >>> ((1 : Int32).toUInt32 &&& Int32.toUInt32 31)).toInt32 &&& 1431655765))).toUInt32 >>> ((2 : Int32).toUInt32 &&& Int32.toUInt32 31)).toInt32 &&& 858993459)) + (((((a1 - (((a1).toUInt32 >>> ((1 : Int32).toUInt32 &&& Int32.toUInt32 31)).toInt32 &&& 1431655765)) &&& 858993459) + ((((a1 - (((a1).toUInt32 >>> ((1 : Int32).toUInt32 &&& Int32.toUInt32 31)).toInt32 &&& 1431655765))).toUInt32 >>> ((2 : Int32).toUInt32 &&& Int32.toUInt32 31)).toInt32 &&& 858993459))).toUInt32 >>> ((4 : Int32).toUInt32 &&& Int32.toUInt32 31)).toInt32) &&& 252645135) + (((((((a1 - (((a1).toUInt32 >>> ((1 : Int32).toUInt32 &&& Int32.toUInt32 31)).toInt32 &&& 1431655765)) &&& 858993459) + ((((a1 - (((a1).toUInt32 >>> ((1 : Int32).toUInt32 &&& Int32.toUInt32 31)).toInt32 &&& 1431655765))).toUInt32 >>> ((2 : Int32).toUInt32 &&& Int32.toUInt32 31)).toInt32 &&& 858993459)) + (((((a1 - (((a1).toUInt32 >>> ((1 : Int32).toUInt32 &&& Int32.toUInt32 31)).toInt32 &&& 1431655765)) &&& 858993459) + ((((a1 - (((a1).toUInt32 >>> ((1 : Int32).toUInt32 &&& Int32.toUInt32 31)).toInt32 &&& 1431655765))).toUInt32 >>> ((2 : Int32).toUInt32 &&& Int32.toUInt32 31)).toInt32 &&& 858993459))).toUInt32 >>> ((4 : Int32).toUInt32 &&& Int32.toUInt32 31)).toInt32) &&& 252645135)).toUInt32 >>> ((8 : Int32).toUInt32 &&& Int32.toUInt32 31)).toInt32) + ((((((((a1 - (((a1).toUInt32 >>> ((1 : Int32).toUInt32 &&& Int32.toUInt32 31)).toInt32 &&& 1431655765)) &&& 858993459) + ((((a1 - (((a1).toUInt32 >>> ((1 : Int32).toUInt32 &&& Int32.toUInt32 31)).toInt32 &&& 1431655765))).toUInt32 >>> ((2 : Int32).toUInt32 &&& Int32.toUInt32 31)).toInt32 &&& 858993459)) + (((((a1 - (((a1).toUInt32 >>> ((1 : Int32).toUInt32 &&& Int32.toUInt32 31)).toInt32 &&& 1431655765)) &&& 858993459) + ((((a1 - (((a1).toUInt32 >>> ((1 : Int32).toUInt32 &&& Int32.toUInt32 31)).toInt32 &&& 1431655765))).toUInt32 >>> ((2 : Int32).toUInt32 &&& Int32.toUInt32 31)).toInt32 &&& 858993459))).toUInt32 >>> ((4 : Int32).toUInt32 &&& Int32.toUInt32 31)).toInt32) &&& 252645135) + (((((((a1 - (((a1).toUInt32 >>> ((1 : Int32).toUInt32 &&& Int32.toUInt32 31)).toInt32 &&& 1431655765)) &&& 858993459) + ((((a1 - (((a1).toUInt32 >>> ((1 : Int32).toUInt32 &&& Int32.toUInt32 31)).toInt32 &&& 1431655765))).toUInt32 >>> ((2 : Int32).toUInt32 &&& Int32.toUInt32 31)).toInt32 &&& 858993459)) + (((((a1 - (((a1).toUInt32 >>> ((1 : Int32).toUInt32 &&& Int32.toUInt32 31)).toInt32 &&& 1431655765)) &&& 858993459) + ((((a1 - (((a1).toUInt32 >>> ((1 : Int32).toUInt32 &&& Int32.toUInt32 31)).toInt32 &&& 1431655765))).toUInt32 >>> ((2 : Int32).toUInt32 &&& Int32.toUInt32 31)).toInt32 &&& 858993459))).toUInt32 >>> ((4 : Int32).toUInt32 &&& Int32.toUInt32 31)).toInt32) &&& 252645135)).toUInt32 >>> ((8 : Int32).toUInt32 &&& Int32.toUInt32 31)).toInt32)).toUInt32 >>> ((16 : Int32).toUInt32 &&& Int32.toUInt32 31)).toInt32))]) C dJ6_bitCount_0f7a4_47 (by rw [e5]; decide) rfl ?_
  refine x_iload_n C 0 dJ6_bitCount_0f7a4_48 rfl ?_
  refine x_bipush (v := 63) C dJ6_bitCount_0f7a4_49 rfl ?_
  refine x_iand C dJ6_bitCount_0f7a4_51 ?_
  subst h0
  exact x_iret C R dJ6_bitCount_0f7a4_52
set_option maxHeartbeats 4000000 in
set_option maxRecDepth 100000 in
theorem c_X5_inUpper {l : Launch} {D : va_G} {ad : Nat → Nat} {cy : Nat → ClassId} (hJ : mJ LX ad) {σ : mS} {i : Nat} {a1 : Int32} {r : Int32} (hi : i < 6) (h0 : X5_inUpper a1 = r) : MetG l LX D ad cy yX5_inUpper cX5_inUpper 2 (some .int) 1 [.ref (ad (104 + i)), .int a1] σ (some (.int r)) σ := by
  refine MetG.of hJ (by decide +kernel) [(0, .ref (ad (104 + i))), (1, .int a1)] rfl (Nat.le_of_ble_eq_true rfl) ?_
  intro K e1 e2 e3 e4 e5 C R
  subst e1
  subst e2
  subst e3
  subst e4
  unfold X5_inUpper at h0
  refine x_iload_n C 1 dX5_inUpper_0 rfl ?_
  refine x_bipush (v := 7) C dX5_inUpper_1 rfl ?_
  refine x_iand C dX5_inUpper_3 ?_
  refine x_callS (ar := 1) (rest := []) C (c_J6_bitCount_0f7a4 C.2.2.2.2.2.2.1  rfl) hy_J6_bitCount_0f7a4 ⟨tw416, tw417, tw77, tw418⟩ (by decide) (by decide) rfl rfl (Nat.le_of_ble_eq_true rfl) dX5_inUpper_4 ?_
  show Wx LX K σ 7 [(0, .ref (kad K (104 + i))), (1, .int a1)] [.int (J6_bitCount_0f7a4 (a1 &&& 7))]
  subst h0
  exact x_iret C R dX5_inUpper_7
set_option maxRecDepth 100000 in
theorem x_K_X3_inUpper {K : Kx} {cc : ByteArray} {own : String} {n : Nat} {σ : mS} {pc : Nat} {lv : List (Nat × Value)} {rest : List Value} (C : Cx LX K cc own n) {r i : Nat} {a1 : Int32} (hr : r = 3) (hl : Cond.methodLink own i ⟨"CalledNumbers$Hasty", "inUpper", "(I)I"⟩ ∈ mB) (hn : 1 < n) (hr9 : (rest.map fun v => v.category).sum ≤ 8) (d : decode cc pc = .ok (.invokevirtual i, 3)) (kk : Wx LX K σ (pc + 3) lv (.int (X5_inUpper a1) :: rest)) : Wx LX K σ pc lv (.int a1 :: .ref (kad K (104 + r)) :: rest) := by
  subst hr
  exact x_callO (ar := 1) (x := ⟨"CalledNumbers$Hasty", "inUpper", "(I)I"⟩) (owner := "CalledNumbers$Plain") (As := [.int a1]) (q := (RX3, TX3, 0)) (rest := rest) C (c_X5_inUpper C.2.2.2.2.2.2.1 (i := 3) (by decide) rfl) (iX13 (i := 3) (by decide)) rfl rfl (by decide +kernel) hl tw411 tw414 tw413 tw414 tw66 tw415 tw415 (Nat.lt_of_le_of_lt (by decide) hn) (by decide) rfl rfl hr9 d kk
set_option maxHeartbeats 4000000 in
set_option maxRecDepth 100000 in
theorem c_X5_inLower {l : Launch} {D : va_G} {ad : Nat → Nat} {cy : Nat → ClassId} (hJ : mJ LX ad) {σ : mS} {i : Nat} {a1 : Int32} {r : Int32} (hi : i < 6) (h0 : X5_inLower a1 = r) : MetG l LX D ad cy yX5_inLower cX5_inLower 2 (some .int) 1 [.ref (ad (104 + i)), .int a1] σ (some (.int r)) σ := by
  refine MetG.of hJ (by decide +kernel) [(0, .ref (ad (104 + i))), (1, .int a1)] rfl (Nat.le_of_ble_eq_true rfl) ?_
  intro K e1 e2 e3 e4 e5 C R
  subst e1
  subst e2
  subst e3
  subst e4
  unfold X5_inLower at h0
  refine x_iload_n C 1 dX5_inLower_0 rfl ?_
  refine x_bipush (v := 56) C dX5_inLower_1 rfl ?_
  refine x_iand C dX5_inLower_3 ?_
  refine x_callS (ar := 1) (rest := []) C (c_J6_bitCount_0f7a4 C.2.2.2.2.2.2.1  rfl) hy_J6_bitCount_0f7a4 ⟨tw416, tw417, tw77, tw418⟩ (by decide) (by decide) rfl rfl (Nat.le_of_ble_eq_true rfl) dX5_inLower_4 ?_
  show Wx LX K σ 7 [(0, .ref (kad K (104 + i))), (1, .int a1)] [.int (J6_bitCount_0f7a4 (a1 &&& 56))]
  subst h0
  exact x_iret C R dX5_inLower_7
set_option maxRecDepth 100000 in
theorem x_K_X3_inLower {K : Kx} {cc : ByteArray} {own : String} {n : Nat} {σ : mS} {pc : Nat} {lv : List (Nat × Value)} {rest : List Value} (C : Cx LX K cc own n) {r i : Nat} {a1 : Int32} (hr : r = 3) (hl : Cond.methodLink own i ⟨"CalledNumbers$Hasty", "inLower", "(I)I"⟩ ∈ mB) (hn : 1 < n) (hr9 : (rest.map fun v => v.category).sum ≤ 8) (d : decode cc pc = .ok (.invokevirtual i, 3)) (kk : Wx LX K σ (pc + 3) lv (.int (X5_inLower a1) :: rest)) : Wx LX K σ pc lv (.int a1 :: .ref (kad K (104 + r)) :: rest) := by
  subst hr
  exact x_callO (ar := 1) (x := ⟨"CalledNumbers$Hasty", "inLower", "(I)I"⟩) (owner := "CalledNumbers$Plain") (As := [.int a1]) (q := (RX3, TX3, 0)) (rest := rest) C (c_X5_inLower C.2.2.2.2.2.2.1 (i := 3) (by decide) rfl) (iX13 (i := 3) (by decide)) rfl rfl (by decide +kernel) hl tw426 tw429 tw428 tw429 tw66 tw430 tw430 (Nat.lt_of_le_of_lt (by decide) hn) (by decide) rfl rfl hr9 d kk
set_option maxRecDepth 100000 in
theorem x_K_X5_inUpper {K : Kx} {cc : ByteArray} {own : String} {n : Nat} {σ : mS} {pc : Nat} {lv : List (Nat × Value)} {rest : List Value} (C : Cx LX K cc own n) {r i : Nat} {a1 : Int32} (hr : r < 6) (hl : Cond.methodLink own i yX5_inUpper ∈ mB) (hn : 1 < n) (hr9 : (rest.map fun v => v.category).sum ≤ 8) (d : decode cc pc = .ok (.invokevirtual i, 3)) (kk : Wx LX K σ (pc + 3) lv (.int (X5_inUpper a1) :: rest)) : Wx LX K σ pc lv (.int a1 :: .ref (kad K (104 + r)) :: rest) := by
  rcases (show r = 0 ∨ r = 1 ∨ r = 2 ∨ r = 3 ∨ r = 4 ∨ r = 5 by omega) with rfl | rfl | rfl | rfl | rfl | rfl
  · exact x_callO (ar := 1) (x := yX5_inUpper) (owner := "CalledNumbers$Plain") (As := [.int a1]) (q := (RX5, TX5, 0)) (rest := rest) C (c_X5_inUpper C.2.2.2.2.2.2.1 (i := 0) (by decide) rfl) (iX13 (i := 0) (by decide)) rfl rfl (by decide +kernel) hl tw1138 tw414 tw1142 tw414 tw66 tw415 tw415 (Nat.lt_of_le_of_lt (by decide) hn) (by decide) rfl rfl hr9 d kk
  · exact x_callO (ar := 1) (x := yX5_inUpper) (owner := "CalledNumbers$Plain") (As := [.int a1]) (q := (RX9, TX9, 0)) (rest := rest) C (c_X5_inUpper C.2.2.2.2.2.2.1 (i := 1) (by decide) rfl) (iX13 (i := 1) (by decide)) rfl rfl (by decide +kernel) hl tw1138 tw414 tw1144 tw414 tw66 tw415 tw415 (Nat.lt_of_le_of_lt (by decide) hn) (by decide) rfl rfl hr9 d kk
  · exact x_callO (ar := 1) (x := yX5_inUpper) (owner := "CalledNumbers$Plain") (As := [.int a1]) (q := (RX0, TX0, 0)) (rest := rest) C (c_X5_inUpper C.2.2.2.2.2.2.1 (i := 2) (by decide) rfl) (iX13 (i := 2) (by decide)) rfl rfl (by decide +kernel) hl tw1138 tw414 tw1139 tw414 tw66 tw415 tw415 (Nat.lt_of_le_of_lt (by decide) hn) (by decide) rfl rfl hr9 d kk
  · exact x_callO (ar := 1) (x := yX5_inUpper) (owner := "CalledNumbers$Plain") (As := [.int a1]) (q := (RX3, TX3, 0)) (rest := rest) C (c_X5_inUpper C.2.2.2.2.2.2.1 (i := 3) (by decide) rfl) (iX13 (i := 3) (by decide)) rfl rfl (by decide +kernel) hl tw1138 tw414 tw1140 tw414 tw66 tw415 tw415 (Nat.lt_of_le_of_lt (by decide) hn) (by decide) rfl rfl hr9 d kk
  · exact x_callO (ar := 1) (x := yX5_inUpper) (owner := "CalledNumbers$Plain") (As := [.int a1]) (q := (RX4, TX4, 0)) (rest := rest) C (c_X5_inUpper C.2.2.2.2.2.2.1 (i := 4) (by decide) rfl) (iX13 (i := 4) (by decide)) rfl rfl (by decide +kernel) hl tw1138 tw414 tw1141 tw414 tw66 tw415 tw415 (Nat.lt_of_le_of_lt (by decide) hn) (by decide) rfl rfl hr9 d kk
  · exact x_callO (ar := 1) (x := yX5_inUpper) (owner := "CalledNumbers$Plain") (As := [.int a1]) (q := (RX8, TX8, 0)) (rest := rest) C (c_X5_inUpper C.2.2.2.2.2.2.1 (i := 5) (by decide) rfl) (iX13 (i := 5) (by decide)) rfl rfl (by decide +kernel) hl tw1138 tw414 tw1143 tw414 tw66 tw415 tw415 (Nat.lt_of_le_of_lt (by decide) hn) (by decide) rfl rfl hr9 d kk
set_option maxRecDepth 100000 in
theorem x_K_X5_inLower {K : Kx} {cc : ByteArray} {own : String} {n : Nat} {σ : mS} {pc : Nat} {lv : List (Nat × Value)} {rest : List Value} (C : Cx LX K cc own n) {r i : Nat} {a1 : Int32} (hr : r < 6) (hl : Cond.methodLink own i yX5_inLower ∈ mB) (hn : 1 < n) (hr9 : (rest.map fun v => v.category).sum ≤ 8) (d : decode cc pc = .ok (.invokevirtual i, 3)) (kk : Wx LX K σ (pc + 3) lv (.int (X5_inLower a1) :: rest)) : Wx LX K σ pc lv (.int a1 :: .ref (kad K (104 + r)) :: rest) := by
  rcases (show r = 0 ∨ r = 1 ∨ r = 2 ∨ r = 3 ∨ r = 4 ∨ r = 5 by omega) with rfl | rfl | rfl | rfl | rfl | rfl
  · exact x_callO (ar := 1) (x := yX5_inLower) (owner := "CalledNumbers$Plain") (As := [.int a1]) (q := (RX5, TX5, 0)) (rest := rest) C (c_X5_inLower C.2.2.2.2.2.2.1 (i := 0) (by decide) rfl) (iX13 (i := 0) (by decide)) rfl rfl (by decide +kernel) hl tw1145 tw429 tw1149 tw429 tw66 tw430 tw430 (Nat.lt_of_le_of_lt (by decide) hn) (by decide) rfl rfl hr9 d kk
  · exact x_callO (ar := 1) (x := yX5_inLower) (owner := "CalledNumbers$Plain") (As := [.int a1]) (q := (RX9, TX9, 0)) (rest := rest) C (c_X5_inLower C.2.2.2.2.2.2.1 (i := 1) (by decide) rfl) (iX13 (i := 1) (by decide)) rfl rfl (by decide +kernel) hl tw1145 tw429 tw1151 tw429 tw66 tw430 tw430 (Nat.lt_of_le_of_lt (by decide) hn) (by decide) rfl rfl hr9 d kk
  · exact x_callO (ar := 1) (x := yX5_inLower) (owner := "CalledNumbers$Plain") (As := [.int a1]) (q := (RX0, TX0, 0)) (rest := rest) C (c_X5_inLower C.2.2.2.2.2.2.1 (i := 2) (by decide) rfl) (iX13 (i := 2) (by decide)) rfl rfl (by decide +kernel) hl tw1145 tw429 tw1146 tw429 tw66 tw430 tw430 (Nat.lt_of_le_of_lt (by decide) hn) (by decide) rfl rfl hr9 d kk
  · exact x_callO (ar := 1) (x := yX5_inLower) (owner := "CalledNumbers$Plain") (As := [.int a1]) (q := (RX3, TX3, 0)) (rest := rest) C (c_X5_inLower C.2.2.2.2.2.2.1 (i := 3) (by decide) rfl) (iX13 (i := 3) (by decide)) rfl rfl (by decide +kernel) hl tw1145 tw429 tw1147 tw429 tw66 tw430 tw430 (Nat.lt_of_le_of_lt (by decide) hn) (by decide) rfl rfl hr9 d kk
  · exact x_callO (ar := 1) (x := yX5_inLower) (owner := "CalledNumbers$Plain") (As := [.int a1]) (q := (RX4, TX4, 0)) (rest := rest) C (c_X5_inLower C.2.2.2.2.2.2.1 (i := 4) (by decide) rfl) (iX13 (i := 4) (by decide)) rfl rfl (by decide +kernel) hl tw1145 tw429 tw1148 tw429 tw66 tw430 tw430 (Nat.lt_of_le_of_lt (by decide) hn) (by decide) rfl rfl hr9 d kk
  · exact x_callO (ar := 1) (x := yX5_inLower) (owner := "CalledNumbers$Plain") (As := [.int a1]) (q := (RX8, TX8, 0)) (rest := rest) C (c_X5_inLower C.2.2.2.2.2.2.1 (i := 5) (by decide) rfl) (iX13 (i := 5) (by decide)) rfl rfl (by decide +kernel) hl tw1145 tw429 tw1150 tw429 tw66 tw430 tw430 (Nat.lt_of_le_of_lt (by decide) hn) (by decide) rfl rfl hr9 d kk
set_option maxHeartbeats 4000000 in
set_option maxRecDepth 100000 in
theorem c_X5_lacks {l : Launch} {D : va_G} {ad : Nat → Nat} {cy : Nat → ClassId} (hJ : mJ LX ad) {σ : mS} {i : Nat} {a1 : Int32} {r : Int32} (hi : i < 6) (h0 : X5_lacks a1 = r) : MetG l LX D ad cy yX5_lacks cX5_lacks 2 (some .int) 2 [.ref (ad (104 + i)), .int a1] σ (some (.int r)) σ := by
  refine MetG.of hJ (by decide +kernel) [(0, .ref (ad (104 + i))), (1, .int a1)] rfl (Nat.le_of_ble_eq_true rfl) ?_
  intro K e1 e2 e3 e4 e5 C R
  subst e1
  subst e2
  subst e3
  subst e4
  unfold X5_lacks at h0
  refine x_iconst (v := 3) C dX5_lacks_0 rfl ?_
  refine x_aload_n C 0 dX5_lacks_1 rfl ?_
  refine x_iload_n C 1 dX5_lacks_2 rfl ?_
  refine x_K_X5_inUpper C hi tw449 (by decide) (Nat.le_of_ble_eq_true rfl) dX5_lacks_3 ?_
  refine x_isub C dX5_lacks_6 ?_
  refine x_iconst (v := 3) C dX5_lacks_7 rfl ?_
  refine x_aload_n C 0 dX5_lacks_8 rfl ?_
  refine x_iload_n C 1 dX5_lacks_9 rfl ?_
  refine x_K_X5_inLower C hi tw450 (by decide) (Nat.le_of_ble_eq_true rfl) dX5_lacks_10 ?_
  refine x_isub C dX5_lacks_13 ?_
  refine x_mmin C (by decide) tw451 tw433 tw78 tw434 (Nat.le_of_ble_eq_true rfl) dX5_lacks_14 ?_
  subst h0
  exact x_iret C R dX5_lacks_17
set_option maxHeartbeats 4000000 in
set_option maxRecDepth 100000 in
theorem c_X3_lacks {l : Launch} {D : va_G} {ad : Nat → Nat} {cy : Nat → ClassId} (hJ : mJ LX ad) {σ : mS} {a1 : Int32} {r : Int32}  (h0 : X3_lacks a1 = r) : MetG l LX D ad cy yX3_lacks cX3_lacks 3 (some .int) 3 [.ref (ad (104 + 3)), .int a1] σ (some (.int r)) σ := by
  refine MetG.of hJ (by decide +kernel) [(0, .ref (ad (104 + 3))), (1, .int a1)] rfl (Nat.le_of_ble_eq_true rfl) ?_
  intro K e1 e2 e3 e4 e5 C R
  subst e1
  subst e2
  subst e3
  subst e4
  unfold X3_lacks at h0
  refine x_iconst (v := 0) C dX3_lacks_0 rfl ?_
  refine x_iconst (v := 2) C dX3_lacks_1 rfl ?_
  refine x_aload_n C 0 dX3_lacks_2 rfl ?_
  refine x_iload_n C 1 dX3_lacks_3 rfl ?_
  refine x_K_X3_inUpper C (by decide) tw410 (by decide) (Nat.le_of_ble_eq_true rfl) dX3_lacks_4 ?_
  refine x_isub C dX3_lacks_7 ?_
  refine x_mmax C (by decide) tw422 tw423 tw78 tw424 (Nat.le_of_ble_eq_true rfl) dX3_lacks_8 ?_
  refine x_iconst (v := 0) C dX3_lacks_11 rfl ?_
  refine x_iconst (v := 2) C dX3_lacks_12 rfl ?_
  refine x_aload_n C 0 dX3_lacks_13 rfl ?_
  refine x_iload_n C 1 dX3_lacks_14 rfl ?_
  refine x_K_X3_inLower C (by decide) tw425 (by decide) (Nat.le_of_ble_eq_true rfl) dX3_lacks_15 ?_
  refine x_isub C dX3_lacks_18 ?_
  refine x_mmax C (by decide) tw422 tw423 tw78 tw424 (Nat.le_of_ble_eq_true rfl) dX3_lacks_19 ?_
  refine x_iadd C dX3_lacks_22 ?_
  refine x_istore_n (lv' := [(2, .int ((jmax 0 ((2 : Int32) - (X5_inUpper a1))) + (jmax 0 ((2 : Int32) - (X5_inLower a1))))), (0, .ref (kad K (104 + 3))), (1, .int a1)]) C dX3_lacks_23 (by rw [e5]; decide) rfl ?_
  refine x_iload_n C 0 dX3_lacks_24 rfl ?_
  refine x_aload_n C 1 dX3_lacks_25 rfl ?_
  refine x_iload_n C 2 dX3_lacks_26 rfl ?_
  refine x_callSU (ar := 1) (As := [.int a1]) (q := (RX3, TX3, 0)) (rest := [.int ((jmax 0 ((2 : Int32) - (X5_inUpper a1))) + (jmax 0 ((2 : Int32) - (X5_inLower a1))))]) C (c_X5_lacks C.2.2.2.2.2.2.1 (i := 3) (by decide) rfl) (iX13 (i := 3) (by decide)) rfl rfl (by decide +kernel) tw431 tw405 tw147 tw403 tw66 tw448 (by decide) (by decide) rfl rfl (Nat.le_of_ble_eq_true rfl) dX3_lacks_27 ?_
  show Wx LX K σ 30 [(2, .int ((jmax 0 ((2 : Int32) - (X5_inUpper a1))) + (jmax 0 ((2 : Int32) - (X5_inLower a1))))), (0, .ref (kad K (104 + 3))), (1, .int a1)] [.int (X5_lacks a1), .int ((jmax 0 ((2 : Int32) - (X5_inUpper a1))) + (jmax 0 ((2 : Int32) - (X5_inLower a1))))]
  refine x_mmin C (by decide) tw432 tw433 tw78 tw434 (Nat.le_of_ble_eq_true rfl) dX3_lacks_30 ?_
  subst h0
  exact x_iret C R dX3_lacks_33
set_option maxRecDepth 100000 in
theorem x_K_X9_inUpper {K : Kx} {cc : ByteArray} {own : String} {n : Nat} {σ : mS} {pc : Nat} {lv : List (Nat × Value)} {rest : List Value} (C : Cx LX K cc own n) {r i : Nat} {a1 : Int32} (hr : r = 1 ∨ r = 4) (hl : Cond.methodLink own i ⟨"CalledNumbers$Whole", "inUpper", "(I)I"⟩ ∈ mB) (hn : 1 < n) (hr9 : (rest.map fun v => v.category).sum ≤ 8) (d : decode cc pc = .ok (.invokevirtual i, 3)) (kk : Wx LX K σ (pc + 3) lv (.int (X5_inUpper a1) :: rest)) : Wx LX K σ pc lv (.int a1 :: .ref (kad K (104 + r)) :: rest) := by
  rcases hr with rfl | rfl
  · exact x_callO (ar := 1) (x := ⟨"CalledNumbers$Whole", "inUpper", "(I)I"⟩) (owner := "CalledNumbers$Plain") (As := [.int a1]) (q := (RX9, TX9, 0)) (rest := rest) C (c_X5_inUpper C.2.2.2.2.2.2.1 (i := 1) (by decide) rfl) (iX13 (i := 1) (by decide)) rfl rfl (by decide +kernel) hl tw439 tw414 tw441 tw414 tw66 tw415 tw415 (Nat.lt_of_le_of_lt (by decide) hn) (by decide) rfl rfl hr9 d kk
  · exact x_callO (ar := 1) (x := ⟨"CalledNumbers$Whole", "inUpper", "(I)I"⟩) (owner := "CalledNumbers$Plain") (As := [.int a1]) (q := (RX4, TX4, 0)) (rest := rest) C (c_X5_inUpper C.2.2.2.2.2.2.1 (i := 4) (by decide) rfl) (iX13 (i := 4) (by decide)) rfl rfl (by decide +kernel) hl tw439 tw414 tw440 tw414 tw66 tw415 tw415 (Nat.lt_of_le_of_lt (by decide) hn) (by decide) rfl rfl hr9 d kk
set_option maxRecDepth 100000 in
theorem x_K_X9_inLower {K : Kx} {cc : ByteArray} {own : String} {n : Nat} {σ : mS} {pc : Nat} {lv : List (Nat × Value)} {rest : List Value} (C : Cx LX K cc own n) {r i : Nat} {a1 : Int32} (hr : r = 1 ∨ r = 4) (hl : Cond.methodLink own i ⟨"CalledNumbers$Whole", "inLower", "(I)I"⟩ ∈ mB) (hn : 1 < n) (hr9 : (rest.map fun v => v.category).sum ≤ 8) (d : decode cc pc = .ok (.invokevirtual i, 3)) (kk : Wx LX K σ (pc + 3) lv (.int (X5_inLower a1) :: rest)) : Wx LX K σ pc lv (.int a1 :: .ref (kad K (104 + r)) :: rest) := by
  rcases hr with rfl | rfl
  · exact x_callO (ar := 1) (x := ⟨"CalledNumbers$Whole", "inLower", "(I)I"⟩) (owner := "CalledNumbers$Plain") (As := [.int a1]) (q := (RX9, TX9, 0)) (rest := rest) C (c_X5_inLower C.2.2.2.2.2.2.1 (i := 1) (by decide) rfl) (iX13 (i := 1) (by decide)) rfl rfl (by decide +kernel) hl tw443 tw429 tw445 tw429 tw66 tw430 tw430 (Nat.lt_of_le_of_lt (by decide) hn) (by decide) rfl rfl hr9 d kk
  · exact x_callO (ar := 1) (x := ⟨"CalledNumbers$Whole", "inLower", "(I)I"⟩) (owner := "CalledNumbers$Plain") (As := [.int a1]) (q := (RX4, TX4, 0)) (rest := rest) C (c_X5_inLower C.2.2.2.2.2.2.1 (i := 4) (by decide) rfl) (iX13 (i := 4) (by decide)) rfl rfl (by decide +kernel) hl tw443 tw429 tw444 tw429 tw66 tw430 tw430 (Nat.lt_of_le_of_lt (by decide) hn) (by decide) rfl rfl hr9 d kk
set_option maxHeartbeats 4000000 in
set_option maxRecDepth 100000 in
theorem c_X9_lacks {l : Launch} {D : va_G} {ad : Nat → Nat} {cy : Nat → ClassId} (hJ : mJ LX ad) {σ : mS} {i : Nat} {a1 : Int32} {r : Int32} (hi : i = 1 ∨ i = 4) (h0 : X9_lacks a1 = r) : MetG l LX D ad cy yX9_lacks cX9_lacks 2 (some .int) 2 [.ref (ad (104 + i)), .int a1] σ (some (.int r)) σ := by
  refine MetG.of hJ (by decide +kernel) [(0, .ref (ad (104 + i))), (1, .int a1)] rfl (Nat.le_of_ble_eq_true rfl) ?_
  intro K e1 e2 e3 e4 e5 C R
  subst e1
  subst e2
  subst e3
  subst e4
  unfold X9_lacks at h0
  refine x_bipush (v := 6) C dX9_lacks_0 rfl ?_
  refine x_aload_n C 0 dX9_lacks_2 rfl ?_
  refine x_iload_n C 1 dX9_lacks_3 rfl ?_
  refine x_K_X9_inUpper C hi tw438 (by decide) (Nat.le_of_ble_eq_true rfl) dX9_lacks_4 ?_
  refine x_isub C dX9_lacks_7 ?_
  refine x_aload_n C 0 dX9_lacks_8 rfl ?_
  refine x_iload_n C 1 dX9_lacks_9 rfl ?_
  refine x_K_X9_inLower C hi tw442 (by decide) (Nat.le_of_ble_eq_true rfl) dX9_lacks_10 ?_
  refine x_isub C dX9_lacks_13 ?_
  subst h0
  exact x_iret C R dX9_lacks_14
set_option maxRecDepth 100000 in
theorem x_K_X5_lacks {K : Kx} {cc : ByteArray} {own : String} {n : Nat} {σ : mS} {pc : Nat} {lv : List (Nat × Value)} {rest : List Value} (C : Cx LX K cc own n) {r i : Nat} {a1 : Int32} (hr : r < 6) (hl : Cond.methodLink own i yX5_lacks ∈ mB) (hn : 3 < n) (hr9 : (rest.map fun v => v.category).sum ≤ 8) (d : decode cc pc = .ok (.invokevirtual i, 3)) (kk : Wx LX K σ (pc + 3) lv (.int (kd_X5_lacks r a1) :: rest)) : Wx LX K σ pc lv (.int a1 :: .ref (kad K (104 + r)) :: rest) := by
  rcases (show r = 0 ∨ r = 1 ∨ r = 2 ∨ r = 3 ∨ r = 4 ∨ r = 5 by omega) with rfl | rfl | rfl | rfl | rfl | rfl
  · exact x_callO (ar := 1) (x := yX5_lacks) (owner := "CalledNumbers$Plain") (As := [.int a1]) (q := (RX5, TX5, 0)) (rest := rest) C (c_X5_lacks C.2.2.2.2.2.2.1 (i := 0) (by decide) rfl) (iX13 (i := 0) (by decide)) rfl rfl (by decide +kernel) hl tw405 tw403 tw404 tw403 tw66 tw448 tw448 (Nat.lt_of_le_of_lt (by decide) hn) (by decide) rfl rfl hr9 d kk
  · exact x_callO (ar := 1) (x := yX5_lacks) (owner := "CalledNumbers$Plain") (As := [.int a1]) (q := (RX9, TX9, 0)) (rest := rest) C (c_X9_lacks C.2.2.2.2.2.2.1 (i := 1) (by decide) rfl) (iX13 (i := 1) (by decide)) rfl rfl (by decide +kernel) hl tw405 tw403 tw447 tw436 tw67 tw437 tw448 (Nat.lt_of_le_of_lt (by decide) hn) (by decide) rfl rfl hr9 d kk
  · exact x_callO (ar := 1) (x := yX5_lacks) (owner := "CalledNumbers$Plain") (As := [.int a1]) (q := (RX0, TX0, 0)) (rest := rest) C (c_X5_lacks C.2.2.2.2.2.2.1 (i := 2) (by decide) rfl) (iX13 (i := 2) (by decide)) rfl rfl (by decide +kernel) hl tw405 tw403 tw406 tw403 tw66 tw448 tw448 (Nat.lt_of_le_of_lt (by decide) hn) (by decide) rfl rfl hr9 d kk
  · exact x_callO (ar := 1) (x := yX5_lacks) (owner := "CalledNumbers$Plain") (As := [.int a1]) (q := (RX3, TX3, 0)) (rest := rest) C (c_X3_lacks C.2.2.2.2.2.2.1 rfl) (iX13 (i := 3) (by decide)) rfl rfl (by decide +kernel) hl tw405 tw403 tw407 tw408 tw69 tw409 tw448 (Nat.lt_of_le_of_lt (by decide) hn) (by decide) rfl rfl hr9 d kk
  · exact x_callO (ar := 1) (x := yX5_lacks) (owner := "CalledNumbers$Plain") (As := [.int a1]) (q := (RX4, TX4, 0)) (rest := rest) C (c_X9_lacks C.2.2.2.2.2.2.1 (i := 4) (by decide) rfl) (iX13 (i := 4) (by decide)) rfl rfl (by decide +kernel) hl tw405 tw403 tw435 tw436 tw67 tw437 tw448 (Nat.lt_of_le_of_lt (by decide) hn) (by decide) rfl rfl hr9 d kk
  · exact x_callO (ar := 1) (x := yX5_lacks) (owner := "CalledNumbers$Plain") (As := [.int a1]) (q := (RX8, TX8, 0)) (rest := rest) C (c_X5_lacks C.2.2.2.2.2.2.1 (i := 5) (by decide) rfl) (iX13 (i := 5) (by decide)) rfl rfl (by decide +kernel) hl tw405 tw403 tw446 tw403 tw66 tw448 tw448 (Nat.lt_of_le_of_lt (by decide) hn) (by decide) rfl rfl hr9 d kk
set_option maxHeartbeats 4000000 in
set_option maxRecDepth 100000 in
theorem c_X2_ring {l : Launch} {D : va_G} {ad : Nat → Nat} {cy : Nat → ClassId} (hJ : mJ LX ad) {σ τ : mS} {i : Nat} {a1 : Int32} {a2 : Int32} {r : Int32} (hi : i < 6) (h0 : X2_ring σ i a1 a2 = some (r, τ)) : MetG l LX D ad cy yX2_ring cX2_ring 6 (some .int) 4 [.ref (ad (144 + i)), .int a1, .int a2] σ (some (.int r)) τ := by
  refine MetG.of hJ (by decide +kernel) [(0, .ref (ad (144 + i))), (1, .int a1), (2, .int a2)] rfl (Nat.le_of_ble_eq_true rfl) ?_
  intro K e1 e2 e3 e4 e5 C R
  subst e1
  subst e2
  subst e3
  subst e4
  unfold X2_ring at h0
  refine x_aload_n C 0 dX2_ring_0 rfl ?_
  refine x_getI (j := 2) (i := 25) (q := (RX2, TX2, 6)) C (iX18 hi) (lX18 hi) rfl inBX2 (by decide) tw194 rfl dX2_ring_1 ?_
  refine x_istore_n (lv' := [(3, .int (σ.1 (144 + i) 2)), (0, .ref (kad K (144 + i))), (1, .int a1), (2, .int a2)]) C dX2_ring_4 (by rw [e5]; decide) rfl ?_
  refine x_iconst (v := 0) C dX2_ring_5 rfl ?_
  refine x_istore (lv' := [(4, .int 0), (3, .int (σ.1 (144 + i) 2)), (0, .ref (kad K (144 + i))), (1, .int a1), (2, .int a2)]) C dX2_ring_6 (by rw [e5]; decide) rfl ?_
  obtain ⟨e17, g18, h0⟩ := ob_bind h0
  have J1 : ∀ (s3 : mS), s3 = e17 → Wx LX K s3 112 [(3, .int (σ.1 (144 + i) 2)), (0, .ref (kad K (144 + i))), (1, .int a1)] [] := by
    intro s3 e9
    subst e9
    replace h0 := un1_l h0
    refine x_aload_n C 1 dX2_ring_112 rfl ?_
    refine x_dup C dX2_ring_113 rfl ?_
    refine x_getI (j := 3) (i := 34) (q := (RX2, TX2, 6)) C (iX18 hi) (lX18 hi) rfl inBX2 (by decide) tw196 rfl dX2_ring_114 ?_
    refine x_iconst (v := 1) C dX2_ring_117 rfl ?_
    refine x_iload_n C 2 dX2_ring_118 rfl ?_
    refine x_ishl C dX2_ring_119 ?_
    refine x_iconst (v := (-1)) C dX2_ring_120 rfl ?_
    refine x_ixor C dX2_ring_121 ?_
    refine x_iand C dX2_ring_122 ?_
    refine x_putI (j := 3) (i := 34) (q := (RX2, TX2, 6)) C tyX2 tyX2_ok nmX2 (iX18 hi) (lX18 hi) rfl inBX2 (by decide) tw196 rfl (by decide +kernel) rfl dX2_ring_123 ?_
    refine x_aload_n C 1 dX2_ring_126 rfl ?_
    refine x_iload_n C 2 dX2_ring_127 rfl ?_
    refine x_putI (j := 4) (i := 37) (q := (RX2, TX2, 6)) C tyX2 tyX2_ok nmX2 (iX18 hi) (lX18 hi) rfl inBX2 (by decide) tw198 rfl (by decide +kernel) rfl dX2_ring_128 ?_
    refine x_aload_n C 1 dX2_ring_131 rfl ?_
    refine x_dup C dX2_ring_132 rfl ?_
    refine x_getI (j := 5) (i := 40) (q := (RX2, TX2, 6)) C (iX18 hi) (lX18 hi) rfl inBX2 (by decide) tw200 rfl dX2_ring_133 ?_
    refine x_iconst (v := 1) C dX2_ring_136 rfl ?_
    refine x_iadd C dX2_ring_137 ?_
    refine x_putI (j := 5) (i := 40) (q := (RX2, TX2, 6)) C tyX2 tyX2_ok nmX2 (iX18 hi) (lX18 hi) rfl inBX2 (by decide) tw200 rfl (by decide +kernel) rfl dX2_ring_138 ?_
    refine x_aload_n C 1 dX2_ring_141 rfl ?_
    refine x_getI (j := 2) (i := 25) (q := (RX2, TX2, 6)) C (iX18 hi) (lX18 hi) rfl inBX2 (by decide) tw194 rfl dX2_ring_142 ?_
    refine x_iload_n C 0 dX2_ring_145 rfl ?_
    refine x_iconst (v := (-1)) C dX2_ring_146 rfl ?_
    refine x_ixor C dX2_ring_147 ?_
    refine x_iand C dX2_ring_148 ?_
    cases h0
    exact x_iret C R dX2_ring_149
  refine lp_G (G := fun q : mS × Int32 => Wx LX K q.1 8 [(4, .int q.2), (3, .int (σ.1 (144 + i) 2)), (0, .ref (kad K (144 + i))), (1, .int a1), (2, .int a2)] []) (fun q x h1 ihL1 ihR1 => ?_) big _ g18
  obtain ⟨s1, x2⟩ := q
  replace h1 : X2_ring_b8 i a1 a2 s1 x2 = some x := h1
  unfold X2_ring_b8 at h1
  show Wx LX K s1 8 [(4, .int x2), (3, .int (σ.1 (144 + i) 2)), (0, .ref (kad K (144 + i))), (1, .int a1), (2, .int a2)] []
  refine x_iload C 0 dX2_ring_8 rfl ?_
  refine x_aload_n C 2 dX2_ring_10 rfl ?_
  refine x_getR (j := 0) (i := 15) (q := (RX2, TX2, 6)) C 88 (iX18 hi) (lX18 hi) rfl inBX2 (by decide) tw191 rfl dX2_ring_11 ?_
  refine x_getIN (j := 4) (i := 29) (q := (RX7, TX7, 5)) (host := "CalledNumbers") C (iX 88 (by decide)) rfl rfl inBX7 (by decide) twN172 rfl dX2_ring_14 ?_
  refine x_icmpge C 112 dX2_ring_17 (by decide) (fun c5 => ?_) (fun c5 => ?_)
  · replace h1 := ob_pos c5 h1
    refine x_lv (lv' := [(3, .int (σ.1 (144 + i) 2)), (0, .ref (kad K (144 + i))), (1, .int a1)]) [1, 2, 3] rfl ?_
    exact J1 _ (ihR1 _ (Option.some.inj h1).symm)
  · replace h1 := ob_neg c5 h1
    refine x_iload_n C 4 dX2_ring_20 rfl ?_
    refine x_iload C 0 dX2_ring_21 rfl ?_
    refine x_ishr C dX2_ring_23 ?_
    refine x_iconst (v := 1) C dX2_ring_24 rfl ?_
    refine x_iand C dX2_ring_25 ?_
    refine x_iconst (v := 1) C dX2_ring_26 rfl ?_
    refine x_icmpne C 106 dX2_ring_27 (by decide) (fun c7 => ?_) (fun c7 => ?_)
    · replace h1 := ob_neg c7 h1
      refine x_iinc (v := (x2 + 1)) (lv' := [(4, .int (x2 + 1)), (3, .int (σ.1 (144 + i) 2)), (0, .ref (kad K (144 + i))), (1, .int a1), (2, .int a2)]) C 0 dX2_ring_106 rfl rfl (by rw [e5]; decide) rfl ?_
      refine x_goto C 8 dX2_ring_109 (by decide) ?_
      refine x_lv (lv' := [(4, .int (x2 + 1)), (3, .int (σ.1 (144 + i) 2)), (0, .ref (kad K (144 + i))), (1, .int a1), (2, .int a2)]) [0, 1, 2, 3, 4] rfl ?_
      exact ihL1 _ (Option.some.inj h1).symm
    · replace h1 := ob_pos c7 h1
      refine x_aload_n C 2 dX2_ring_30 rfl ?_
      refine x_getR (j := 0) (i := 15) (q := (RX2, TX2, 6)) C 88 (iX18 hi) (lX18 hi) rfl inBX2 (by decide) tw191 rfl dX2_ring_31 ?_
      refine x_iload C 0 dX2_ring_34 rfl ?_
      obtain ⟨r8, g9, h1⟩ := ob_bind h1
      refine x_callV (ar := 1) (q := (RX7, TX7, 5)) (rest := []) C (c_X7_kindAt C.2.2.2.2.2.2.1  g9) (iX 88 (by decide)) rfl rfl hy_X7_kindAt ⟨tw511, tw399, tw400, tw65, tw401⟩ (by decide) (by decide) rfl rfl (Nat.le_of_ble_eq_true rfl) dX2_ring_36 ?_
      show Wx LX K s1 39 [(4, .int x2), (3, .int (σ.1 (144 + i) 2)), (0, .ref (kad K (144 + i))), (1, .int a1), (2, .int a2)] [.ref (kad K (104 + r8))]
      refine x_astore (lv' := [(5, .ref (kad K (104 + r8))), (4, .int x2), (3, .int (σ.1 (144 + i) 2)), (0, .ref (kad K (144 + i))), (1, .int a1), (2, .int a2)]) C dX2_ring_39 (by rw [e5]; decide) rfl ?_
      refine x_aload_n C 3 dX2_ring_41 rfl ?_
      refine x_getR (j := 1) (i := 9) (q := (RX2, TX2, 6)) C (152 + i) (iX18 hi) (lX18 hi) rfl inBX2 (by decide) tw192 rfl dX2_ring_42 ?_
      refine x_iload C 1 dX2_ring_45 rfl ?_
      refine x_aload_n C 3 dX2_ring_47 rfl ?_
      refine x_getR (j := 0) (i := 15) (q := (RX2, TX2, 6)) C 88 (iX18 hi) (lX18 hi) rfl inBX2 (by decide) tw191 rfl dX2_ring_48 ?_
      refine x_iload C 1 dX2_ring_51 rfl ?_
      refine x_aload_n C 3 dX2_ring_53 rfl ?_
      refine x_getR (j := 1) (i := 9) (q := (RX2, TX2, 6)) C (152 + i) (iX18 hi) (lX18 hi) rfl inBX2 (by decide) tw192 rfl dX2_ring_54 ?_
      refine x_iload C 1 dX2_ring_57 rfl ?_
      obtain ⟨c10, h1⟩ := ob_if h1
      refine x_iald C (iX19 hi) (lX19 hi) (vin_in c10) dX2_ring_59 ?_
      refine x_aload C 0 dX2_ring_60 rfl ?_
      refine x_iload_n C 4 dX2_ring_62 rfl ?_
      refine x_aload_n C 3 dX2_ring_63 rfl ?_
      refine x_getI (j := 4) (i := 37) (q := (RX2, TX2, 6)) C (iX18 hi) (lX18 hi) rfl inBX2 (by decide) tw198 rfl dX2_ring_64 ?_
      refine x_aload_n C 3 dX2_ring_67 rfl ?_
      refine x_getI (j := 5) (i := 40) (q := (RX2, TX2, 6)) C (iX18 hi) (lX18 hi) rfl inBX2 (by decide) tw200 rfl dX2_ring_68 ?_
      refine x_K_X5_heard C (KB_X7_kindAt g9) tw512 (by decide) (Nat.le_of_ble_eq_true rfl) dX2_ring_71 ?_
      obtain ⟨r11, g12, h1⟩ := ob_bind h1
      refine x_callV (ar := 3) (q := (RX7, TX7, 5)) (rest := [.int x2, .ref (kad K (152 + i))]) C (c_X7_marked C.2.2.2.2.2.2.1  g12) (iX 88 (by decide)) rfl rfl hy_X7_marked ⟨tw529, tw530, tw531, tw65, tw532⟩ (by decide) (by decide) rfl rfl (Nat.le_of_ble_eq_true rfl) dX2_ring_74 ?_
      show Wx LX K s1 77 [(5, .ref (kad K (104 + r8))), (4, .int x2), (3, .int (σ.1 (144 + i) 2)), (0, .ref (kad K (144 + i))), (1, .int a1), (2, .int a2)] [.int r11, .int x2, .ref (kad K (152 + i))]
      obtain ⟨c13, h1⟩ := ob_if h1
      refine x_iast C (iX19 hi) (lX19 hi) (vin_in c13) dX2_ring_77 ?_
      refine x_aload C 0 dX2_ring_78 rfl ?_
      refine x_aload_n C 3 dX2_ring_80 rfl ?_
      refine x_getR (j := 1) (i := 9) (q := (RX2, TX2, 6)) C (152 + i) (iX18 hi) (lX18 hi) rfl inBX2 (by decide) tw192 rfl dX2_ring_81 ?_
      refine x_iload C 1 dX2_ring_84 rfl ?_
      obtain ⟨c14, h1⟩ := ob_if h1
      refine x_iald C (iX19 hi) (lX19 hi) (vin_in c14) dX2_ring_86 ?_
      refine x_K_X5_lacks C (KB_X7_kindAt g9) tw533 (by decide) (Nat.le_of_ble_eq_true rfl) dX2_ring_87 ?_
      refine x_ifne C 106 dX2_ring_90 (by decide) (fun c16 => ?_) (fun c16 => ?_)
      · replace h1 := ob_neg c16 h1
        refine x_iinc (v := (x2 + 1)) (lv' := [(4, .int (x2 + 1)), (5, .ref (kad K (104 + r8))), (3, .int (σ.1 (144 + i) 2)), (0, .ref (kad K (144 + i))), (1, .int a1), (2, .int a2)]) C 1 dX2_ring_106 rfl rfl (by rw [e5]; decide) rfl ?_
        refine x_goto C 8 dX2_ring_109 (by decide) ?_
        refine x_lv (lv' := [(4, .int (x2 + 1)), (3, .int (σ.1 (144 + i) 2)), (0, .ref (kad K (144 + i))), (1, .int a1), (2, .int a2)]) [0, 2, 3, 4, 5] rfl ?_
        exact ihL1 _ (Option.some.inj h1).symm
      · replace h1 := ob_pos c16 h1
        refine x_aload_n C 3 dX2_ring_93 rfl ?_
        refine x_dup C dX2_ring_94 rfl ?_
        refine x_getI (j := 2) (i := 25) (q := (RX2, TX2, 6)) C (iX18 hi) (lX18 hi) rfl inBX2 (by decide) tw194 rfl dX2_ring_95 ?_
        refine x_iconst (v := 1) C dX2_ring_98 rfl ?_
        refine x_iload C 1 dX2_ring_99 rfl ?_
        refine x_ishl C dX2_ring_101 ?_
        refine x_ior C dX2_ring_102 ?_
        refine x_putI (j := 2) (i := 25) (q := (RX2, TX2, 6)) C tyX2 tyX2_ok nmX2 (iX18 hi) (lX18 hi) rfl inBX2 (by decide) tw194 rfl (by decide +kernel) rfl dX2_ring_103 ?_
        refine x_iinc (v := (x2 + 1)) (lv' := [(4, .int (x2 + 1)), (5, .ref (kad K (104 + r8))), (3, .int (σ.1 (144 + i) 2)), (0, .ref (kad K (144 + i))), (1, .int a1), (2, .int a2)]) C 1 dX2_ring_106 rfl rfl (by rw [e5]; decide) rfl ?_
        refine x_goto C 8 dX2_ring_109 (by decide) ?_
        refine x_lv (lv' := [(4, .int (x2 + 1)), (3, .int (σ.1 (144 + i) 2)), (0, .ref (kad K (144 + i))), (1, .int a1), (2, .int a2)]) [0, 2, 3, 4, 5] rfl ?_
        exact ihL1 _ (Option.some.inj h1).symm
set_option maxHeartbeats 4000000 in
set_option maxRecDepth 100000 in
theorem c_X2_turn {l : Launch} {D : va_G} {ad : Nat → Nat} {cy : Nat → ClassId} (hJ : mJ LX ad) {σ τ : mS} {i : Nat} {a1 : Int32} {a2 : Int32} {r : Unit} (hi : i < 6) (h0 : X2_turn σ i a1 a2 = some (r, τ)) : MetG l LX D ad cy yX2_turn cX2_turn 3 none 0 [.ref (ad (144 + i)), .int a1, .int a2] σ (none) τ := by
  refine MetG.of hJ (by decide +kernel) [(0, .ref (ad (144 + i))), (1, .int a1), (2, .int a2)] rfl (Nat.le_of_ble_eq_true rfl) ?_
  intro K e1 e2 e3 e4 e5 C R
  subst e1
  subst e2
  subst e3
  subst e4
  unfold X2_turn at h0
  refine x_aload_n C 0 dX2_turn_0 rfl ?_
  refine x_getR (j := 1) (i := 9) (q := (RX2, TX2, 6)) C (152 + i) (iX18 hi) (lX18 hi) rfl inBX2 (by decide) tw192 rfl dX2_turn_1 ?_
  refine x_iload_n C 1 dX2_turn_4 rfl ?_
  refine x_dup2 C dX2_turn_5 rfl rfl ?_
  obtain ⟨c1, h0⟩ := ob_if h0
  refine x_iald C (iX19 hi) (lX19 hi) (vin_in c1) dX2_turn_6 ?_
  refine x_iconst (v := 1) C dX2_turn_7 rfl ?_
  refine x_iload_n C 2 dX2_turn_8 rfl ?_
  refine x_ishl C dX2_turn_9 ?_
  refine x_ixor C dX2_turn_10 ?_
  obtain ⟨c2, h0⟩ := ob_if h0
  refine x_iast C (iX19 hi) (lX19 hi) (vin_in c2) dX2_turn_11 ?_
  cases h0
  exact x_vret C R dX2_turn_12
set_option maxHeartbeats 4000000 in
set_option maxRecDepth 100000 in
theorem c_X2_allMarks {l : Launch} {D : va_G} {ad : Nat → Nat} {cy : Nat → ClassId} (hJ : mJ LX ad) {σ : mS} {i : Nat} {r : Int32} (hi : i < 6) (h0 : X2_allMarks σ i = some r) : MetG l LX D ad cy yX2_allMarks cX2_allMarks 3 (some .int) 1 [.ref (ad (144 + i))] σ (some (.int r)) σ := by
  refine MetG.of hJ (by decide +kernel) [(0, .ref (ad (144 + i)))] rfl (Nat.le_of_ble_eq_true rfl) ?_
  intro K e1 e2 e3 e4 e5 C R
  subst e1
  subst e2
  subst e3
  subst e4
  unfold X2_allMarks at h0
  refine x_iconst (v := 0) C dX2_allMarks_0 rfl ?_
  refine x_istore_n (lv' := [(1, .int 0), (0, .ref (kad K (144 + i)))]) C dX2_allMarks_1 (by rw [e5]; decide) rfl ?_
  refine x_iconst (v := 0) C dX2_allMarks_2 rfl ?_
  refine x_istore_n (lv' := [(2, .int 0), (1, .int 0), (0, .ref (kad K (144 + i)))]) C dX2_allMarks_3 (by rw [e5]; decide) rfl ?_
  obtain ⟨e8, g9, h0⟩ := ob_bind h0
  have J1 : ∀ (y3 : Int32), y3 = e8 → Wx LX K σ 33 [(1, .int y3)] [] := by
    intro y3 e9
    subst e9
    replace h0 := un1_l h0
    refine x_iload_n C 0 dX2_allMarks_33 rfl ?_
    cases h0
    exact x_iret C R dX2_allMarks_34
  refine lp_G (G := fun q : Int32 × Int32 => Wx LX K σ 4 [(2, .int q.2), (1, .int q.1), (0, .ref (kad K (144 + i)))] []) (fun q x h1 ihL1 ihR1 => ?_) big _ g9
  obtain ⟨x1, x2⟩ := q
  replace h1 : X2_allMarks_b4 σ i x1 x2 = some x := h1
  unfold X2_allMarks_b4 at h1
  show Wx LX K σ 4 [(2, .int x2), (1, .int x1), (0, .ref (kad K (144 + i)))] []
  refine x_iload_n C 0 dX2_allMarks_4 rfl ?_
  refine x_aload_n C 2 dX2_allMarks_5 rfl ?_
  refine x_getR (j := 0) (i := 15) (q := (RX2, TX2, 6)) C 88 (iX18 hi) (lX18 hi) rfl inBX2 (by decide) tw191 rfl dX2_allMarks_6 ?_
  refine x_getIN (j := 4) (i := 29) (q := (RX7, TX7, 5)) (host := "CalledNumbers") C (iX 88 (by decide)) rfl rfl inBX7 (by decide) twN172 rfl dX2_allMarks_9 ?_
  refine x_icmpge C 33 dX2_allMarks_12 (by decide) (fun c5 => ?_) (fun c5 => ?_)
  · replace h1 := ob_pos c5 h1
    refine x_lv (lv' := [(1, .int x1)]) [1] rfl ?_
    exact J1 _ (ihR1 _ (Option.some.inj h1).symm)
  · replace h1 := ob_neg c5 h1
    refine x_iload_n C 1 dX2_allMarks_15 rfl ?_
    refine x_aload_n C 2 dX2_allMarks_16 rfl ?_
    refine x_getR (j := 1) (i := 9) (q := (RX2, TX2, 6)) C (152 + i) (iX18 hi) (lX18 hi) rfl inBX2 (by decide) tw192 rfl dX2_allMarks_17 ?_
    refine x_iload_n C 0 dX2_allMarks_20 rfl ?_
    obtain ⟨c6, h1⟩ := ob_if h1
    refine x_iald C (iX19 hi) (lX19 hi) (vin_in c6) dX2_allMarks_21 ?_
    refine x_callS (ar := 1) (rest := [.int x1]) C (c_J6_bitCount_0f7a4 C.2.2.2.2.2.2.1  rfl) hy_J6_bitCount_0f7a4 ⟨tw667, tw417, tw77, tw418⟩ (by decide) (by decide) rfl rfl (Nat.le_of_ble_eq_true rfl) dX2_allMarks_22 ?_
    show Wx LX K σ 25 [(2, .int x2), (1, .int x1), (0, .ref (kad K (144 + i)))] [.int (J6_bitCount_0f7a4 (σ.1 (152 + i) x2.toNatClampNeg)), .int x1]
    refine x_iadd C dX2_allMarks_25 ?_
    refine x_istore_n (lv' := [(1, .int (x1 + (J6_bitCount_0f7a4 (σ.1 (152 + i) x2.toNatClampNeg)))), (2, .int x2), (0, .ref (kad K (144 + i)))]) C dX2_allMarks_26 (by rw [e5]; decide) rfl ?_
    refine x_iinc (v := (x2 + 1)) (lv' := [(2, .int (x2 + 1)), (1, .int (x1 + (J6_bitCount_0f7a4 (σ.1 (152 + i) x2.toNatClampNeg)))), (0, .ref (kad K (144 + i)))]) C 1 dX2_allMarks_27 rfl rfl (by rw [e5]; decide) rfl ?_
    refine x_goto C 4 dX2_allMarks_30 (by decide) ?_
    refine x_lv (lv' := [(2, .int (x2 + 1)), (1, .int (x1 + (J6_bitCount_0f7a4 (σ.1 (152 + i) x2.toNatClampNeg)))), (0, .ref (kad K (144 + i)))]) [0, 1, 2] rfl ?_
    exact ihL1 _ (Option.some.inj h1).symm
set_option maxHeartbeats 4000000 in
set_option maxRecDepth 100000 in
theorem c_X2_worth {l : Launch} {D : va_G} {ad : Nat → Nat} {cy : Nat → ClassId} (hJ : mJ LX ad) {σ : mS} {i : Nat} {a1 : Int32} {r : Int32} (hi : i < 6) (h0 : X2_worth σ i a1 = some r) : MetG l LX D ad cy yX2_worth cX2_worth 2 (some .int) 1 [.ref (ad (144 + i)), .int a1] σ (some (.int r)) σ := by
  refine MetG.of hJ (by decide +kernel) [(0, .ref (ad (144 + i))), (1, .int a1)] rfl (Nat.le_of_ble_eq_true rfl) ?_
  intro K e1 e2 e3 e4 e5 C R
  subst e1
  subst e2
  subst e3
  subst e4
  unfold X2_worth at h0
  refine x_aload_n C 0 dX2_worth_0 rfl ?_
  refine x_getR (j := 1) (i := 9) (q := (RX2, TX2, 6)) C (152 + i) (iX18 hi) (lX18 hi) rfl inBX2 (by decide) tw192 rfl dX2_worth_1 ?_
  refine x_iload_n C 1 dX2_worth_4 rfl ?_
  obtain ⟨c1, h0⟩ := ob_if h0
  refine x_iald C (iX19 hi) (lX19 hi) (vin_in c1) dX2_worth_5 ?_
  refine x_callS (ar := 1) (rest := []) C (c_J6_bitCount_0f7a4 C.2.2.2.2.2.2.1  rfl) hy_J6_bitCount_0f7a4 ⟨tw667, tw417, tw77, tw418⟩ (by decide) (by decide) rfl rfl (Nat.le_of_ble_eq_true rfl) dX2_worth_6 ?_
  show Wx LX K σ 9 [(0, .ref (kad K (144 + i))), (1, .int a1)] [.int (J6_bitCount_0f7a4 (σ.1 (152 + i) a1.toNatClampNeg))]
  refine x_aload_n C 0 dX2_worth_9 rfl ?_
  refine x_iload_n C 1 dX2_worth_10 rfl ?_
  refine x_callV (ar := 1) (q := (RX2, TX2, 6)) (rest := [.int (J6_bitCount_0f7a4 (σ.1 (152 + i) a1.toNatClampNeg))]) C (c_X2_hasWon C.2.2.2.2.2.2.1 hi rfl) (iX18 hi) (lX18 hi) rfl hy_X2_hasWon ⟨tw668, tw606, tw607, tw72, tw608⟩ (by decide) (by decide) rfl rfl (Nat.le_of_ble_eq_true rfl) dX2_worth_11 ?_
  show Wx LX K σ 14 [(0, .ref (kad K (144 + i))), (1, .int a1)] [.int (X2_hasWon σ i a1), .int (J6_bitCount_0f7a4 (σ.1 (152 + i) a1.toNatClampNeg))]
  refine x_ifeq C 22 dX2_worth_14 (by decide) (fun c5 => ?_) (fun c5 => ?_)
  · replace h0 := ob_pos c5 h0
    refine x_iconst (v := 0) C dX2_worth_22 rfl ?_
    refine x_iadd C dX2_worth_23 ?_
    cases h0
    exact x_iret C R dX2_worth_24
  · replace h0 := ob_neg c5 h0
    refine x_bipush (v := 10) C dX2_worth_17 rfl ?_
    refine x_goto C 23 dX2_worth_19 (by decide) ?_
    refine x_iadd C dX2_worth_23 ?_
    cases h0
    exact x_iret C R dX2_worth_24
set_option maxHeartbeats 4000000 in
set_option maxRecDepth 100000 in
theorem c_X3_linesOfTwo {l : Launch} {D : va_G} {ad : Nat → Nat} {cy : Nat → ClassId} (hJ : mJ LX ad) {σ : mS} {a1 : Int32} {r : Int32}  (h0 : X3_linesOfTwo a1 = r) : MetG l LX D ad cy yX3_linesOfTwo cX3_linesOfTwo 2 (some .int) 2 [.ref (ad (104 + 3)), .int a1] σ (some (.int r)) σ := by
  refine MetG.of hJ (by decide +kernel) [(0, .ref (ad (104 + 3))), (1, .int a1)] rfl (Nat.le_of_ble_eq_true rfl) ?_
  intro K e1 e2 e3 e4 e5 C R
  subst e1
  subst e2
  subst e3
  subst e4
  unfold X3_linesOfTwo at h0
  refine x_aload_n C 0 dX3_linesOfTwo_0 rfl ?_
  refine x_iload_n C 1 dX3_linesOfTwo_1 rfl ?_
  refine x_K_X3_inUpper C (by decide) tw410 (by decide) (Nat.le_of_ble_eq_true rfl) dX3_linesOfTwo_2 ?_
  refine x_iconst (v := 2) C dX3_linesOfTwo_5 rfl ?_
  obtain ⟨e7, g6, h0⟩ := ob_un h0
  have J8 : ∀ (v3 : Int32), v3 = e7 → Wx LX K σ 14 [(0, .ref (kad K (104 + 3))), (1, .int a1)] [.int v3] := by
    intro v3 e9
    subst e9
    replace h0 := un1_l h0
    refine x_aload_n C 0 dX3_linesOfTwo_14 rfl ?_
    refine x_iload_n C 1 dX3_linesOfTwo_15 rfl ?_
    refine x_K_X3_inLower C (by decide) tw425 (by decide) (Nat.le_of_ble_eq_true rfl) dX3_linesOfTwo_16 ?_
    refine x_iconst (v := 2) C dX3_linesOfTwo_19 rfl ?_
    refine x_icmplt C 27 dX3_linesOfTwo_20 (by decide) (fun c5 => ?_) (fun c5 => ?_)
    · replace h0 := ob_pos c5 h0
      refine x_iconst (v := 0) C dX3_linesOfTwo_27 rfl ?_
      refine x_iadd C dX3_linesOfTwo_28 ?_
      subst h0
      exact x_iret C R dX3_linesOfTwo_29
    · replace h0 := ob_neg c5 h0
      refine x_iconst (v := 1) C dX3_linesOfTwo_23 rfl ?_
      refine x_goto C 28 dX3_linesOfTwo_24 (by decide) ?_
      refine x_iadd C dX3_linesOfTwo_28 ?_
      subst h0
      exact x_iret C R dX3_linesOfTwo_29
  refine x_icmplt C 13 dX3_linesOfTwo_6 (by decide) (fun c9 => ?_) (fun c9 => ?_)
  · replace g6 := ob_pos c9 g6
    refine x_iconst (v := 0) C dX3_linesOfTwo_13 rfl ?_
    refine x_lv (lv' := [(0, .ref (kad K (104 + 3))), (1, .int a1)]) [0, 1] rfl ?_
    exact J8 _ g6
  · replace g6 := ob_neg c9 g6
    refine x_iconst (v := 1) C dX3_linesOfTwo_9 rfl ?_
    refine x_goto C 14 dX3_linesOfTwo_10 (by decide) ?_
    refine x_lv (lv' := [(0, .ref (kad K (104 + 3))), (1, .int a1)]) [0, 1] rfl ?_
    exact J8 _ g6
set_option maxHeartbeats 4000000 in
set_option maxRecDepth 100000 in
theorem c_X6_kindBy {l : Launch} {D : va_G} {ad : Nat → Nat} {cy : Nat → ClassId} (hJ : mJ LX ad) {σ : mS} {a1 : Int32} {r : Int32}  (h0 : X6_kindBy σ a1 = some r) : MetG l LX D ad cy yX6_kindBy cX6_kindBy 2 (some .int) 0 [.int a1] σ (some (.int r)) σ := by
  refine MetG.of hJ (by decide +kernel) [(0, .int a1)] rfl (Nat.le_of_ble_eq_true rfl) ?_
  intro K e1 e2 e3 e4 e5 C R
  subst e1
  subst e2
  subst e3
  subst e4
  unfold X6_kindBy at h0
  refine x_iconst (v := 0) C dX6_kindBy_0 rfl ?_
  refine x_istore_n (lv' := [(1, .int 0), (0, .int a1)]) C dX6_kindBy_1 (by rw [e5]; decide) rfl ?_
  obtain ⟨e8, g9, h0⟩ := ob_bind h0
  have J1 : ∀ (u9 : Unit), .inl u9 = e8 → Wx LX K σ 25 [] [] := by
    intro u9 e9
    subst e9
    replace h0 := sm1_l h0
    refine x_iconst (v := (-1)) C dX6_kindBy_25 rfl ?_
    cases h0
    exact x_iret C R dX6_kindBy_26
  refine lp_G (G := fun q : Int32 => Wx LX K σ 2 [(1, .int q), (0, .int a1)] []) (fun q x h1 ihL1 ihR1 => ?_) big _ g9
  obtain ⟨x1, rfl⟩ : ∃ z, z = q := ⟨_, rfl⟩
  replace h1 : X6_kindBy_b2 a1 x1 = some x := h1
  unfold X6_kindBy_b2 at h1
  show Wx LX K σ 2 [(1, .int x1), (0, .int a1)] []
  refine x_iload_n C 0 dX6_kindBy_2 rfl ?_
  refine x_bipush (v := 6) C dX6_kindBy_3 rfl ?_
  refine x_icmpge C 25 dX6_kindBy_5 (by decide) (fun c3 => ?_) (fun c3 => ?_)
  · replace h1 := ob_pos c3 h1
    refine x_lv (lv' := []) [] rfl ?_
    exact J1 _ (ihR1 _ (Option.some.inj h1).symm)
  · replace h1 := ob_neg c3 h1
    refine x_letgetN C twN367 dX6_kindBy_8 (fun t4 Ht4 => ?_)
    refine x_iload_n C 0 dX6_kindBy_11 rfl ?_
    obtain ⟨c5, h1⟩ := ob_if h1
    refine x_letald C Ht4 (vin_in c5) dX6_kindBy_12 ?_
    refine x_iload_n C 1 dX6_kindBy_13 rfl ?_
    refine x_icmpne C 19 dX6_kindBy_14 (by decide) (fun c7 => ?_) (fun c7 => ?_)
    · replace h1 := ob_neg c7 h1
      refine x_iinc (v := (x1 + 1)) (lv' := [(1, .int (x1 + 1)), (0, .int a1)]) C 0 dX6_kindBy_19 rfl rfl (by rw [e5]; decide) rfl ?_
      refine x_goto C 2 dX6_kindBy_22 (by decide) ?_
      refine x_lv (lv' := [(1, .int (x1 + 1)), (0, .int a1)]) [0, 1] rfl ?_
      exact ihL1 _ (Option.some.inj h1).symm
    · replace h1 := ob_pos c7 h1
      refine x_iload_n C 0 dX6_kindBy_17 rfl ?_
      have e19 := ihR1 _ (Option.some.inj h1).symm
      subst e19
      replace h0 := sm1_r h0
      cases h0
      exact x_iret C R dX6_kindBy_18
set_option maxHeartbeats 4000000 in
set_option maxRecDepth 100000 in
theorem c_X6_readCard {l : Launch} {D : va_G} {ad : Nat → Nat} {cy : Nat → ClassId} (hJ : mJ LX ad) {σ τ : mS} {i1 : Nat} {a2 : Int32} {a3 : Int32} {r : Int32} (hi1 : i1 < 4) (h0 : X6_readCard σ i1 a2 a3 = some (r, τ)) : MetG l LX D ad cy yX6_readCard cX6_readCard 8 (some .int) 0 [.ref (ad 56), .ref (ad (40 + i1)), .int a2, .int a3] σ (some (.int r)) τ := by
  refine MetG.of hJ (by decide +kernel) [(0, .ref (ad 56)), (1, .ref (ad (40 + i1))), (2, .int a2), (3, .int a3)] rfl (Nat.le_of_ble_eq_true rfl) ?_
  intro K e1 e2 e3 e4 e5 C R
  subst e1
  subst e2
  subst e3
  subst e4
  unfold X6_readCard at h0
  refine x_iconst (v := 0) C dX6_readCard_0 rfl ?_
  refine x_istore (lv' := [(4, .int 0), (0, .ref (kad K 56)), (1, .ref (kad K (40 + i1))), (2, .int a2), (3, .int a3)]) C dX6_readCard_1 (by rw [e5]; decide) rfl ?_
  refine x_iconst (v := 0) C dX6_readCard_3 rfl ?_
  refine x_istore (lv' := [(5, .int 0), (4, .int 0), (0, .ref (kad K 56)), (1, .ref (kad K (40 + i1))), (2, .int a2), (3, .int a3)]) C dX6_readCard_4 (by rw [e5]; decide) rfl ?_
  obtain ⟨e30, g31, h0⟩ := ob_bind h0
  have J1 : ∀ (s4 : mS), .inl s4 = e30 → Wx LX K s4 147 [] [] := by
    intro s4 e9
    subst e9
    replace h0 := sm1_l h0
    refine x_bipush (v := (-9)) C dX6_readCard_147 rfl ?_
    cases h0
    exact x_iret C R dX6_readCard_149
  refine lp_G (G := fun q : mS × Int32 × Int32 => Wx LX K q.1 6 [(5, .int q.2.2), (4, .int q.2.1), (0, .ref (kad K 56)), (1, .ref (kad K (40 + i1))), (2, .int a2), (3, .int a3)] []) (fun q x h1 ihL1 ihR1 => ?_) big _ g31
  obtain ⟨s1, x2, x3⟩ := q
  replace h1 : X6_readCard_b6 i1 a2 a3 s1 x2 x3 = some x := h1
  unfold X6_readCard_b6 at h1
  show Wx LX K s1 6 [(5, .int x3), (4, .int x2), (0, .ref (kad K 56)), (1, .ref (kad K (40 + i1))), (2, .int a2), (3, .int a3)] []
  refine x_iload C 0 dX6_readCard_6 rfl ?_
  refine x_bipush (v := 6) C dX6_readCard_8 rfl ?_
  refine x_icmpge C 147 dX6_readCard_10 (by decide) (fun c6 => ?_) (fun c6 => ?_)
  · replace h1 := ob_pos c6 h1
    refine x_lv (lv' := []) [] rfl ?_
    exact J1 _ (ihR1 _ (Option.some.inj h1).symm)
  · replace h1 := ob_neg c6 h1
    refine x_iload_n C 5 dX6_readCard_13 rfl ?_
    refine x_iconst (v := 2) C dX6_readCard_14 rfl ?_
    refine x_iload C 0 dX6_readCard_15 rfl ?_
    refine x_imul C dX6_readCard_17 ?_
    refine x_iadd C dX6_readCard_18 ?_
    refine x_istore (lv' := [(6, .int (a3 + ((2 : Int32) * x3))), (5, .int x3), (4, .int x2), (0, .ref (kad K 56)), (1, .ref (kad K (40 + i1))), (2, .int a2), (3, .int a3)]) C dX6_readCard_19 (by rw [e5]; decide) rfl ?_
    refine x_iload C 0 dX6_readCard_21 rfl ?_
    refine x_istore (lv' := [(7, .int (a3 + ((2 : Int32) * x3))), (6, .int (a3 + ((2 : Int32) * x3))), (5, .int x3), (4, .int x2), (0, .ref (kad K 56)), (1, .ref (kad K (40 + i1))), (2, .int a2), (3, .int a3)]) C dX6_readCard_23 (by rw [e5]; decide) rfl ?_
    obtain ⟨e28, g29, h1⟩ := ob_bind h1
    have J2 : ∀ (u9 : Unit), .inl u9 = e28 → Wx LX K s1 69 [(6, .int (a3 + ((2 : Int32) * x3))), (5, .int x3), (4, .int x2), (0, .ref (kad K 56)), (1, .ref (kad K (40 + i1))), (2, .int a2), (3, .int a3)] [] := by
      intro u9 e9
      subst e9
      replace h1 := sm1_l h1
      refine x_aload_n C 4 dX6_readCard_69 rfl ?_
      refine x_iload C 0 dX6_readCard_70 rfl ?_
      obtain ⟨c8, h1⟩ := ob_if h1
      refine x_bald C (iX5 hi1) (lX5 hi1) (vin_in c8) dX6_readCard_72 ?_
      refine x_bipush (v := 48) C dX6_readCard_73 rfl ?_
      refine x_isub C dX6_readCard_75 ?_
      refine x_bipush (v := 10) C dX6_readCard_76 rfl ?_
      refine x_imul C dX6_readCard_78 ?_
      refine x_aload_n C 4 dX6_readCard_79 rfl ?_
      refine x_iload C 0 dX6_readCard_80 rfl ?_
      refine x_iconst (v := 1) C dX6_readCard_82 rfl ?_
      refine x_iadd C dX6_readCard_83 ?_
      obtain ⟨c9, h1⟩ := ob_if h1
      refine x_bald C (iX5 hi1) (lX5 hi1) (vin_in c9) dX6_readCard_84 ?_
      refine x_iadd C dX6_readCard_85 ?_
      refine x_bipush (v := 48) C dX6_readCard_86 rfl ?_
      refine x_isub C dX6_readCard_88 ?_
      refine x_istore (lv' := [(7, .int (((((s1.1 (40 + i1) (a3 + ((2 : Int32) * x3)).toNatClampNeg) - 48) * 10) + (s1.1 (40 + i1) ((a3 + ((2 : Int32) * x3)) + 1).toNatClampNeg)) - 48)), (6, .int (a3 + ((2 : Int32) * x3))), (5, .int x3), (4, .int x2), (0, .ref (kad K 56)), (1, .ref (kad K (40 + i1))), (2, .int a2), (3, .int a3)]) C dX6_readCard_89 (by rw [e5]; decide) rfl ?_
      refine x_iload C 0 dX6_readCard_91 rfl ?_
      refine x_iconst (v := 1) C dX6_readCard_93 rfl ?_
      refine x_icmplt C 115 dX6_readCard_94 (by decide) (fun c11 => ?_) (fun c11 => ?_)
      · replace h1 := ob_pos c11 h1
        refine x_iload C 1 dX6_readCard_115 rfl ?_
        have e19 := ihR1 _ (Option.some.inj h1).symm
        subst e19
        replace h0 := sm1_r h0
        cases h0
        exact x_iret C R dX6_readCard_117
      · replace h1 := ob_neg c11 h1
        refine x_iload C 0 dX6_readCard_97 rfl ?_
        refine x_bipush (v := 12) C dX6_readCard_99 rfl ?_
        refine x_icmpgt C 115 dX6_readCard_101 (by decide) (fun c13 => ?_) (fun c13 => ?_)
        · replace h1 := ob_pos c13 h1
          refine x_iload C 1 dX6_readCard_115 rfl ?_
          have e19 := ihR1 _ (Option.some.inj h1).symm
          subst e19
          replace h0 := sm1_r h0
          cases h0
          exact x_iret C R dX6_readCard_117
        · replace h1 := ob_neg c13 h1
          refine x_iload C 3 dX6_readCard_104 rfl ?_
          refine x_iload C 0 dX6_readCard_106 rfl ?_
          refine x_ishr C dX6_readCard_108 ?_
          refine x_iconst (v := 1) C dX6_readCard_109 rfl ?_
          refine x_iand C dX6_readCard_110 ?_
          refine x_iconst (v := 1) C dX6_readCard_111 rfl ?_
          refine x_icmpne C 118 dX6_readCard_112 (by decide) (fun c15 => ?_) (fun c15 => ?_)
          · replace h1 := ob_neg c15 h1
            refine x_iload C 3 dX6_readCard_118 rfl ?_
            refine x_iconst (v := 1) C dX6_readCard_120 rfl ?_
            refine x_iload C 0 dX6_readCard_121 rfl ?_
            refine x_ishl C dX6_readCard_123 ?_
            refine x_ior C dX6_readCard_124 ?_
            refine x_istore (lv' := [(4, .int (x2 ||| ((1 : Int32) <<< ((((((s1.1 (40 + i1) (a3 + ((2 : Int32) * x3)).toNatClampNeg) - 48) * 10) + (s1.1 (40 + i1) ((a3 + ((2 : Int32) * x3)) + 1).toNatClampNeg)) - 48) &&& 31)))), (7, .int (((((s1.1 (40 + i1) (a3 + ((2 : Int32) * x3)).toNatClampNeg) - 48) * 10) + (s1.1 (40 + i1) ((a3 + ((2 : Int32) * x3)) + 1).toNatClampNeg)) - 48)), (6, .int (a3 + ((2 : Int32) * x3))), (5, .int x3), (0, .ref (kad K 56)), (1, .ref (kad K (40 + i1))), (2, .int a2), (3, .int a3)]) C dX6_readCard_125 (by rw [e5]; decide) rfl ?_
            refine x_aload_n C 4 dX6_readCard_127 rfl ?_
            refine x_getR (j := 1) (i := 17) (q := (RX6, TX6, 3)) C 72 (iX 56 (by decide)) rfl rfl inBX6 (by decide) tw100 rfl dX6_readCard_128 ?_
            refine x_aload_n C 4 dX6_readCard_131 rfl ?_
            refine x_getI (j := 2) (i := 20) (q := (RX6, TX6, 3)) C (iX 56 (by decide)) rfl rfl inBX6 (by decide) tw102 rfl dX6_readCard_132 ?_
            obtain ⟨c16, h1⟩ := ob_if h1
            refine x_aald C (iX 72 (by decide)) rfl rfl rfl (vin_in c16) dX6_readCard_135 ?_
            refine x_iload C 3 dX6_readCard_136 rfl ?_
            refine x_iload C 1 dX6_readCard_138 rfl ?_
            obtain ⟨c17, h1⟩ := ob_if h1
            refine x_iast C (iX10 (vin_lt c16)) (lX10 (vin_lt c16)) (vin_in c17) dX6_readCard_140 ?_
            refine x_iinc (v := (x3 + 1)) (lv' := [(5, .int (x3 + 1)), (4, .int (x2 ||| ((1 : Int32) <<< ((((((s1.1 (40 + i1) (a3 + ((2 : Int32) * x3)).toNatClampNeg) - 48) * 10) + (s1.1 (40 + i1) ((a3 + ((2 : Int32) * x3)) + 1).toNatClampNeg)) - 48) &&& 31)))), (7, .int (((((s1.1 (40 + i1) (a3 + ((2 : Int32) * x3)).toNatClampNeg) - 48) * 10) + (s1.1 (40 + i1) ((a3 + ((2 : Int32) * x3)) + 1).toNatClampNeg)) - 48)), (6, .int (a3 + ((2 : Int32) * x3))), (0, .ref (kad K 56)), (1, .ref (kad K (40 + i1))), (2, .int a2), (3, .int a3)]) C 3 dX6_readCard_141 rfl rfl (by rw [e5]; decide) rfl ?_
            refine x_goto C 6 dX6_readCard_144 (by decide) ?_
            refine x_lv (lv' := [(5, .int (x3 + 1)), (4, .int (x2 ||| ((1 : Int32) <<< ((((((s1.1 (40 + i1) (a3 + ((2 : Int32) * x3)).toNatClampNeg) - 48) * 10) + (s1.1 (40 + i1) ((a3 + ((2 : Int32) * x3)) + 1).toNatClampNeg)) - 48) &&& 31)))), (0, .ref (kad K 56)), (1, .ref (kad K (40 + i1))), (2, .int a2), (3, .int a3)]) [0, 1, 4, 5, 6, 7] rfl ?_
            exact ihL1 _ (Option.some.inj h1).symm
          · replace h1 := ob_pos c15 h1
            refine x_iload C 1 dX6_readCard_115 rfl ?_
            have e19 := ihR1 _ (Option.some.inj h1).symm
            subst e19
            replace h0 := sm1_r h0
            cases h0
            exact x_iret C R dX6_readCard_117
    refine lp_G (G := fun q : Int32 => Wx LX K s1 25 [(7, .int q), (6, .int (a3 + ((2 : Int32) * x3))), (5, .int x3), (4, .int x2), (0, .ref (kad K 56)), (1, .ref (kad K (40 + i1))), (2, .int a2), (3, .int a3)] []) (fun q x h2 ihL2 ihR2 => ?_) big _ g29
    obtain ⟨x7, rfl⟩ : ∃ z, z = q := ⟨_, rfl⟩
    replace h2 : X6_readCard_b25 i1 a2 a3 s1 x3 x7 = some x := h2
    unfold X6_readCard_b25 at h2
    show Wx LX K s1 25 [(7, .int x7), (6, .int (a3 + ((2 : Int32) * x3))), (5, .int x3), (4, .int x2), (0, .ref (kad K 56)), (1, .ref (kad K (40 + i1))), (2, .int a2), (3, .int a3)] []
    refine x_iload C 0 dX6_readCard_25 rfl ?_
    refine x_iload C 1 dX6_readCard_27 rfl ?_
    refine x_iconst (v := 1) C dX6_readCard_29 rfl ?_
    refine x_iadd C dX6_readCard_30 ?_
    refine x_icmpgt C 69 dX6_readCard_31 (by decide) (fun c19 => ?_) (fun c19 => ?_)
    · replace h2 := ob_pos c19 h2
      refine x_lv (lv' := [(6, .int (a3 + ((2 : Int32) * x3))), (5, .int x3), (4, .int x2), (0, .ref (kad K 56)), (1, .ref (kad K (40 + i1))), (2, .int a2), (3, .int a3)]) [1, 2, 3, 4, 5, 6, 7] rfl ?_
      exact J2 _ (ihR2 _ (Option.some.inj h2).symm)
    · replace h2 := ob_neg c19 h2
      refine x_iload C 0 dX6_readCard_34 rfl ?_
      refine x_iload_n C 6 dX6_readCard_36 rfl ?_
      refine x_icmplt C 42 dX6_readCard_37 (by decide) (fun c21 => ?_) (fun c21 => ?_)
      · replace h2 := ob_pos c21 h2
        refine x_aload_n C 5 dX6_readCard_42 rfl ?_
        refine x_iload C 0 dX6_readCard_43 rfl ?_
        obtain ⟨c22, h2⟩ := ob_if h2
        refine x_bald C (iX5 hi1) (lX5 hi1) (vin_in c22) dX6_readCard_45 ?_
        refine x_bipush (v := 48) C dX6_readCard_46 rfl ?_
        refine x_icmplt C 60 dX6_readCard_48 (by decide) (fun c24 => ?_) (fun c24 => ?_)
        · replace h2 := ob_pos c24 h2
          refine x_iload C 0 dX6_readCard_60 rfl ?_
          have e29 := ihR2 _ (Option.some.inj h2).symm
          subst e29
          replace h1 := sm1_r h1
          have e19 := ihR1 _ (Option.some.inj h1).symm
          subst e19
          replace h0 := sm1_r h0
          cases h0
          exact x_iret C R dX6_readCard_62
        · replace h2 := ob_neg c24 h2
          refine x_aload_n C 5 dX6_readCard_51 rfl ?_
          refine x_iload C 0 dX6_readCard_52 rfl ?_
          obtain ⟨c25, h2⟩ := ob_if h2
          refine x_bald C (iX5 hi1) (lX5 hi1) (vin_in c25) dX6_readCard_54 ?_
          refine x_bipush (v := 57) C dX6_readCard_55 rfl ?_
          refine x_icmple C 63 dX6_readCard_57 (by decide) (fun c27 => ?_) (fun c27 => ?_)
          · replace h2 := ob_pos c27 h2
            refine x_iinc (v := (x7 + 1)) (lv' := [(7, .int (x7 + 1)), (6, .int (a3 + ((2 : Int32) * x3))), (5, .int x3), (4, .int x2), (0, .ref (kad K 56)), (1, .ref (kad K (40 + i1))), (2, .int a2), (3, .int a3)]) C 0 dX6_readCard_63 rfl rfl (by rw [e5]; decide) rfl ?_
            refine x_goto C 25 dX6_readCard_66 (by decide) ?_
            refine x_lv (lv' := [(7, .int (x7 + 1)), (6, .int (a3 + ((2 : Int32) * x3))), (5, .int x3), (4, .int x2), (0, .ref (kad K 56)), (1, .ref (kad K (40 + i1))), (2, .int a2), (3, .int a3)]) [0, 1, 2, 3, 4, 5, 6, 7] rfl ?_
            exact ihL2 _ (Option.some.inj h2).symm
          · replace h2 := ob_neg c27 h2
            refine x_iload C 0 dX6_readCard_60 rfl ?_
            have e29 := ihR2 _ (Option.some.inj h2).symm
            subst e29
            replace h1 := sm1_r h1
            have e19 := ihR1 _ (Option.some.inj h1).symm
            subst e19
            replace h0 := sm1_r h0
            cases h0
            exact x_iret C R dX6_readCard_62
      · replace h2 := ob_neg c21 h2
        refine x_iload_n C 6 dX6_readCard_40 rfl ?_
        have e29 := ihR2 _ (Option.some.inj h2).symm
        subst e29
        replace h1 := sm1_r h1
        have e19 := ihR1 _ (Option.some.inj h1).symm
        subst e19
        replace h0 := sm1_r h0
        cases h0
        exact x_iret C R dX6_readCard_41
set_option maxHeartbeats 4000000 in
set_option maxRecDepth 100000 in
theorem c_X6_read {l : Launch} {D : va_G} {ad : Nat → Nat} {cy : Nat → ClassId} (hJ : mJ LX ad) {σ τ : mS} {i1 : Nat} {a2 : Int32} {r : Int32} (hi1 : i1 < 4) (h0 : X6_read σ i1 a2 = some (r, τ)) : MetG l LX D ad cy yX6_read cX6_read 6 (some .int) 1 [.ref (ad 56), .ref (ad (40 + i1)), .int a2] σ (some (.int r)) τ := by
  refine MetG.of hJ (by decide +kernel) [(0, .ref (ad 56)), (1, .ref (ad (40 + i1))), (2, .int a2)] rfl (Nat.le_of_ble_eq_true rfl) ?_
  intro K e1 e2 e3 e4 e5 C R
  subst e1
  subst e2
  subst e3
  subst e4
  unfold X6_read at h0
  refine x_aload_n C 0 dX6_read_0 rfl ?_
  refine x_iconst (v := 0) C dX6_read_1 rfl ?_
  refine x_putI (j := 2) (i := 20) (q := (RX6, TX6, 3)) C tyX6 tyX6_ok nmX6 (iX 56 (by decide)) rfl rfl inBX6 (by decide) tw102 rfl (by decide +kernel) rfl dX6_read_2 ?_
  refine x_iconst (v := 0) C dX6_read_5 rfl ?_
  refine x_istore_n (lv' := [(3, .int 0), (0, .ref (kad K 56)), (1, .ref (kad K (40 + i1))), (2, .int a2)]) C dX6_read_6 (by rw [e5]; decide) rfl ?_
  obtain ⟨e24, g25, h0⟩ := ob_bind h0
  have J1 : ∀ (s3 : mS), .inl s3 = e24 → Wx LX K s3 97 [(0, .ref (kad K 56)), (2, .int a2)] [] := by
    intro s3 e9
    subst e9
    replace h0 := sm1_l h0
    refine x_aload_n C 0 dX6_read_97 rfl ?_
    refine x_getI (j := 2) (i := 20) (q := (RX6, TX6, 3)) C (iX 56 (by decide)) rfl rfl inBX6 (by decide) tw102 rfl dX6_read_98 ?_
    refine x_ifne C 108 dX6_read_101 (by decide) (fun c5 => ?_) (fun c5 => ?_)
    · replace h0 := ob_neg c5 h0
      refine x_bipush (v := (-9)) C dX6_read_108 rfl ?_
      cases h0
      exact x_iret C R dX6_read_110
    · replace h0 := ob_pos c5 h0
      refine x_iload_n C 1 dX6_read_104 rfl ?_
      refine x_goto C 110 dX6_read_105 (by decide) ?_
      cases h0
      exact x_iret C R dX6_read_110
  refine lp_G (G := fun q : mS × Int32 => Wx LX K q.1 7 [(3, .int q.2), (0, .ref (kad K 56)), (1, .ref (kad K (40 + i1))), (2, .int a2)] []) (fun q x h1 ihL1 ihR1 => ?_) big _ g25
  obtain ⟨s1, x2⟩ := q
  replace h1 : X6_read_b7 i1 a2 s1 x2 = some x := h1
  unfold X6_read_b7 at h1
  show Wx LX K s1 7 [(3, .int x2), (0, .ref (kad K 56)), (1, .ref (kad K (40 + i1))), (2, .int a2)] []
  refine x_iload_n C 0 dX6_read_7 rfl ?_
  refine x_iload_n C 3 dX6_read_8 rfl ?_
  refine x_icmpge C 97 dX6_read_9 (by decide) (fun c7 => ?_) (fun c7 => ?_)
  · replace h1 := ob_pos c7 h1
    refine x_lv (lv' := [(0, .ref (kad K 56)), (2, .int a2)]) [1, 3] rfl ?_
    exact J1 _ (ihR1 _ (Option.some.inj h1).symm)
  · replace h1 := ob_neg c7 h1
    refine x_aload_n C 2 dX6_read_12 rfl ?_
    refine x_iload_n C 0 dX6_read_13 rfl ?_
    obtain ⟨c8, h1⟩ := ob_if h1
    refine x_bald C (iX5 hi1) (lX5 hi1) (vin_in c8) dX6_read_14 ?_
    refine x_bipush (v := 32) C dX6_read_15 rfl ?_
    refine x_icmpne C 26 dX6_read_17 (by decide) (fun c10 => ?_) (fun c10 => ?_)
    · replace h1 := ob_neg c10 h1
      refine x_aload_n C 2 dX6_read_26 rfl ?_
      refine x_iload_n C 0 dX6_read_27 rfl ?_
      obtain ⟨c11, h1⟩ := ob_if h1
      refine x_bald C (iX5 hi1) (lX5 hi1) (vin_in c11) dX6_read_28 ?_
      obtain ⟨r12, g13, h1⟩ := ob_bind h1
      refine x_callS (ar := 1) (rest := []) C (c_X6_kindBy C.2.2.2.2.2.2.1  g13) hy_X6_kindBy ⟨tw364, tw365, tw64, tw366⟩ (by decide) (by decide) rfl rfl (Nat.le_of_ble_eq_true rfl) dX6_read_29 ?_
      show Wx LX K s1 32 [(3, .int x2), (0, .ref (kad K 56)), (1, .ref (kad K (40 + i1))), (2, .int a2)] [.int r12]
      refine x_istore (lv' := [(4, .int r12), (3, .int x2), (0, .ref (kad K 56)), (1, .ref (kad K (40 + i1))), (2, .int a2)]) C dX6_read_32 (by rw [e5]; decide) rfl ?_
      refine x_iload C 0 dX6_read_34 rfl ?_
      refine x_iflt C 47 dX6_read_36 (by decide) (fun c15 => ?_) (fun c15 => ?_)
      · replace h1 := ob_pos c15 h1
        refine x_iload_n C 1 dX6_read_47 rfl ?_
        have e19 := ihR1 _ (Option.some.inj h1).symm
        subst e19
        replace h0 := sm1_r h0
        cases h0
        exact x_iret C R dX6_read_48
      · replace h1 := ob_neg c15 h1
        refine x_aload_n C 2 dX6_read_39 rfl ?_
        refine x_getI (j := 2) (i := 20) (q := (RX6, TX6, 3)) C (iX 56 (by decide)) rfl rfl inBX6 (by decide) tw102 rfl dX6_read_40 ?_
        refine x_iconst (v := 4) C dX6_read_43 rfl ?_
        refine x_icmplt C 49 dX6_read_44 (by decide) (fun c17 => ?_) (fun c17 => ?_)
        · replace h1 := ob_pos c17 h1
          refine x_aload_n C 2 dX6_read_49 rfl ?_
          refine x_aload_n C 3 dX6_read_50 rfl ?_
          refine x_iload_n C 4 dX6_read_51 rfl ?_
          refine x_iload_n C 1 dX6_read_52 rfl ?_
          refine x_iconst (v := 1) C dX6_read_53 rfl ?_
          refine x_iadd C dX6_read_54 ?_
          obtain ⟨r18, s20, g19, h1⟩ := ob_bd h1
          refine x_callV (ar := 3) (q := (RX6, TX6, 3)) (rest := []) C (c_X6_readCard C.2.2.2.2.2.2.1 hi1 g19) (iX 56 (by decide)) rfl rfl hy_X6_readCard ⟨tw369, tw371, tw7, tw64, tw372⟩ (by decide) (by decide) rfl rfl (Nat.le_of_ble_eq_true rfl) dX6_read_55 ?_
          show Wx LX K s20 58 [(4, .int r12), (3, .int x2), (0, .ref (kad K 56)), (1, .ref (kad K (40 + i1))), (2, .int a2)] [.int r18]
          refine x_istore (lv' := [(5, .int r18), (4, .int r12), (3, .int x2), (0, .ref (kad K 56)), (1, .ref (kad K (40 + i1))), (2, .int a2)]) C dX6_read_58 (by rw [e5]; decide) rfl ?_
          refine x_iload C 0 dX6_read_60 rfl ?_
          refine x_bipush (v := (-9)) C dX6_read_62 rfl ?_
          refine x_icmpeq C 70 dX6_read_64 (by decide) (fun c22 => ?_) (fun c22 => ?_)
          · replace h1 := ob_pos c22 h1
            refine x_aload_n C 3 dX6_read_70 rfl ?_
            refine x_getR (j := 0) (i := 9) (q := (RX6, TX6, 3)) C 64 (iX 56 (by decide)) rfl rfl inBX6 (by decide) tw98 rfl dX6_read_71 ?_
            refine x_aload_n C 3 dX6_read_74 rfl ?_
            refine x_getI (j := 2) (i := 20) (q := (RX6, TX6, 3)) C (iX 56 (by decide)) rfl rfl inBX6 (by decide) tw102 rfl dX6_read_75 ?_
            refine x_iload C 1 dX6_read_78 rfl ?_
            obtain ⟨c23, h1⟩ := ob_if h1
            refine x_iast C (iX 64 (by decide)) rfl (vin_in c23) dX6_read_80 ?_
            refine x_aload_n C 3 dX6_read_81 rfl ?_
            refine x_dup C dX6_read_82 rfl ?_
            refine x_getI (j := 2) (i := 20) (q := (RX6, TX6, 3)) C (iX 56 (by decide)) rfl rfl inBX6 (by decide) tw102 rfl dX6_read_83 ?_
            refine x_iconst (v := 1) C dX6_read_86 rfl ?_
            refine x_iadd C dX6_read_87 ?_
            refine x_putI (j := 2) (i := 20) (q := (RX6, TX6, 3)) C tyX6 tyX6_ok nmX6 (iX 56 (by decide)) rfl rfl inBX6 (by decide) tw102 rfl (by decide +kernel) rfl dX6_read_88 ?_
            refine x_iinc (v := (x2 + 13)) (lv' := [(3, .int (x2 + 13)), (5, .int r18), (4, .int r12), (0, .ref (kad K 56)), (1, .ref (kad K (40 + i1))), (2, .int a2)]) C 2 dX6_read_91 rfl rfl (by rw [e5]; decide) rfl ?_
            refine x_goto C 7 dX6_read_94 (by decide) ?_
            refine x_lv (lv' := [(3, .int (x2 + 13)), (0, .ref (kad K 56)), (1, .ref (kad K (40 + i1))), (2, .int a2)]) [0, 3, 4, 5] rfl ?_
            exact ihL1 _ (Option.some.inj h1).symm
          · replace h1 := ob_neg c22 h1
            refine x_iload C 0 dX6_read_67 rfl ?_
            have e19 := ihR1 _ (Option.some.inj h1).symm
            subst e19
            replace h0 := sm1_r h0
            cases h0
            exact x_iret C R dX6_read_69
        · replace h1 := ob_neg c17 h1
          refine x_iload_n C 1 dX6_read_47 rfl ?_
          have e19 := ihR1 _ (Option.some.inj h1).symm
          subst e19
          replace h0 := sm1_r h0
          cases h0
          exact x_iret C R dX6_read_48
    · replace h1 := ob_pos c10 h1
      refine x_iinc (v := (x2 + 1)) (lv' := [(3, .int (x2 + 1)), (0, .ref (kad K 56)), (1, .ref (kad K (40 + i1))), (2, .int a2)]) C 0 dX6_read_20 rfl rfl (by rw [e5]; decide) rfl ?_
      refine x_goto C 7 dX6_read_23 (by decide) ?_
      refine x_lv (lv' := [(3, .int (x2 + 1)), (0, .ref (kad K 56)), (1, .ref (kad K (40 + i1))), (2, .int a2)]) [0, 1, 2, 3] rfl ?_
      exact ihL1 _ (Option.some.inj h1).symm
set_option maxHeartbeats 4000000 in
set_option maxRecDepth 100000 in
theorem c_X7_fillBy {l : Launch} {D : va_G} {ad : Nat → Nat} {cy : Nat → ClassId} (hJ : mJ LX ad) {σ τ : mS}  {r : Unit}  (h0 : X7_fillBy σ = some (r, τ)) : MetG l LX D ad cy yX7_fillBy cX7_fillBy 4 none 0 [.ref (ad 88), .ref (ad 56)] σ (none) τ := by
  refine MetG.of hJ (by decide +kernel) [(0, .ref (ad 88)), (1, .ref (ad 56))] rfl (Nat.le_of_ble_eq_true rfl) ?_
  intro K e1 e2 e3 e4 e5 C R
  subst e1
  subst e2
  subst e3
  subst e4
  unfold X7_fillBy at h0
  refine x_aload_n C 0 dX7_fillBy_0 rfl ?_
  refine x_aload_n C 1 dX7_fillBy_1 rfl ?_
  refine x_getIN (j := 2) (i := 45) (q := (RX6, TX6, 3)) (host := "CalledNumbers") C (iX 56 (by decide)) rfl rfl inBX6 (by decide) twN103 rfl dX7_fillBy_2 ?_
  refine x_putI (j := 4) (i := 51) (q := (RX7, TX7, 5)) C tyX7 tyX7_ok nmX7 (iX 88 (by decide)) rfl rfl inBX7 (by decide) tw171 rfl (by decide +kernel) rfl dX7_fillBy_5 ?_
  refine x_iconst (v := 0) C dX7_fillBy_8 rfl ?_
  refine x_istore_n (lv' := [(2, .int 0), (0, .ref (kad K 88)), (1, .ref (kad K 56))]) C dX7_fillBy_9 (by rw [e5]; decide) rfl ?_
  obtain ⟨e24, g25, h0⟩ := ob_bind h0
  have J1 : ∀ (s3 : mS), s3 = e24 → Wx LX K s3 92 [] [] := by
    intro s3 e9
    subst e9
    replace h0 := un1_l h0
    cases h0
    exact x_vret C R dX7_fillBy_92
  refine lp_G (G := fun q : mS × Int32 => Wx LX K q.1 10 [(2, .int q.2), (0, .ref (kad K 88)), (1, .ref (kad K 56))] []) (fun q x h1 ihL1 ihR1 => ?_) big _ g25
  obtain ⟨s1, x2⟩ := q
  replace h1 : X7_fillBy_b10 s1 x2 = some x := h1
  unfold X7_fillBy_b10 at h1
  show Wx LX K s1 10 [(2, .int x2), (0, .ref (kad K 88)), (1, .ref (kad K 56))] []
  refine x_iload_n C 0 dX7_fillBy_10 rfl ?_
  refine x_aload_n C 1 dX7_fillBy_11 rfl ?_
  refine x_getI (j := 4) (i := 51) (q := (RX7, TX7, 5)) C (iX 88 (by decide)) rfl rfl inBX7 (by decide) tw171 rfl dX7_fillBy_12 ?_
  refine x_icmpge C 92 dX7_fillBy_15 (by decide) (fun c5 => ?_) (fun c5 => ?_)
  · replace h1 := ob_pos c5 h1
    refine x_lv (lv' := []) [] rfl ?_
    exact J1 _ (ihR1 _ (Option.some.inj h1).symm)
  · replace h1 := ob_neg c5 h1
    refine x_aload_n C 1 dX7_fillBy_18 rfl ?_
    refine x_getR (j := 1) (i := 33) (q := (RX7, TX7, 5)) C 112 (iX 88 (by decide)) rfl rfl inBX7 (by decide) tw165 rfl dX7_fillBy_19 ?_
    refine x_iload_n C 0 dX7_fillBy_22 rfl ?_
    refine x_aload_n C 2 dX7_fillBy_23 rfl ?_
    refine x_getRN (j := 0) (i := 54) (q := (RX6, TX6, 3)) (host := "CalledNumbers") C 64 (iX 56 (by decide)) rfl rfl inBX6 (by decide) twN99 rfl dX7_fillBy_24 ?_
    refine x_iload_n C 0 dX7_fillBy_27 rfl ?_
    obtain ⟨c6, h1⟩ := ob_if h1
    refine x_iald C (iX 64 (by decide)) rfl (vin_in c6) dX7_fillBy_28 ?_
    obtain ⟨c7, h1⟩ := ob_if h1
    refine x_iast C (iX 112 (by decide)) rfl (vin_in c7) dX7_fillBy_29 ?_
    refine x_aload_n C 1 dX7_fillBy_30 rfl ?_
    refine x_getR (j := 3) (i := 42) (q := (RX7, TX7, 5)) C 136 (iX 88 (by decide)) rfl rfl inBX7 (by decide) tw169 rfl dX7_fillBy_31 ?_
    refine x_iload_n C 0 dX7_fillBy_34 rfl ?_
    refine x_iconst (v := 0) C dX7_fillBy_35 rfl ?_
    obtain ⟨c8, h1⟩ := ob_if h1
    refine x_iast C (iX 136 (by decide)) rfl (vin_in c8) dX7_fillBy_36 ?_
    refine x_iconst (v := 0) C dX7_fillBy_37 rfl ?_
    refine x_istore_n (lv' := [(3, .int 0), (2, .int x2), (0, .ref (kad K 88)), (1, .ref (kad K 56))]) C dX7_fillBy_38 (by rw [e5]; decide) rfl ?_
    obtain ⟨e22, g23, h1⟩ := ob_bind h1
    have J2 : ∀ (s11 : mS), s11 = e22 → Wx LX K s11 86 [(2, .int x2), (0, .ref (kad K 88)), (1, .ref (kad K 56))] [] := by
      intro s11 e9
      subst e9
      replace h1 := un1_l h1
      refine x_iinc (v := (x2 + 1)) (lv' := [(2, .int (x2 + 1)), (0, .ref (kad K 88)), (1, .ref (kad K 56))]) C 0 dX7_fillBy_86 rfl rfl (by rw [e5]; decide) rfl ?_
      refine x_goto C 10 dX7_fillBy_89 (by decide) ?_
      refine x_lv (lv' := [(2, .int (x2 + 1)), (0, .ref (kad K 88)), (1, .ref (kad K 56))]) [0, 1, 2] rfl ?_
      exact ihL1 _ (Option.some.inj h1).symm
    refine lp_G (G := fun q : mS × Int32 => Wx LX K q.1 39 [(3, .int q.2), (2, .int x2), (0, .ref (kad K 88)), (1, .ref (kad K 56))] []) (fun q x h2 ihL2 ihR2 => ?_) big _ g23
    obtain ⟨s9, x10⟩ := q
    replace h2 : X7_fillBy_b39 x2 s9 x10 = some x := h2
    unfold X7_fillBy_b39 at h2
    show Wx LX K s9 39 [(3, .int x10), (2, .int x2), (0, .ref (kad K 88)), (1, .ref (kad K 56))] []
    refine x_iload_n C 0 dX7_fillBy_39 rfl ?_
    refine x_bipush (v := 6) C dX7_fillBy_40 rfl ?_
    refine x_icmpge C 86 dX7_fillBy_42 (by decide) (fun c13 => ?_) (fun c13 => ?_)
    · replace h2 := ob_pos c13 h2
      refine x_lv (lv' := [(2, .int x2), (0, .ref (kad K 88)), (1, .ref (kad K 56))]) [1, 2, 3] rfl ?_
      exact J2 _ (ihR2 _ (Option.some.inj h2).symm)
    · replace h2 := ob_neg c13 h2
      refine x_aload_n C 2 dX7_fillBy_45 rfl ?_
      refine x_getR (j := 2) (i := 39) (q := (RX7, TX7, 5)) C 120 (iX 88 (by decide)) rfl rfl inBX7 (by decide) tw167 rfl dX7_fillBy_46 ?_
      refine x_iload_n C 1 dX7_fillBy_49 rfl ?_
      obtain ⟨c14, h2⟩ := ob_if h2
      refine x_aald C (iX 120 (by decide)) rfl rfl rfl (vin_in c14) dX7_fillBy_50 ?_
      refine x_iload_n C 0 dX7_fillBy_51 rfl ?_
      refine x_aload_n C 3 dX7_fillBy_52 rfl ?_
      refine x_getRN (j := 1) (i := 55) (q := (RX6, TX6, 3)) (host := "CalledNumbers") C 72 (iX 56 (by decide)) rfl rfl inBX6 (by decide) twN101 rfl dX7_fillBy_53 ?_
      refine x_iload_n C 1 dX7_fillBy_56 rfl ?_
      obtain ⟨c15, h2⟩ := ob_if h2
      refine x_aald C (iX 72 (by decide)) rfl rfl rfl (vin_in c15) dX7_fillBy_57 ?_
      refine x_iload_n C 0 dX7_fillBy_58 rfl ?_
      obtain ⟨c16, h2⟩ := ob_if h2
      refine x_iald C (iX10 (vin_lt c15)) (lX10 (vin_lt c15)) (vin_in c16) dX7_fillBy_59 ?_
      obtain ⟨c17, h2⟩ := ob_if h2
      refine x_iast C (iX16 (vin_lt c14)) (lX16 (vin_lt c14)) (vin_in c17) dX7_fillBy_60 ?_
      refine x_aload_n C 2 dX7_fillBy_61 rfl ?_
      refine x_getR (j := 3) (i := 42) (q := (RX7, TX7, 5)) C 136 (iX 88 (by decide)) rfl rfl inBX7 (by decide) tw169 rfl dX7_fillBy_62 ?_
      refine x_iload_n C 1 dX7_fillBy_65 rfl ?_
      refine x_dup2 C dX7_fillBy_66 rfl rfl ?_
      obtain ⟨c18, h2⟩ := ob_if h2
      refine x_iald C (iX 136 (by decide)) rfl (vin_in c18) dX7_fillBy_67 ?_
      refine x_iconst (v := 1) C dX7_fillBy_68 rfl ?_
      refine x_aload_n C 2 dX7_fillBy_69 rfl ?_
      refine x_getR (j := 2) (i := 39) (q := (RX7, TX7, 5)) C 120 (iX 88 (by decide)) rfl rfl inBX7 (by decide) tw167 rfl dX7_fillBy_70 ?_
      refine x_iload_n C 1 dX7_fillBy_73 rfl ?_
      obtain ⟨c19, h2⟩ := ob_if h2
      refine x_aald C (iX 120 (by decide)) rfl rfl rfl (vin_in c19) dX7_fillBy_74 ?_
      refine x_iload_n C 0 dX7_fillBy_75 rfl ?_
      obtain ⟨c20, h2⟩ := ob_if h2
      refine x_iald C (iX16 (vin_lt c19)) (lX16 (vin_lt c19)) (vin_in c20) dX7_fillBy_76 ?_
      refine x_ishl C dX7_fillBy_77 ?_
      refine x_ior C dX7_fillBy_78 ?_
      obtain ⟨c21, h2⟩ := ob_if h2
      refine x_iast C (iX 136 (by decide)) rfl (vin_in c21) dX7_fillBy_79 ?_
      refine x_iinc (v := (x10 + 1)) (lv' := [(3, .int (x10 + 1)), (2, .int x2), (0, .ref (kad K 88)), (1, .ref (kad K 56))]) C 0 dX7_fillBy_80 rfl rfl (by rw [e5]; decide) rfl ?_
      refine x_goto C 39 dX7_fillBy_83 (by decide) ?_
      refine x_lv (lv' := [(3, .int (x10 + 1)), (2, .int x2), (0, .ref (kad K 88)), (1, .ref (kad K 56))]) [0, 1, 2, 3] rfl ?_
      exact ihL2 _ (Option.some.inj h2).symm
