set_option maxHeartbeats 4000000 in
set_option maxRecDepth 100000 in
theorem c_X10_asked {l : Launch} {D : va_G} {ad : Nat → Nat} {cy : Nat → ClassId} (hJ : mJ LX ad) {σ : mS}  {r : Int32}  (h0 : X10_asked σ = r) : MetG l LX D ad cy yX10_asked cX10_asked 1 (some .int) 0 [.ref (ad 0)] σ (some (.int r)) σ := by
  refine MetG.of hJ (by decide +kernel) [(0, .ref (ad 0))] rfl (Nat.le_of_ble_eq_true rfl) ?_
  intro K e1 e2 e3 e4 e5 C R
  subst e1
  subst e2
  subst e3
  subst e4
  unfold X10_asked at h0
  refine x_aload_n C 0 dX10_asked_0 rfl ?_
  refine x_getI (j := 13) (i := 99) (q := (RX10, TX10, 18)) C (iX 0 (by decide)) rfl rfl inBX10 (by decide) tw248 rfl dX10_asked_1 ?_
  subst h0
  exact x_iret C R dX10_asked_4
set_option maxHeartbeats 4000000 in
set_option maxRecDepth 100000 in
theorem c_X10_upper {l : Launch} {D : va_G} {ad : Nat → Nat} {cy : Nat → ClassId} (hJ : mJ LX ad) {σ : mS}  {r : Int64}  (h0 : X10_upper σ = r) : MetG l LX D ad cy yX10_upper cX10_upper 1 (some .long) 0 [.ref (ad 0)] σ (some (.long r)) σ := by
  refine MetG.of hJ (by decide +kernel) [(0, .ref (ad 0))] rfl (Nat.le_of_ble_eq_true rfl) ?_
  intro K e1 e2 e3 e4 e5 C R
  subst e1
  subst e2
  subst e3
  subst e4
  unfold X10_upper at h0
  refine x_aload_n C 0 dX10_upper_0 rfl ?_
  refine x_getL (j := 14) (i := 284) (q := (RX10, TX10, 18)) C (iX 0 (by decide)) rfl rfl inBX10 (by decide) tw249 rfl dX10_upper_1 ?_
  subst h0
  exact x_lret C R dX10_upper_4
set_option maxHeartbeats 4000000 in
set_option maxRecDepth 100000 in
theorem c_X10_lower {l : Launch} {D : va_G} {ad : Nat → Nat} {cy : Nat → ClassId} (hJ : mJ LX ad) {σ : mS}  {r : Int64}  (h0 : X10_lower σ = r) : MetG l LX D ad cy yX10_lower cX10_lower 1 (some .long) 0 [.ref (ad 0)] σ (some (.long r)) σ := by
  refine MetG.of hJ (by decide +kernel) [(0, .ref (ad 0))] rfl (Nat.le_of_ble_eq_true rfl) ?_
  intro K e1 e2 e3 e4 e5 C R
  subst e1
  subst e2
  subst e3
  subst e4
  unfold X10_lower at h0
  refine x_aload_n C 0 dX10_lower_0 rfl ?_
  refine x_getL (j := 15) (i := 70) (q := (RX10, TX10, 18)) C (iX 0 (by decide)) rfl rfl inBX10 (by decide) tw250 rfl dX10_lower_1 ?_
  subst h0
  exact x_lret C R dX10_lower_4
set_option maxHeartbeats 4000000 in
set_option maxRecDepth 100000 in
theorem c_X10_thoseThere {l : Launch} {D : va_G} {ad : Nat → Nat} {cy : Nat → ClassId} (hJ : mJ LX ad) {σ : mS} {k : Nat} {z : Nat} {r : Int32} (hk : k ∈ LX.1) (hd : LX.2 k = .inr (.inl (0, z))) (h0 : X10_thoseThere σ k z = some r) : MetG l LX D ad cy yX10_thoseThere cX10_thoseThere 6 (some .int) 0 [.ref (ad k)] σ (some (.int r)) σ := by
  refine MetG.of hJ (by decide +kernel) [(0, .ref (ad k))] rfl (Nat.le_of_ble_eq_true rfl) ?_
  intro K e1 e2 e3 e4 e5 C R
  subst e1
  subst e2
  subst e3
  subst e4
  unfold X10_thoseThere at h0
  refine x_iconst (v := 0) C dX10_thoseThere_0 rfl ?_
  refine x_istore_n (lv' := [(1, .int 0), (0, .ref (kad K k))]) C dX10_thoseThere_1 (by rw [e5]; decide) rfl ?_
  refine x_aload_n C 1 dX10_thoseThere_2 rfl ?_
  refine x_astore_n (lv' := [(2, .ref (kad K k)), (1, .int 0), (0, .ref (kad K k))]) C dX10_thoseThere_3 (by rw [e5]; decide) rfl ?_
  refine x_aload_n C 0 dX10_thoseThere_4 rfl ?_
  refine x_alen (b := 0) C hk hd rfl rfl dX10_thoseThere_5 ?_
  refine x_istore_n (lv' := [(3, .int (Int32.ofNat z)), (2, .ref (kad K k)), (1, .int 0), (0, .ref (kad K k))]) C dX10_thoseThere_6 (by rw [e5]; decide) rfl ?_
  refine x_iconst (v := 0) C dX10_thoseThere_7 rfl ?_
  refine x_istore (lv' := [(4, .int 0), (3, .int (Int32.ofNat z)), (2, .ref (kad K k)), (1, .int 0), (0, .ref (kad K k))]) C dX10_thoseThere_8 (by rw [e5]; decide) rfl ?_
  obtain ⟨e9, g10, h0⟩ := ob_bind h0
  have J1 : ∀ (y3 : Int32), y3 = e9 → Wx LX K σ 36 [(1, .int y3)] [] := by
    intro y3 e9
    subst e9
    replace h0 := un1_l h0
    refine x_iload_n C 0 dX10_thoseThere_36 rfl ?_
    cases h0
    exact x_iret C R dX10_thoseThere_37
  refine x_lv (lv' := [(4, .int 0), (3, .int (Int32.ofNat z)), (2, .ref (kad K k)), (1, .int 0)]) [0, 1, 2, 3] rfl ?_
  refine lp_G (G := fun q : Int32 × Int32 => Wx LX K σ 10 [(4, .int q.2), (3, .int (Int32.ofNat z)), (2, .ref (kad K k)), (1, .int q.1)] []) (fun q x h1 ihL1 ihR1 => ?_) big _ g10
  obtain ⟨x1, x2⟩ := q
  replace h1 : X10_thoseThere_b10 σ k z x1 x2 = some x := h1
  unfold X10_thoseThere_b10 at h1
  show Wx LX K σ 10 [(4, .int x2), (3, .int (Int32.ofNat z)), (2, .ref (kad K k)), (1, .int x1)] []
  refine x_iload C 0 dX10_thoseThere_10 rfl ?_
  refine x_iload_n C 1 dX10_thoseThere_12 rfl ?_
  refine x_icmpge C 36 dX10_thoseThere_13 (by decide) (fun c5 => ?_) (fun c5 => ?_)
  · replace h1 := ob_pos c5 h1
    refine x_lv (lv' := [(1, .int x1)]) [3] rfl ?_
    exact J1 _ (ihR1 _ (Option.some.inj h1).symm)
  · replace h1 := ob_neg c5 h1
    refine x_aload_n C 2 dX10_thoseThere_16 rfl ?_
    refine x_iload C 0 dX10_thoseThere_17 rfl ?_
    obtain ⟨c6, h1⟩ := ob_if h1
    refine x_iald C hk hd (vin_in c6) dX10_thoseThere_19 ?_
    refine x_istore (lv' := [(5, .int (σ.1 k x2.toNatClampNeg)), (4, .int x2), (3, .int (Int32.ofNat z)), (2, .ref (kad K k)), (1, .int x1)]) C dX10_thoseThere_20 (by rw [e5]; decide) rfl ?_
    refine x_iload C 0 dX10_thoseThere_22 rfl ?_
    refine x_iflt C 30 dX10_thoseThere_24 (by decide) (fun c8 => ?_) (fun c8 => ?_)
    · replace h1 := ob_pos c8 h1
      refine x_iinc (v := (x2 + 1)) (lv' := [(4, .int (x2 + 1)), (5, .int (σ.1 k x2.toNatClampNeg)), (3, .int (Int32.ofNat z)), (2, .ref (kad K k)), (1, .int x1)]) C 1 dX10_thoseThere_30 rfl rfl (by rw [e5]; decide) rfl ?_
      refine x_goto C 10 dX10_thoseThere_33 (by decide) ?_
      refine x_lv (lv' := [(4, .int (x2 + 1)), (3, .int (Int32.ofNat z)), (2, .ref (kad K k)), (1, .int x1)]) [0, 2, 3, 4] rfl ?_
      exact ihL1 _ (Option.some.inj h1).symm
    · replace h1 := ob_neg c8 h1
      refine x_iinc (v := (x1 + 1)) (lv' := [(1, .int (x1 + 1)), (5, .int (σ.1 k x2.toNatClampNeg)), (4, .int x2), (3, .int (Int32.ofNat z)), (2, .ref (kad K k))]) C 4 dX10_thoseThere_27 rfl rfl (by rw [e5]; decide) rfl ?_
      refine x_iinc (v := (x2 + 1)) (lv' := [(4, .int (x2 + 1)), (1, .int (x1 + 1)), (5, .int (σ.1 k x2.toNatClampNeg)), (3, .int (Int32.ofNat z)), (2, .ref (kad K k))]) C 2 dX10_thoseThere_30 rfl rfl (by rw [e5]; decide) rfl ?_
      refine x_goto C 10 dX10_thoseThere_33 (by decide) ?_
      refine x_lv (lv' := [(4, .int (x2 + 1)), (3, .int (Int32.ofNat z)), (2, .ref (kad K k)), (1, .int (x1 + 1))]) [0, 3, 4, 1] rfl ?_
      exact ihL1 _ (Option.some.inj h1).symm
set_option maxHeartbeats 4000000 in
set_option maxRecDepth 100000 in
theorem c_X10_keptHalls {l : Launch} {D : va_G} {ad : Nat → Nat} {cy : Nat → ClassId} (hJ : mJ LX ad) {σ : mS}  {r : Int32}  (h0 : X10_keptHalls σ = some r) : MetG l LX D ad cy yX10_keptHalls cX10_keptHalls 3 (some .int) 0 [.ref (ad 0)] σ (some (.int r)) σ := by
  refine MetG.of hJ (by decide +kernel) [(0, .ref (ad 0))] rfl (Nat.le_of_ble_eq_true rfl) ?_
  intro K e1 e2 e3 e4 e5 C R
  subst e1
  subst e2
  subst e3
  subst e4
  unfold X10_keptHalls at h0
  refine x_iconst (v := 0) C dX10_keptHalls_0 rfl ?_
  refine x_istore_n (lv' := [(1, .int 0), (0, .ref (kad K 0))]) C dX10_keptHalls_1 (by rw [e5]; decide) rfl ?_
  refine x_iconst (v := 0) C dX10_keptHalls_2 rfl ?_
  refine x_istore_n (lv' := [(2, .int 0), (1, .int 0), (0, .ref (kad K 0))]) C dX10_keptHalls_3 (by rw [e5]; decide) rfl ?_
  obtain ⟨e9, g10, h0⟩ := ob_bind h0
  have J1 : ∀ (y3 : Int32), y3 = e9 → Wx LX K σ 30 [(1, .int y3)] [] := by
    intro y3 e9
    subst e9
    replace h0 := un1_l h0
    refine x_iload_n C 0 dX10_keptHalls_30 rfl ?_
    cases h0
    exact x_iret C R dX10_keptHalls_31
  refine lp_G (G := fun q : Int32 × Int32 => Wx LX K σ 4 [(2, .int q.2), (1, .int q.1), (0, .ref (kad K 0))] []) (fun q x h1 ihL1 ihR1 => ?_) big _ g10
  obtain ⟨x1, x2⟩ := q
  replace h1 : X10_keptHalls_b4 σ x1 x2 = some x := h1
  unfold X10_keptHalls_b4 at h1
  show Wx LX K σ 4 [(2, .int x2), (1, .int x1), (0, .ref (kad K 0))] []
  refine x_iload_n C 0 dX10_keptHalls_4 rfl ?_
  refine x_iconst (v := 3) C dX10_keptHalls_5 rfl ?_
  refine x_icmpge C 30 dX10_keptHalls_6 (by decide) (fun c5 => ?_) (fun c5 => ?_)
  · replace h1 := ob_pos c5 h1
    refine x_lv (lv' := [(1, .int x1)]) [1] rfl ?_
    exact J1 _ (ihR1 _ (Option.some.inj h1).symm)
  · replace h1 := ob_neg c5 h1
    refine x_aload_n C 2 dX10_keptHalls_9 rfl ?_
    refine x_getR (j := 8) (i := 56) (q := (RX10, TX10, 18)) C 176 (iX 0 (by decide)) rfl rfl inBX10 (by decide) tw243 rfl dX10_keptHalls_10 ?_
    refine x_iload_n C 0 dX10_keptHalls_13 rfl ?_
    obtain ⟨c6, h1⟩ := ob_if h1
    refine x_aald C (iX 176 (by decide)) rfl rfl rfl (vin_in c6) dX10_keptHalls_14 ?_
    refine x_getIN (j := 1) (i := 83) (q := (RX1, TX1, 2)) (host := "CalledNumbers") C (iX20 (Nat.lt_of_lt_of_le (vin_lt c6) (by decide))) (lX20 (Nat.lt_of_lt_of_le (vin_lt c6) (by decide))) rfl inBX1 (by decide) twN223 rfl dX10_keptHalls_15 ?_
    refine x_iflt C 24 dX10_keptHalls_18 (by decide) (fun c8 => ?_) (fun c8 => ?_)
    · replace h1 := ob_pos c8 h1
      refine x_iinc (v := (x2 + 1)) (lv' := [(2, .int (x2 + 1)), (1, .int x1), (0, .ref (kad K 0))]) C 0 dX10_keptHalls_24 rfl rfl (by rw [e5]; decide) rfl ?_
      refine x_goto C 4 dX10_keptHalls_27 (by decide) ?_
      refine x_lv (lv' := [(2, .int (x2 + 1)), (1, .int x1), (0, .ref (kad K 0))]) [0, 1, 2] rfl ?_
      exact ihL1 _ (Option.some.inj h1).symm
    · replace h1 := ob_neg c8 h1
      refine x_iinc (v := (x1 + 1)) (lv' := [(1, .int (x1 + 1)), (2, .int x2), (0, .ref (kad K 0))]) C 1 dX10_keptHalls_21 rfl rfl (by rw [e5]; decide) rfl ?_
      refine x_iinc (v := (x2 + 1)) (lv' := [(2, .int (x2 + 1)), (1, .int (x1 + 1)), (0, .ref (kad K 0))]) C 1 dX10_keptHalls_24 rfl rfl (by rw [e5]; decide) rfl ?_
      refine x_goto C 4 dX10_keptHalls_27 (by decide) ?_
      refine x_lv (lv' := [(2, .int (x2 + 1)), (1, .int (x1 + 1)), (0, .ref (kad K 0))]) [0, 1, 2] rfl ?_
      exact ihL1 _ (Option.some.inj h1).symm
set_option maxHeartbeats 4000000 in
set_option maxRecDepth 100000 in
theorem c_X10_count {l : Launch} {D : va_G} {ad : Nat → Nat} {cy : Nat → ClassId} (hJ : mJ LX ad) {σ : mS} {a1 : Int32} {r : Int32}  (h0 : X10_count σ a1 = some r) : MetG l LX D ad cy yX10_count cX10_count 2 (some .int) 2 [.ref (ad 0), .int a1] σ (some (.int r)) σ := by
  refine MetG.of hJ (by decide +kernel) [(0, .ref (ad 0)), (1, .int a1)] rfl (Nat.le_of_ble_eq_true rfl) ?_
  intro K e1 e2 e3 e4 e5 C R
  subst e1
  subst e2
  subst e3
  subst e4
  unfold X10_count at h0
  refine x_iload_n C 1 dX10_count_0 rfl ?_
  by_cases c1 : a1 = 0
  · replace h0 := ob_pos c1 h0
    refine x_tableIn C 64 dX10_count_1 (by rw [c1]; decide) (by rw [c1]; decide) (by rw [c1]; rfl) (by decide) ?_
    refine x_aload_n C 0 dX10_count_64 rfl ?_
    refine x_getR (j := 5) (i := 36) (q := (RX10, TX10, 18)) C 88 (iX 0 (by decide)) rfl rfl inBX10 (by decide) tw240 rfl dX10_count_65 ?_
    refine x_getIN (j := 4) (i := 135) (q := (RX7, TX7, 5)) (host := "CalledNumbers") C (iX 88 (by decide)) rfl rfl inBX7 (by decide) twN173 rfl dX10_count_68 ?_
    cases h0
    exact x_iret C R dX10_count_71
  replace h0 := ob_neg c1 h0
  by_cases c2 : a1 = 1
  · replace h0 := ob_pos c2 h0
    refine x_tableIn C 72 dX10_count_1 (by rw [c2]; decide) (by rw [c2]; decide) (by rw [c2]; rfl) (by decide) ?_
    refine x_aload_n C 0 dX10_count_72 rfl ?_
    refine x_getR (j := 6) (i := 45) (q := (RX10, TX10, 18)) C (144 + 5) (iX 0 (by decide)) rfl rfl inBX10 (by decide) tw241 rfl dX10_count_73 ?_
    refine x_getIN (j := 5) (i := 164) (q := (RX2, TX2, 6)) (host := "CalledNumbers") C (iX18 (by decide)) (lX18 (by decide)) rfl inBX2 (by decide) twN201 rfl dX10_count_76 ?_
    cases h0
    exact x_iret C R dX10_count_79
  replace h0 := ob_neg c2 h0
  by_cases c3 : a1 = 2
  · replace h0 := ob_pos c3 h0
    refine x_tableIn C 80 dX10_count_1 (by rw [c3]; decide) (by rw [c3]; decide) (by rw [c3]; rfl) (by decide) ?_
    refine x_aload_n C 0 dX10_count_80 rfl ?_
    refine x_getR (j := 7) (i := 52) (q := (RX10, TX10, 18)) C (160 + 3) (iX 0 (by decide)) rfl rfl inBX10 (by decide) tw242 rfl dX10_count_81 ?_
    refine x_getIN (j := 1) (i := 83) (q := (RX1, TX1, 2)) (host := "CalledNumbers") C (iX20 (by decide)) (lX20 (by decide)) rfl inBX1 (by decide) twN223 rfl dX10_count_84 ?_
    cases h0
    exact x_iret C R dX10_count_87
  replace h0 := ob_neg c3 h0
  by_cases c4 : a1 = 3
  · replace h0 := ob_pos c4 h0
    refine x_tableIn C 88 dX10_count_1 (by rw [c4]; decide) (by rw [c4]; decide) (by rw [c4]; rfl) (by decide) ?_
    refine x_aload_n C 0 dX10_count_88 rfl ?_
    refine x_getR (j := 6) (i := 45) (q := (RX10, TX10, 18)) C (144 + 5) (iX 0 (by decide)) rfl rfl inBX10 (by decide) tw241 rfl dX10_count_89 ?_
    refine x_getIN (j := 3) (i := 262) (q := (RX2, TX2, 6)) (host := "CalledNumbers") C (iX18 (by decide)) (lX18 (by decide)) rfl inBX2 (by decide) twN197 rfl dX10_count_92 ?_
    cases h0
    exact x_iret C R dX10_count_95
  replace h0 := ob_neg c4 h0
  by_cases c5 : a1 = 4
  · replace h0 := ob_pos c5 h0
    refine x_tableIn C 96 dX10_count_1 (by rw [c5]; decide) (by rw [c5]; decide) (by rw [c5]; rfl) (by decide) ?_
    refine x_aload_n C 0 dX10_count_96 rfl ?_
    refine x_getR (j := 6) (i := 45) (q := (RX10, TX10, 18)) C (144 + 5) (iX 0 (by decide)) rfl rfl inBX10 (by decide) tw241 rfl dX10_count_97 ?_
    refine x_getIN (j := 4) (i := 177) (q := (RX2, TX2, 6)) (host := "CalledNumbers") C (iX18 (by decide)) (lX18 (by decide)) rfl inBX2 (by decide) twN199 rfl dX10_count_100 ?_
    cases h0
    exact x_iret C R dX10_count_103
  replace h0 := ob_neg c5 h0
  by_cases c6 : a1 = 5
  · replace h0 := ob_pos c6 h0
    refine x_tableIn C 104 dX10_count_1 (by rw [c6]; decide) (by rw [c6]; decide) (by rw [c6]; rfl) (by decide) ?_
    refine x_aload_n C 0 dX10_count_104 rfl ?_
    refine x_getR (j := 6) (i := 45) (q := (RX10, TX10, 18)) C (144 + 5) (iX 0 (by decide)) rfl rfl inBX10 (by decide) tw241 rfl dX10_count_105 ?_
    refine x_getIN (j := 2) (i := 223) (q := (RX2, TX2, 6)) (host := "CalledNumbers") C (iX18 (by decide)) (lX18 (by decide)) rfl inBX2 (by decide) twN195 rfl dX10_count_108 ?_
    cases h0
    exact x_iret C R dX10_count_111
  replace h0 := ob_neg c6 h0
  by_cases c7 : a1 = 6
  · replace h0 := ob_pos c7 h0
    refine x_tableIn C 112 dX10_count_1 (by rw [c7]; decide) (by rw [c7]; decide) (by rw [c7]; rfl) (by decide) ?_
    refine x_aload_n C 0 dX10_count_112 rfl ?_
    refine x_getR (j := 6) (i := 45) (q := (RX10, TX10, 18)) C (144 + 5) (iX 0 (by decide)) rfl rfl inBX10 (by decide) tw241 rfl dX10_count_113 ?_
    obtain ⟨r13, g14, h0⟩ := ob_bind h0
    refine x_callV (ar := 0) (q := (RX2, TX2, 6)) (rest := []) C (c_X2_allMarks C.2.2.2.2.2.2.1 (by decide) g14) (iX18 (by decide)) (lX18 (by decide)) rfl hy_X2_allMarks ⟨tw722, tw723, tw724, tw72, tw725⟩ (by decide) (by decide) rfl rfl (Nat.le_of_ble_eq_true rfl) dX10_count_116 ?_
    show Wx LX K σ 119 [(0, .ref (kad K 0)), (1, .int a1)] [.int r13]
    cases h0
    exact x_iret C R dX10_count_119
  replace h0 := ob_neg c7 h0
  by_cases c8 : a1 = 7
  · replace h0 := ob_pos c8 h0
    refine x_tableIn C 120 dX10_count_1 (by rw [c8]; decide) (by rw [c8]; decide) (by rw [c8]; rfl) (by decide) ?_
    refine x_aload_n C 0 dX10_count_120 rfl ?_
    refine x_getR (j := 5) (i := 36) (q := (RX10, TX10, 18)) C 88 (iX 0 (by decide)) rfl rfl inBX10 (by decide) tw240 rfl dX10_count_121 ?_
    obtain ⟨r15, g16, h0⟩ := ob_bind h0
    refine x_callV (ar := 0) (q := (RX7, TX7, 5)) (rest := []) C (c_X7_wholeOnes C.2.2.2.2.2.2.1  g16) (iX 88 (by decide)) rfl rfl hy_X7_wholeOnes ⟨tw726, tw727, tw728, tw65, tw729⟩ (by decide) (by decide) rfl rfl (Nat.le_of_ble_eq_true rfl) dX10_count_124 ?_
    show Wx LX K σ 127 [(0, .ref (kad K 0)), (1, .int a1)] [.int r15]
    cases h0
    exact x_iret C R dX10_count_127
  replace h0 := ob_neg c8 h0
  by_cases c9 : a1 = 8
  · replace h0 := ob_pos c9 h0
    refine x_tableIn C 128 dX10_count_1 (by rw [c9]; decide) (by rw [c9]; decide) (by rw [c9]; rfl) (by decide) ?_
    refine x_aload_n C 0 dX10_count_128 rfl ?_
    refine x_getR (j := 5) (i := 36) (q := (RX10, TX10, 18)) C 88 (iX 0 (by decide)) rfl rfl inBX10 (by decide) tw240 rfl dX10_count_129 ?_
    obtain ⟨r17, g18, h0⟩ := ob_bind h0
    refine x_callV (ar := 0) (q := (RX7, TX7, 5)) (rest := []) C (c_X7_deafOnes C.2.2.2.2.2.2.1  g18) (iX 88 (by decide)) rfl rfl hy_X7_deafOnes ⟨tw731, tw732, tw733, tw65, tw734⟩ (by decide) (by decide) rfl rfl (Nat.le_of_ble_eq_true rfl) dX10_count_132 ?_
    show Wx LX K σ 135 [(0, .ref (kad K 0)), (1, .int a1)] [.int r17]
    cases h0
    exact x_iret C R dX10_count_135
  replace h0 := ob_neg c9 h0
  by_cases c10 : a1 = 9
  · replace h0 := ob_pos c10 h0
    refine x_tableIn C 136 dX10_count_1 (by rw [c10]; decide) (by rw [c10]; decide) (by rw [c10]; rfl) (by decide) ?_
    refine x_aload_n C 0 dX10_count_136 rfl ?_
    refine x_getR (j := 1) (i := 14) (q := (RX10, TX10, 18)) C 24 (iX 0 (by decide)) rfl rfl inBX10 (by decide) tw236 rfl dX10_count_137 ?_
    obtain ⟨r19, g20, h0⟩ := ob_bind h0
    refine x_callS (ar := 1) (rest := []) C (c_X10_thoseThere C.2.2.2.2.2.2.1 (iX 24 (by decide)) rfl g20) hy_X10_thoseThere ⟨tw735, tw736, tw63, tw737⟩ (by decide) (by decide) rfl rfl (Nat.le_of_ble_eq_true rfl) dX10_count_140 ?_
    show Wx LX K σ 143 [(0, .ref (kad K 0)), (1, .int a1)] [.int r19]
    cases h0
    exact x_iret C R dX10_count_143
  replace h0 := ob_neg c10 h0
  by_cases c11 : a1 = 10
  · replace h0 := ob_pos c11 h0
    refine x_tableIn C 144 dX10_count_1 (by rw [c11]; decide) (by rw [c11]; decide) (by rw [c11]; rfl) (by decide) ?_
    refine x_aload_n C 0 dX10_count_144 rfl ?_
    refine x_getR (j := 3) (i := 23) (q := (RX10, TX10, 18)) C 48 (iX 0 (by decide)) rfl rfl inBX10 (by decide) tw238 rfl dX10_count_145 ?_
    obtain ⟨r21, g22, h0⟩ := ob_bind h0
    refine x_callS (ar := 1) (rest := []) C (c_X10_thoseThere C.2.2.2.2.2.2.1 (iX 48 (by decide)) rfl g22) hy_X10_thoseThere ⟨tw735, tw736, tw63, tw737⟩ (by decide) (by decide) rfl rfl (Nat.le_of_ble_eq_true rfl) dX10_count_148 ?_
    show Wx LX K σ 151 [(0, .ref (kad K 0)), (1, .int a1)] [.int r21]
    cases h0
    exact x_iret C R dX10_count_151
  replace h0 := ob_neg c11 h0
  by_cases c12 : a1 = 11
  · replace h0 := ob_pos c12 h0
    refine x_tableIn C 152 dX10_count_1 (by rw [c12]; decide) (by rw [c12]; decide) (by rw [c12]; rfl) (by decide) ?_
    refine x_aload_n C 0 dX10_count_152 rfl ?_
    obtain ⟨r23, g24, h0⟩ := ob_bind h0
    refine x_callV (ar := 0) (q := (RX10, TX10, 18)) (rest := []) C (c_X10_keptHalls C.2.2.2.2.2.2.1  g24) (iX 0 (by decide)) rfl rfl hy_X10_keptHalls ⟨tw738, tw740, tw32, tw63, tw741⟩ (by decide) (by decide) rfl rfl (Nat.le_of_ble_eq_true rfl) dX10_count_153 ?_
    show Wx LX K σ 156 [(0, .ref (kad K 0)), (1, .int a1)] [.int r23]
    cases h0
    exact x_iret C R dX10_count_156
  replace h0 := ob_neg c12 h0
  refine x_tableOut C 157 dX10_count_1 (sw_out (fun c g1 g2 => by
      have g3 : c = 0 ∨ c = 1 ∨ c = 2 ∨ c = 3 ∨ c = 4 ∨ c = 5 ∨ c = 6 ∨ c = 7 ∨ c = 8 ∨ c = 9 ∨ c = 10 ∨ c = 11 := by omega
      rcases g3 with rfl | rfl | rfl | rfl | rfl | rfl | rfl | rfl | rfl | rfl | rfl | rfl
      · exact c1
      · exact c2
      · exact c3
      · exact c4
      · exact c5
      · exact c6
      · exact c7
      · exact c8
      · exact c9
      · exact c10
      · exact c11
      · exact c12
      )) (by decide) ?_
  refine x_iconst (v := (-1)) C dX10_count_157 rfl ?_
  cases h0
  exact x_iret C R dX10_count_158
set_option maxHeartbeats 4000000 in
set_option maxRecDepth 100000 in
theorem c_X10_finding {l : Launch} {D : va_G} {ad : Nat → Nat} {cy : Nat → ClassId} (hJ : mJ LX ad) {σ : mS}  {r : Int32}  (h0 : X10_finding σ = r) : MetG l LX D ad cy yX10_finding cX10_finding 1 (some .int) 0 [.ref (ad 0)] σ (some (.int r)) σ := by
  refine MetG.of hJ (by decide +kernel) [(0, .ref (ad 0))] rfl (Nat.le_of_ble_eq_true rfl) ?_
  intro K e1 e2 e3 e4 e5 C R
  subst e1
  subst e2
  subst e3
  subst e4
  unfold X10_finding at h0
  refine x_aload_n C 0 dX10_finding_0 rfl ?_
  refine x_getI (j := 16) (i := 304) (q := (RX10, TX10, 18)) C (iX 0 (by decide)) rfl rfl inBX10 (by decide) tw251 rfl dX10_finding_1 ?_
  subst h0
  exact x_iret C R dX10_finding_4
set_option maxHeartbeats 4000000 in
set_option maxRecDepth 100000 in
theorem c_X10_findings {l : Launch} {D : va_G} {ad : Nat → Nat} {cy : Nat → ClassId} (hJ : mJ LX ad) {σ : mS} {a1 : Int32} {r : Int32}  (h0 : X10_findings σ a1 = some r) : MetG l LX D ad cy yX10_findings cX10_findings 2 (some .int) 0 [.ref (ad 0), .int a1] σ (some (.int r)) σ := by
  refine MetG.of hJ (by decide +kernel) [(0, .ref (ad 0)), (1, .int a1)] rfl (Nat.le_of_ble_eq_true rfl) ?_
  intro K e1 e2 e3 e4 e5 C R
  subst e1
  subst e2
  subst e3
  subst e4
  unfold X10_findings at h0
  refine x_iload_n C 1 dX10_findings_0 rfl ?_
  refine x_iconst (v := 1) C dX10_findings_1 rfl ?_
  refine x_icmplt C 10 dX10_findings_2 (by decide) (fun c2 => ?_) (fun c2 => ?_)
  · replace h0 := ob_pos c2 h0
    refine x_iconst (v := (-1)) C dX10_findings_10 rfl ?_
    cases h0
    exact x_iret C R dX10_findings_11
  · replace h0 := ob_neg c2 h0
    refine x_iload_n C 1 dX10_findings_5 rfl ?_
    refine x_iconst (v := 5) C dX10_findings_6 rfl ?_
    refine x_icmple C 12 dX10_findings_7 (by decide) (fun c4 => ?_) (fun c4 => ?_)
    · replace h0 := ob_pos c4 h0
      refine x_aload_n C 0 dX10_findings_12 rfl ?_
      refine x_getR (j := 17) (i := 74) (q := (RX10, TX10, 18)) C 208 (iX 0 (by decide)) rfl rfl inBX10 (by decide) tw252 rfl dX10_findings_13 ?_
      refine x_iload_n C 1 dX10_findings_16 rfl ?_
      obtain ⟨c5, h0⟩ := ob_if h0
      refine x_iald C (iX 208 (by decide)) rfl (vin_in c5) dX10_findings_17 ?_
      cases h0
      exact x_iret C R dX10_findings_18
    · replace h0 := ob_neg c4 h0
      refine x_iconst (v := (-1)) C dX10_findings_10 rfl ?_
      cases h0
      exact x_iret C R dX10_findings_11
set_option maxHeartbeats 4000000 in
set_option maxRecDepth 100000 in
theorem c_X10_digest {l : Launch} {D : va_G} {ad : Nat → Nat} {cy : Nat → ClassId} (hJ : mJ LX ad) {σ : mS}  {r : Int64}  (h0 : X10_digest σ = some r) : MetG l LX D ad cy yX10_digest cX10_digest 5 (some .long) 3 [.ref (ad 0)] σ (some (.long r)) σ := by
  refine MetG.of hJ (by decide +kernel) [(0, .ref (ad 0))] rfl (Nat.le_of_ble_eq_true rfl) ?_
  intro K e1 e2 e3 e4 e5 C R
  subst e1
  subst e2
  subst e3
  subst e4
  unfold X10_digest at h0
  refine x_ldc2 C tw754 dX10_digest_0 ?_
  refine x_lstore_n (lv' := [(1, .long 17), (0, .ref (kad K 0))]) C dX10_digest_3 (by rw [e5]; decide) rfl ?_
  refine x_iconst (v := 0) C dX10_digest_4 rfl ?_
  refine x_istore_n (lv' := [(3, .int 0), (1, .long 17), (0, .ref (kad K 0))]) C dX10_digest_5 (by rw [e5]; decide) rfl ?_
  obtain ⟨e77, g78, h0⟩ := ob_bind h0
  have J1 : ∀ (y3 : Int64), y3 = e77 → Wx LX K σ 31 [(1, .long y3), (0, .ref (kad K 0))] [] := by
    intro y3 e9
    subst e9
    replace h0 := un1_l h0
    refine x_iconst (v := 0) C dX10_digest_31 rfl ?_
    refine x_istore_n (lv' := [(3, .int 0), (1, .long y3), (0, .ref (kad K 0))]) C dX10_digest_32 (by rw [e5]; decide) rfl ?_
    obtain ⟨e71, g72, h0⟩ := ob_bind h0
    have J2 : ∀ (y6 : Int64), y6 = e71 → Wx LX K σ 116 [(1, .long y6), (0, .ref (kad K 0))] [] := by
      intro y6 e9
      subst e9
      replace h0 := un1_l h0
      refine x_iconst (v := 0) C dX10_digest_116 rfl ?_
      refine x_istore_n (lv' := [(3, .int 0), (1, .long y6), (0, .ref (kad K 0))]) C dX10_digest_117 (by rw [e5]; decide) rfl ?_
      obtain ⟨e49, g50, h0⟩ := ob_bind h0
      have J3 : ∀ (y9 : Int64), y9 = e49 → Wx LX K σ 146 [(1, .long y9), (0, .ref (kad K 0))] [] := by
        intro y9 e9
        subst e9
        replace h0 := un1_l h0
        refine x_iconst (v := 0) C dX10_digest_146 rfl ?_
        refine x_istore_n (lv' := [(3, .int 0), (1, .long y9), (0, .ref (kad K 0))]) C dX10_digest_147 (by rw [e5]; decide) rfl ?_
        obtain ⟨e44, g45, h0⟩ := ob_bind h0
        have J4 : ∀ (y12 : Int64), y12 = e44 → Wx LX K σ 211 [(1, .long y12), (0, .ref (kad K 0))] [] := by
          intro y12 e9
          subst e9
          replace h0 := un1_l h0
          refine x_iconst (v := 0) C dX10_digest_211 rfl ?_
          refine x_istore_n (lv' := [(3, .int 0), (1, .long y12), (0, .ref (kad K 0))]) C dX10_digest_212 (by rw [e5]; decide) rfl ?_
          obtain ⟨e29, g30, h0⟩ := ob_bind h0
          have J5 : ∀ (y15 : Int64), y15 = e29 → Wx LX K σ 275 [(1, .long y15)] [] := by
            intro y15 e9
            subst e9
            replace h0 := un1_l h0
            refine x_lload_n C 0 dX10_digest_275 rfl ?_
            cases h0
            exact x_lret C R dX10_digest_276
          refine lp_G (G := fun q : Int64 × Int32 => Wx LX K σ 213 [(3, .int q.2), (1, .long q.1), (0, .ref (kad K 0))] []) (fun q x h5 ihL5 ihR5 => ?_) big _ g30
          obtain ⟨x13, x14⟩ := q
          replace h5 : X10_digest_b213 σ x13 x14 = some x := h5
          unfold X10_digest_b213 at h5
          show Wx LX K σ 213 [(3, .int x14), (1, .long x13), (0, .ref (kad K 0))] []
          refine x_iload_n C 0 dX10_digest_213 rfl ?_
          refine x_iconst (v := 4) C dX10_digest_214 rfl ?_
          refine x_icmpge C 275 dX10_digest_215 (by decide) (fun c17 => ?_) (fun c17 => ?_)
          · replace h5 := ob_pos c17 h5
            refine x_lv (lv' := [(1, .long x13)]) [1] rfl ?_
            exact J5 _ (ihR5 _ (Option.some.inj h5).symm)
          · replace h5 := ob_neg c17 h5
            refine x_ldc2 C tw755 dX10_digest_218 ?_
            refine x_lload_n C 1 dX10_digest_221 rfl ?_
            refine x_lmul C dX10_digest_222 ?_
            refine x_aload_n C 2 dX10_digest_223 rfl ?_
            refine x_getR (j := 3) (i := 23) (q := (RX10, TX10, 18)) C 48 (iX 0 (by decide)) rfl rfl inBX10 (by decide) tw238 rfl dX10_digest_224 ?_
            refine x_iload_n C 0 dX10_digest_227 rfl ?_
            obtain ⟨c18, h5⟩ := ob_if h5
            refine x_iald C (iX 48 (by decide)) rfl (vin_in c18) dX10_digest_228 ?_
            refine x_i2l C dX10_digest_229 ?_
            refine x_ladd C dX10_digest_230 ?_
            refine x_lstore_n (lv' := [(1, .long ((31 * x13) + ((σ.1 48 x14.toNatClampNeg)).toInt64)), (3, .int x14), (0, .ref (kad K 0))]) C dX10_digest_231 (by rw [e5]; decide) rfl ?_
            refine x_iconst (v := 0) C dX10_digest_232 rfl ?_
            refine x_istore (lv' := [(4, .int 0), (1, .long ((31 * x13) + ((σ.1 48 x14.toNatClampNeg)).toInt64)), (3, .int x14), (0, .ref (kad K 0))]) C dX10_digest_233 (by rw [e5]; decide) rfl ?_
            obtain ⟨e27, g28, h5⟩ := ob_bind h5
            have J6 : ∀ (y21 : Int64), y21 = e27 → Wx LX K σ 269 [(1, .long y21), (3, .int x14), (0, .ref (kad K 0))] [] := by
              intro y21 e9
              subst e9
              replace h5 := un1_l h5
              refine x_iinc (v := (x14 + 1)) (lv' := [(3, .int (x14 + 1)), (1, .long y21), (0, .ref (kad K 0))]) C 1 dX10_digest_269 rfl rfl (by rw [e5]; decide) rfl ?_
              refine x_goto C 213 dX10_digest_272 (by decide) ?_
              refine x_lv (lv' := [(3, .int (x14 + 1)), (1, .long y21), (0, .ref (kad K 0))]) [0, 1, 2] rfl ?_
              exact ihL5 _ (Option.some.inj h5).symm
            refine lp_G (G := fun q : Int64 × Int32 => Wx LX K σ 235 [(4, .int q.2), (1, .long q.1), (3, .int x14), (0, .ref (kad K 0))] []) (fun q x h6 ihL6 ihR6 => ?_) big _ g28
            obtain ⟨x19, x20⟩ := q
            replace h6 : X10_digest_b235 σ x14 x19 x20 = some x := h6
            unfold X10_digest_b235 at h6
            show Wx LX K σ 235 [(4, .int x20), (1, .long x19), (3, .int x14), (0, .ref (kad K 0))] []
            refine x_iload C 0 dX10_digest_235 rfl ?_
            refine x_aload_n C 3 dX10_digest_237 rfl ?_
            refine x_getR (j := 3) (i := 23) (q := (RX10, TX10, 18)) C 48 (iX 0 (by decide)) rfl rfl inBX10 (by decide) tw238 rfl dX10_digest_238 ?_
            refine x_iload_n C 2 dX10_digest_241 rfl ?_
            obtain ⟨c22, h6⟩ := ob_if h6
            refine x_iald C (iX 48 (by decide)) rfl (vin_in c22) dX10_digest_242 ?_
            refine x_icmpge C 269 dX10_digest_243 (by decide) (fun c24 => ?_) (fun c24 => ?_)
            · replace h6 := ob_pos c24 h6
              refine x_lv (lv' := [(1, .long x19), (3, .int x14), (0, .ref (kad K 0))]) [1, 2, 3] rfl ?_
              exact J6 _ (ihR6 _ (Option.some.inj h6).symm)
            · replace h6 := ob_neg c24 h6
              refine x_ldc2 C tw755 dX10_digest_246 ?_
              refine x_lload_n C 1 dX10_digest_249 rfl ?_
              refine x_lmul C dX10_digest_250 ?_
              refine x_aload_n C 3 dX10_digest_251 rfl ?_
              refine x_getR (j := 2) (i := 20) (q := (RX10, TX10, 18)) C 32 (iX 0 (by decide)) rfl rfl inBX10 (by decide) tw237 rfl dX10_digest_252 ?_
              refine x_iload_n C 2 dX10_digest_255 rfl ?_
              obtain ⟨c25, h6⟩ := ob_if h6
              refine x_aald C (iX 32 (by decide)) rfl rfl rfl (vin_in c25) dX10_digest_256 ?_
              refine x_iload C 0 dX10_digest_257 rfl ?_
              obtain ⟨c26, h6⟩ := ob_if h6
              refine x_bald C (iX5 (vin_lt c25)) (lX5 (vin_lt c25)) (vin_in c26) dX10_digest_259 ?_
              refine x_i2l C dX10_digest_260 ?_
              refine x_ladd C dX10_digest_261 ?_
              refine x_lstore_n (lv' := [(1, .long ((31 * x19) + ((σ.1 (40 + x14.toNatClampNeg) x20.toNatClampNeg)).toInt64)), (4, .int x20), (3, .int x14), (0, .ref (kad K 0))]) C dX10_digest_262 (by rw [e5]; decide) rfl ?_
              refine x_iinc (v := (x20 + 1)) (lv' := [(4, .int (x20 + 1)), (1, .long ((31 * x19) + ((σ.1 (40 + x14.toNatClampNeg) x20.toNatClampNeg)).toInt64)), (3, .int x14), (0, .ref (kad K 0))]) C 1 dX10_digest_263 rfl rfl (by rw [e5]; decide) rfl ?_
              refine x_goto C 235 dX10_digest_266 (by decide) ?_
              refine x_lv (lv' := [(4, .int (x20 + 1)), (1, .long ((31 * x19) + ((σ.1 (40 + x14.toNatClampNeg) x20.toNatClampNeg)).toInt64)), (3, .int x14), (0, .ref (kad K 0))]) [0, 1, 2, 3] rfl ?_
              exact ihL6 _ (Option.some.inj h6).symm
        refine lp_G (G := fun q : Int64 × Int32 => Wx LX K σ 148 [(3, .int q.2), (1, .long q.1), (0, .ref (kad K 0))] []) (fun q x h4 ihL4 ihR4 => ?_) big _ g45
        obtain ⟨x10, x11⟩ := q
        replace h4 : X10_digest_b148 σ x10 x11 = some x := h4
        unfold X10_digest_b148 at h4
        show Wx LX K σ 148 [(3, .int x11), (1, .long x10), (0, .ref (kad K 0))] []
        refine x_iload_n C 0 dX10_digest_148 rfl ?_
        refine x_bipush (v := 6) C dX10_digest_149 rfl ?_
        refine x_icmpge C 211 dX10_digest_151 (by decide) (fun c32 => ?_) (fun c32 => ?_)
        · replace h4 := ob_pos c32 h4
          refine x_lv (lv' := [(1, .long x10), (0, .ref (kad K 0))]) [1, 2] rfl ?_
          exact J4 _ (ihR4 _ (Option.some.inj h4).symm)
        · replace h4 := ob_neg c32 h4
          refine x_ldc2 C tw755 dX10_digest_154 ?_
          refine x_lload_n C 1 dX10_digest_157 rfl ?_
          refine x_lmul C dX10_digest_158 ?_
          refine x_aload_n C 2 dX10_digest_159 rfl ?_
          refine x_getR (j := 1) (i := 14) (q := (RX10, TX10, 18)) C 24 (iX 0 (by decide)) rfl rfl inBX10 (by decide) tw236 rfl dX10_digest_160 ?_
          refine x_iload_n C 0 dX10_digest_163 rfl ?_
          obtain ⟨c33, h4⟩ := ob_if h4
          refine x_iald C (iX 24 (by decide)) rfl (vin_in c33) dX10_digest_164 ?_
          refine x_i2l C dX10_digest_165 ?_
          refine x_ladd C dX10_digest_166 ?_
          refine x_lstore_n (lv' := [(1, .long ((31 * x10) + ((σ.1 24 x11.toNatClampNeg)).toInt64)), (3, .int x11), (0, .ref (kad K 0))]) C dX10_digest_167 (by rw [e5]; decide) rfl ?_
          refine x_iconst (v := 0) C dX10_digest_168 rfl ?_
          refine x_istore (lv' := [(4, .int 0), (1, .long ((31 * x10) + ((σ.1 24 x11.toNatClampNeg)).toInt64)), (3, .int x11), (0, .ref (kad K 0))]) C dX10_digest_169 (by rw [e5]; decide) rfl ?_
          obtain ⟨e42, g43, h4⟩ := ob_bind h4
          have J7 : ∀ (y36 : Int64), y36 = e42 → Wx LX K σ 205 [(1, .long y36), (3, .int x11), (0, .ref (kad K 0))] [] := by
            intro y36 e9
            subst e9
            replace h4 := un1_l h4
            refine x_iinc (v := (x11 + 1)) (lv' := [(3, .int (x11 + 1)), (1, .long y36), (0, .ref (kad K 0))]) C 1 dX10_digest_205 rfl rfl (by rw [e5]; decide) rfl ?_
            refine x_goto C 148 dX10_digest_208 (by decide) ?_
            refine x_lv (lv' := [(3, .int (x11 + 1)), (1, .long y36), (0, .ref (kad K 0))]) [0, 1, 2] rfl ?_
            exact ihL4 _ (Option.some.inj h4).symm
          refine lp_G (G := fun q : Int64 × Int32 => Wx LX K σ 171 [(4, .int q.2), (1, .long q.1), (3, .int x11), (0, .ref (kad K 0))] []) (fun q x h7 ihL7 ihR7 => ?_) big _ g43
          obtain ⟨x34, x35⟩ := q
          replace h7 : X10_digest_b171 σ x11 x34 x35 = some x := h7
          unfold X10_digest_b171 at h7
          show Wx LX K σ 171 [(4, .int x35), (1, .long x34), (3, .int x11), (0, .ref (kad K 0))] []
          refine x_iload C 0 dX10_digest_171 rfl ?_
          refine x_aload_n C 3 dX10_digest_173 rfl ?_
          refine x_getR (j := 1) (i := 14) (q := (RX10, TX10, 18)) C 24 (iX 0 (by decide)) rfl rfl inBX10 (by decide) tw236 rfl dX10_digest_174 ?_
          refine x_iload_n C 2 dX10_digest_177 rfl ?_
          obtain ⟨c37, h7⟩ := ob_if h7
          refine x_iald C (iX 24 (by decide)) rfl (vin_in c37) dX10_digest_178 ?_
          refine x_icmpge C 205 dX10_digest_179 (by decide) (fun c39 => ?_) (fun c39 => ?_)
          · replace h7 := ob_pos c39 h7
            refine x_lv (lv' := [(1, .long x34), (3, .int x11), (0, .ref (kad K 0))]) [1, 2, 3] rfl ?_
            exact J7 _ (ihR7 _ (Option.some.inj h7).symm)
          · replace h7 := ob_neg c39 h7
            refine x_ldc2 C tw755 dX10_digest_182 ?_
            refine x_lload_n C 1 dX10_digest_185 rfl ?_
            refine x_lmul C dX10_digest_186 ?_
            refine x_aload_n C 3 dX10_digest_187 rfl ?_
            refine x_getR (j := 0) (i := 11) (q := (RX10, TX10, 18)) C 8 (iX 0 (by decide)) rfl rfl inBX10 (by decide) tw235 rfl dX10_digest_188 ?_
            refine x_iload_n C 2 dX10_digest_191 rfl ?_
            obtain ⟨c40, h7⟩ := ob_if h7
            refine x_aald C (iX 8 (by decide)) rfl rfl rfl (vin_in c40) dX10_digest_192 ?_
            refine x_iload C 0 dX10_digest_193 rfl ?_
            obtain ⟨c41, h7⟩ := ob_if h7
            refine x_iald C (iX2 (vin_lt c40)) (lX2 (vin_lt c40)) (vin_in c41) dX10_digest_195 ?_
            refine x_i2l C dX10_digest_196 ?_
            refine x_ladd C dX10_digest_197 ?_
            refine x_lstore_n (lv' := [(1, .long ((31 * x34) + ((σ.1 (16 + x11.toNatClampNeg) x35.toNatClampNeg)).toInt64)), (4, .int x35), (3, .int x11), (0, .ref (kad K 0))]) C dX10_digest_198 (by rw [e5]; decide) rfl ?_
            refine x_iinc (v := (x35 + 1)) (lv' := [(4, .int (x35 + 1)), (1, .long ((31 * x34) + ((σ.1 (16 + x11.toNatClampNeg) x35.toNatClampNeg)).toInt64)), (3, .int x11), (0, .ref (kad K 0))]) C 1 dX10_digest_199 rfl rfl (by rw [e5]; decide) rfl ?_
            refine x_goto C 171 dX10_digest_202 (by decide) ?_
            refine x_lv (lv' := [(4, .int (x35 + 1)), (1, .long ((31 * x34) + ((σ.1 (16 + x11.toNatClampNeg) x35.toNatClampNeg)).toInt64)), (3, .int x11), (0, .ref (kad K 0))]) [0, 1, 2, 3] rfl ?_
            exact ihL7 _ (Option.some.inj h7).symm
      refine lp_G (G := fun q : Int64 × Int32 => Wx LX K σ 118 [(3, .int q.2), (1, .long q.1), (0, .ref (kad K 0))] []) (fun q x h3 ihL3 ihR3 => ?_) big _ g50
      obtain ⟨x7, x8⟩ := q
      replace h3 : X10_digest_b118 σ x7 x8 = some x := h3
      unfold X10_digest_b118 at h3
      show Wx LX K σ 118 [(3, .int x8), (1, .long x7), (0, .ref (kad K 0))] []
      refine x_iload_n C 0 dX10_digest_118 rfl ?_
      refine x_iconst (v := 3) C dX10_digest_119 rfl ?_
      refine x_icmpge C 146 dX10_digest_120 (by decide) (fun c47 => ?_) (fun c47 => ?_)
      · replace h3 := ob_pos c47 h3
        refine x_lv (lv' := [(1, .long x7), (0, .ref (kad K 0))]) [1, 2] rfl ?_
        exact J3 _ (ihR3 _ (Option.some.inj h3).symm)
      · replace h3 := ob_neg c47 h3
        refine x_ldc2 C tw755 dX10_digest_123 ?_
        refine x_lload_n C 1 dX10_digest_126 rfl ?_
        refine x_lmul C dX10_digest_127 ?_
        refine x_aload_n C 2 dX10_digest_128 rfl ?_
        refine x_getR (j := 8) (i := 56) (q := (RX10, TX10, 18)) C 176 (iX 0 (by decide)) rfl rfl inBX10 (by decide) tw243 rfl dX10_digest_129 ?_
        refine x_iload_n C 0 dX10_digest_132 rfl ?_
        obtain ⟨c48, h3⟩ := ob_if h3
        refine x_aald C (iX 176 (by decide)) rfl rfl rfl (vin_in c48) dX10_digest_133 ?_
        refine x_getIN (j := 1) (i := 83) (q := (RX1, TX1, 2)) (host := "CalledNumbers") C (iX20 (Nat.lt_of_lt_of_le (vin_lt c48) (by decide))) (lX20 (Nat.lt_of_lt_of_le (vin_lt c48) (by decide))) rfl inBX1 (by decide) twN223 rfl dX10_digest_134 ?_
        refine x_i2l C dX10_digest_137 ?_
        refine x_ladd C dX10_digest_138 ?_
        refine x_lstore_n (lv' := [(1, .long ((31 * x7) + ((σ.1 (160 + x8.toNatClampNeg) 1)).toInt64)), (3, .int x8), (0, .ref (kad K 0))]) C dX10_digest_139 (by rw [e5]; decide) rfl ?_
        refine x_iinc (v := (x8 + 1)) (lv' := [(3, .int (x8 + 1)), (1, .long ((31 * x7) + ((σ.1 (160 + x8.toNatClampNeg) 1)).toInt64)), (0, .ref (kad K 0))]) C 1 dX10_digest_140 rfl rfl (by rw [e5]; decide) rfl ?_
        refine x_goto C 118 dX10_digest_143 (by decide) ?_
        refine x_lv (lv' := [(3, .int (x8 + 1)), (1, .long ((31 * x7) + ((σ.1 (160 + x8.toNatClampNeg) 1)).toInt64)), (0, .ref (kad K 0))]) [0, 1, 2] rfl ?_
        exact ihL3 _ (Option.some.inj h3).symm
    refine lp_G (G := fun q : Int64 × Int32 => Wx LX K σ 33 [(3, .int q.2), (1, .long q.1), (0, .ref (kad K 0))] []) (fun q x h2 ihL2 ihR2 => ?_) big _ g72
    obtain ⟨x4, x5⟩ := q
    replace h2 : X10_digest_b33 σ x4 x5 = some x := h2
    unfold X10_digest_b33 at h2
    show Wx LX K σ 33 [(3, .int x5), (1, .long x4), (0, .ref (kad K 0))] []
    refine x_iload_n C 0 dX10_digest_33 rfl ?_
    refine x_aload_n C 2 dX10_digest_34 rfl ?_
    refine x_getR (j := 5) (i := 36) (q := (RX10, TX10, 18)) C 88 (iX 0 (by decide)) rfl rfl inBX10 (by decide) tw240 rfl dX10_digest_35 ?_
    refine x_getIN (j := 4) (i := 135) (q := (RX7, TX7, 5)) (host := "CalledNumbers") C (iX 88 (by decide)) rfl rfl inBX7 (by decide) twN173 rfl dX10_digest_38 ?_
    refine x_icmpge C 116 dX10_digest_41 (by decide) (fun c52 => ?_) (fun c52 => ?_)
    · replace h2 := ob_pos c52 h2
      refine x_lv (lv' := [(1, .long x4), (0, .ref (kad K 0))]) [1, 2] rfl ?_
      exact J2 _ (ihR2 _ (Option.some.inj h2).symm)
    · replace h2 := ob_neg c52 h2
      refine x_iconst (v := 0) C dX10_digest_44 rfl ?_
      refine x_istore (lv' := [(4, .int 0), (3, .int x5), (1, .long x4), (0, .ref (kad K 0))]) C dX10_digest_45 (by rw [e5]; decide) rfl ?_
      obtain ⟨e69, g70, h2⟩ := ob_bind h2
      have J8 : ∀ (y55 : Int64), y55 = e69 → Wx LX K σ 74 [(3, .int x5), (1, .long y55), (0, .ref (kad K 0))] [] := by
        intro y55 e9
        subst e9
        replace h2 := un1_l h2
        refine x_iconst (v := 0) C dX10_digest_74 rfl ?_
        refine x_istore (lv' := [(4, .int 0), (3, .int x5), (1, .long y55), (0, .ref (kad K 0))]) C dX10_digest_75 (by rw [e5]; decide) rfl ?_
        obtain ⟨e63, g64, h2⟩ := ob_bind h2
        have J9 : ∀ (y58 : Int64), y58 = e63 → Wx LX K σ 110 [(3, .int x5), (1, .long y58), (0, .ref (kad K 0))] [] := by
          intro y58 e9
          subst e9
          replace h2 := un1_l h2
          refine x_iinc (v := (x5 + 1)) (lv' := [(3, .int (x5 + 1)), (1, .long y58), (0, .ref (kad K 0))]) C 0 dX10_digest_110 rfl rfl (by rw [e5]; decide) rfl ?_
          refine x_goto C 33 dX10_digest_113 (by decide) ?_
          refine x_lv (lv' := [(3, .int (x5 + 1)), (1, .long y58), (0, .ref (kad K 0))]) [0, 1, 2] rfl ?_
          exact ihL2 _ (Option.some.inj h2).symm
        refine lp_G (G := fun q : Int64 × Int32 => Wx LX K σ 77 [(4, .int q.2), (3, .int x5), (1, .long q.1), (0, .ref (kad K 0))] []) (fun q x h9 ihL9 ihR9 => ?_) big _ g64
        obtain ⟨x56, x57⟩ := q
        replace h9 : X10_digest_b77 σ x5 x56 x57 = some x := h9
        unfold X10_digest_b77 at h9
        show Wx LX K σ 77 [(4, .int x57), (3, .int x5), (1, .long x56), (0, .ref (kad K 0))] []
        refine x_iload C 0 dX10_digest_77 rfl ?_
        refine x_bipush (v := 6) C dX10_digest_79 rfl ?_
        refine x_icmpge C 110 dX10_digest_81 (by decide) (fun c60 => ?_) (fun c60 => ?_)
        · replace h9 := ob_pos c60 h9
          refine x_lv (lv' := [(3, .int x5), (1, .long x56), (0, .ref (kad K 0))]) [1, 2, 3] rfl ?_
          exact J9 _ (ihR9 _ (Option.some.inj h9).symm)
        · replace h9 := ob_neg c60 h9
          refine x_ldc2 C tw755 dX10_digest_84 ?_
          refine x_lload_n C 2 dX10_digest_87 rfl ?_
          refine x_lmul C dX10_digest_88 ?_
          refine x_aload_n C 3 dX10_digest_89 rfl ?_
          refine x_getR (j := 5) (i := 36) (q := (RX10, TX10, 18)) C 88 (iX 0 (by decide)) rfl rfl inBX10 (by decide) tw240 rfl dX10_digest_90 ?_
          refine x_getRN (j := 2) (i := 147) (q := (RX7, TX7, 5)) (host := "CalledNumbers") C 120 (iX 88 (by decide)) rfl rfl inBX7 (by decide) twN168 rfl dX10_digest_93 ?_
          refine x_iload_n C 1 dX10_digest_96 rfl ?_
          obtain ⟨c61, h9⟩ := ob_if h9
          refine x_aald C (iX 120 (by decide)) rfl rfl rfl (vin_in c61) dX10_digest_97 ?_
          refine x_iload C 0 dX10_digest_98 rfl ?_
          obtain ⟨c62, h9⟩ := ob_if h9
          refine x_iald C (iX16 (vin_lt c61)) (lX16 (vin_lt c61)) (vin_in c62) dX10_digest_100 ?_
          refine x_i2l C dX10_digest_101 ?_
          refine x_ladd C dX10_digest_102 ?_
          refine x_lstore_n (lv' := [(1, .long ((31 * x56) + ((σ.1 (128 + x5.toNatClampNeg) x57.toNatClampNeg)).toInt64)), (4, .int x57), (3, .int x5), (0, .ref (kad K 0))]) C dX10_digest_103 (by rw [e5]; decide) rfl ?_
          refine x_iinc (v := (x57 + 1)) (lv' := [(4, .int (x57 + 1)), (1, .long ((31 * x56) + ((σ.1 (128 + x5.toNatClampNeg) x57.toNatClampNeg)).toInt64)), (3, .int x5), (0, .ref (kad K 0))]) C 1 dX10_digest_104 rfl rfl (by rw [e5]; decide) rfl ?_
          refine x_goto C 77 dX10_digest_107 (by decide) ?_
          refine x_lv (lv' := [(4, .int (x57 + 1)), (3, .int x5), (1, .long ((31 * x56) + ((σ.1 (128 + x5.toNatClampNeg) x57.toNatClampNeg)).toInt64)), (0, .ref (kad K 0))]) [0, 2, 1, 3] rfl ?_
          exact ihL9 _ (Option.some.inj h9).symm
      refine lp_G (G := fun q : Int64 × Int32 => Wx LX K σ 47 [(4, .int q.2), (3, .int x5), (1, .long q.1), (0, .ref (kad K 0))] []) (fun q x h8 ihL8 ihR8 => ?_) big _ g70
      obtain ⟨x53, x54⟩ := q
      replace h8 : X10_digest_b47 σ x5 x53 x54 = some x := h8
      unfold X10_digest_b47 at h8
      show Wx LX K σ 47 [(4, .int x54), (3, .int x5), (1, .long x53), (0, .ref (kad K 0))] []
      refine x_iload C 0 dX10_digest_47 rfl ?_
      refine x_iconst (v := 4) C dX10_digest_49 rfl ?_
      refine x_icmpgt C 74 dX10_digest_50 (by decide) (fun c66 => ?_) (fun c66 => ?_)
      · replace h8 := ob_pos c66 h8
        refine x_lv (lv' := [(3, .int x5), (1, .long x53), (0, .ref (kad K 0))]) [1, 2, 3] rfl ?_
        exact J8 _ (ihR8 _ (Option.some.inj h8).symm)
      · replace h8 := ob_neg c66 h8
        refine x_ldc2 C tw755 dX10_digest_53 ?_
        refine x_lload_n C 2 dX10_digest_56 rfl ?_
        refine x_lmul C dX10_digest_57 ?_
        refine x_aload_n C 3 dX10_digest_58 rfl ?_
        refine x_iload_n C 1 dX10_digest_59 rfl ?_
        refine x_iload C 0 dX10_digest_60 rfl ?_
        obtain ⟨r67, g68, h8⟩ := ob_bind h8
        refine x_callV (ar := 2) (q := (RX10, TX10, 18)) (rest := [.long (31 * x53)]) C (c_X10_ofPlayer C.2.2.2.2.2.2.1  g68) (iX 0 (by decide)) rfl rfl hy_X10_ofPlayer ⟨tw394, tw396, tw9, tw63, tw397⟩ (by decide) (by decide) rfl rfl (Nat.le_of_ble_eq_true rfl) dX10_digest_62 ?_
        show Wx LX K σ 65 [(4, .int x54), (3, .int x5), (1, .long x53), (0, .ref (kad K 0))] [.int r67, .long (31 * x53)]
        refine x_i2l C dX10_digest_65 ?_
        refine x_ladd C dX10_digest_66 ?_
        refine x_lstore_n (lv' := [(1, .long ((31 * x53) + (r67).toInt64)), (4, .int x54), (3, .int x5), (0, .ref (kad K 0))]) C dX10_digest_67 (by rw [e5]; decide) rfl ?_
        refine x_iinc (v := (x54 + 1)) (lv' := [(4, .int (x54 + 1)), (1, .long ((31 * x53) + (r67).toInt64)), (3, .int x5), (0, .ref (kad K 0))]) C 1 dX10_digest_68 rfl rfl (by rw [e5]; decide) rfl ?_
        refine x_goto C 47 dX10_digest_71 (by decide) ?_
        refine x_lv (lv' := [(4, .int (x54 + 1)), (3, .int x5), (1, .long ((31 * x53) + (r67).toInt64)), (0, .ref (kad K 0))]) [0, 2, 1, 3] rfl ?_
        exact ihL8 _ (Option.some.inj h8).symm
  refine lp_G (G := fun q : Int64 × Int32 => Wx LX K σ 6 [(3, .int q.2), (1, .long q.1), (0, .ref (kad K 0))] []) (fun q x h1 ihL1 ihR1 => ?_) big _ g78
  obtain ⟨x1, x2⟩ := q
  replace h1 : X10_digest_b6 σ x1 x2 = some x := h1
  unfold X10_digest_b6 at h1
  show Wx LX K σ 6 [(3, .int x2), (1, .long x1), (0, .ref (kad K 0))] []
  refine x_iload_n C 0 dX10_digest_6 rfl ?_
  refine x_bipush (v := 11) C dX10_digest_7 rfl ?_
  refine x_icmpgt C 31 dX10_digest_9 (by decide) (fun c74 => ?_) (fun c74 => ?_)
  · replace h1 := ob_pos c74 h1
    refine x_lv (lv' := [(1, .long x1), (0, .ref (kad K 0))]) [1, 2] rfl ?_
    exact J1 _ (ihR1 _ (Option.some.inj h1).symm)
  · replace h1 := ob_neg c74 h1
    refine x_ldc2 C tw755 dX10_digest_12 ?_
    refine x_lload_n C 1 dX10_digest_15 rfl ?_
    refine x_lmul C dX10_digest_16 ?_
    refine x_aload_n C 2 dX10_digest_17 rfl ?_
    refine x_iload_n C 0 dX10_digest_18 rfl ?_
    obtain ⟨r75, g76, h1⟩ := ob_bind h1
    refine x_callV (ar := 1) (q := (RX10, TX10, 18)) (rest := [.long (31 * x1)]) C (c_X10_count C.2.2.2.2.2.2.1  g76) (iX 0 (by decide)) rfl rfl hy_X10_count ⟨tw756, tw719, tw720, tw63, tw721⟩ (by decide) (by decide) rfl rfl (Nat.le_of_ble_eq_true rfl) dX10_digest_19 ?_
    show Wx LX K σ 22 [(3, .int x2), (1, .long x1), (0, .ref (kad K 0))] [.int r75, .long (31 * x1)]
    refine x_i2l C dX10_digest_22 ?_
    refine x_ladd C dX10_digest_23 ?_
    refine x_lstore_n (lv' := [(1, .long ((31 * x1) + (r75).toInt64)), (3, .int x2), (0, .ref (kad K 0))]) C dX10_digest_24 (by rw [e5]; decide) rfl ?_
    refine x_iinc (v := (x2 + 1)) (lv' := [(3, .int (x2 + 1)), (1, .long ((31 * x1) + (r75).toInt64)), (0, .ref (kad K 0))]) C 1 dX10_digest_25 rfl rfl (by rw [e5]; decide) rfl ?_
    refine x_goto C 6 dX10_digest_28 (by decide) ?_
    refine x_lv (lv' := [(3, .int (x2 + 1)), (1, .long ((31 * x1) + (r75).toInt64)), (0, .ref (kad K 0))]) [0, 1, 2] rfl ?_
    exact ihL1 _ (Option.some.inj h1).symm
set_option maxHeartbeats 4000000 in
set_option maxRecDepth 100000 in
theorem c_X11_in {l : Launch} {D : va_G} {ad : Nat → Nat} {cy : Nat → ClassId} (hJ : mJ LM ad) {σ : mS} {a1 : Int64} {a2 : Int64} {a3 : Int64} {r : Int32}  (h0 : X11_in a1 a2 a3 = r) : MetG l LM D ad cy yX11_in cX11_in 6 (some .boolean) 0 [.long a1, .long a2, .long a3] σ (some (.int r)) σ := by
  refine MetG.of hJ (by decide +kernel) [(0, .long a1), (2, .long a2), (4, .long a3)] rfl (Nat.le_of_ble_eq_true rfl) ?_
  intro K e1 e2 e3 e4 e5 C R
  subst e1
  subst e2
  subst e3
  subst e4
  unfold X11_in at h0
  refine x_lload_n C 0 dX11_in_0 rfl ?_
  refine x_lload_n C 1 dX11_in_1 rfl ?_
  refine x_lcmplt C 17 dX11_in_2 dX11_in_3 (by decide) (fun c2 => ?_) (fun c2 => ?_)
  · replace h0 := ob_pos c2 h0
    refine x_iconst (v := 0) C dX11_in_17 rfl ?_
    subst h0
    exact x_zret C (Or.inl rfl) R dX11_in_18
  · replace h0 := ob_neg c2 h0
    refine x_lload_n C 0 dX11_in_6 rfl ?_
    refine x_lload C 2 dX11_in_7 rfl ?_
    refine x_lcmpgt C 17 dX11_in_9 dX11_in_10 (by decide) (fun c4 => ?_) (fun c4 => ?_)
    · replace h0 := ob_pos c4 h0
      refine x_iconst (v := 0) C dX11_in_17 rfl ?_
      subst h0
      exact x_zret C (Or.inl rfl) R dX11_in_18
    · replace h0 := ob_neg c4 h0
      refine x_iconst (v := 1) C dX11_in_13 rfl ?_
      refine x_goto C 18 dX11_in_14 (by decide) ?_
      subst h0
      exact x_zret C (Or.inr rfl) R dX11_in_18
set_option maxHeartbeats 4000000 in
set_option maxRecDepth 100000 in
theorem c_X11_has {l : Launch} {D : va_G} {ad : Nat → Nat} {cy : Nat → ClassId} (hJ : mJ LM ad) {σ : mS} {a1 : Int32} {a2 : Int32} {r : Int32}  (h0 : X11_has a1 a2 = r) : MetG l LM D ad cy yX11_has cX11_has 2 (some .boolean) 0 [.int a1, .int a2] σ (some (.int r)) σ := by
  refine MetG.of hJ (by decide +kernel) [(0, .int a1), (1, .int a2)] rfl (Nat.le_of_ble_eq_true rfl) ?_
  intro K e1 e2 e3 e4 e5 C R
  subst e1
  subst e2
  subst e3
  subst e4
  unfold X11_has at h0
  refine x_iload_n C 0 dX11_has_0 rfl ?_
  refine x_iload_n C 1 dX11_has_1 rfl ?_
  refine x_ishr C dX11_has_2 ?_
  refine x_iconst (v := 1) C dX11_has_3 rfl ?_
  refine x_iand C dX11_has_4 ?_
  refine x_iconst (v := 1) C dX11_has_5 rfl ?_
  refine x_icmpne C 13 dX11_has_6 (by decide) (fun c2 => ?_) (fun c2 => ?_)
  · replace h0 := ob_neg c2 h0
    refine x_iconst (v := 0) C dX11_has_13 rfl ?_
    subst h0
    exact x_zret C (Or.inl rfl) R dX11_has_14
  · replace h0 := ob_pos c2 h0
    refine x_iconst (v := 1) C dX11_has_9 rfl ?_
    refine x_goto C 14 dX11_has_10 (by decide) ?_
    subst h0
    exact x_zret C (Or.inr rfl) R dX11_has_14
set_option maxHeartbeats 4000000 in
set_option maxRecDepth 100000 in
theorem c_X11_bits {l : Launch} {D : va_G} {ad : Nat → Nat} {cy : Nat → ClassId} (hJ : mJ LM ad) {σ : mS} {a1 : Int32} {r : Int32}  (h0 : X11_bits a1 = some r) : MetG l LM D ad cy yX11_bits cX11_bits 3 (some .int) 0 [.int a1] σ (some (.int r)) σ := by
  refine MetG.of hJ (by decide +kernel) [(0, .int a1)] rfl (Nat.le_of_ble_eq_true rfl) ?_
  intro K e1 e2 e3 e4 e5 C R
  subst e1
  subst e2
  subst e3
  subst e4
  unfold X11_bits at h0
  refine x_iconst (v := 0) C dX11_bits_0 rfl ?_
  refine x_istore_n (lv' := [(1, .int 0), (0, .int a1)]) C dX11_bits_1 (by rw [e5]; decide) rfl ?_
  refine x_iconst (v := 0) C dX11_bits_2 rfl ?_
  refine x_istore_n (lv' := [(2, .int 0), (1, .int 0), (0, .int a1)]) C dX11_bits_3 (by rw [e5]; decide) rfl ?_
  obtain ⟨e6, g7, h0⟩ := ob_bind h0
  have J1 : ∀ (y3 : Int32), y3 = e6 → Wx LM K σ 24 [(1, .int y3)] [] := by
    intro y3 e9
    subst e9
    replace h0 := un1_l h0
    refine x_iload_n C 0 dX11_bits_24 rfl ?_
    cases h0
    exact x_iret C R dX11_bits_25
  refine lp_G (G := fun q : Int32 × Int32 => Wx LM K σ 4 [(2, .int q.2), (1, .int q.1), (0, .int a1)] []) (fun q x h1 ihL1 ihR1 => ?_) big _ g7
  obtain ⟨x1, x2⟩ := q
  replace h1 : X11_bits_b4 a1 x1 x2 = some x := h1
  unfold X11_bits_b4 at h1
  show Wx LM K σ 4 [(2, .int x2), (1, .int x1), (0, .int a1)] []
  refine x_iload_n C 0 dX11_bits_4 rfl ?_
  refine x_bipush (v := 14) C dX11_bits_5 rfl ?_
  refine x_icmpge C 24 dX11_bits_7 (by decide) (fun c5 => ?_) (fun c5 => ?_)
  · replace h1 := ob_pos c5 h1
    refine x_lv (lv' := [(1, .int x1)]) [1] rfl ?_
    exact J1 _ (ihR1 _ (Option.some.inj h1).symm)
  · replace h1 := ob_neg c5 h1
    refine x_iload_n C 1 dX11_bits_10 rfl ?_
    refine x_iload_n C 2 dX11_bits_11 rfl ?_
    refine x_iload_n C 0 dX11_bits_12 rfl ?_
    refine x_ishr C dX11_bits_13 ?_
    refine x_iconst (v := 1) C dX11_bits_14 rfl ?_
    refine x_iand C dX11_bits_15 ?_
    refine x_iadd C dX11_bits_16 ?_
    refine x_istore_n (lv' := [(1, .int (x1 + ((a1 >>> (x2 &&& 31)) &&& 1))), (2, .int x2), (0, .int a1)]) C dX11_bits_17 (by rw [e5]; decide) rfl ?_
    refine x_iinc (v := (x2 + 1)) (lv' := [(2, .int (x2 + 1)), (1, .int (x1 + ((a1 >>> (x2 &&& 31)) &&& 1))), (0, .int a1)]) C 1 dX11_bits_18 rfl rfl (by rw [e5]; decide) rfl ?_
    refine x_goto C 4 dX11_bits_21 (by decide) ?_
    refine x_lv (lv' := [(2, .int (x2 + 1)), (1, .int (x1 + ((a1 >>> (x2 &&& 31)) &&& 1))), (0, .int a1)]) [0, 1, 2] rfl ?_
    exact ihL1 _ (Option.some.inj h1).symm
set_option maxHeartbeats 4000000 in
set_option maxRecDepth 100000 in
theorem c_X11_lesser {l : Launch} {D : va_G} {ad : Nat → Nat} {cy : Nat → ClassId} (hJ : mJ LM ad) {σ : mS} {a1 : Int32} {a2 : Int32} {r : Int32}  (h0 : X11_lesser a1 a2 = r) : MetG l LM D ad cy yX11_lesser cX11_lesser 2 (some .int) 0 [.int a1, .int a2] σ (some (.int r)) σ := by
  refine MetG.of hJ (by decide +kernel) [(0, .int a1), (1, .int a2)] rfl (Nat.le_of_ble_eq_true rfl) ?_
  intro K e1 e2 e3 e4 e5 C R
  subst e1
  subst e2
  subst e3
  subst e4
  unfold X11_lesser at h0
  refine x_iload_n C 0 dX11_lesser_0 rfl ?_
  refine x_iload_n C 1 dX11_lesser_1 rfl ?_
  refine x_icmpge C 9 dX11_lesser_2 (by decide) (fun c2 => ?_) (fun c2 => ?_)
  · replace h0 := ob_pos c2 h0
    refine x_iload_n C 1 dX11_lesser_9 rfl ?_
    subst h0
    exact x_iret C R dX11_lesser_10
  · replace h0 := ob_neg c2 h0
    refine x_iload_n C 0 dX11_lesser_5 rfl ?_
    refine x_goto C 10 dX11_lesser_6 (by decide) ?_
    subst h0
    exact x_iret C R dX11_lesser_10
set_option maxHeartbeats 4000000 in
set_option maxRecDepth 100000 in
theorem c_X11_larger {l : Launch} {D : va_G} {ad : Nat → Nat} {cy : Nat → ClassId} (hJ : mJ LM ad) {σ : mS} {a1 : Int32} {a2 : Int32} {r : Int32}  (h0 : X11_larger a1 a2 = r) : MetG l LM D ad cy yX11_larger cX11_larger 2 (some .int) 0 [.int a1, .int a2] σ (some (.int r)) σ := by
  refine MetG.of hJ (by decide +kernel) [(0, .int a1), (1, .int a2)] rfl (Nat.le_of_ble_eq_true rfl) ?_
  intro K e1 e2 e3 e4 e5 C R
  subst e1
  subst e2
  subst e3
  subst e4
  unfold X11_larger at h0
  refine x_iload_n C 0 dX11_larger_0 rfl ?_
  refine x_iload_n C 1 dX11_larger_1 rfl ?_
  refine x_icmpge C 9 dX11_larger_2 (by decide) (fun c2 => ?_) (fun c2 => ?_)
  · replace h0 := ob_pos c2 h0
    refine x_iload_n C 0 dX11_larger_9 rfl ?_
    subst h0
    exact x_iret C R dX11_larger_10
  · replace h0 := ob_neg c2 h0
    refine x_iload_n C 1 dX11_larger_5 rfl ?_
    refine x_goto C 10 dX11_larger_6 (by decide) ?_
    subst h0
    exact x_iret C R dX11_larger_10
set_option maxHeartbeats 4000000 in
set_option maxRecDepth 100000 in
theorem c_X11_finds {l : Launch} {D : va_G} {ad : Nat → Nat} {cy : Nat → ClassId} (hJ : mJ LM ad) {σ τ : mS} {a1 : Int32} {r : Int32}  (h0 : X11_finds σ a1 = some (r, τ)) : MetG l LM D ad cy yX11_finds cX11_finds 2 (some .int) 0 [.ref (ad 0), .int a1] σ (some (.int r)) τ := by
  refine MetG.of hJ (by decide +kernel) [(0, .ref (ad 0)), (1, .int a1)] rfl (Nat.le_of_ble_eq_true rfl) ?_
  intro K e1 e2 e3 e4 e5 C R
  subst e1
  subst e2
  subst e3
  subst e4
  unfold X11_finds at h0
  refine x_aload_n C 0 dX11_finds_0 rfl ?_
  refine x_iload_n C 1 dX11_finds_1 rfl ?_
  refine x_putI (j := 17) (i := 60) (q := (RX11, TX11, 22)) C tyX11 tyX11_ok nmX11 (iM 0 (by decide)) rfl rfl inBX11 (by decide) tw780 rfl (by decide +kernel) rfl dX11_finds_2 ?_
  refine x_aload_n C 0 dX11_finds_5 rfl ?_
  refine x_getR (j := 18) (i := 48) (q := (RX11, TX11, 22)) C 12 (iM 0 (by decide)) rfl rfl inBX11 (by decide) tw781 rfl dX11_finds_6 ?_
  refine x_iload_n C 1 dX11_finds_9 rfl ?_
  refine x_dup2 C dX11_finds_10 rfl rfl ?_
  obtain ⟨c1, h0⟩ := ob_if h0
  refine x_iald C (iM 12 (by decide)) rfl (vin_in c1) dX11_finds_11 ?_
  refine x_iconst (v := 1) C dX11_finds_12 rfl ?_
  refine x_iadd C dX11_finds_13 ?_
  obtain ⟨c2, h0⟩ := ob_if h0
  refine x_iast C (iM 12 (by decide)) rfl (vin_in c2) dX11_finds_14 ?_
  refine x_bipush (v := (-3)) C dX11_finds_15 rfl ?_
  cases h0
  exact x_iret C R dX11_finds_17
set_option maxHeartbeats 4000000 in
set_option maxRecDepth 100000 in
theorem c_X11_tells {l : Launch} {D : va_G} {ad : Nat → Nat} {cy : Nat → ClassId} (hJ : mJ LM ad) {σ τ : mS} {a1 : Int32} {r : Int32}  (h0 : X11_tells σ a1 = some (r, τ)) : MetG l LM D ad cy yX11_tells cX11_tells 2 (some .int) 0 [.ref (ad 0), .int a1] σ (some (.int r)) τ := by
  refine MetG.of hJ (by decide +kernel) [(0, .ref (ad 0)), (1, .int a1)] rfl (Nat.le_of_ble_eq_true rfl) ?_
  intro K e1 e2 e3 e4 e5 C R
  subst e1
  subst e2
  subst e3
  subst e4
  unfold X11_tells at h0
  refine x_aload_n C 0 dX11_tells_0 rfl ?_
  refine x_iload_n C 1 dX11_tells_1 rfl ?_
  refine x_putI (j := 14) (i := 64) (q := (RX11, TX11, 22)) C tyX11 tyX11_ok nmX11 (iM 0 (by decide)) rfl rfl inBX11 (by decide) tw777 rfl (by decide +kernel) rfl dX11_tells_2 ?_
  refine x_iconst (v := 1) C dX11_tells_5 rfl ?_
  cases h0
  exact x_iret C R dX11_tells_6
set_option maxHeartbeats 4000000 in
set_option maxRecDepth 100000 in
theorem c_X11_isRow {l : Launch} {D : va_G} {ad : Nat → Nat} {cy : Nat → ClassId} (hJ : mJ LM ad) {σ : mS} {a1 : Int32} {r : Int32}  (h0 : X11_isRow a1 = r) : MetG l LM D ad cy yX11_isRow cX11_isRow 2 (some .boolean) 1 [.ref (ad 0), .int a1] σ (some (.int r)) σ := by
  refine MetG.of hJ (by decide +kernel) [(0, .ref (ad 0)), (1, .int a1)] rfl (Nat.le_of_ble_eq_true rfl) ?_
  intro K e1 e2 e3 e4 e5 C R
  subst e1
  subst e2
  subst e3
  subst e4
  unfold X11_isRow at h0
  refine x_iload_n C 1 dX11_isRow_0 rfl ?_
  refine x_i2l C dX11_isRow_1 ?_
  refine x_lconst (v := 0) C dX11_isRow_2 rfl ?_
  refine x_ldc2 C tw838 dX11_isRow_3 ?_
  refine x_callS (ar := 3) (rest := []) C (c_X11_in C.2.2.2.2.2.2.1  rfl) hy_X11_in ⟨tw839, tw840, tw75, tw841⟩ (by decide) (by decide) rfl rfl (Nat.le_of_ble_eq_true rfl) dX11_isRow_6 ?_
  show Wx LM K σ 9 [(0, .ref (kad K 0)), (1, .int a1)] [.int (X11_in ((a1).toInt64) (0) (5))]
  subst h0
  exact x_zret C (zb_X11_in ..) R dX11_isRow_9
set_option maxHeartbeats 4000000 in
set_option maxRecDepth 100000 in
theorem c_X11_isText {l : Launch} {D : va_G} {ad : Nat → Nat} {cy : Nat → ClassId} (hJ : mJ LM ad) {σ : mS} {a1 : Int32} {r : Int32}  (h0 : X11_isText a1 = r) : MetG l LM D ad cy yX11_isText cX11_isText 2 (some .boolean) 1 [.ref (ad 0), .int a1] σ (some (.int r)) σ := by
  refine MetG.of hJ (by decide +kernel) [(0, .ref (ad 0)), (1, .int a1)] rfl (Nat.le_of_ble_eq_true rfl) ?_
  intro K e1 e2 e3 e4 e5 C R
  subst e1
  subst e2
  subst e3
  subst e4
  unfold X11_isText at h0
  refine x_iload_n C 1 dX11_isText_0 rfl ?_
  refine x_i2l C dX11_isText_1 ?_
  refine x_lconst (v := 0) C dX11_isText_2 rfl ?_
  refine x_ldc2 C tw882 dX11_isText_3 ?_
  refine x_callS (ar := 3) (rest := []) C (c_X11_in C.2.2.2.2.2.2.1  rfl) hy_X11_in ⟨tw839, tw840, tw75, tw841⟩ (by decide) (by decide) rfl rfl (Nat.le_of_ble_eq_true rfl) dX11_isText_6 ?_
  show Wx LM K σ 9 [(0, .ref (kad K 0)), (1, .int a1)] [.int (X11_in ((a1).toInt64) (0) (3))]
  subst h0
  exact x_zret C (zb_X11_in ..) R dX11_isText_9
set_option maxHeartbeats 4000000 in
set_option maxRecDepth 100000 in
theorem c_X11_anew {l : Launch} {D : va_G} {ad : Nat → Nat} {cy : Nat → ClassId} (hJ : mJ LM ad) {σ τ : mS} {a1 : Int32} {a2 : Int32} {r : Unit}  (h0 : X11_anew σ a1 a2 = some (r, τ)) : MetG l LM D ad cy yX11_anew cX11_anew 4 none 0 [.ref (ad 0), .int a1, .int a2] σ (none) τ := by
  refine MetG.of hJ (by decide +kernel) [(0, .ref (ad 0)), (1, .int a1), (2, .int a2)] rfl (Nat.le_of_ble_eq_true rfl) ?_
  intro K e1 e2 e3 e4 e5 C R
  subst e1
  subst e2
  subst e3
  subst e4
  unfold X11_anew at h0
  refine x_aload_n C 0 dX11_anew_0 rfl ?_
  refine x_getR (j := 0) (i := 7) (q := (RX11, TX11, 22)) C 1 (iM 0 (by decide)) rfl rfl inBX11 (by decide) tw763 rfl dX11_anew_1 ?_
  refine x_iload_n C 1 dX11_anew_4 rfl ?_
  refine x_iload_n C 2 dX11_anew_5 rfl ?_
  obtain ⟨c1, h0⟩ := ob_if h0
  refine x_iast C (iM 1 (by decide)) rfl (vin_in c1) dX11_anew_6 ?_
  refine x_iconst (v := 0) C dX11_anew_7 rfl ?_
  refine x_istore_n (lv' := [(3, .int 0), (0, .ref (kad K 0)), (1, .int a1), (2, .int a2)]) C dX11_anew_8 (by rw [e5]; decide) rfl ?_
  obtain ⟨e8, g9, h0⟩ := ob_bind h0
  have J1 : ∀ (s4 : mS), s4 = e8 → Wx LM K s4 32 [] [] := by
    intro s4 e9
    subst e9
    replace h0 := un1_l h0
    cases h0
    exact x_vret C R dX11_anew_32
  refine lp_G (G := fun q : mS × Int32 => Wx LM K q.1 9 [(3, .int q.2), (0, .ref (kad K 0)), (1, .int a1), (2, .int a2)] []) (fun q x h1 ihL1 ihR1 => ?_) big _ g9
  obtain ⟨s2, x3⟩ := q
  replace h1 : X11_anew_b9 a1 a2 s2 x3 = some x := h1
  unfold X11_anew_b9 at h1
  show Wx LM K s2 9 [(3, .int x3), (0, .ref (kad K 0)), (1, .int a1), (2, .int a2)] []
  refine x_iload_n C 0 dX11_anew_9 rfl ?_
  refine x_iload_n C 3 dX11_anew_10 rfl ?_
  refine x_icmpge C 32 dX11_anew_11 (by decide) (fun c6 => ?_) (fun c6 => ?_)
  · replace h1 := ob_pos c6 h1
    refine x_lv (lv' := []) [] rfl ?_
    exact J1 _ (ihR1 _ (Option.some.inj h1).symm)
  · replace h1 := ob_neg c6 h1
    refine x_aload_n C 1 dX11_anew_14 rfl ?_
    refine x_getR (j := 1) (i := 13) (q := (RX11, TX11, 22)) C 2 (iM 0 (by decide)) rfl rfl inBX11 (by decide) tw764 rfl dX11_anew_15 ?_
    refine x_bipush (v := 40) C dX11_anew_18 rfl ?_
    refine x_iload_n C 2 dX11_anew_20 rfl ?_
    refine x_imul C dX11_anew_21 ?_
    refine x_iload_n C 0 dX11_anew_22 rfl ?_
    refine x_iadd C dX11_anew_23 ?_
    refine x_iconst (v := 0) C dX11_anew_24 rfl ?_
    obtain ⟨c7, h1⟩ := ob_if h1
    refine x_iast C (iM 2 (by decide)) rfl (vin_in c7) dX11_anew_25 ?_
    refine x_iinc (v := (x3 + 1)) (lv' := [(3, .int (x3 + 1)), (0, .ref (kad K 0)), (1, .int a1), (2, .int a2)]) C 0 dX11_anew_26 rfl rfl (by rw [e5]; decide) rfl ?_
    refine x_goto C 9 dX11_anew_29 (by decide) ?_
    refine x_lv (lv' := [(3, .int (x3 + 1)), (0, .ref (kad K 0)), (1, .int a1), (2, .int a2)]) [0, 1, 2, 3] rfl ?_
    exact ihL1 _ (Option.some.inj h1).symm
set_option maxHeartbeats 4000000 in
set_option maxRecDepth 100000 in
theorem c_X11_row {l : Launch} {D : va_G} {ad : Nat → Nat} {cy : Nat → ClassId} (hJ : mJ LM ad) {σ τ : mS} {a1 : Int32} {a2 : Int32} {r : Int32}  (h0 : X11_row σ a1 a2 = some (r, τ)) : MetG l LM D ad cy yX11_row cX11_row 3 (some .int) 2 [.ref (ad 0), .int a1, .int a2] σ (some (.int r)) τ := by
  refine MetG.of hJ (by decide +kernel) [(0, .ref (ad 0)), (1, .int a1), (2, .int a2)] rfl (Nat.le_of_ble_eq_true rfl) ?_
  intro K e1 e2 e3 e4 e5 C R
  subst e1
  subst e2
  subst e3
  subst e4
  unfold X11_row at h0
  refine x_aload_n C 0 dX11_row_0 rfl ?_
  refine x_iload_n C 1 dX11_row_1 rfl ?_
  refine x_callV (ar := 1) (q := (RX11, TX11, 22)) (rest := []) C (c_X11_isRow C.2.2.2.2.2.2.1  rfl) (iM 0 (by decide)) rfl rfl hy_X11_isRow ⟨tw834, tw836, tw33, tw75, tw837⟩ (by decide) (by decide) rfl rfl (Nat.le_of_ble_eq_true rfl) dX11_row_2 ?_
  show Wx LM K σ 5 [(0, .ref (kad K 0)), (1, .int a1), (2, .int a2)] [.int (X11_isRow a1)]
  refine x_ifeq C 14 dX11_row_5 (by decide) (fun c3 => ?_) (fun c3 => ?_)
  · replace h0 := ob_pos c3 h0
    refine x_iconst (v := (-1)) C dX11_row_14 rfl ?_
    cases h0
    exact x_iret C R dX11_row_15
  · replace h0 := ob_neg c3 h0
    refine x_iload_n C 2 dX11_row_8 rfl ?_
    refine x_bipush (v := 40) C dX11_row_9 rfl ?_
    refine x_icmple C 16 dX11_row_11 (by decide) (fun c5 => ?_) (fun c5 => ?_)
    · replace h0 := ob_pos c5 h0
      refine x_iload_n C 2 dX11_row_16 rfl ?_
      refine x_ifge C 26 dX11_row_17 (by decide) (fun c7 => ?_) (fun c7 => ?_)
      · replace h0 := ob_pos c7 h0
        refine x_aload_n C 0 dX11_row_26 rfl ?_
        refine x_iload_n C 1 dX11_row_27 rfl ?_
        refine x_iload_n C 2 dX11_row_28 rfl ?_
        obtain ⟨r8, s10, g9, h0⟩ := ob_bd h0
        refine x_callV (ar := 2) (q := (RX11, TX11, 22)) (rest := []) C (c_X11_anew C.2.2.2.2.2.2.1  g9) (iM 0 (by decide)) rfl rfl hy_X11_anew ⟨tw846, tw848, tw35, tw75, tw849⟩ (by decide) (by decide) rfl rfl (Nat.le_of_ble_eq_true rfl) dX11_row_29 ?_
        show Wx LM K s10 32 [(0, .ref (kad K 0)), (1, .int a1), (2, .int a2)] []
        refine x_iload_n C 2 dX11_row_32 rfl ?_
        cases h0
        exact x_iret C R dX11_row_33
      · replace h0 := ob_neg c7 h0
        refine x_aload_n C 0 dX11_row_20 rfl ?_
        refine x_iconst (v := 5) C dX11_row_21 rfl ?_
        obtain ⟨r11, s13, g12, h0⟩ := ob_bd h0
        refine x_callV (ar := 1) (q := (RX11, TX11, 22)) (rest := []) C (c_X11_finds C.2.2.2.2.2.2.1  g12) (iM 0 (by decide)) rfl rfl hy_X11_finds ⟨tw842, tw844, tw34, tw75, tw845⟩ (by decide) (by decide) rfl rfl (Nat.le_of_ble_eq_true rfl) dX11_row_22 ?_
        show Wx LM K s13 25 [(0, .ref (kad K 0)), (1, .int a1), (2, .int a2)] [.int r11]
        cases h0
        exact x_iret C R dX11_row_25
    · replace h0 := ob_neg c5 h0
      refine x_iconst (v := (-1)) C dX11_row_14 rfl ?_
      cases h0
      exact x_iret C R dX11_row_15
set_option maxHeartbeats 4000000 in
set_option maxRecDepth 100000 in
theorem c_X11_lay {l : Launch} {D : va_G} {ad : Nat → Nat} {cy : Nat → ClassId} (hJ : mJ LM ad) {σ τ : mS} {a1 : Int32} {a2 : Int32} {a3 : Int32} {r : Int32}  (h0 : X11_lay σ a1 a2 a3 = some (r, τ)) : MetG l LM D ad cy yX11_lay cX11_lay 5 (some .int) 2 [.ref (ad 0), .int a1, .int a2, .int a3] σ (some (.int r)) τ := by
  refine MetG.of hJ (by decide +kernel) [(0, .ref (ad 0)), (1, .int a1), (2, .int a2), (3, .int a3)] rfl (Nat.le_of_ble_eq_true rfl) ?_
  intro K e1 e2 e3 e4 e5 C R
  subst e1
  subst e2
  subst e3
  subst e4
  unfold X11_lay at h0
  refine x_aload_n C 0 dX11_lay_0 rfl ?_
  refine x_iload_n C 1 dX11_lay_1 rfl ?_
  refine x_callV (ar := 1) (q := (RX11, TX11, 22)) (rest := []) C (c_X11_isRow C.2.2.2.2.2.2.1  rfl) (iM 0 (by decide)) rfl rfl hy_X11_isRow ⟨tw834, tw836, tw33, tw75, tw837⟩ (by decide) (by decide) rfl rfl (Nat.le_of_ble_eq_true rfl) dX11_lay_2 ?_
  show Wx LM K σ 5 [(0, .ref (kad K 0)), (1, .int a1), (2, .int a2), (3, .int a3)] [.int (X11_isRow a1)]
  refine x_ifne C 10 dX11_lay_5 (by decide) (fun c3 => ?_) (fun c3 => ?_)
  · replace h0 := ob_neg c3 h0
    refine x_aload_n C 0 dX11_lay_10 rfl ?_
    refine x_getR (j := 0) (i := 7) (q := (RX11, TX11, 22)) C 1 (iM 0 (by decide)) rfl rfl inBX11 (by decide) tw763 rfl dX11_lay_11 ?_
    refine x_iload_n C 1 dX11_lay_14 rfl ?_
    obtain ⟨c4, h0⟩ := ob_if h0
    refine x_iald C (iM 1 (by decide)) rfl (vin_in c4) dX11_lay_15 ?_
    refine x_ifge C 25 dX11_lay_16 (by decide) (fun c6 => ?_) (fun c6 => ?_)
    · replace h0 := ob_pos c6 h0
      refine x_iload_n C 2 dX11_lay_25 rfl ?_
      refine x_i2l C dX11_lay_26 ?_
      refine x_lconst (v := 0) C dX11_lay_27 rfl ?_
      refine x_aload_n C 0 dX11_lay_28 rfl ?_
      refine x_getR (j := 0) (i := 7) (q := (RX11, TX11, 22)) C 1 (iM 0 (by decide)) rfl rfl inBX11 (by decide) tw763 rfl dX11_lay_29 ?_
      refine x_iload_n C 1 dX11_lay_32 rfl ?_
      obtain ⟨c7, h0⟩ := ob_if h0
      refine x_iald C (iM 1 (by decide)) rfl (vin_in c7) dX11_lay_33 ?_
      refine x_iconst (v := 1) C dX11_lay_34 rfl ?_
      refine x_isub C dX11_lay_35 ?_
      refine x_i2l C dX11_lay_36 ?_
      refine x_callS (ar := 3) (rest := []) C (c_X11_in C.2.2.2.2.2.2.1  rfl) hy_X11_in ⟨tw839, tw840, tw75, tw841⟩ (by decide) (by decide) rfl rfl (Nat.le_of_ble_eq_true rfl) dX11_lay_37 ?_
      show Wx LM K σ 40 [(0, .ref (kad K 0)), (1, .int a1), (2, .int a2), (3, .int a3)] [.int (X11_in ((a2).toInt64) (0) ((((σ.1 1 a1.toNatClampNeg) - 1)).toInt64))]
      refine x_ifne C 49 dX11_lay_40 (by decide) (fun c10 => ?_) (fun c10 => ?_)
      · replace h0 := ob_neg c10 h0
        refine x_aload_n C 0 dX11_lay_49 rfl ?_
        refine x_getR (j := 1) (i := 13) (q := (RX11, TX11, 22)) C 2 (iM 0 (by decide)) rfl rfl inBX11 (by decide) tw764 rfl dX11_lay_50 ?_
        refine x_bipush (v := 40) C dX11_lay_53 rfl ?_
        refine x_iload_n C 1 dX11_lay_55 rfl ?_
        refine x_imul C dX11_lay_56 ?_
        refine x_iload_n C 2 dX11_lay_57 rfl ?_
        refine x_iadd C dX11_lay_58 ?_
        obtain ⟨c11, h0⟩ := ob_if h0
        refine x_iald C (iM 2 (by decide)) rfl (vin_in c11) dX11_lay_59 ?_
        refine x_istore (lv' := [(4, .int (σ.1 2 (((40 : Int32) * a1) + a2).toNatClampNeg)), (0, .ref (kad K 0)), (1, .int a1), (2, .int a2), (3, .int a3)]) C dX11_lay_60 (by rw [e5]; decide) rfl ?_
        refine x_aload_n C 1 dX11_lay_62 rfl ?_
        refine x_getR (j := 1) (i := 13) (q := (RX11, TX11, 22)) C 2 (iM 0 (by decide)) rfl rfl inBX11 (by decide) tw764 rfl dX11_lay_63 ?_
        refine x_bipush (v := 40) C dX11_lay_66 rfl ?_
        refine x_iload_n C 2 dX11_lay_68 rfl ?_
        refine x_imul C dX11_lay_69 ?_
        refine x_iload_n C 3 dX11_lay_70 rfl ?_
        refine x_iadd C dX11_lay_71 ?_
        refine x_iload_n C 4 dX11_lay_72 rfl ?_
        obtain ⟨c12, h0⟩ := ob_if h0
        refine x_iast C (iM 2 (by decide)) rfl (vin_in c12) dX11_lay_73 ?_
        refine x_aload_n C 1 dX11_lay_74 rfl ?_
        refine x_iload C 0 dX11_lay_75 rfl ?_
        obtain ⟨r13, s15, g14, h0⟩ := ob_bd h0
        refine x_callV (ar := 1) (q := (RX11, TX11, 22)) (rest := []) C (c_X11_tells C.2.2.2.2.2.2.1  g14) (iM 0 (by decide)) rfl rfl hy_X11_tells ⟨tw854, tw856, tw36, tw75, tw857⟩ (by decide) (by decide) rfl rfl (Nat.le_of_ble_eq_true rfl) dX11_lay_77 ?_
        show Wx LM K s15 80 [(4, .int (σ.1 2 (((40 : Int32) * a1) + a2).toNatClampNeg)), (0, .ref (kad K 0)), (1, .int a1), (2, .int a2), (3, .int a3)] [.int r13]
        cases h0
        exact x_iret C R dX11_lay_80
      · replace h0 := ob_pos c10 h0
        refine x_aload_n C 0 dX11_lay_43 rfl ?_
        refine x_iconst (v := 2) C dX11_lay_44 rfl ?_
        obtain ⟨r16, s18, g17, h0⟩ := ob_bd h0
        refine x_callV (ar := 1) (q := (RX11, TX11, 22)) (rest := []) C (c_X11_finds C.2.2.2.2.2.2.1  g17) (iM 0 (by decide)) rfl rfl hy_X11_finds ⟨tw842, tw844, tw34, tw75, tw845⟩ (by decide) (by decide) rfl rfl (Nat.le_of_ble_eq_true rfl) dX11_lay_45 ?_
        show Wx LM K s18 48 [(0, .ref (kad K 0)), (1, .int a1), (2, .int a2), (3, .int a3)] [.int r16]
        cases h0
        exact x_iret C R dX11_lay_48
    · replace h0 := ob_neg c6 h0
      refine x_aload_n C 0 dX11_lay_19 rfl ?_
      refine x_iconst (v := 1) C dX11_lay_20 rfl ?_
      obtain ⟨r19, s21, g20, h0⟩ := ob_bd h0
      refine x_callV (ar := 1) (q := (RX11, TX11, 22)) (rest := []) C (c_X11_finds C.2.2.2.2.2.2.1  g20) (iM 0 (by decide)) rfl rfl hy_X11_finds ⟨tw842, tw844, tw34, tw75, tw845⟩ (by decide) (by decide) rfl rfl (Nat.le_of_ble_eq_true rfl) dX11_lay_21 ?_
      show Wx LM K s21 24 [(0, .ref (kad K 0)), (1, .int a1), (2, .int a2), (3, .int a3)] [.int r19]
      cases h0
      exact x_iret C R dX11_lay_24
  · replace h0 := ob_pos c3 h0
    refine x_iconst (v := (-1)) C dX11_lay_8 rfl ?_
    cases h0
    exact x_iret C R dX11_lay_9
set_option maxHeartbeats 4000000 in
set_option maxRecDepth 100000 in
theorem c_X11_at {l : Launch} {D : va_G} {ad : Nat → Nat} {cy : Nat → ClassId} (hJ : mJ LM ad) {σ τ : mS} {a1 : Int32} {a2 : Int32} {r : Int32}  (h0 : X11_at σ a1 a2 = some (r, τ)) : MetG l LM D ad cy yX11_at cX11_at 3 (some .int) 2 [.ref (ad 0), .int a1, .int a2] σ (some (.int r)) τ := by
  refine MetG.of hJ (by decide +kernel) [(0, .ref (ad 0)), (1, .int a1), (2, .int a2)] rfl (Nat.le_of_ble_eq_true rfl) ?_
  intro K e1 e2 e3 e4 e5 C R
  subst e1
  subst e2
  subst e3
  subst e4
  unfold X11_at at h0
  refine x_aload_n C 0 dX11_at_0 rfl ?_
  refine x_iload_n C 1 dX11_at_1 rfl ?_
  refine x_callV (ar := 1) (q := (RX11, TX11, 22)) (rest := []) C (c_X11_isRow C.2.2.2.2.2.2.1  rfl) (iM 0 (by decide)) rfl rfl hy_X11_isRow ⟨tw834, tw836, tw33, tw75, tw837⟩ (by decide) (by decide) rfl rfl (Nat.le_of_ble_eq_true rfl) dX11_at_2 ?_
  show Wx LM K σ 5 [(0, .ref (kad K 0)), (1, .int a1), (2, .int a2)] [.int (X11_isRow a1)]
  refine x_ifne C 10 dX11_at_5 (by decide) (fun c3 => ?_) (fun c3 => ?_)
  · replace h0 := ob_neg c3 h0
    refine x_aload_n C 0 dX11_at_10 rfl ?_
    refine x_getR (j := 0) (i := 7) (q := (RX11, TX11, 22)) C 1 (iM 0 (by decide)) rfl rfl inBX11 (by decide) tw763 rfl dX11_at_11 ?_
    refine x_iload_n C 1 dX11_at_14 rfl ?_
    obtain ⟨c4, h0⟩ := ob_if h0
    refine x_iald C (iM 1 (by decide)) rfl (vin_in c4) dX11_at_15 ?_
    refine x_ifge C 25 dX11_at_16 (by decide) (fun c6 => ?_) (fun c6 => ?_)
    · replace h0 := ob_pos c6 h0
      refine x_iload_n C 2 dX11_at_25 rfl ?_
      refine x_i2l C dX11_at_26 ?_
      refine x_lconst (v := 0) C dX11_at_27 rfl ?_
      refine x_aload_n C 0 dX11_at_28 rfl ?_
      refine x_getR (j := 0) (i := 7) (q := (RX11, TX11, 22)) C 1 (iM 0 (by decide)) rfl rfl inBX11 (by decide) tw763 rfl dX11_at_29 ?_
      refine x_iload_n C 1 dX11_at_32 rfl ?_
      obtain ⟨c7, h0⟩ := ob_if h0
      refine x_iald C (iM 1 (by decide)) rfl (vin_in c7) dX11_at_33 ?_
      refine x_iconst (v := 1) C dX11_at_34 rfl ?_
      refine x_isub C dX11_at_35 ?_
      refine x_i2l C dX11_at_36 ?_
      refine x_callS (ar := 3) (rest := []) C (c_X11_in C.2.2.2.2.2.2.1  rfl) hy_X11_in ⟨tw839, tw840, tw75, tw841⟩ (by decide) (by decide) rfl rfl (Nat.le_of_ble_eq_true rfl) dX11_at_37 ?_
      show Wx LM K σ 40 [(0, .ref (kad K 0)), (1, .int a1), (2, .int a2)] [.int (X11_in ((a2).toInt64) (0) ((((σ.1 1 a1.toNatClampNeg) - 1)).toInt64))]
      refine x_ifeq C 61 dX11_at_40 (by decide) (fun c10 => ?_) (fun c10 => ?_)
      · replace h0 := ob_pos c10 h0
        refine x_aload_n C 0 dX11_at_61 rfl ?_
        refine x_iconst (v := 2) C dX11_at_62 rfl ?_
        obtain ⟨r11, s13, g12, h0⟩ := ob_bd h0
        refine x_callV (ar := 1) (q := (RX11, TX11, 22)) (rest := []) C (c_X11_finds C.2.2.2.2.2.2.1  g12) (iM 0 (by decide)) rfl rfl hy_X11_finds ⟨tw842, tw844, tw34, tw75, tw845⟩ (by decide) (by decide) rfl rfl (Nat.le_of_ble_eq_true rfl) dX11_at_63 ?_
        show Wx LM K s13 66 [(0, .ref (kad K 0)), (1, .int a1), (2, .int a2)] [.int r11]
        cases h0
        exact x_iret C R dX11_at_66
      · replace h0 := ob_neg c10 h0
        refine x_aload_n C 0 dX11_at_43 rfl ?_
        refine x_aload_n C 0 dX11_at_44 rfl ?_
        refine x_getR (j := 1) (i := 13) (q := (RX11, TX11, 22)) C 2 (iM 0 (by decide)) rfl rfl inBX11 (by decide) tw764 rfl dX11_at_45 ?_
        refine x_bipush (v := 40) C dX11_at_48 rfl ?_
        refine x_iload_n C 1 dX11_at_50 rfl ?_
        refine x_imul C dX11_at_51 ?_
        refine x_iload_n C 2 dX11_at_52 rfl ?_
        refine x_iadd C dX11_at_53 ?_
        obtain ⟨c14, h0⟩ := ob_if h0
        refine x_iald C (iM 2 (by decide)) rfl (vin_in c14) dX11_at_54 ?_
        obtain ⟨r15, s17, g16, h0⟩ := ob_bd h0
        refine x_callV (ar := 1) (q := (RX11, TX11, 22)) (rest := []) C (c_X11_tells C.2.2.2.2.2.2.1  g16) (iM 0 (by decide)) rfl rfl hy_X11_tells ⟨tw854, tw856, tw36, tw75, tw857⟩ (by decide) (by decide) rfl rfl (Nat.le_of_ble_eq_true rfl) dX11_at_55 ?_
        show Wx LM K s17 58 [(0, .ref (kad K 0)), (1, .int a1), (2, .int a2)] [.int r15]
        refine x_goto C 66 dX11_at_58 (by decide) ?_
        cases h0
        exact x_iret C R dX11_at_66
    · replace h0 := ob_neg c6 h0
      refine x_aload_n C 0 dX11_at_19 rfl ?_
      refine x_iconst (v := 1) C dX11_at_20 rfl ?_
      obtain ⟨r18, s20, g19, h0⟩ := ob_bd h0
      refine x_callV (ar := 1) (q := (RX11, TX11, 22)) (rest := []) C (c_X11_finds C.2.2.2.2.2.2.1  g19) (iM 0 (by decide)) rfl rfl hy_X11_finds ⟨tw842, tw844, tw34, tw75, tw845⟩ (by decide) (by decide) rfl rfl (Nat.le_of_ble_eq_true rfl) dX11_at_21 ?_
      show Wx LM K s20 24 [(0, .ref (kad K 0)), (1, .int a1), (2, .int a2)] [.int r18]
      cases h0
      exact x_iret C R dX11_at_24
  · replace h0 := ob_pos c3 h0
    refine x_iconst (v := (-1)) C dX11_at_8 rfl ?_
    cases h0
    exact x_iret C R dX11_at_9
set_option maxHeartbeats 4000000 in
set_option maxRecDepth 100000 in
theorem c_X11_tear {l : Launch} {D : va_G} {ad : Nat → Nat} {cy : Nat → ClassId} (hJ : mJ LM ad) {σ τ : mS} {a1 : Int32} {r : Int32}  (h0 : X11_tear σ a1 = some (r, τ)) : MetG l LM D ad cy yX11_tear cX11_tear 2 (some .int) 2 [.ref (ad 0), .int a1] σ (some (.int r)) τ := by
  refine MetG.of hJ (by decide +kernel) [(0, .ref (ad 0)), (1, .int a1)] rfl (Nat.le_of_ble_eq_true rfl) ?_
  intro K e1 e2 e3 e4 e5 C R
  subst e1
  subst e2
  subst e3
  subst e4
  unfold X11_tear at h0
  refine x_aload_n C 0 dX11_tear_0 rfl ?_
  refine x_iload_n C 1 dX11_tear_1 rfl ?_
  refine x_callV (ar := 1) (q := (RX11, TX11, 22)) (rest := []) C (c_X11_isRow C.2.2.2.2.2.2.1  rfl) (iM 0 (by decide)) rfl rfl hy_X11_isRow ⟨tw834, tw836, tw33, tw75, tw837⟩ (by decide) (by decide) rfl rfl (Nat.le_of_ble_eq_true rfl) dX11_tear_2 ?_
  show Wx LM K σ 5 [(0, .ref (kad K 0)), (1, .int a1)] [.int (X11_isRow a1)]
  refine x_ifne C 10 dX11_tear_5 (by decide) (fun c3 => ?_) (fun c3 => ?_)
  · replace h0 := ob_neg c3 h0
    refine x_aload_n C 0 dX11_tear_10 rfl ?_
    refine x_getR (j := 0) (i := 7) (q := (RX11, TX11, 22)) C 1 (iM 0 (by decide)) rfl rfl inBX11 (by decide) tw763 rfl dX11_tear_11 ?_
    refine x_iload_n C 1 dX11_tear_14 rfl ?_
    obtain ⟨c4, h0⟩ := ob_if h0
    refine x_iald C (iM 1 (by decide)) rfl (vin_in c4) dX11_tear_15 ?_
    refine x_ifge C 25 dX11_tear_16 (by decide) (fun c6 => ?_) (fun c6 => ?_)
    · replace h0 := ob_pos c6 h0
      refine x_aload_n C 0 dX11_tear_25 rfl ?_
      refine x_getR (j := 0) (i := 7) (q := (RX11, TX11, 22)) C 1 (iM 0 (by decide)) rfl rfl inBX11 (by decide) tw763 rfl dX11_tear_26 ?_
      refine x_iload_n C 1 dX11_tear_29 rfl ?_
      refine x_iconst (v := (-1)) C dX11_tear_30 rfl ?_
      obtain ⟨c7, h0⟩ := ob_if h0
      refine x_iast C (iM 1 (by decide)) rfl (vin_in c7) dX11_tear_31 ?_
      refine x_iconst (v := 1) C dX11_tear_32 rfl ?_
      cases h0
      exact x_iret C R dX11_tear_33
    · replace h0 := ob_neg c6 h0
      refine x_aload_n C 0 dX11_tear_19 rfl ?_
      refine x_iconst (v := 1) C dX11_tear_20 rfl ?_
      obtain ⟨r8, s10, g9, h0⟩ := ob_bd h0
      refine x_callV (ar := 1) (q := (RX11, TX11, 22)) (rest := []) C (c_X11_finds C.2.2.2.2.2.2.1  g9) (iM 0 (by decide)) rfl rfl hy_X11_finds ⟨tw842, tw844, tw34, tw75, tw845⟩ (by decide) (by decide) rfl rfl (Nat.le_of_ble_eq_true rfl) dX11_tear_21 ?_
      show Wx LM K s10 24 [(0, .ref (kad K 0)), (1, .int a1)] [.int r8]
      cases h0
      exact x_iret C R dX11_tear_24
  · replace h0 := ob_pos c3 h0
    refine x_iconst (v := (-1)) C dX11_tear_8 rfl ?_
    cases h0
    exact x_iret C R dX11_tear_9
set_option maxHeartbeats 4000000 in
set_option maxRecDepth 100000 in
theorem c_X11_copy {l : Launch} {D : va_G} {ad : Nat → Nat} {cy : Nat → ClassId} (hJ : mJ LM ad) {σ τ : mS} {a1 : Int32} {a2 : Int32} {a3 : Int32} {a4 : Int32} {a5 : Int32} {r : Int32}  (h0 : X11_copy σ a1 a2 a3 a4 a5 = some (r, τ)) : MetG l LM D ad cy yX11_copy cX11_copy 7 (some .int) 2 [.ref (ad 0), .int a1, .int a2, .int a3, .int a4, .int a5] σ (some (.int r)) τ := by
  refine MetG.of hJ (by decide +kernel) [(0, .ref (ad 0)), (1, .int a1), (2, .int a2), (3, .int a3), (4, .int a4), (5, .int a5)] rfl (Nat.le_of_ble_eq_true rfl) ?_
  intro K e1 e2 e3 e4 e5 C R
  subst e1
  subst e2
  subst e3
  subst e4
  unfold X11_copy at h0
  refine x_aload_n C 0 dX11_copy_0 rfl ?_
  refine x_iload_n C 1 dX11_copy_1 rfl ?_
  refine x_callV (ar := 1) (q := (RX11, TX11, 22)) (rest := []) C (c_X11_isRow C.2.2.2.2.2.2.1  rfl) (iM 0 (by decide)) rfl rfl hy_X11_isRow ⟨tw834, tw836, tw33, tw75, tw837⟩ (by decide) (by decide) rfl rfl (Nat.le_of_ble_eq_true rfl) dX11_copy_2 ?_
  show Wx LM K σ 5 [(0, .ref (kad K 0)), (1, .int a1), (2, .int a2), (3, .int a3), (4, .int a4), (5, .int a5)] [.int (X11_isRow a1)]
  refine x_ifeq C 16 dX11_copy_5 (by decide) (fun c3 => ?_) (fun c3 => ?_)
  · replace h0 := ob_pos c3 h0
    refine x_iconst (v := (-1)) C dX11_copy_16 rfl ?_
    cases h0
    exact x_iret C R dX11_copy_17
  · replace h0 := ob_neg c3 h0
    refine x_aload_n C 0 dX11_copy_8 rfl ?_
    refine x_iload_n C 3 dX11_copy_9 rfl ?_
    refine x_callV (ar := 1) (q := (RX11, TX11, 22)) (rest := []) C (c_X11_isRow C.2.2.2.2.2.2.1  rfl) (iM 0 (by decide)) rfl rfl hy_X11_isRow ⟨tw834, tw836, tw33, tw75, tw837⟩ (by decide) (by decide) rfl rfl (Nat.le_of_ble_eq_true rfl) dX11_copy_10 ?_
    show Wx LM K σ 13 [(0, .ref (kad K 0)), (1, .int a1), (2, .int a2), (3, .int a3), (4, .int a4), (5, .int a5)] [.int (X11_isRow a3)]
    refine x_ifne C 18 dX11_copy_13 (by decide) (fun c6 => ?_) (fun c6 => ?_)
    · replace h0 := ob_neg c6 h0
      refine x_iload C 5 dX11_copy_18 rfl ?_
      refine x_ifge C 29 dX11_copy_20 (by decide) (fun c8 => ?_) (fun c8 => ?_)
      · replace h0 := ob_pos c8 h0
        refine x_aload_n C 0 dX11_copy_29 rfl ?_
        refine x_getR (j := 0) (i := 7) (q := (RX11, TX11, 22)) C 1 (iM 0 (by decide)) rfl rfl inBX11 (by decide) tw763 rfl dX11_copy_30 ?_
        refine x_iload_n C 1 dX11_copy_33 rfl ?_
        obtain ⟨c9, h0⟩ := ob_if h0
        refine x_iald C (iM 1 (by decide)) rfl (vin_in c9) dX11_copy_34 ?_
        refine x_iflt C 47 dX11_copy_35 (by decide) (fun c11 => ?_) (fun c11 => ?_)
        · replace h0 := ob_pos c11 h0
          refine x_aload_n C 0 dX11_copy_47 rfl ?_
          refine x_iconst (v := 1) C dX11_copy_48 rfl ?_
          obtain ⟨r12, s14, g13, h0⟩ := ob_bd h0
          refine x_callV (ar := 1) (q := (RX11, TX11, 22)) (rest := []) C (c_X11_finds C.2.2.2.2.2.2.1  g13) (iM 0 (by decide)) rfl rfl hy_X11_finds ⟨tw842, tw844, tw34, tw75, tw845⟩ (by decide) (by decide) rfl rfl (Nat.le_of_ble_eq_true rfl) dX11_copy_49 ?_
          show Wx LM K s14 52 [(0, .ref (kad K 0)), (1, .int a1), (2, .int a2), (3, .int a3), (4, .int a4), (5, .int a5)] [.int r12]
          cases h0
          exact x_iret C R dX11_copy_52
        · replace h0 := ob_neg c11 h0
          refine x_aload_n C 0 dX11_copy_38 rfl ?_
          refine x_getR (j := 0) (i := 7) (q := (RX11, TX11, 22)) C 1 (iM 0 (by decide)) rfl rfl inBX11 (by decide) tw763 rfl dX11_copy_39 ?_
          refine x_iload_n C 3 dX11_copy_42 rfl ?_
          obtain ⟨c15, h0⟩ := ob_if h0
          refine x_iald C (iM 1 (by decide)) rfl (vin_in c15) dX11_copy_43 ?_
          refine x_ifge C 53 dX11_copy_44 (by decide) (fun c17 => ?_) (fun c17 => ?_)
          · replace h0 := ob_pos c17 h0
            refine x_iload_n C 2 dX11_copy_53 rfl ?_
            refine x_iflt C 97 dX11_copy_54 (by decide) (fun c19 => ?_) (fun c19 => ?_)
            · replace h0 := ob_pos c19 h0
              refine x_aload_n C 0 dX11_copy_97 rfl ?_
              refine x_iconst (v := 2) C dX11_copy_98 rfl ?_
              obtain ⟨r20, s22, g21, h0⟩ := ob_bd h0
              refine x_callV (ar := 1) (q := (RX11, TX11, 22)) (rest := []) C (c_X11_finds C.2.2.2.2.2.2.1  g21) (iM 0 (by decide)) rfl rfl hy_X11_finds ⟨tw842, tw844, tw34, tw75, tw845⟩ (by decide) (by decide) rfl rfl (Nat.le_of_ble_eq_true rfl) dX11_copy_99 ?_
              show Wx LM K s22 102 [(0, .ref (kad K 0)), (1, .int a1), (2, .int a2), (3, .int a3), (4, .int a4), (5, .int a5)] [.int r20]
              cases h0
              exact x_iret C R dX11_copy_102
            · replace h0 := ob_neg c19 h0
              refine x_iload C 4 dX11_copy_57 rfl ?_
              refine x_iflt C 97 dX11_copy_59 (by decide) (fun c24 => ?_) (fun c24 => ?_)
              · replace h0 := ob_pos c24 h0
                refine x_aload_n C 0 dX11_copy_97 rfl ?_
                refine x_iconst (v := 2) C dX11_copy_98 rfl ?_
                obtain ⟨r25, s27, g26, h0⟩ := ob_bd h0
                refine x_callV (ar := 1) (q := (RX11, TX11, 22)) (rest := []) C (c_X11_finds C.2.2.2.2.2.2.1  g26) (iM 0 (by decide)) rfl rfl hy_X11_finds ⟨tw842, tw844, tw34, tw75, tw845⟩ (by decide) (by decide) rfl rfl (Nat.le_of_ble_eq_true rfl) dX11_copy_99 ?_
                show Wx LM K s27 102 [(0, .ref (kad K 0)), (1, .int a1), (2, .int a2), (3, .int a3), (4, .int a4), (5, .int a5)] [.int r25]
                cases h0
                exact x_iret C R dX11_copy_102
              · replace h0 := ob_neg c24 h0
                refine x_iload_n C 2 dX11_copy_62 rfl ?_
                refine x_i2l C dX11_copy_63 ?_
                refine x_iload C 5 dX11_copy_64 rfl ?_
                refine x_i2l C dX11_copy_66 ?_
                refine x_ladd C dX11_copy_67 ?_
                refine x_aload_n C 0 dX11_copy_68 rfl ?_
                refine x_getR (j := 0) (i := 7) (q := (RX11, TX11, 22)) C 1 (iM 0 (by decide)) rfl rfl inBX11 (by decide) tw763 rfl dX11_copy_69 ?_
                refine x_iload_n C 1 dX11_copy_72 rfl ?_
                obtain ⟨c28, h0⟩ := ob_if h0
                refine x_iald C (iM 1 (by decide)) rfl (vin_in c28) dX11_copy_73 ?_
                refine x_i2l C dX11_copy_74 ?_
                refine x_lcmpgt C 97 dX11_copy_75 dX11_copy_76 (by decide) (fun c30 => ?_) (fun c30 => ?_)
                · replace h0 := ob_pos c30 h0
                  refine x_aload_n C 0 dX11_copy_97 rfl ?_
                  refine x_iconst (v := 2) C dX11_copy_98 rfl ?_
                  obtain ⟨r31, s33, g32, h0⟩ := ob_bd h0
                  refine x_callV (ar := 1) (q := (RX11, TX11, 22)) (rest := []) C (c_X11_finds C.2.2.2.2.2.2.1  g32) (iM 0 (by decide)) rfl rfl hy_X11_finds ⟨tw842, tw844, tw34, tw75, tw845⟩ (by decide) (by decide) rfl rfl (Nat.le_of_ble_eq_true rfl) dX11_copy_99 ?_
                  show Wx LM K s33 102 [(0, .ref (kad K 0)), (1, .int a1), (2, .int a2), (3, .int a3), (4, .int a4), (5, .int a5)] [.int r31]
                  cases h0
                  exact x_iret C R dX11_copy_102
                · replace h0 := ob_neg c30 h0
                  refine x_iload C 4 dX11_copy_79 rfl ?_
                  refine x_i2l C dX11_copy_81 ?_
                  refine x_iload C 5 dX11_copy_82 rfl ?_
                  refine x_i2l C dX11_copy_84 ?_
                  refine x_ladd C dX11_copy_85 ?_
                  refine x_aload_n C 0 dX11_copy_86 rfl ?_
                  refine x_getR (j := 0) (i := 7) (q := (RX11, TX11, 22)) C 1 (iM 0 (by decide)) rfl rfl inBX11 (by decide) tw763 rfl dX11_copy_87 ?_
                  refine x_iload_n C 3 dX11_copy_90 rfl ?_
                  obtain ⟨c34, h0⟩ := ob_if h0
                  refine x_iald C (iM 1 (by decide)) rfl (vin_in c34) dX11_copy_91 ?_
                  refine x_i2l C dX11_copy_92 ?_
                  refine x_lcmple C 103 dX11_copy_93 dX11_copy_94 (by decide) (fun c36 => ?_) (fun c36 => ?_)
                  · replace h0 := ob_pos c36 h0
                    refine x_iconst (v := 0) C dX11_copy_103 rfl ?_
                    refine x_istore (lv' := [(6, .int 0), (0, .ref (kad K 0)), (1, .int a1), (2, .int a2), (3, .int a3), (4, .int a4), (5, .int a5)]) C dX11_copy_104 (by rw [e5]; decide) rfl ?_
                    obtain ⟨e53, g54, h0⟩ := ob_bind h0
                    have J1 : ∀ (s39 : mS), s39 = e53 → Wx LM K s39 140 [(0, .ref (kad K 0)), (3, .int a3), (4, .int a4), (5, .int a5)] [] := by
                      intro s39 e9
                      subst e9
                      replace h0 := un1_l h0
                      refine x_iconst (v := 0) C dX11_copy_140 rfl ?_
                      refine x_istore (lv' := [(6, .int 0), (0, .ref (kad K 0)), (3, .int a3), (4, .int a4), (5, .int a5)]) C dX11_copy_141 (by rw [e5]; decide) rfl ?_
                      obtain ⟨e47, g48, h0⟩ := ob_bind h0
                      have J2 : ∀ (s42 : mS), s42 = e47 → Wx LM K s42 178 [] [] := by
                        intro s42 e9
                        subst e9
                        replace h0 := un1_l h0
                        refine x_iconst (v := 1) C dX11_copy_178 rfl ?_
                        cases h0
                        exact x_iret C R dX11_copy_179
                      refine lp_G (G := fun q : mS × Int32 => Wx LM K q.1 143 [(6, .int q.2), (0, .ref (kad K 0)), (3, .int a3), (4, .int a4), (5, .int a5)] []) (fun q x h2 ihL2 ihR2 => ?_) big _ g48
                      obtain ⟨s40, x41⟩ := q
                      replace h2 : X11_copy_b143 a3 a4 a5 s40 x41 = some x := h2
                      unfold X11_copy_b143 at h2
                      show Wx LM K s40 143 [(6, .int x41), (0, .ref (kad K 0)), (3, .int a3), (4, .int a4), (5, .int a5)] []
                      refine x_iload C 0 dX11_copy_143 rfl ?_
                      refine x_iload C 4 dX11_copy_145 rfl ?_
                      refine x_icmpge C 178 dX11_copy_147 (by decide) (fun c44 => ?_) (fun c44 => ?_)
                      · replace h2 := ob_pos c44 h2
                        refine x_lv (lv' := []) [] rfl ?_
                        exact J2 _ (ihR2 _ (Option.some.inj h2).symm)
                      · replace h2 := ob_neg c44 h2
                        refine x_aload_n C 1 dX11_copy_150 rfl ?_
                        refine x_getR (j := 1) (i := 13) (q := (RX11, TX11, 22)) C 2 (iM 0 (by decide)) rfl rfl inBX11 (by decide) tw764 rfl dX11_copy_151 ?_
                        refine x_bipush (v := 40) C dX11_copy_154 rfl ?_
                        refine x_iload_n C 2 dX11_copy_156 rfl ?_
                        refine x_imul C dX11_copy_157 ?_
                        refine x_iload C 3 dX11_copy_158 rfl ?_
                        refine x_iadd C dX11_copy_160 ?_
                        refine x_iload C 0 dX11_copy_161 rfl ?_
                        refine x_iadd C dX11_copy_163 ?_
                        refine x_aload_n C 1 dX11_copy_164 rfl ?_
                        refine x_getR (j := 2) (i := 16) (q := (RX11, TX11, 22)) C 3 (iM 0 (by decide)) rfl rfl inBX11 (by decide) tw765 rfl dX11_copy_165 ?_
                        refine x_iload C 0 dX11_copy_168 rfl ?_
                        obtain ⟨c45, h2⟩ := ob_if h2
                        refine x_iald C (iM 3 (by decide)) rfl (vin_in c45) dX11_copy_170 ?_
                        obtain ⟨c46, h2⟩ := ob_if h2
                        refine x_iast C (iM 2 (by decide)) rfl (vin_in c46) dX11_copy_171 ?_
                        refine x_iinc (v := (x41 + 1)) (lv' := [(6, .int (x41 + 1)), (0, .ref (kad K 0)), (3, .int a3), (4, .int a4), (5, .int a5)]) C 0 dX11_copy_172 rfl rfl (by rw [e5]; decide) rfl ?_
                        refine x_goto C 143 dX11_copy_175 (by decide) ?_
                        refine x_lv (lv' := [(6, .int (x41 + 1)), (0, .ref (kad K 0)), (3, .int a3), (4, .int a4), (5, .int a5)]) [0, 1, 2, 3, 4] rfl ?_
                        exact ihL2 _ (Option.some.inj h2).symm
                    refine lp_G (G := fun q : mS × Int32 => Wx LM K q.1 106 [(6, .int q.2), (0, .ref (kad K 0)), (1, .int a1), (2, .int a2), (3, .int a3), (4, .int a4), (5, .int a5)] []) (fun q x h1 ihL1 ihR1 => ?_) big _ g54
                    obtain ⟨s37, x38⟩ := q
                    replace h1 : X11_copy_b106 a1 a2 a5 s37 x38 = some x := h1
                    unfold X11_copy_b106 at h1
                    show Wx LM K s37 106 [(6, .int x38), (0, .ref (kad K 0)), (1, .int a1), (2, .int a2), (3, .int a3), (4, .int a4), (5, .int a5)] []
                    refine x_iload C 0 dX11_copy_106 rfl ?_
                    refine x_iload C 6 dX11_copy_108 rfl ?_
                    refine x_icmpge C 140 dX11_copy_110 (by decide) (fun c50 => ?_) (fun c50 => ?_)
                    · replace h1 := ob_pos c50 h1
                      refine x_lv (lv' := [(0, .ref (kad K 0)), (3, .int a3), (4, .int a4), (5, .int a5)]) [1, 4, 5, 6] rfl ?_
                      exact J1 _ (ihR1 _ (Option.some.inj h1).symm)
                    · replace h1 := ob_neg c50 h1
                      refine x_aload_n C 1 dX11_copy_113 rfl ?_
                      refine x_getR (j := 2) (i := 16) (q := (RX11, TX11, 22)) C 3 (iM 0 (by decide)) rfl rfl inBX11 (by decide) tw765 rfl dX11_copy_114 ?_
                      refine x_iload C 0 dX11_copy_117 rfl ?_
                      refine x_aload_n C 1 dX11_copy_119 rfl ?_
                      refine x_getR (j := 1) (i := 13) (q := (RX11, TX11, 22)) C 2 (iM 0 (by decide)) rfl rfl inBX11 (by decide) tw764 rfl dX11_copy_120 ?_
                      refine x_bipush (v := 40) C dX11_copy_123 rfl ?_
                      refine x_iload_n C 2 dX11_copy_125 rfl ?_
                      refine x_imul C dX11_copy_126 ?_
                      refine x_iload_n C 3 dX11_copy_127 rfl ?_
                      refine x_iadd C dX11_copy_128 ?_
                      refine x_iload C 0 dX11_copy_129 rfl ?_
                      refine x_iadd C dX11_copy_131 ?_
                      obtain ⟨c51, h1⟩ := ob_if h1
                      refine x_iald C (iM 2 (by decide)) rfl (vin_in c51) dX11_copy_132 ?_
                      obtain ⟨c52, h1⟩ := ob_if h1
                      refine x_iast C (iM 3 (by decide)) rfl (vin_in c52) dX11_copy_133 ?_
                      refine x_iinc (v := (x38 + 1)) (lv' := [(6, .int (x38 + 1)), (0, .ref (kad K 0)), (1, .int a1), (2, .int a2), (3, .int a3), (4, .int a4), (5, .int a5)]) C 0 dX11_copy_134 rfl rfl (by rw [e5]; decide) rfl ?_
                      refine x_goto C 106 dX11_copy_137 (by decide) ?_
                      refine x_lv (lv' := [(6, .int (x38 + 1)), (0, .ref (kad K 0)), (1, .int a1), (2, .int a2), (3, .int a3), (4, .int a4), (5, .int a5)]) [0, 1, 2, 3, 4, 5, 6] rfl ?_
                      exact ihL1 _ (Option.some.inj h1).symm
                  · replace h0 := ob_neg c36 h0
                    refine x_aload_n C 0 dX11_copy_97 rfl ?_
                    refine x_iconst (v := 2) C dX11_copy_98 rfl ?_
                    obtain ⟨r55, s57, g56, h0⟩ := ob_bd h0
                    refine x_callV (ar := 1) (q := (RX11, TX11, 22)) (rest := []) C (c_X11_finds C.2.2.2.2.2.2.1  g56) (iM 0 (by decide)) rfl rfl hy_X11_finds ⟨tw842, tw844, tw34, tw75, tw845⟩ (by decide) (by decide) rfl rfl (Nat.le_of_ble_eq_true rfl) dX11_copy_99 ?_
                    show Wx LM K s57 102 [(0, .ref (kad K 0)), (1, .int a1), (2, .int a2), (3, .int a3), (4, .int a4), (5, .int a5)] [.int r55]
                    cases h0
                    exact x_iret C R dX11_copy_102
          · replace h0 := ob_neg c17 h0
            refine x_aload_n C 0 dX11_copy_47 rfl ?_
            refine x_iconst (v := 1) C dX11_copy_48 rfl ?_
            obtain ⟨r58, s60, g59, h0⟩ := ob_bd h0
            refine x_callV (ar := 1) (q := (RX11, TX11, 22)) (rest := []) C (c_X11_finds C.2.2.2.2.2.2.1  g59) (iM 0 (by decide)) rfl rfl hy_X11_finds ⟨tw842, tw844, tw34, tw75, tw845⟩ (by decide) (by decide) rfl rfl (Nat.le_of_ble_eq_true rfl) dX11_copy_49 ?_
            show Wx LM K s60 52 [(0, .ref (kad K 0)), (1, .int a1), (2, .int a2), (3, .int a3), (4, .int a4), (5, .int a5)] [.int r58]
            cases h0
            exact x_iret C R dX11_copy_52
      · replace h0 := ob_neg c8 h0
        refine x_aload_n C 0 dX11_copy_23 rfl ?_
        refine x_iconst (v := 5) C dX11_copy_24 rfl ?_
        obtain ⟨r61, s63, g62, h0⟩ := ob_bd h0
        refine x_callV (ar := 1) (q := (RX11, TX11, 22)) (rest := []) C (c_X11_finds C.2.2.2.2.2.2.1  g62) (iM 0 (by decide)) rfl rfl hy_X11_finds ⟨tw842, tw844, tw34, tw75, tw845⟩ (by decide) (by decide) rfl rfl (Nat.le_of_ble_eq_true rfl) dX11_copy_25 ?_
        show Wx LM K s63 28 [(0, .ref (kad K 0)), (1, .int a1), (2, .int a2), (3, .int a3), (4, .int a4), (5, .int a5)] [.int r61]
        cases h0
        exact x_iret C R dX11_copy_28
    · replace h0 := ob_pos c6 h0
      refine x_iconst (v := (-1)) C dX11_copy_16 rfl ?_
      cases h0
      exact x_iret C R dX11_copy_17
set_option maxHeartbeats 4000000 in
set_option maxRecDepth 100000 in
theorem c_X11_mean {l : Launch} {D : va_G} {ad : Nat → Nat} {cy : Nat → ClassId} (hJ : mJ LM ad) {σ τ : mS} {a1 : Int32} {r : Int32}  (h0 : X11_mean σ a1 = some (r, τ)) : MetG l LM D ad cy yX11_mean cX11_mean 5 (some .int) 2 [.ref (ad 0), .int a1] σ (some (.int r)) τ := by
  refine MetG.of hJ (by decide +kernel) [(0, .ref (ad 0)), (1, .int a1)] rfl (Nat.le_of_ble_eq_true rfl) ?_
  intro K e1 e2 e3 e4 e5 C R
  subst e1
  subst e2
  subst e3
  subst e4
  unfold X11_mean at h0
  refine x_aload_n C 0 dX11_mean_0 rfl ?_
  refine x_iload_n C 1 dX11_mean_1 rfl ?_
  refine x_callV (ar := 1) (q := (RX11, TX11, 22)) (rest := []) C (c_X11_isRow C.2.2.2.2.2.2.1  rfl) (iM 0 (by decide)) rfl rfl hy_X11_isRow ⟨tw834, tw836, tw33, tw75, tw837⟩ (by decide) (by decide) rfl rfl (Nat.le_of_ble_eq_true rfl) dX11_mean_2 ?_
  show Wx LM K σ 5 [(0, .ref (kad K 0)), (1, .int a1)] [.int (X11_isRow a1)]
  refine x_ifne C 10 dX11_mean_5 (by decide) (fun c3 => ?_) (fun c3 => ?_)
  · replace h0 := ob_neg c3 h0
    refine x_aload_n C 0 dX11_mean_10 rfl ?_
    refine x_getR (j := 0) (i := 7) (q := (RX11, TX11, 22)) C 1 (iM 0 (by decide)) rfl rfl inBX11 (by decide) tw763 rfl dX11_mean_11 ?_
    refine x_iload_n C 1 dX11_mean_14 rfl ?_
    obtain ⟨c4, h0⟩ := ob_if h0
    refine x_iald C (iM 1 (by decide)) rfl (vin_in c4) dX11_mean_15 ?_
    refine x_ifge C 25 dX11_mean_16 (by decide) (fun c6 => ?_) (fun c6 => ?_)
    · replace h0 := ob_pos c6 h0
      refine x_aload_n C 0 dX11_mean_25 rfl ?_
      refine x_getR (j := 0) (i := 7) (q := (RX11, TX11, 22)) C 1 (iM 0 (by decide)) rfl rfl inBX11 (by decide) tw763 rfl dX11_mean_26 ?_
      refine x_iload_n C 1 dX11_mean_29 rfl ?_
      obtain ⟨c7, h0⟩ := ob_if h0
      refine x_iald C (iM 1 (by decide)) rfl (vin_in c7) dX11_mean_30 ?_
      refine x_ifne C 40 dX11_mean_31 (by decide) (fun c9 => ?_) (fun c9 => ?_)
      · replace h0 := ob_neg c9 h0
        refine x_lconst (v := 0) C dX11_mean_40 rfl ?_
        refine x_lstore_n (lv' := [(2, .long 0), (0, .ref (kad K 0)), (1, .int a1)]) C dX11_mean_41 (by rw [e5]; decide) rfl ?_
        refine x_iconst (v := 0) C dX11_mean_42 rfl ?_
        refine x_istore (lv' := [(4, .int 0), (2, .long 0), (0, .ref (kad K 0)), (1, .int a1)]) C dX11_mean_43 (by rw [e5]; decide) rfl ?_
        obtain ⟨e22, g23, h0⟩ := ob_bind h0
        have J1 : ∀ (y12 : Int64), y12 = e22 → Wx LM K σ 78 [(2, .long y12), (0, .ref (kad K 0)), (1, .int a1)] [] := by
          intro y12 e9
          subst e9
          replace h0 := un1_l h0
          refine x_aload_n C 1 dX11_mean_78 rfl ?_
          refine x_lload_n C 0 dX11_mean_79 rfl ?_
          refine x_aload_n C 1 dX11_mean_80 rfl ?_
          refine x_getR (j := 0) (i := 7) (q := (RX11, TX11, 22)) C 1 (iM 0 (by decide)) rfl rfl inBX11 (by decide) tw763 rfl dX11_mean_81 ?_
          refine x_iload_n C 2 dX11_mean_84 rfl ?_
          obtain ⟨c13, h0⟩ := ob_if h0
          refine x_iald C (iM 1 (by decide)) rfl (vin_in c13) dX11_mean_85 ?_
          refine x_i2l C dX11_mean_86 ?_
          obtain ⟨c14, h0⟩ := ob_if h0
          refine x_ldiv C dX11_mean_87 c14 ?_
          refine x_l2i C dX11_mean_88 ?_
          obtain ⟨r15, s17, g16, h0⟩ := ob_bd h0
          refine x_callV (ar := 1) (q := (RX11, TX11, 22)) (rest := []) C (c_X11_tells C.2.2.2.2.2.2.1  g16) (iM 0 (by decide)) rfl rfl hy_X11_tells ⟨tw854, tw856, tw36, tw75, tw857⟩ (by decide) (by decide) rfl rfl (Nat.le_of_ble_eq_true rfl) dX11_mean_89 ?_
          show Wx LM K s17 92 [(2, .long y12), (0, .ref (kad K 0)), (1, .int a1)] [.int r15]
          cases h0
          exact x_iret C R dX11_mean_92
        refine lp_G (G := fun q : Int64 × Int32 => Wx LM K σ 45 [(4, .int q.2), (2, .long q.1), (0, .ref (kad K 0)), (1, .int a1)] []) (fun q x h1 ihL1 ihR1 => ?_) big _ g23
        obtain ⟨x10, x11⟩ := q
        replace h1 : X11_mean_b45 σ a1 x10 x11 = some x := h1
        unfold X11_mean_b45 at h1
        show Wx LM K σ 45 [(4, .int x11), (2, .long x10), (0, .ref (kad K 0)), (1, .int a1)] []
        refine x_iload C 0 dX11_mean_45 rfl ?_
        refine x_aload_n C 2 dX11_mean_47 rfl ?_
        refine x_getR (j := 0) (i := 7) (q := (RX11, TX11, 22)) C 1 (iM 0 (by decide)) rfl rfl inBX11 (by decide) tw763 rfl dX11_mean_48 ?_
        refine x_iload_n C 3 dX11_mean_51 rfl ?_
        obtain ⟨c18, h1⟩ := ob_if h1
        refine x_iald C (iM 1 (by decide)) rfl (vin_in c18) dX11_mean_52 ?_
        refine x_icmpge C 78 dX11_mean_53 (by decide) (fun c20 => ?_) (fun c20 => ?_)
        · replace h1 := ob_pos c20 h1
          refine x_lv (lv' := [(2, .long x10), (0, .ref (kad K 0)), (1, .int a1)]) [1, 2, 3] rfl ?_
          exact J1 _ (ihR1 _ (Option.some.inj h1).symm)
        · replace h1 := ob_neg c20 h1
          refine x_lload_n C 1 dX11_mean_56 rfl ?_
          refine x_aload_n C 2 dX11_mean_57 rfl ?_
          refine x_getR (j := 1) (i := 13) (q := (RX11, TX11, 22)) C 2 (iM 0 (by decide)) rfl rfl inBX11 (by decide) tw764 rfl dX11_mean_58 ?_
          refine x_bipush (v := 40) C dX11_mean_61 rfl ?_
          refine x_iload_n C 3 dX11_mean_63 rfl ?_
          refine x_imul C dX11_mean_64 ?_
          refine x_iload C 0 dX11_mean_65 rfl ?_
          refine x_iadd C dX11_mean_67 ?_
          obtain ⟨c21, h1⟩ := ob_if h1
          refine x_iald C (iM 2 (by decide)) rfl (vin_in c21) dX11_mean_68 ?_
          refine x_i2l C dX11_mean_69 ?_
          refine x_ladd C dX11_mean_70 ?_
          refine x_lstore_n (lv' := [(2, .long (x10 + ((σ.1 2 (((40 : Int32) * a1) + x11).toNatClampNeg)).toInt64)), (4, .int x11), (0, .ref (kad K 0)), (1, .int a1)]) C dX11_mean_71 (by rw [e5]; decide) rfl ?_
          refine x_iinc (v := (x11 + 1)) (lv' := [(4, .int (x11 + 1)), (2, .long (x10 + ((σ.1 2 (((40 : Int32) * a1) + x11).toNatClampNeg)).toInt64)), (0, .ref (kad K 0)), (1, .int a1)]) C 1 dX11_mean_72 rfl rfl (by rw [e5]; decide) rfl ?_
          refine x_goto C 45 dX11_mean_75 (by decide) ?_
          refine x_lv (lv' := [(4, .int (x11 + 1)), (2, .long (x10 + ((σ.1 2 (((40 : Int32) * a1) + x11).toNatClampNeg)).toInt64)), (0, .ref (kad K 0)), (1, .int a1)]) [0, 1, 2, 3] rfl ?_
          exact ihL1 _ (Option.some.inj h1).symm
      · replace h0 := ob_pos c9 h0
        refine x_aload_n C 0 dX11_mean_34 rfl ?_
        refine x_iconst (v := 4) C dX11_mean_35 rfl ?_
        obtain ⟨r24, s26, g25, h0⟩ := ob_bd h0
        refine x_callV (ar := 1) (q := (RX11, TX11, 22)) (rest := []) C (c_X11_finds C.2.2.2.2.2.2.1  g25) (iM 0 (by decide)) rfl rfl hy_X11_finds ⟨tw842, tw844, tw34, tw75, tw845⟩ (by decide) (by decide) rfl rfl (Nat.le_of_ble_eq_true rfl) dX11_mean_36 ?_
        show Wx LM K s26 39 [(0, .ref (kad K 0)), (1, .int a1)] [.int r24]
        cases h0
        exact x_iret C R dX11_mean_39
    · replace h0 := ob_neg c6 h0
      refine x_aload_n C 0 dX11_mean_19 rfl ?_
      refine x_iconst (v := 1) C dX11_mean_20 rfl ?_
      obtain ⟨r27, s29, g28, h0⟩ := ob_bd h0
      refine x_callV (ar := 1) (q := (RX11, TX11, 22)) (rest := []) C (c_X11_finds C.2.2.2.2.2.2.1  g28) (iM 0 (by decide)) rfl rfl hy_X11_finds ⟨tw842, tw844, tw34, tw75, tw845⟩ (by decide) (by decide) rfl rfl (Nat.le_of_ble_eq_true rfl) dX11_mean_21 ?_
      show Wx LM K s29 24 [(0, .ref (kad K 0)), (1, .int a1)] [.int r27]
      cases h0
      exact x_iret C R dX11_mean_24
  · replace h0 := ob_pos c3 h0
    refine x_iconst (v := (-1)) C dX11_mean_8 rfl ?_
    cases h0
    exact x_iret C R dX11_mean_9
set_option maxHeartbeats 4000000 in
set_option maxRecDepth 100000 in
theorem c_X11_text {l : Launch} {D : va_G} {ad : Nat → Nat} {cy : Nat → ClassId} (hJ : mJ LM ad) {σ τ : mS} {a1 : Int32} {a2 : Int32} {r : Int32}  (h0 : X11_text σ a1 a2 = some (r, τ)) : MetG l LM D ad cy yX11_text cX11_text 4 (some .int) 2 [.ref (ad 0), .int a1, .int a2] σ (some (.int r)) τ := by
  refine MetG.of hJ (by decide +kernel) [(0, .ref (ad 0)), (1, .int a1), (2, .int a2)] rfl (Nat.le_of_ble_eq_true rfl) ?_
  intro K e1 e2 e3 e4 e5 C R
  subst e1
  subst e2
  subst e3
  subst e4
  unfold X11_text at h0
  refine x_aload_n C 0 dX11_text_0 rfl ?_
  refine x_iload_n C 1 dX11_text_1 rfl ?_
  refine x_callV (ar := 1) (q := (RX11, TX11, 22)) (rest := []) C (c_X11_isText C.2.2.2.2.2.2.1  rfl) (iM 0 (by decide)) rfl rfl hy_X11_isText ⟨tw878, tw880, tw37, tw75, tw881⟩ (by decide) (by decide) rfl rfl (Nat.le_of_ble_eq_true rfl) dX11_text_2 ?_
  show Wx LM K σ 5 [(0, .ref (kad K 0)), (1, .int a1), (2, .int a2)] [.int (X11_isText a1)]
  refine x_ifeq C 14 dX11_text_5 (by decide) (fun c3 => ?_) (fun c3 => ?_)
  · replace h0 := ob_pos c3 h0
    refine x_iconst (v := (-1)) C dX11_text_14 rfl ?_
    cases h0
    exact x_iret C R dX11_text_15
  · replace h0 := ob_neg c3 h0
    refine x_iload_n C 2 dX11_text_8 rfl ?_
    refine x_bipush (v := 60) C dX11_text_9 rfl ?_
    refine x_icmple C 16 dX11_text_11 (by decide) (fun c5 => ?_) (fun c5 => ?_)
    · replace h0 := ob_pos c5 h0
      refine x_iload_n C 2 dX11_text_16 rfl ?_
      refine x_ifge C 26 dX11_text_17 (by decide) (fun c7 => ?_) (fun c7 => ?_)
      · replace h0 := ob_pos c7 h0
        refine x_aload_n C 0 dX11_text_26 rfl ?_
        refine x_getR (j := 3) (i := 19) (q := (RX11, TX11, 22)) C 4 (iM 0 (by decide)) rfl rfl inBX11 (by decide) tw766 rfl dX11_text_27 ?_
        refine x_iload_n C 1 dX11_text_30 rfl ?_
        refine x_iload_n C 2 dX11_text_31 rfl ?_
        obtain ⟨c8, h0⟩ := ob_if h0
        refine x_iast C (iM 4 (by decide)) rfl (vin_in c8) dX11_text_32 ?_
        refine x_iconst (v := 0) C dX11_text_33 rfl ?_
        refine x_istore_n (lv' := [(3, .int 0), (0, .ref (kad K 0)), (1, .int a1), (2, .int a2)]) C dX11_text_34 (by rw [e5]; decide) rfl ?_
        obtain ⟨e15, g16, h0⟩ := ob_bind h0
        have J1 : ∀ (s11 : mS), s11 = e15 → Wx LM K s11 59 [(2, .int a2)] [] := by
          intro s11 e9
          subst e9
          replace h0 := un1_l h0
          refine x_iload_n C 0 dX11_text_59 rfl ?_
          cases h0
          exact x_iret C R dX11_text_60
        refine lp_G (G := fun q : mS × Int32 => Wx LM K q.1 35 [(3, .int q.2), (0, .ref (kad K 0)), (1, .int a1), (2, .int a2)] []) (fun q x h1 ihL1 ihR1 => ?_) big _ g16
        obtain ⟨s9, x10⟩ := q
        replace h1 : X11_text_b35 a1 a2 s9 x10 = some x := h1
        unfold X11_text_b35 at h1
        show Wx LM K s9 35 [(3, .int x10), (0, .ref (kad K 0)), (1, .int a1), (2, .int a2)] []
        refine x_iload_n C 0 dX11_text_35 rfl ?_
        refine x_iload_n C 3 dX11_text_36 rfl ?_
        refine x_icmpge C 59 dX11_text_37 (by decide) (fun c13 => ?_) (fun c13 => ?_)
        · replace h1 := ob_pos c13 h1
          refine x_lv (lv' := [(2, .int a2)]) [3] rfl ?_
          exact J1 _ (ihR1 _ (Option.some.inj h1).symm)
        · replace h1 := ob_neg c13 h1
          refine x_aload_n C 1 dX11_text_40 rfl ?_
          refine x_getR (j := 4) (i := 22) (q := (RX11, TX11, 22)) C 5 (iM 0 (by decide)) rfl rfl inBX11 (by decide) tw767 rfl dX11_text_41 ?_
          refine x_bipush (v := 60) C dX11_text_44 rfl ?_
          refine x_iload_n C 2 dX11_text_46 rfl ?_
          refine x_imul C dX11_text_47 ?_
          refine x_iload_n C 0 dX11_text_48 rfl ?_
          refine x_iadd C dX11_text_49 ?_
          refine x_bipush (v := 32) C dX11_text_50 rfl ?_
          obtain ⟨c14, h1⟩ := ob_if h1
          refine x_bast C (iM 5 (by decide)) rfl (vin_in c14) dX11_text_52 ?_
          refine x_iinc (v := (x10 + 1)) (lv' := [(3, .int (x10 + 1)), (0, .ref (kad K 0)), (1, .int a1), (2, .int a2)]) C 0 dX11_text_53 rfl rfl (by rw [e5]; decide) rfl ?_
          refine x_goto C 35 dX11_text_56 (by decide) ?_
          refine x_lv (lv' := [(3, .int (x10 + 1)), (0, .ref (kad K 0)), (1, .int a1), (2, .int a2)]) [0, 1, 2, 3] rfl ?_
          exact ihL1 _ (Option.some.inj h1).symm
      · replace h0 := ob_neg c7 h0
        refine x_aload_n C 0 dX11_text_20 rfl ?_
        refine x_iconst (v := 5) C dX11_text_21 rfl ?_
        obtain ⟨r17, s19, g18, h0⟩ := ob_bd h0
        refine x_callV (ar := 1) (q := (RX11, TX11, 22)) (rest := []) C (c_X11_finds C.2.2.2.2.2.2.1  g18) (iM 0 (by decide)) rfl rfl hy_X11_finds ⟨tw842, tw844, tw34, tw75, tw845⟩ (by decide) (by decide) rfl rfl (Nat.le_of_ble_eq_true rfl) dX11_text_22 ?_
        show Wx LM K s19 25 [(0, .ref (kad K 0)), (1, .int a1), (2, .int a2)] [.int r17]
        cases h0
        exact x_iret C R dX11_text_25
    · replace h0 := ob_neg c5 h0
      refine x_iconst (v := (-1)) C dX11_text_14 rfl ?_
      cases h0
      exact x_iret C R dX11_text_15
set_option maxHeartbeats 4000000 in
set_option maxRecDepth 100000 in
theorem c_X11_put {l : Launch} {D : va_G} {ad : Nat → Nat} {cy : Nat → ClassId} (hJ : mJ LM ad) {σ τ : mS} {a1 : Int32} {a2 : Int32} {a3 : Int32} {r : Int32}  (h0 : X11_put σ a1 a2 a3 = some (r, τ)) : MetG l LM D ad cy yX11_put cX11_put 5 (some .int) 2 [.ref (ad 0), .int a1, .int a2, .int a3] σ (some (.int r)) τ := by
  refine MetG.of hJ (by decide +kernel) [(0, .ref (ad 0)), (1, .int a1), (2, .int a2), (3, .int a3)] rfl (Nat.le_of_ble_eq_true rfl) ?_
  intro K e1 e2 e3 e4 e5 C R
  subst e1
  subst e2
  subst e3
  subst e4
  unfold X11_put at h0
  refine x_aload_n C 0 dX11_put_0 rfl ?_
  refine x_iload_n C 1 dX11_put_1 rfl ?_
  refine x_callV (ar := 1) (q := (RX11, TX11, 22)) (rest := []) C (c_X11_isText C.2.2.2.2.2.2.1  rfl) (iM 0 (by decide)) rfl rfl hy_X11_isText ⟨tw878, tw880, tw37, tw75, tw881⟩ (by decide) (by decide) rfl rfl (Nat.le_of_ble_eq_true rfl) dX11_put_2 ?_
  show Wx LM K σ 5 [(0, .ref (kad K 0)), (1, .int a1), (2, .int a2), (3, .int a3)] [.int (X11_isText a1)]
  refine x_ifne C 10 dX11_put_5 (by decide) (fun c3 => ?_) (fun c3 => ?_)
  · replace h0 := ob_neg c3 h0
    refine x_aload_n C 0 dX11_put_10 rfl ?_
    refine x_getR (j := 3) (i := 19) (q := (RX11, TX11, 22)) C 4 (iM 0 (by decide)) rfl rfl inBX11 (by decide) tw766 rfl dX11_put_11 ?_
    refine x_iload_n C 1 dX11_put_14 rfl ?_
    obtain ⟨c4, h0⟩ := ob_if h0
    refine x_iald C (iM 4 (by decide)) rfl (vin_in c4) dX11_put_15 ?_
    refine x_ifge C 25 dX11_put_16 (by decide) (fun c6 => ?_) (fun c6 => ?_)
    · replace h0 := ob_pos c6 h0
      refine x_iload_n C 2 dX11_put_25 rfl ?_
      refine x_i2l C dX11_put_26 ?_
      refine x_lconst (v := 0) C dX11_put_27 rfl ?_
      refine x_aload_n C 0 dX11_put_28 rfl ?_
      refine x_getR (j := 3) (i := 19) (q := (RX11, TX11, 22)) C 4 (iM 0 (by decide)) rfl rfl inBX11 (by decide) tw766 rfl dX11_put_29 ?_
      refine x_iload_n C 1 dX11_put_32 rfl ?_
      obtain ⟨c7, h0⟩ := ob_if h0
      refine x_iald C (iM 4 (by decide)) rfl (vin_in c7) dX11_put_33 ?_
      refine x_iconst (v := 1) C dX11_put_34 rfl ?_
      refine x_isub C dX11_put_35 ?_
      refine x_i2l C dX11_put_36 ?_
      refine x_callS (ar := 3) (rest := []) C (c_X11_in C.2.2.2.2.2.2.1  rfl) hy_X11_in ⟨tw839, tw840, tw75, tw841⟩ (by decide) (by decide) rfl rfl (Nat.le_of_ble_eq_true rfl) dX11_put_37 ?_
      show Wx LM K σ 40 [(0, .ref (kad K 0)), (1, .int a1), (2, .int a2), (3, .int a3)] [.int (X11_in ((a2).toInt64) (0) ((((σ.1 4 a1.toNatClampNeg) - 1)).toInt64))]
      refine x_ifne C 49 dX11_put_40 (by decide) (fun c10 => ?_) (fun c10 => ?_)
      · replace h0 := ob_neg c10 h0
        refine x_aload_n C 0 dX11_put_49 rfl ?_
        refine x_getR (j := 4) (i := 22) (q := (RX11, TX11, 22)) C 5 (iM 0 (by decide)) rfl rfl inBX11 (by decide) tw767 rfl dX11_put_50 ?_
        refine x_bipush (v := 60) C dX11_put_53 rfl ?_
        refine x_iload_n C 1 dX11_put_55 rfl ?_
        refine x_imul C dX11_put_56 ?_
        refine x_iload_n C 2 dX11_put_57 rfl ?_
        refine x_iadd C dX11_put_58 ?_
        obtain ⟨c11, h0⟩ := ob_if h0
        refine x_bald C (iM 5 (by decide)) rfl (vin_in c11) dX11_put_59 ?_
        refine x_istore (lv' := [(4, .int (σ.1 5 (((60 : Int32) * a1) + a2).toNatClampNeg)), (0, .ref (kad K 0)), (1, .int a1), (2, .int a2), (3, .int a3)]) C dX11_put_60 (by rw [e5]; decide) rfl ?_
        refine x_aload_n C 1 dX11_put_62 rfl ?_
        refine x_getR (j := 4) (i := 22) (q := (RX11, TX11, 22)) C 5 (iM 0 (by decide)) rfl rfl inBX11 (by decide) tw767 rfl dX11_put_63 ?_
        refine x_bipush (v := 60) C dX11_put_66 rfl ?_
        refine x_iload_n C 2 dX11_put_68 rfl ?_
        refine x_imul C dX11_put_69 ?_
        refine x_iload_n C 3 dX11_put_70 rfl ?_
        refine x_iadd C dX11_put_71 ?_
        refine x_iload_n C 4 dX11_put_72 rfl ?_
        refine x_i2b C dX11_put_73 ?_
        obtain ⟨c12, h0⟩ := ob_if h0
        refine x_bast C (iM 5 (by decide)) rfl (vin_in c12) dX11_put_74 ?_
        refine x_iload C 0 dX11_put_75 rfl ?_
        refine x_sipush (v := 1000) C dX11_put_77 rfl ?_
        refine x_iadd C dX11_put_80 ?_
        cases h0
        exact x_iret C R dX11_put_81
      · replace h0 := ob_pos c10 h0
        refine x_aload_n C 0 dX11_put_43 rfl ?_
        refine x_iconst (v := 2) C dX11_put_44 rfl ?_
        obtain ⟨r13, s15, g14, h0⟩ := ob_bd h0
        refine x_callV (ar := 1) (q := (RX11, TX11, 22)) (rest := []) C (c_X11_finds C.2.2.2.2.2.2.1  g14) (iM 0 (by decide)) rfl rfl hy_X11_finds ⟨tw842, tw844, tw34, tw75, tw845⟩ (by decide) (by decide) rfl rfl (Nat.le_of_ble_eq_true rfl) dX11_put_45 ?_
        show Wx LM K s15 48 [(0, .ref (kad K 0)), (1, .int a1), (2, .int a2), (3, .int a3)] [.int r13]
        cases h0
        exact x_iret C R dX11_put_48
    · replace h0 := ob_neg c6 h0
      refine x_aload_n C 0 dX11_put_19 rfl ?_
      refine x_iconst (v := 1) C dX11_put_20 rfl ?_
      obtain ⟨r16, s18, g17, h0⟩ := ob_bd h0
      refine x_callV (ar := 1) (q := (RX11, TX11, 22)) (rest := []) C (c_X11_finds C.2.2.2.2.2.2.1  g17) (iM 0 (by decide)) rfl rfl hy_X11_finds ⟨tw842, tw844, tw34, tw75, tw845⟩ (by decide) (by decide) rfl rfl (Nat.le_of_ble_eq_true rfl) dX11_put_21 ?_
      show Wx LM K s18 24 [(0, .ref (kad K 0)), (1, .int a1), (2, .int a2), (3, .int a3)] [.int r16]
      cases h0
      exact x_iret C R dX11_put_24
  · replace h0 := ob_pos c3 h0
    refine x_iconst (v := (-1)) C dX11_put_8 rfl ?_
    cases h0
    exact x_iret C R dX11_put_9
set_option maxHeartbeats 4000000 in
set_option maxRecDepth 100000 in
theorem c_X11_kindOf {l : Launch} {D : va_G} {ad : Nat → Nat} {cy : Nat → ClassId} (hJ : mJ LM ad) {σ : mS} {a1 : Int32} {r : Int32}  (h0 : X11_kindOf a1 = r) : MetG l LM D ad cy yX11_kindOf cX11_kindOf 1 (some .int) 0 [.int a1] σ (some (.int r)) σ := by
  refine MetG.of hJ (by decide +kernel) [(0, .int a1)] rfl (Nat.le_of_ble_eq_true rfl) ?_
  intro K e1 e2 e3 e4 e5 C R
  subst e1
  subst e2
  subst e3
  subst e4
  unfold X11_kindOf at h0
  refine x_iload_n C 0 dX11_kindOf_0 rfl ?_
  refine x_bipush (v := 112) C dX11_kindOf_1 rfl ?_
  refine x_icmpne C 10 dX11_kindOf_3 (by decide) (fun c2 => ?_) (fun c2 => ?_)
  · replace h0 := ob_neg c2 h0
    refine x_iload_n C 0 dX11_kindOf_10 rfl ?_
    refine x_bipush (v := 119) C dX11_kindOf_11 rfl ?_
    refine x_icmpne C 20 dX11_kindOf_13 (by decide) (fun c4 => ?_) (fun c4 => ?_)
    · replace h0 := ob_neg c4 h0
      refine x_iload_n C 0 dX11_kindOf_20 rfl ?_
      refine x_bipush (v := 100) C dX11_kindOf_21 rfl ?_
      refine x_icmpne C 30 dX11_kindOf_23 (by decide) (fun c6 => ?_) (fun c6 => ?_)
      · replace h0 := ob_neg c6 h0
        refine x_iload_n C 0 dX11_kindOf_30 rfl ?_
        refine x_bipush (v := 104) C dX11_kindOf_31 rfl ?_
        refine x_icmpne C 40 dX11_kindOf_33 (by decide) (fun c8 => ?_) (fun c8 => ?_)
        · replace h0 := ob_neg c8 h0
          refine x_iload_n C 0 dX11_kindOf_40 rfl ?_
          refine x_bipush (v := 108) C dX11_kindOf_41 rfl ?_
          refine x_icmpne C 50 dX11_kindOf_43 (by decide) (fun c10 => ?_) (fun c10 => ?_)
          · replace h0 := ob_neg c10 h0
            refine x_iload_n C 0 dX11_kindOf_50 rfl ?_
            refine x_bipush (v := 115) C dX11_kindOf_51 rfl ?_
            refine x_icmpne C 60 dX11_kindOf_53 (by decide) (fun c12 => ?_) (fun c12 => ?_)
            · replace h0 := ob_neg c12 h0
              refine x_iconst (v := (-1)) C dX11_kindOf_60 rfl ?_
              subst h0
              exact x_iret C R dX11_kindOf_61
            · replace h0 := ob_pos c12 h0
              refine x_iconst (v := 5) C dX11_kindOf_56 rfl ?_
              refine x_goto C 61 dX11_kindOf_57 (by decide) ?_
              subst h0
              exact x_iret C R dX11_kindOf_61
          · replace h0 := ob_pos c10 h0
            refine x_iconst (v := 4) C dX11_kindOf_46 rfl ?_
            refine x_goto C 61 dX11_kindOf_47 (by decide) ?_
            subst h0
            exact x_iret C R dX11_kindOf_61
        · replace h0 := ob_pos c8 h0
          refine x_iconst (v := 3) C dX11_kindOf_36 rfl ?_
          refine x_goto C 61 dX11_kindOf_37 (by decide) ?_
          subst h0
          exact x_iret C R dX11_kindOf_61
      · replace h0 := ob_pos c6 h0
        refine x_iconst (v := 2) C dX11_kindOf_26 rfl ?_
        refine x_goto C 61 dX11_kindOf_27 (by decide) ?_
        subst h0
        exact x_iret C R dX11_kindOf_61
    · replace h0 := ob_pos c4 h0
      refine x_iconst (v := 1) C dX11_kindOf_16 rfl ?_
      refine x_goto C 61 dX11_kindOf_17 (by decide) ?_
      subst h0
      exact x_iret C R dX11_kindOf_61
  · replace h0 := ob_pos c2 h0
    refine x_iconst (v := 0) C dX11_kindOf_6 rfl ?_
    refine x_goto C 61 dX11_kindOf_7 (by decide) ?_
    subst h0
    exact x_iret C R dX11_kindOf_61
set_option maxHeartbeats 4000000 in
set_option maxRecDepth 100000 in
theorem c_X11_isFigure {l : Launch} {D : va_G} {ad : Nat → Nat} {cy : Nat → ClassId} (hJ : mJ LM ad) {σ : mS} {a1 : Int32} {a2 : Int32} {r : Int32}  (h0 : X11_isFigure σ a1 a2 = some r) : MetG l LM D ad cy yX11_isFigure cX11_isFigure 3 (some .boolean) 1 [.ref (ad 0), .int a1, .int a2] σ (some (.int r)) σ := by
  refine MetG.of hJ (by decide +kernel) [(0, .ref (ad 0)), (1, .int a1), (2, .int a2)] rfl (Nat.le_of_ble_eq_true rfl) ?_
  intro K e1 e2 e3 e4 e5 C R
  subst e1
  subst e2
  subst e3
  subst e4
  unfold X11_isFigure at h0
  refine x_aload_n C 0 dX11_isFigure_0 rfl ?_
  refine x_getR (j := 4) (i := 22) (q := (RX11, TX11, 22)) C 5 (iM 0 (by decide)) rfl rfl inBX11 (by decide) tw767 rfl dX11_isFigure_1 ?_
  refine x_bipush (v := 60) C dX11_isFigure_4 rfl ?_
  refine x_iload_n C 1 dX11_isFigure_6 rfl ?_
  refine x_imul C dX11_isFigure_7 ?_
  refine x_iload_n C 2 dX11_isFigure_8 rfl ?_
  refine x_iadd C dX11_isFigure_9 ?_
  obtain ⟨c1, h0⟩ := ob_if h0
  refine x_bald C (iM 5 (by decide)) rfl (vin_in c1) dX11_isFigure_10 ?_
  refine x_i2l C dX11_isFigure_11 ?_
  refine x_ldc2 C tw906 dX11_isFigure_12 ?_
  refine x_ldc2 C tw907 dX11_isFigure_15 ?_
  refine x_callS (ar := 3) (rest := []) C (c_X11_in C.2.2.2.2.2.2.1  rfl) hy_X11_in ⟨tw839, tw840, tw75, tw841⟩ (by decide) (by decide) rfl rfl (Nat.le_of_ble_eq_true rfl) dX11_isFigure_18 ?_
  show Wx LM K σ 21 [(0, .ref (kad K 0)), (1, .int a1), (2, .int a2)] [.int (X11_in (((σ.1 5 (((60 : Int32) * a1) + a2).toNatClampNeg)).toInt64) (48) (57))]
  cases h0
  exact x_zret C (zb_X11_in ..) R dX11_isFigure_21
set_option maxHeartbeats 4000000 in
set_option maxRecDepth 100000 in
theorem c_X11_isOn {l : Launch} {D : va_G} {ad : Nat → Nat} {cy : Nat → ClassId} (hJ : mJ LM ad) {σ : mS} {a1 : Int32} {a2 : Int32} {a3 : Int32} {r : Int32}  (h0 : X11_isOn σ a1 a2 a3 = some r) : MetG l LM D ad cy yX11_isOn cX11_isOn 6 (some .boolean) 0 [.ref (ad 0), .int a1, .int a2, .int a3] σ (some (.int r)) σ := by
  refine MetG.of hJ (by decide +kernel) [(0, .ref (ad 0)), (1, .int a1), (2, .int a2), (3, .int a3)] rfl (Nat.le_of_ble_eq_true rfl) ?_
  intro K e1 e2 e3 e4 e5 C R
  subst e1
  subst e2
  subst e3
  subst e4
  unfold X11_isOn at h0
  refine x_iconst (v := 0) C dX11_isOn_0 rfl ?_
  refine x_istore (lv' := [(4, .int 0), (0, .ref (kad K 0)), (1, .int a1), (2, .int a2), (3, .int a3)]) C dX11_isOn_1 (by rw [e5]; decide) rfl ?_
  refine x_iconst (v := 0) C dX11_isOn_3 rfl ?_
  refine x_istore (lv' := [(5, .int 0), (4, .int 0), (0, .ref (kad K 0)), (1, .int a1), (2, .int a2), (3, .int a3)]) C dX11_isOn_4 (by rw [e5]; decide) rfl ?_
  obtain ⟨e12, g13, h0⟩ := ob_bind h0
  have J1 : ∀ (y3 : Int32), y3 = e12 → Wx LM K σ 46 [(4, .int y3)] [] := by
    intro y3 e9
    subst e9
    replace h0 := un1_l h0
    refine x_iload C 0 dX11_isOn_46 rfl ?_
    obtain ⟨c4, h0⟩ := ob_if h0
    cases h0
    exact x_zret C c4 R dX11_isOn_48
  refine lp_G (G := fun q : Int32 × Int32 => Wx LM K σ 6 [(5, .int q.2), (4, .int q.1), (0, .ref (kad K 0)), (1, .int a1), (2, .int a2), (3, .int a3)] []) (fun q x h1 ihL1 ihR1 => ?_) big _ g13
  obtain ⟨x1, x2⟩ := q
  replace h1 : X11_isOn_b6 σ a1 a2 a3 x1 x2 = some x := h1
  unfold X11_isOn_b6 at h1
  show Wx LM K σ 6 [(5, .int x2), (4, .int x1), (0, .ref (kad K 0)), (1, .int a1), (2, .int a2), (3, .int a3)] []
  refine x_iload C 0 dX11_isOn_6 rfl ?_
  refine x_iload_n C 4 dX11_isOn_8 rfl ?_
  refine x_icmpge C 46 dX11_isOn_9 (by decide) (fun c6 => ?_) (fun c6 => ?_)
  · replace h1 := ob_pos c6 h1
    refine x_lv (lv' := [(4, .int x1)]) [1] rfl ?_
    exact J1 _ (ihR1 _ (Option.some.inj h1).symm)
  · replace h1 := ob_neg c6 h1
    refine x_iload C 1 dX11_isOn_12 rfl ?_
    refine x_ifne C 33 dX11_isOn_14 (by decide) (fun c8 => ?_) (fun c8 => ?_)
    · replace h1 := ob_neg c8 h1
      refine x_iconst (v := 1) C dX11_isOn_33 rfl ?_
      refine x_goto C 38 dX11_isOn_34 (by decide) ?_
      refine x_istore (lv' := [(4, .int 1), (5, .int x2), (0, .ref (kad K 0)), (1, .int a1), (2, .int a2), (3, .int a3)]) C dX11_isOn_38 (by rw [e5]; decide) rfl ?_
      refine x_iinc (v := (x2 + 1)) (lv' := [(5, .int (x2 + 1)), (4, .int 1), (0, .ref (kad K 0)), (1, .int a1), (2, .int a2), (3, .int a3)]) C 1 dX11_isOn_40 rfl rfl (by rw [e5]; decide) rfl ?_
      refine x_goto C 6 dX11_isOn_43 (by decide) ?_
      refine x_lv (lv' := [(5, .int (x2 + 1)), (4, .int 1), (0, .ref (kad K 0)), (1, .int a1), (2, .int a2), (3, .int a3)]) [0, 1, 2, 3, 4, 5] rfl ?_
      exact ihL1 _ (Option.some.inj h1).symm
    · replace h1 := ob_pos c8 h1
      refine x_aload_n C 2 dX11_isOn_17 rfl ?_
      refine x_getR (j := 10) (i := 35) (q := (RX11, TX11, 22)) C 9 (iM 0 (by decide)) rfl rfl inBX11 (by decide) tw773 rfl dX11_isOn_18 ?_
      refine x_bipush (v := 6) C dX11_isOn_21 rfl ?_
      refine x_iload_n C 3 dX11_isOn_23 rfl ?_
      refine x_imul C dX11_isOn_24 ?_
      refine x_iload C 0 dX11_isOn_25 rfl ?_
      refine x_iadd C dX11_isOn_27 ?_
      obtain ⟨c9, h1⟩ := ob_if h1
      refine x_iald C (iM 9 (by decide)) rfl (vin_in c9) dX11_isOn_28 ?_
      refine x_iload_n C 5 dX11_isOn_29 rfl ?_
      refine x_icmpne C 37 dX11_isOn_30 (by decide) (fun c11 => ?_) (fun c11 => ?_)
      · replace h1 := ob_neg c11 h1
        refine x_iconst (v := 0) C dX11_isOn_37 rfl ?_
        refine x_istore (lv' := [(4, .int 0), (5, .int x2), (0, .ref (kad K 0)), (1, .int a1), (2, .int a2), (3, .int a3)]) C dX11_isOn_38 (by rw [e5]; decide) rfl ?_
        refine x_iinc (v := (x2 + 1)) (lv' := [(5, .int (x2 + 1)), (4, .int 0), (0, .ref (kad K 0)), (1, .int a1), (2, .int a2), (3, .int a3)]) C 1 dX11_isOn_40 rfl rfl (by rw [e5]; decide) rfl ?_
        refine x_goto C 6 dX11_isOn_43 (by decide) ?_
        refine x_lv (lv' := [(5, .int (x2 + 1)), (4, .int 0), (0, .ref (kad K 0)), (1, .int a1), (2, .int a2), (3, .int a3)]) [0, 1, 2, 3, 4, 5] rfl ?_
        exact ihL1 _ (Option.some.inj h1).symm
      · replace h1 := ob_pos c11 h1
        refine x_iconst (v := 1) C dX11_isOn_33 rfl ?_
        refine x_goto C 38 dX11_isOn_34 (by decide) ?_
        refine x_istore (lv' := [(4, .int 1), (5, .int x2), (0, .ref (kad K 0)), (1, .int a1), (2, .int a2), (3, .int a3)]) C dX11_isOn_38 (by rw [e5]; decide) rfl ?_
        refine x_iinc (v := (x2 + 1)) (lv' := [(5, .int (x2 + 1)), (4, .int 1), (0, .ref (kad K 0)), (1, .int a1), (2, .int a2), (3, .int a3)]) C 1 dX11_isOn_40 rfl rfl (by rw [e5]; decide) rfl ?_
        refine x_goto C 6 dX11_isOn_43 (by decide) ?_
        refine x_lv (lv' := [(5, .int (x2 + 1)), (4, .int 1), (0, .ref (kad K 0)), (1, .int a1), (2, .int a2), (3, .int a3)]) [0, 1, 2, 3, 4, 5] rfl ?_
        exact ihL1 _ (Option.some.inj h1).symm
set_option maxHeartbeats 4000000 in
set_option maxRecDepth 100000 in
theorem c_X11_numbers {l : Launch} {D : va_G} {ad : Nat → Nat} {cy : Nat → ClassId} (hJ : mJ LM ad) {σ τ : mS} {a1 : Int32} {a2 : Int32} {a3 : Int32} {r : Int32}  (h0 : X11_numbers σ a1 a2 a3 = some (r, τ)) : MetG l LM D ad cy yX11_numbers cX11_numbers 7 (some .int) 2 [.ref (ad 0), .int a1, .int a2, .int a3] σ (some (.int r)) τ := by
  refine MetG.of hJ (by decide +kernel) [(0, .ref (ad 0)), (1, .int a1), (2, .int a2), (3, .int a3)] rfl (Nat.le_of_ble_eq_true rfl) ?_
  intro K e1 e2 e3 e4 e5 C R
  subst e1
  subst e2
  subst e3
  subst e4
  unfold X11_numbers at h0
  refine x_iconst (v := 0) C dX11_numbers_0 rfl ?_
  refine x_istore (lv' := [(4, .int 0), (0, .ref (kad K 0)), (1, .int a1), (2, .int a2), (3, .int a3)]) C dX11_numbers_1 (by rw [e5]; decide) rfl ?_
  obtain ⟨e32, g33, h0⟩ := ob_bind h0
  have J1 : ∀ (s3 : mS), .inl s3 = e32 → Wx LM K s3 161 [] [] := by
    intro s3 e9
    subst e9
    replace h0 := sm1_l h0
    refine x_bipush (v := (-9)) C dX11_numbers_161 rfl ?_
    cases h0
    exact x_iret C R dX11_numbers_163
  refine lp_G (G := fun q : mS × Int32 => Wx LM K q.1 3 [(4, .int q.2), (0, .ref (kad K 0)), (1, .int a1), (2, .int a2), (3, .int a3)] []) (fun q x h1 ihL1 ihR1 => ?_) big _ g33
  obtain ⟨s1, x2⟩ := q
  replace h1 : X11_numbers_b3 a1 a2 a3 s1 x2 = some x := h1
  unfold X11_numbers_b3 at h1
  show Wx LM K s1 3 [(4, .int x2), (0, .ref (kad K 0)), (1, .int a1), (2, .int a2), (3, .int a3)] []
  refine x_iload C 0 dX11_numbers_3 rfl ?_
  refine x_bipush (v := 6) C dX11_numbers_5 rfl ?_
  refine x_icmpge C 161 dX11_numbers_7 (by decide) (fun c5 => ?_) (fun c5 => ?_)
  · replace h1 := ob_pos c5 h1
    refine x_lv (lv' := []) [] rfl ?_
    exact J1 _ (ihR1 _ (Option.some.inj h1).symm)
  · replace h1 := ob_neg c5 h1
    refine x_iload_n C 4 dX11_numbers_10 rfl ?_
    refine x_iconst (v := 2) C dX11_numbers_11 rfl ?_
    refine x_iload C 0 dX11_numbers_12 rfl ?_
    refine x_imul C dX11_numbers_14 ?_
    refine x_iadd C dX11_numbers_15 ?_
    refine x_istore (lv' := [(5, .int (a3 + ((2 : Int32) * x2))), (4, .int x2), (0, .ref (kad K 0)), (1, .int a1), (2, .int a2), (3, .int a3)]) C dX11_numbers_16 (by rw [e5]; decide) rfl ?_
    refine x_iconst (v := 0) C dX11_numbers_18 rfl ?_
    refine x_istore (lv' := [(6, .int 0), (5, .int (a3 + ((2 : Int32) * x2))), (4, .int x2), (0, .ref (kad K 0)), (1, .int a1), (2, .int a2), (3, .int a3)]) C dX11_numbers_19 (by rw [e5]; decide) rfl ?_
    obtain ⟨e30, g31, h1⟩ := ob_bind h1
    have J2 : ∀ (u9 : Unit), .inl u9 = e30 → Wx LM K s1 75 [(5, .int (a3 + ((2 : Int32) * x2))), (4, .int x2), (0, .ref (kad K 0)), (1, .int a1), (2, .int a2), (3, .int a3)] [] := by
      intro u9 e9
      subst e9
      replace h1 := sm1_l h1
      refine x_bipush (v := 10) C dX11_numbers_75 rfl ?_
      refine x_aload_n C 2 dX11_numbers_77 rfl ?_
      refine x_getR (j := 4) (i := 22) (q := (RX11, TX11, 22)) C 5 (iM 0 (by decide)) rfl rfl inBX11 (by decide) tw767 rfl dX11_numbers_78 ?_
      refine x_bipush (v := 60) C dX11_numbers_81 rfl ?_
      refine x_iload_n C 3 dX11_numbers_83 rfl ?_
      refine x_imul C dX11_numbers_84 ?_
      refine x_iload C 0 dX11_numbers_85 rfl ?_
      refine x_iadd C dX11_numbers_87 ?_
      obtain ⟨c7, h1⟩ := ob_if h1
      refine x_bald C (iM 5 (by decide)) rfl (vin_in c7) dX11_numbers_88 ?_
      refine x_bipush (v := 48) C dX11_numbers_89 rfl ?_
      refine x_isub C dX11_numbers_91 ?_
      refine x_imul C dX11_numbers_92 ?_
      refine x_aload_n C 2 dX11_numbers_93 rfl ?_
      refine x_getR (j := 4) (i := 22) (q := (RX11, TX11, 22)) C 5 (iM 0 (by decide)) rfl rfl inBX11 (by decide) tw767 rfl dX11_numbers_94 ?_
      refine x_bipush (v := 60) C dX11_numbers_97 rfl ?_
      refine x_iload_n C 3 dX11_numbers_99 rfl ?_
      refine x_imul C dX11_numbers_100 ?_
      refine x_iload C 0 dX11_numbers_101 rfl ?_
      refine x_iadd C dX11_numbers_103 ?_
      refine x_iconst (v := 1) C dX11_numbers_104 rfl ?_
      refine x_iadd C dX11_numbers_105 ?_
      obtain ⟨c8, h1⟩ := ob_if h1
      refine x_bald C (iM 5 (by decide)) rfl (vin_in c8) dX11_numbers_106 ?_
      refine x_iadd C dX11_numbers_107 ?_
      refine x_bipush (v := 48) C dX11_numbers_108 rfl ?_
      refine x_isub C dX11_numbers_110 ?_
      refine x_istore (lv' := [(6, .int ((((10 : Int32) * ((s1.1 5 (((60 : Int32) * a1) + (a3 + ((2 : Int32) * x2))).toNatClampNeg) - 48)) + (s1.1 5 ((((60 : Int32) * a1) + (a3 + ((2 : Int32) * x2))) + 1).toNatClampNeg)) - 48)), (5, .int (a3 + ((2 : Int32) * x2))), (4, .int x2), (0, .ref (kad K 0)), (1, .int a1), (2, .int a2), (3, .int a3)]) C dX11_numbers_111 (by rw [e5]; decide) rfl ?_
      refine x_iload C 0 dX11_numbers_113 rfl ?_
      refine x_i2l C dX11_numbers_115 ?_
      refine x_lconst (v := 1) C dX11_numbers_116 rfl ?_
      refine x_ldc2 C tw911 dX11_numbers_117 ?_
      refine x_callS (ar := 3) (rest := []) C (c_X11_in C.2.2.2.2.2.2.1  rfl) hy_X11_in ⟨tw839, tw840, tw75, tw841⟩ (by decide) (by decide) rfl rfl (Nat.le_of_ble_eq_true rfl) dX11_numbers_120 ?_
      show Wx LM K s1 123 [(6, .int ((((10 : Int32) * ((s1.1 5 (((60 : Int32) * a1) + (a3 + ((2 : Int32) * x2))).toNatClampNeg) - 48)) + (s1.1 5 ((((60 : Int32) * a1) + (a3 + ((2 : Int32) * x2))) + 1).toNatClampNeg)) - 48)), (5, .int (a3 + ((2 : Int32) * x2))), (4, .int x2), (0, .ref (kad K 0)), (1, .int a1), (2, .int a2), (3, .int a3)] [.int (X11_in ((((((10 : Int32) * ((s1.1 5 (((60 : Int32) * a1) + (a3 + ((2 : Int32) * x2))).toNatClampNeg) - 48)) + (s1.1 5 ((((60 : Int32) * a1) + (a3 + ((2 : Int32) * x2))) + 1).toNatClampNeg)) - 48)).toInt64) (1) (12))]
      refine x_ifeq C 138 dX11_numbers_123 (by decide) (fun c11 => ?_) (fun c11 => ?_)
      · replace h1 := ob_pos c11 h1
        refine x_iload C 1 dX11_numbers_138 rfl ?_
        have e19 := ihR1 _ (Option.some.inj h1).symm
        subst e19
        replace h0 := sm1_r h0
        cases h0
        exact x_iret C R dX11_numbers_140
      · replace h1 := ob_neg c11 h1
        refine x_aload_n C 3 dX11_numbers_126 rfl ?_
        refine x_iload_n C 5 dX11_numbers_127 rfl ?_
        refine x_iload C 2 dX11_numbers_128 rfl ?_
        refine x_iload C 0 dX11_numbers_130 rfl ?_
        obtain ⟨r12, g13, h1⟩ := ob_bind h1
        refine x_callV (ar := 3) (q := (RX11, TX11, 22)) (rest := []) C (c_X11_isOn C.2.2.2.2.2.2.1  g13) (iM 0 (by decide)) rfl rfl hy_X11_isOn ⟨tw912, tw914, tw41, tw75, tw915⟩ (by decide) (by decide) rfl rfl (Nat.le_of_ble_eq_true rfl) dX11_numbers_132 ?_
        show Wx LM K s1 135 [(6, .int ((((10 : Int32) * ((s1.1 5 (((60 : Int32) * a1) + (a3 + ((2 : Int32) * x2))).toNatClampNeg) - 48)) + (s1.1 5 ((((60 : Int32) * a1) + (a3 + ((2 : Int32) * x2))) + 1).toNatClampNeg)) - 48)), (5, .int (a3 + ((2 : Int32) * x2))), (4, .int x2), (0, .ref (kad K 0)), (1, .int a1), (2, .int a2), (3, .int a3)] [.int r12]
        refine x_ifeq C 141 dX11_numbers_135 (by decide) (fun c15 => ?_) (fun c15 => ?_)
        · replace h1 := ob_pos c15 h1
          refine x_aload_n C 3 dX11_numbers_141 rfl ?_
          refine x_getR (j := 10) (i := 35) (q := (RX11, TX11, 22)) C 9 (iM 0 (by decide)) rfl rfl inBX11 (by decide) tw773 rfl dX11_numbers_142 ?_
          refine x_bipush (v := 6) C dX11_numbers_145 rfl ?_
          refine x_iload_n C 5 dX11_numbers_147 rfl ?_
          refine x_imul C dX11_numbers_148 ?_
          refine x_iload C 2 dX11_numbers_149 rfl ?_
          refine x_iadd C dX11_numbers_151 ?_
          refine x_iload C 0 dX11_numbers_152 rfl ?_
          obtain ⟨c16, h1⟩ := ob_if h1
          refine x_iast C (iM 9 (by decide)) rfl (vin_in c16) dX11_numbers_154 ?_
          refine x_iinc (v := (x2 + 1)) (lv' := [(4, .int (x2 + 1)), (6, .int ((((10 : Int32) * ((s1.1 5 (((60 : Int32) * a1) + (a3 + ((2 : Int32) * x2))).toNatClampNeg) - 48)) + (s1.1 5 ((((60 : Int32) * a1) + (a3 + ((2 : Int32) * x2))) + 1).toNatClampNeg)) - 48)), (5, .int (a3 + ((2 : Int32) * x2))), (0, .ref (kad K 0)), (1, .int a1), (2, .int a2), (3, .int a3)]) C 2 dX11_numbers_155 rfl rfl (by rw [e5]; decide) rfl ?_
          refine x_goto C 3 dX11_numbers_158 (by decide) ?_
          refine x_lv (lv' := [(4, .int (x2 + 1)), (0, .ref (kad K 0)), (1, .int a1), (2, .int a2), (3, .int a3)]) [0, 3, 4, 5, 6] rfl ?_
          exact ihL1 _ (Option.some.inj h1).symm
        · replace h1 := ob_neg c15 h1
          refine x_iload C 1 dX11_numbers_138 rfl ?_
          have e19 := ihR1 _ (Option.some.inj h1).symm
          subst e19
          replace h0 := sm1_r h0
          cases h0
          exact x_iret C R dX11_numbers_140
    refine lp_G (G := fun q : Int32 => Wx LM K s1 21 [(6, .int q), (5, .int (a3 + ((2 : Int32) * x2))), (4, .int x2), (0, .ref (kad K 0)), (1, .int a1), (2, .int a2), (3, .int a3)] []) (fun q x h2 ihL2 ihR2 => ?_) big _ g31
    obtain ⟨x6, rfl⟩ : ∃ z, z = q := ⟨_, rfl⟩
    replace h2 : X11_numbers_b21 a1 a3 s1 x2 x6 = some x := h2
    unfold X11_numbers_b21 at h2
    show Wx LM K s1 21 [(6, .int x6), (5, .int (a3 + ((2 : Int32) * x2))), (4, .int x2), (0, .ref (kad K 0)), (1, .int a1), (2, .int a2), (3, .int a3)] []
    refine x_iload C 0 dX11_numbers_21 rfl ?_
    refine x_iconst (v := 2) C dX11_numbers_23 rfl ?_
    refine x_icmpge C 75 dX11_numbers_24 (by decide) (fun c18 => ?_) (fun c18 => ?_)
    · replace h2 := ob_pos c18 h2
      refine x_lv (lv' := [(5, .int (a3 + ((2 : Int32) * x2))), (4, .int x2), (0, .ref (kad K 0)), (1, .int a1), (2, .int a2), (3, .int a3)]) [1, 2, 3, 4, 5, 6] rfl ?_
      exact J2 _ (ihR2 _ (Option.some.inj h2).symm)
    · replace h2 := ob_neg c18 h2
      refine x_iload C 1 dX11_numbers_27 rfl ?_
      refine x_iload C 0 dX11_numbers_29 rfl ?_
      refine x_iadd C dX11_numbers_31 ?_
      refine x_aload_n C 3 dX11_numbers_32 rfl ?_
      refine x_getR (j := 3) (i := 19) (q := (RX11, TX11, 22)) C 4 (iM 0 (by decide)) rfl rfl inBX11 (by decide) tw766 rfl dX11_numbers_33 ?_
      refine x_iload_n C 4 dX11_numbers_36 rfl ?_
      obtain ⟨c19, h2⟩ := ob_if h2
      refine x_iald C (iM 4 (by decide)) rfl (vin_in c19) dX11_numbers_37 ?_
      refine x_icmpge C 54 dX11_numbers_38 (by decide) (fun c21 => ?_) (fun c21 => ?_)
      · replace h2 := ob_pos c21 h2
        refine x_iload C 1 dX11_numbers_54 rfl ?_
        refine x_iload C 0 dX11_numbers_56 rfl ?_
        refine x_iadd C dX11_numbers_58 ?_
        refine x_aload_n C 3 dX11_numbers_59 rfl ?_
        refine x_getR (j := 3) (i := 19) (q := (RX11, TX11, 22)) C 4 (iM 0 (by decide)) rfl rfl inBX11 (by decide) tw766 rfl dX11_numbers_60 ?_
        refine x_iload_n C 4 dX11_numbers_63 rfl ?_
        obtain ⟨c22, h2⟩ := ob_if h2
        refine x_iald C (iM 4 (by decide)) rfl (vin_in c22) dX11_numbers_64 ?_
        refine x_callS (ar := 2) (rest := []) C (c_X11_lesser C.2.2.2.2.2.2.1  rfl) hy_X11_lesser ⟨tw908, tw909, tw75, tw910⟩ (by decide) (by decide) rfl rfl (Nat.le_of_ble_eq_true rfl) dX11_numbers_65 ?_
        show Wx LM K s1 68 [(6, .int x6), (5, .int (a3 + ((2 : Int32) * x2))), (4, .int x2), (0, .ref (kad K 0)), (1, .int a1), (2, .int a2), (3, .int a3)] [.int (X11_lesser ((a3 + ((2 : Int32) * x2)) + x6) (s1.1 4 a1.toNatClampNeg))]
        have e29 := ihR2 _ (Option.some.inj h2).symm
        subst e29
        replace h1 := sm1_r h1
        have e19 := ihR1 _ (Option.some.inj h1).symm
        subst e19
        replace h0 := sm1_r h0
        cases h0
        exact x_iret C R dX11_numbers_68
      · replace h2 := ob_neg c21 h2
        refine x_aload_n C 3 dX11_numbers_41 rfl ?_
        refine x_iload_n C 4 dX11_numbers_42 rfl ?_
        refine x_iload C 1 dX11_numbers_43 rfl ?_
        refine x_iload C 0 dX11_numbers_45 rfl ?_
        refine x_iadd C dX11_numbers_47 ?_
        obtain ⟨r24, g25, h2⟩ := ob_bind h2
        refine x_callV (ar := 2) (q := (RX11, TX11, 22)) (rest := []) C (c_X11_isFigure C.2.2.2.2.2.2.1  g25) (iM 0 (by decide)) rfl rfl hy_X11_isFigure ⟨tw902, tw904, tw40, tw75, tw905⟩ (by decide) (by decide) rfl rfl (Nat.le_of_ble_eq_true rfl) dX11_numbers_48 ?_
        show Wx LM K s1 51 [(6, .int x6), (5, .int (a3 + ((2 : Int32) * x2))), (4, .int x2), (0, .ref (kad K 0)), (1, .int a1), (2, .int a2), (3, .int a3)] [.int r24]
        refine x_ifne C 69 dX11_numbers_51 (by decide) (fun c27 => ?_) (fun c27 => ?_)
        · replace h2 := ob_neg c27 h2
          refine x_iinc (v := (x6 + 1)) (lv' := [(6, .int (x6 + 1)), (5, .int (a3 + ((2 : Int32) * x2))), (4, .int x2), (0, .ref (kad K 0)), (1, .int a1), (2, .int a2), (3, .int a3)]) C 0 dX11_numbers_69 rfl rfl (by rw [e5]; decide) rfl ?_
          refine x_goto C 21 dX11_numbers_72 (by decide) ?_
          refine x_lv (lv' := [(6, .int (x6 + 1)), (5, .int (a3 + ((2 : Int32) * x2))), (4, .int x2), (0, .ref (kad K 0)), (1, .int a1), (2, .int a2), (3, .int a3)]) [0, 1, 2, 3, 4, 5, 6] rfl ?_
          exact ihL2 _ (Option.some.inj h2).symm
        · replace h2 := ob_pos c27 h2
          refine x_iload C 1 dX11_numbers_54 rfl ?_
          refine x_iload C 0 dX11_numbers_56 rfl ?_
          refine x_iadd C dX11_numbers_58 ?_
          refine x_aload_n C 3 dX11_numbers_59 rfl ?_
          refine x_getR (j := 3) (i := 19) (q := (RX11, TX11, 22)) C 4 (iM 0 (by decide)) rfl rfl inBX11 (by decide) tw766 rfl dX11_numbers_60 ?_
          refine x_iload_n C 4 dX11_numbers_63 rfl ?_
          obtain ⟨c28, h2⟩ := ob_if h2
          refine x_iald C (iM 4 (by decide)) rfl (vin_in c28) dX11_numbers_64 ?_
          refine x_callS (ar := 2) (rest := []) C (c_X11_lesser C.2.2.2.2.2.2.1  rfl) hy_X11_lesser ⟨tw908, tw909, tw75, tw910⟩ (by decide) (by decide) rfl rfl (Nat.le_of_ble_eq_true rfl) dX11_numbers_65 ?_
          show Wx LM K s1 68 [(6, .int x6), (5, .int (a3 + ((2 : Int32) * x2))), (4, .int x2), (0, .ref (kad K 0)), (1, .int a1), (2, .int a2), (3, .int a3)] [.int (X11_lesser ((a3 + ((2 : Int32) * x2)) + x6) (s1.1 4 a1.toNatClampNeg))]
          have e29 := ihR2 _ (Option.some.inj h2).symm
          subst e29
          replace h1 := sm1_r h1
          have e19 := ihR1 _ (Option.some.inj h1).symm
          subst e19
          replace h0 := sm1_r h0
          cases h0
          exact x_iret C R dX11_numbers_68
