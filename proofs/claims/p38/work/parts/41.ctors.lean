def mY1 (n : Nat) : mY := ([0], fun _ => .inr (.inl (0, n)))
theorem mY1_J (n a : Nat) : mJ (mY1 n) (fun _ => a) := ⟨rfl, fun i hi j hj _ => (List.mem_singleton.mp hi).trans (List.mem_singleton.mp hj).symm⟩
def mZ : mS := (fun _ _ => 0, fun _ _ => 0)
def mF6 : mS := mwI (mwI (mwI (mwI (mwI (mwI (mZ) 0 (0 : Int32).toNatClampNeg (-1)) 0 (1 : Int32).toNatClampNeg (-1)) 0 (2 : Int32).toNatClampNeg (-1)) 0 (3 : Int32).toNatClampNeg (-1)) 0 (4 : Int32).toNatClampNeg (-1)) 0 (5 : Int32).toNatClampNeg (-1)
theorem mF6_ok : J7_fill_53178 mZ 0 6 (-1) = some ((), mF6) := by rfl
def mF4 : mS := mwI (mwI (mwI (mwI (mZ) 0 (0 : Int32).toNatClampNeg (-1)) 0 (1 : Int32).toNatClampNeg (-1)) 0 (2 : Int32).toNatClampNeg (-1)) 0 (3 : Int32).toNatClampNeg (-1)
theorem mF4_ok : J7_fill_53178 mZ 0 4 (-1) = some ((), mF4) := by rfl
theorem hk_X0_init : yX0_init.cls ≠ "java/lang/invoke/MethodHandle" ∧ yX0_init.cls ≠ "java/lang/invoke/VarHandle" ∧ (parseMethodDescriptor yX0_init.desc).map (fun d => d.parameters.length) = some 0 := by decide +kernel
theorem hk_X10_init : yX10_init.cls ≠ "java/lang/invoke/MethodHandle" ∧ yX10_init.cls ≠ "java/lang/invoke/VarHandle" ∧ (parseMethodDescriptor yX10_init.desc).map (fun d => d.parameters.length) = some 0 := by decide +kernel
theorem hk_X11_init : yX11_init.cls ≠ "java/lang/invoke/MethodHandle" ∧ yX11_init.cls ≠ "java/lang/invoke/VarHandle" ∧ (parseMethodDescriptor yX11_init.desc).map (fun d => d.parameters.length) = some 0 := by decide +kernel
theorem hk_X1_init : yX1_init.cls ≠ "java/lang/invoke/MethodHandle" ∧ yX1_init.cls ≠ "java/lang/invoke/VarHandle" ∧ (parseMethodDescriptor yX1_init.desc).map (fun d => d.parameters.length) = some 0 := by decide +kernel
theorem hk_X2_init : yX2_init.cls ≠ "java/lang/invoke/MethodHandle" ∧ yX2_init.cls ≠ "java/lang/invoke/VarHandle" ∧ (parseMethodDescriptor yX2_init.desc).map (fun d => d.parameters.length) = some 1 := by decide +kernel
theorem hk_X3_init : yX3_init.cls ≠ "java/lang/invoke/MethodHandle" ∧ yX3_init.cls ≠ "java/lang/invoke/VarHandle" ∧ (parseMethodDescriptor yX3_init.desc).map (fun d => d.parameters.length) = some 0 := by decide +kernel
theorem hk_X4_init : yX4_init.cls ≠ "java/lang/invoke/MethodHandle" ∧ yX4_init.cls ≠ "java/lang/invoke/VarHandle" ∧ (parseMethodDescriptor yX4_init.desc).map (fun d => d.parameters.length) = some 0 := by decide +kernel
theorem hk_X5_init : yX5_init.cls ≠ "java/lang/invoke/MethodHandle" ∧ yX5_init.cls ≠ "java/lang/invoke/VarHandle" ∧ (parseMethodDescriptor yX5_init.desc).map (fun d => d.parameters.length) = some 0 := by decide +kernel
theorem hk_X6_init : yX6_init.cls ≠ "java/lang/invoke/MethodHandle" ∧ yX6_init.cls ≠ "java/lang/invoke/VarHandle" ∧ (parseMethodDescriptor yX6_init.desc).map (fun d => d.parameters.length) = some 0 := by decide +kernel
theorem hk_X7_init : yX7_init.cls ≠ "java/lang/invoke/MethodHandle" ∧ yX7_init.cls ≠ "java/lang/invoke/VarHandle" ∧ (parseMethodDescriptor yX7_init.desc).map (fun d => d.parameters.length) = some 0 := by decide +kernel
theorem hk_X8_init : yX8_init.cls ≠ "java/lang/invoke/MethodHandle" ∧ yX8_init.cls ≠ "java/lang/invoke/VarHandle" ∧ (parseMethodDescriptor yX8_init.desc).map (fun d => d.parameters.length) = some 0 := by decide +kernel
theorem hk_X9_init : yX9_init.cls ≠ "java/lang/invoke/MethodHandle" ∧ yX9_init.cls ≠ "java/lang/invoke/VarHandle" ∧ (parseMethodDescriptor yX9_init.desc).map (fun d => d.parameters.length) = some 0 := by decide +kernel
set_option maxHeartbeats 4000000 in
set_option maxRecDepth 100000 in
theorem k_X5_init {l : Launch} {D : va_G} {cy : Nat → ClassId} {h0 : Nat} {e : va_E} : MetC l D cy yX5_init cX5_init 1 1 0 0 [.ref h0] [(h0, e)] (fun w => w = [(h0, e)]) := by
  refine MetC.of (by decide +kernel) rfl [(0, .ref h0)] rfl (Nat.le_of_ble_eq_true rfl) ?_
  intro K A sz e1 e2 e4 e5 hin C R
  subst e1
  subst e2
  subst e4
  refine k_aload_n C 0 dX5_init_0 rfl ?_
  refine k_objInit C tw125 tw85 tw86 (by decide) (Nat.le_of_ble_eq_true rfl) dX5_init_1 ?_
  exact k_vret C R rfl (by decide) (by decide) dX5_init_4
set_option maxHeartbeats 4000000 in
set_option maxRecDepth 100000 in
theorem k_X9_init {l : Launch} {D : va_G} {cy : Nat → ClassId} {h0 : Nat} {e : va_E} : MetC l D cy yX9_init cX9_init 1 2 0 0 [.ref h0] [(h0, e)] (fun w => w = [(h0, e)]) := by
  refine MetC.of (by decide +kernel) rfl [(0, .ref h0)] rfl (Nat.le_of_ble_eq_true rfl) ?_
  intro K A sz e1 e2 e4 e5 hin C R
  subst e1
  subst e2
  subst e4
  refine k_aload_n C 0 dX9_init_0 rfl ?_
  refine k_callN (ar := 0) (wr := []) (rest := []) (host := "CalledNumbers") C [0] [] (k_X5_init) hk_X5_init rfl twN132 tw123 tw66 tw124 (by decide) (by decide) (by decide) (by decide) rfl rfl (by decide) (by decide) (by decide) rfl rfl (Nat.le_of_ble_eq_true rfl) dX9_init_1 (fun w2 p1 => ?_)
  subst p1
  show Wc K A [(h0, e)] 0 0 4 [(0, .ref h0)] []
  exact k_vret C R rfl (by decide) (by decide) dX9_init_4
set_option maxHeartbeats 4000000 in
set_option maxRecDepth 100000 in
theorem k_X0_init {l : Launch} {D : va_G} {cy : Nat → ClassId} {h0 : Nat} {e : va_E} : MetC l D cy yX0_init cX0_init 1 2 0 0 [.ref h0] [(h0, e)] (fun w => w = [(h0, e)]) := by
  refine MetC.of (by decide +kernel) rfl [(0, .ref h0)] rfl (Nat.le_of_ble_eq_true rfl) ?_
  intro K A sz e1 e2 e4 e5 hin C R
  subst e1
  subst e2
  subst e4
  refine k_aload_n C 0 dX0_init_0 rfl ?_
  refine k_callN (ar := 0) (wr := []) (rest := []) (host := "CalledNumbers") C [0] [] (k_X5_init) hk_X5_init rfl twN139 tw123 tw66 tw124 (by decide) (by decide) (by decide) (by decide) rfl rfl (by decide) (by decide) (by decide) rfl rfl (Nat.le_of_ble_eq_true rfl) dX0_init_1 (fun w2 p1 => ?_)
  subst p1
  show Wc K A [(h0, e)] 0 0 4 [(0, .ref h0)] []
  exact k_vret C R rfl (by decide) (by decide) dX0_init_4
set_option maxHeartbeats 4000000 in
set_option maxRecDepth 100000 in
theorem k_X3_init {l : Launch} {D : va_G} {cy : Nat → ClassId} {h0 : Nat} {e : va_E} : MetC l D cy yX3_init cX3_init 1 2 0 0 [.ref h0] [(h0, e)] (fun w => w = [(h0, e)]) := by
  refine MetC.of (by decide +kernel) rfl [(0, .ref h0)] rfl (Nat.le_of_ble_eq_true rfl) ?_
  intro K A sz e1 e2 e4 e5 hin C R
  subst e1
  subst e2
  subst e4
  refine k_aload_n C 0 dX3_init_0 rfl ?_
  refine k_callN (ar := 0) (wr := []) (rest := []) (host := "CalledNumbers") C [0] [] (k_X5_init) hk_X5_init rfl twN146 tw123 tw66 tw124 (by decide) (by decide) (by decide) (by decide) rfl rfl (by decide) (by decide) (by decide) rfl rfl (Nat.le_of_ble_eq_true rfl) dX3_init_1 (fun w2 p1 => ?_)
  subst p1
  show Wc K A [(h0, e)] 0 0 4 [(0, .ref h0)] []
  exact k_vret C R rfl (by decide) (by decide) dX3_init_4
set_option maxHeartbeats 4000000 in
set_option maxRecDepth 100000 in
theorem k_X4_init {l : Launch} {D : va_G} {cy : Nat → ClassId} {h0 : Nat} {e : va_E} : MetC l D cy yX4_init cX4_init 1 3 0 0 [.ref h0] [(h0, e)] (fun w => w = [(h0, e)]) := by
  refine MetC.of (by decide +kernel) rfl [(0, .ref h0)] rfl (Nat.le_of_ble_eq_true rfl) ?_
  intro K A sz e1 e2 e4 e5 hin C R
  subst e1
  subst e2
  subst e4
  refine k_aload_n C 0 dX4_init_0 rfl ?_
  refine k_callN (ar := 0) (wr := []) (rest := []) (host := "CalledNumbers") C [0] [] (k_X9_init) hk_X9_init rfl twN153 tw130 tw67 tw131 (by decide) (by decide) (by decide) (by decide) rfl rfl (by decide) (by decide) (by decide) rfl rfl (Nat.le_of_ble_eq_true rfl) dX4_init_1 (fun w2 p1 => ?_)
  subst p1
  show Wc K A [(h0, e)] 0 0 4 [(0, .ref h0)] []
  exact k_vret C R rfl (by decide) (by decide) dX4_init_4
set_option maxHeartbeats 4000000 in
set_option maxRecDepth 100000 in
theorem k_X8_init {l : Launch} {D : va_G} {cy : Nat → ClassId} {h0 : Nat} {e : va_E} : MetC l D cy yX8_init cX8_init 1 3 0 0 [.ref h0] [(h0, e)] (fun w => w = [(h0, e)]) := by
  refine MetC.of (by decide +kernel) rfl [(0, .ref h0)] rfl (Nat.le_of_ble_eq_true rfl) ?_
  intro K A sz e1 e2 e4 e5 hin C R
  subst e1
  subst e2
  subst e4
  refine k_aload_n C 0 dX8_init_0 rfl ?_
  refine k_callN (ar := 0) (wr := []) (rest := []) (host := "CalledNumbers") C [0] [] (k_X0_init) hk_X0_init rfl twN160 tw137 tw68 tw138 (by decide) (by decide) (by decide) (by decide) rfl rfl (by decide) (by decide) (by decide) rfl rfl (Nat.le_of_ble_eq_true rfl) dX8_init_1 (fun w2 p1 => ?_)
  subst p1
  show Wc K A [(h0, e)] 0 0 4 [(0, .ref h0)] []
  exact k_vret C R rfl (by decide) (by decide) dX8_init_4
set_option maxHeartbeats 4000000 in
set_option maxRecDepth 100000 in
theorem k_X1_init {l : Launch} {D : va_G} {cy : Nat → ClassId} {h0 : Nat} : MetC l D cy yX1_init cX1_init 1 1 1 40 [.ref h0] [(h0, .inr (1, [.null, .int 0]))] (fun w => ∃ (q1 : Nat), w = [(h0, .inr (1, [.ref q1, .int 0])), (q1, .inl (cy 0, 40, .inl (fun _ => 0)))]) := by
  refine MetC.of (by decide +kernel) rfl [(0, .ref h0)] rfl (Nat.le_of_ble_eq_true rfl) ?_
  intro K A sz e1 e2 e4 e5 hin C R
  subst e1
  subst e2
  subst e4
  refine k_aload_n C 0 dX1_init_0 rfl ?_
  refine k_objInit C tw220 tw85 tw86 (by decide) (Nat.le_of_ble_eq_true rfl) dX1_init_1 ?_
  refine k_aload_n C 0 dX1_init_4 rfl ?_
  refine k_bipush (v := 40) C dX1_init_5 rfl ?_
  refine k_newi (N := 40) C tw111 (by decide) (by decide) (by decide) (by decide) (by decide) dX1_init_7 (fun q1 => ?_)
  show Wc K A [(h0, .inr (1, [.null, .int 0])), (q1, .inl (kcy K 0, 40, .inl (fun _ => 0)))] 1 40 9 [(0, .ref h0)] [.ref q1, .ref h0]
  refine k_putF (j := 0) (i := 9) (q := (RX1, TX1, 2)) (ty := tyX1 0) C 0 tyX1 tyX1_ok nmX1 rfl rfl inBX1 (by decide) tw221 rfl hin rfl (by decide +kernel) rfl rfl (Nat.le_of_ble_eq_true rfl) dX1_init_9 ?_
  show Wc K A [(h0, .inr (1, [.ref q1, .int 0])), (q1, .inl (kcy K 0, 40, .inl (fun _ => 0)))] 1 40 12 [(0, .ref h0)] []
  exact k_vret C R ⟨q1, rfl⟩ (by decide) (by decide) dX1_init_12
set_option maxHeartbeats 4000000 in
set_option maxRecDepth 100000 in
theorem k_X2_init {l : Launch} {D : va_G} {cy : Nat → ClassId} {h0 : Nat} {b1 : Nat} : MetC l D cy yX2_init cX2_init 2 1 1 4 [.ref h0, .ref b1] [(h0, .inr (2, [.null, .null, .int 0, .int 0, .int 0, .int 0]))] (fun w => ∃ (q1 : Nat), w = [(h0, .inr (2, [.ref b1, .ref q1, .int 0, .int 0, .int 0, .int 0])), (q1, .inl (cy 0, 4, .inl (fun _ => 0)))]) := by
  refine MetC.of (by decide +kernel) rfl [(0, .ref h0), (1, .ref b1)] rfl (Nat.le_of_ble_eq_true rfl) ?_
  intro K A sz e1 e2 e4 e5 hin C R
  subst e1
  subst e2
  subst e4
  refine k_aload_n C 0 dX2_init_0 rfl ?_
  refine k_objInit C tw190 tw85 tw86 (by decide) (Nat.le_of_ble_eq_true rfl) dX2_init_1 ?_
  refine k_aload_n C 0 dX2_init_4 rfl ?_
  refine k_iconst (v := 4) C dX2_init_5 rfl ?_
  refine k_newi (N := 4) C tw111 (by decide) (by decide) (by decide) (by decide) (by decide) dX2_init_6 (fun q1 => ?_)
  show Wc K A [(h0, .inr (2, [.null, .null, .int 0, .int 0, .int 0, .int 0])), (q1, .inl (kcy K 0, 4, .inl (fun _ => 0)))] 1 4 8 [(0, .ref h0), (1, .ref b1)] [.ref q1, .ref h0]
  refine k_putF (j := 1) (i := 9) (q := (RX2, TX2, 6)) (ty := tyX2 1) C 0 tyX2 tyX2_ok nmX2 rfl rfl inBX2 (by decide) tw192 rfl hin rfl (by decide +kernel) rfl rfl (Nat.le_of_ble_eq_true rfl) dX2_init_8 ?_
  show Wc K A [(h0, .inr (2, [.null, .ref q1, .int 0, .int 0, .int 0, .int 0])), (q1, .inl (kcy K 0, 4, .inl (fun _ => 0)))] 1 4 11 [(0, .ref h0), (1, .ref b1)] []
  refine k_aload_n C 0 dX2_init_11 rfl ?_
  refine k_aload_n C 1 dX2_init_12 rfl ?_
  refine k_putF (j := 0) (i := 15) (q := (RX2, TX2, 6)) (ty := tyX2 0) C 0 tyX2 tyX2_ok nmX2 rfl rfl inBX2 (by decide) tw191 rfl hin rfl (by decide +kernel) rfl rfl (Nat.le_of_ble_eq_true rfl) dX2_init_13 ?_
  show Wc K A [(h0, .inr (2, [.ref b1, .ref q1, .int 0, .int 0, .int 0, .int 0])), (q1, .inl (kcy K 0, 4, .inl (fun _ => 0)))] 1 4 16 [(0, .ref h0), (1, .ref b1)] []
  exact k_vret C R ⟨q1, rfl⟩ (by decide) (by decide) dX2_init_16
set_option maxHeartbeats 4000000 in
set_option maxRecDepth 100000 in
theorem k_X6_init {l : Launch} {D : va_G} {cy : Nat → ClassId} {h0 : Nat} : MetC l D cy yX6_init cX6_init 1 1 6 32 [.ref h0] [(h0, .inr (6, [.null, .null, .int 0]))] (fun w => ∃ (q1 : Nat), ∃ (q2 : Nat), ∃ (r3 : Nat → Nat), w = [(h0, .inr (6, [.ref q1, .ref q2, .int 0])), (q1, .inl (cy 0, 4, .inl (fun _ => 0))), (q2, .inl (cy 2, 4, .inr (.inr (.inr (.inr (fun i => if i < 4 then some (r3 i) else none)))))), ((r3 0), .inl (cy 0, 6, .inl (fun _ => 0))), ((r3 1), .inl (cy 0, 6, .inl (fun _ => 0))), ((r3 2), .inl (cy 0, 6, .inl (fun _ => 0))), ((r3 3), .inl (cy 0, 6, .inl (fun _ => 0)))]) := by
  refine MetC.of (by decide +kernel) rfl [(0, .ref h0)] rfl (Nat.le_of_ble_eq_true rfl) ?_
  intro K A sz e1 e2 e4 e5 hin C R
  subst e1
  subst e2
  subst e4
  refine k_aload_n C 0 dX6_init_0 rfl ?_
  refine k_objInit C tw96 tw85 tw86 (by decide) (Nat.le_of_ble_eq_true rfl) dX6_init_1 ?_
  refine k_aload_n C 0 dX6_init_4 rfl ?_
  refine k_iconst (v := 4) C dX6_init_5 rfl ?_
  refine k_newi (N := 4) C tw111 (by decide) (by decide) (by decide) (by decide) (by decide) dX6_init_6 (fun q1 => ?_)
  show Wc K A [(h0, .inr (6, [.null, .null, .int 0])), (q1, .inl (kcy K 0, 4, .inl (fun _ => 0)))] 1 4 8 [(0, .ref h0)] [.ref q1, .ref h0]
  refine k_putF (j := 0) (i := 9) (q := (RX6, TX6, 3)) (ty := tyX6 0) C 0 tyX6 tyX6_ok nmX6 rfl rfl inBX6 (by decide) tw98 rfl hin rfl (by decide +kernel) rfl rfl (Nat.le_of_ble_eq_true rfl) dX6_init_8 ?_
  show Wc K A [(h0, .inr (6, [.ref q1, .null, .int 0])), (q1, .inl (kcy K 0, 4, .inl (fun _ => 0)))] 1 4 11 [(0, .ref h0)] []
  refine k_aload_n C 0 dX6_init_11 rfl ?_
  refine k_iconst (v := 4) C dX6_init_12 rfl ?_
  refine k_bipush (v := 6) C dX6_init_13 rfl ?_
  refine k_mna (N := 4) (M := 6) (t := 2) (u := 0) (g := (6, .inl (fun _ => 0))) C rfl rfl tw97 (by decide) tw111 rfl rfl (by decide) (by decide) (by decide) (by decide) (by decide) (by decide) (by decide) rfl rfl (by decide) (by decide) (fun c => (arrV_new c 6 (defaultValue _)).trans rfl) dX6_init_15 (fun q2 r3 => ?_)
  show Wc K A [(h0, .inr (6, [.ref q1, .null, .int 0])), (q1, .inl (kcy K 0, 4, .inl (fun _ => 0))), (q2, .inl (kcy K 2, 4, .inr (.inr (.inr (.inr (fun i => if i < 4 then some (r3 i) else none)))))), ((r3 0), .inl (kcy K 0, 6, .inl (fun _ => 0))), ((r3 1), .inl (kcy K 0, 6, .inl (fun _ => 0))), ((r3 2), .inl (kcy K 0, 6, .inl (fun _ => 0))), ((r3 3), .inl (kcy K 0, 6, .inl (fun _ => 0)))] 6 32 19 [(0, .ref h0)] [.ref q2, .ref h0]
  refine k_putF (j := 1) (i := 17) (q := (RX6, TX6, 3)) (ty := tyX6 1) C 0 tyX6 tyX6_ok nmX6 rfl rfl inBX6 (by decide) tw100 rfl hin rfl (by decide +kernel) rfl rfl (Nat.le_of_ble_eq_true rfl) dX6_init_19 ?_
  show Wc K A [(h0, .inr (6, [.ref q1, .ref q2, .int 0])), (q1, .inl (kcy K 0, 4, .inl (fun _ => 0))), (q2, .inl (kcy K 2, 4, .inr (.inr (.inr (.inr (fun i => if i < 4 then some (r3 i) else none)))))), ((r3 0), .inl (kcy K 0, 6, .inl (fun _ => 0))), ((r3 1), .inl (kcy K 0, 6, .inl (fun _ => 0))), ((r3 2), .inl (kcy K 0, 6, .inl (fun _ => 0))), ((r3 3), .inl (kcy K 0, 6, .inl (fun _ => 0)))] 6 32 22 [(0, .ref h0)] []
  exact k_vret C R ⟨q1, q2, r3, rfl⟩ (by decide) (by decide) dX6_init_22
set_option maxHeartbeats 4000000 in
set_option maxRecDepth 100000 in
theorem k_X7_init {l : Launch} {D : va_G} {cy : Nat → ClassId} {h0 : Nat} : MetC l D cy yX7_init cX7_init 1 4 14 42 [.ref h0] [(h0, .inr (7, [.null, .null, .null, .null, .int 0]))] (fun w => ∃ (q1 : Nat), ∃ (q20 : Nat), ∃ (q21 : Nat), ∃ (q23 : Nat), ∃ (q2 : Nat), ∃ (q5 : Nat), ∃ (q8 : Nat), ∃ (q11 : Nat), ∃ (q14 : Nat), ∃ (q17 : Nat), ∃ (r22 : Nat → Nat), w = [(h0, .inr (7, [.ref q1, .ref q20, .ref q21, .ref q23, .int 0])), (q1, .inl (cy 6, 6, .inr (.inr (.inr (.inr (va_up (va_up (va_up (va_up (va_up (va_up (fun _ => none) (0 : Int32).toNatClampNeg (some q2)) (1 : Int32).toNatClampNeg (some q5)) (2 : Int32).toNatClampNeg (some q8)) (3 : Int32).toNatClampNeg (some q11)) (4 : Int32).toNatClampNeg (some q14)) (5 : Int32).toNatClampNeg (some q17))))))), (q2, .inr (5, [])), (q5, .inr (9, [])), (q8, .inr (0, [])), (q11, .inr (3, [])), (q14, .inr (4, [])), (q17, .inr (8, [])), (q20, .inl (cy 0, 4, .inl (fun _ => 0))), (q21, .inl (cy 2, 4, .inr (.inr (.inr (.inr (fun i => if i < 4 then some (r22 i) else none)))))), ((r22 0), .inl (cy 0, 6, .inl (fun _ => 0))), ((r22 1), .inl (cy 0, 6, .inl (fun _ => 0))), ((r22 2), .inl (cy 0, 6, .inl (fun _ => 0))), ((r22 3), .inl (cy 0, 6, .inl (fun _ => 0))), (q23, .inl (cy 0, 4, .inl (fun _ => 0)))]) := by
  refine MetC.of (by decide +kernel) rfl [(0, .ref h0)] rfl (Nat.le_of_ble_eq_true rfl) ?_
  intro K A sz e1 e2 e4 e5 hin C R
  subst e1
  subst e2
  subst e4
  refine k_aload_n C 0 dX7_init_0 rfl ?_
  refine k_objInit C tw118 tw85 tw86 (by decide) (Nat.le_of_ble_eq_true rfl) dX7_init_1 ?_
  refine k_aload_n C 0 dX7_init_4 rfl ?_
  refine k_bipush (v := 6) C dX7_init_5 rfl ?_
  refine k_newq (N := 6) (E := "CalledNumbers$Plain") C 6 rfl tw119 (va_AO.of (C.2.2.2.2.2.2.2.2.2 _ (by decide))) (by decide) (by decide) (by decide) (by decide) (by decide) dX7_init_7 (fun q1 => ?_)
  show Wc K A [(h0, .inr (7, [.null, .null, .null, .null, .int 0])), (q1, .inl (kcy K 6, 6, .inr (.inr (.inr (.inr (fun _ => none))))))] 1 6 10 [(0, .ref h0)] [.ref q1, .ref h0]
  refine k_dup C dX7_init_10 rfl ?_
  refine k_iconst (v := 0) C dX7_init_11 rfl ?_
  refine k_new (ci := 5) (fs := []) (q := (RX5, TX5, 0)) C tyX5 tyX5_ok rfl inBX5 tw119 tw121 tw66 (fun j (hj : j < 0) => absurd hj (Nat.not_lt_zero j)) (by decide) (by decide) dX7_init_12 (fun q2 => ?_)
  show Wc K A [(h0, .inr (7, [.null, .null, .null, .null, .int 0])), (q1, .inl (kcy K 6, 6, .inr (.inr (.inr (.inr (fun _ => none)))))), (q2, .inr (5, []))] 2 6 15 [(0, .ref h0)] [.ref q2, .int 0, .ref q1, .ref q1, .ref h0]
  refine k_dup C dX7_init_15 rfl ?_
  refine k_callN (ar := 0) (wr := [(h0, .inr (7, [.null, .null, .null, .null, .int 0])), (q1, .inl (kcy K 6, 6, .inr (.inr (.inr (.inr (fun _ => none))))))]) (rest := [.ref q2, .int 0, .ref q1, .ref q1, .ref h0]) (host := "CalledNumbers") C [2] [0, 1] (k_X5_init) hk_X5_init rfl twN122 tw123 tw66 tw124 (by decide) (by decide) (by decide) (by decide) rfl rfl (by decide) (by decide) (by decide) rfl rfl (Nat.le_of_ble_eq_true rfl) dX7_init_16 (fun w4 p3 => ?_)
  subst p3
  show Wc K A [(h0, .inr (7, [.null, .null, .null, .null, .int 0])), (q1, .inl (kcy K 6, 6, .inr (.inr (.inr (.inr (fun _ => none)))))), (q2, .inr (5, []))] 2 6 19 [(0, .ref h0)] [.ref q2, .int 0, .ref q1, .ref q1, .ref h0]
  refine k_astq (q := (RX5, TX5, 0)) C 1 2 rfl rfl rfl rfl (vin_in (by decide)) dX7_init_19 ?_
  show Wc K A [(h0, .inr (7, [.null, .null, .null, .null, .int 0])), (q1, .inl (kcy K 6, 6, .inr (.inr (.inr (.inr (va_up (fun _ => none) (0 : Int32).toNatClampNeg (some q2))))))), (q2, .inr (5, []))] 2 6 20 [(0, .ref h0)] [.ref q1, .ref h0]
  refine k_dup C dX7_init_20 rfl ?_
  refine k_iconst (v := 1) C dX7_init_21 rfl ?_
  refine k_new (ci := 9) (fs := []) (q := (RX9, TX9, 0)) C tyX9 tyX9_ok rfl inBX9 tw127 tw128 tw67 (fun j (hj : j < 0) => absurd hj (Nat.not_lt_zero j)) (by decide) (by decide) dX7_init_22 (fun q5 => ?_)
  show Wc K A [(h0, .inr (7, [.null, .null, .null, .null, .int 0])), (q1, .inl (kcy K 6, 6, .inr (.inr (.inr (.inr (va_up (fun _ => none) (0 : Int32).toNatClampNeg (some q2))))))), (q2, .inr (5, [])), (q5, .inr (9, []))] 3 6 25 [(0, .ref h0)] [.ref q5, .int 1, .ref q1, .ref q1, .ref h0]
  refine k_dup C dX7_init_25 rfl ?_
  refine k_callN (ar := 0) (wr := [(h0, .inr (7, [.null, .null, .null, .null, .int 0])), (q1, .inl (kcy K 6, 6, .inr (.inr (.inr (.inr (va_up (fun _ => none) (0 : Int32).toNatClampNeg (some q2))))))), (q2, .inr (5, []))]) (rest := [.ref q5, .int 1, .ref q1, .ref q1, .ref h0]) (host := "CalledNumbers") C [3] [0, 1, 2] (k_X9_init) hk_X9_init rfl twN129 tw130 tw67 tw131 (by decide) (by decide) (by decide) (by decide) rfl rfl (by decide) (by decide) (by decide) rfl rfl (Nat.le_of_ble_eq_true rfl) dX7_init_26 (fun w7 p6 => ?_)
  subst p6
  show Wc K A [(h0, .inr (7, [.null, .null, .null, .null, .int 0])), (q1, .inl (kcy K 6, 6, .inr (.inr (.inr (.inr (va_up (fun _ => none) (0 : Int32).toNatClampNeg (some q2))))))), (q2, .inr (5, [])), (q5, .inr (9, []))] 3 6 29 [(0, .ref h0)] [.ref q5, .int 1, .ref q1, .ref q1, .ref h0]
  refine k_astqO (q := (RX9, TX9, 0)) (E := "CalledNumbers$Plain") C 1 3 rfl rfl twN1158 rfl rfl (vin_in (by decide)) dX7_init_29 ?_
  show Wc K A [(h0, .inr (7, [.null, .null, .null, .null, .int 0])), (q1, .inl (kcy K 6, 6, .inr (.inr (.inr (.inr (va_up (va_up (fun _ => none) (0 : Int32).toNatClampNeg (some q2)) (1 : Int32).toNatClampNeg (some q5))))))), (q2, .inr (5, [])), (q5, .inr (9, []))] 3 6 30 [(0, .ref h0)] [.ref q1, .ref h0]
  refine k_dup C dX7_init_30 rfl ?_
  refine k_iconst (v := 2) C dX7_init_31 rfl ?_
  refine k_new (ci := 0) (fs := []) (q := (RX0, TX0, 0)) C tyX0 tyX0_ok rfl inBX0 tw134 tw135 tw68 (fun j (hj : j < 0) => absurd hj (Nat.not_lt_zero j)) (by decide) (by decide) dX7_init_32 (fun q8 => ?_)
  show Wc K A [(h0, .inr (7, [.null, .null, .null, .null, .int 0])), (q1, .inl (kcy K 6, 6, .inr (.inr (.inr (.inr (va_up (va_up (fun _ => none) (0 : Int32).toNatClampNeg (some q2)) (1 : Int32).toNatClampNeg (some q5))))))), (q2, .inr (5, [])), (q5, .inr (9, [])), (q8, .inr (0, []))] 4 6 35 [(0, .ref h0)] [.ref q8, .int 2, .ref q1, .ref q1, .ref h0]
  refine k_dup C dX7_init_35 rfl ?_
  refine k_callN (ar := 0) (wr := [(h0, .inr (7, [.null, .null, .null, .null, .int 0])), (q1, .inl (kcy K 6, 6, .inr (.inr (.inr (.inr (va_up (va_up (fun _ => none) (0 : Int32).toNatClampNeg (some q2)) (1 : Int32).toNatClampNeg (some q5))))))), (q2, .inr (5, [])), (q5, .inr (9, []))]) (rest := [.ref q8, .int 2, .ref q1, .ref q1, .ref h0]) (host := "CalledNumbers") C [4] [0, 1, 2, 3] (k_X0_init) hk_X0_init rfl twN136 tw137 tw68 tw138 (by decide) (by decide) (by decide) (by decide) rfl rfl (by decide) (by decide) (by decide) rfl rfl (Nat.le_of_ble_eq_true rfl) dX7_init_36 (fun w10 p9 => ?_)
  subst p9
  show Wc K A [(h0, .inr (7, [.null, .null, .null, .null, .int 0])), (q1, .inl (kcy K 6, 6, .inr (.inr (.inr (.inr (va_up (va_up (fun _ => none) (0 : Int32).toNatClampNeg (some q2)) (1 : Int32).toNatClampNeg (some q5))))))), (q2, .inr (5, [])), (q5, .inr (9, [])), (q8, .inr (0, []))] 4 6 39 [(0, .ref h0)] [.ref q8, .int 2, .ref q1, .ref q1, .ref h0]
  refine k_astqO (q := (RX0, TX0, 0)) (E := "CalledNumbers$Plain") C 1 4 rfl rfl twN1159 rfl rfl (vin_in (by decide)) dX7_init_39 ?_
  show Wc K A [(h0, .inr (7, [.null, .null, .null, .null, .int 0])), (q1, .inl (kcy K 6, 6, .inr (.inr (.inr (.inr (va_up (va_up (va_up (fun _ => none) (0 : Int32).toNatClampNeg (some q2)) (1 : Int32).toNatClampNeg (some q5)) (2 : Int32).toNatClampNeg (some q8))))))), (q2, .inr (5, [])), (q5, .inr (9, [])), (q8, .inr (0, []))] 4 6 40 [(0, .ref h0)] [.ref q1, .ref h0]
  refine k_dup C dX7_init_40 rfl ?_
  refine k_iconst (v := 3) C dX7_init_41 rfl ?_
  refine k_new (ci := 3) (fs := []) (q := (RX3, TX3, 0)) C tyX3 tyX3_ok rfl inBX3 tw141 tw142 tw69 (fun j (hj : j < 0) => absurd hj (Nat.not_lt_zero j)) (by decide) (by decide) dX7_init_42 (fun q11 => ?_)
  show Wc K A [(h0, .inr (7, [.null, .null, .null, .null, .int 0])), (q1, .inl (kcy K 6, 6, .inr (.inr (.inr (.inr (va_up (va_up (va_up (fun _ => none) (0 : Int32).toNatClampNeg (some q2)) (1 : Int32).toNatClampNeg (some q5)) (2 : Int32).toNatClampNeg (some q8))))))), (q2, .inr (5, [])), (q5, .inr (9, [])), (q8, .inr (0, [])), (q11, .inr (3, []))] 5 6 45 [(0, .ref h0)] [.ref q11, .int 3, .ref q1, .ref q1, .ref h0]
  refine k_dup C dX7_init_45 rfl ?_
  refine k_callN (ar := 0) (wr := [(h0, .inr (7, [.null, .null, .null, .null, .int 0])), (q1, .inl (kcy K 6, 6, .inr (.inr (.inr (.inr (va_up (va_up (va_up (fun _ => none) (0 : Int32).toNatClampNeg (some q2)) (1 : Int32).toNatClampNeg (some q5)) (2 : Int32).toNatClampNeg (some q8))))))), (q2, .inr (5, [])), (q5, .inr (9, [])), (q8, .inr (0, []))]) (rest := [.ref q11, .int 3, .ref q1, .ref q1, .ref h0]) (host := "CalledNumbers") C [5] [0, 1, 2, 3, 4] (k_X3_init) hk_X3_init rfl twN143 tw144 tw69 tw145 (by decide) (by decide) (by decide) (by decide) rfl rfl (by decide) (by decide) (by decide) rfl rfl (Nat.le_of_ble_eq_true rfl) dX7_init_46 (fun w13 p12 => ?_)
  subst p12
  show Wc K A [(h0, .inr (7, [.null, .null, .null, .null, .int 0])), (q1, .inl (kcy K 6, 6, .inr (.inr (.inr (.inr (va_up (va_up (va_up (fun _ => none) (0 : Int32).toNatClampNeg (some q2)) (1 : Int32).toNatClampNeg (some q5)) (2 : Int32).toNatClampNeg (some q8))))))), (q2, .inr (5, [])), (q5, .inr (9, [])), (q8, .inr (0, [])), (q11, .inr (3, []))] 5 6 49 [(0, .ref h0)] [.ref q11, .int 3, .ref q1, .ref q1, .ref h0]
  refine k_astqO (q := (RX3, TX3, 0)) (E := "CalledNumbers$Plain") C 1 5 rfl rfl twN1160 rfl rfl (vin_in (by decide)) dX7_init_49 ?_
  show Wc K A [(h0, .inr (7, [.null, .null, .null, .null, .int 0])), (q1, .inl (kcy K 6, 6, .inr (.inr (.inr (.inr (va_up (va_up (va_up (va_up (fun _ => none) (0 : Int32).toNatClampNeg (some q2)) (1 : Int32).toNatClampNeg (some q5)) (2 : Int32).toNatClampNeg (some q8)) (3 : Int32).toNatClampNeg (some q11))))))), (q2, .inr (5, [])), (q5, .inr (9, [])), (q8, .inr (0, [])), (q11, .inr (3, []))] 5 6 50 [(0, .ref h0)] [.ref q1, .ref h0]
  refine k_dup C dX7_init_50 rfl ?_
  refine k_iconst (v := 4) C dX7_init_51 rfl ?_
  refine k_new (ci := 4) (fs := []) (q := (RX4, TX4, 0)) C tyX4 tyX4_ok rfl inBX4 tw148 tw149 tw70 (fun j (hj : j < 0) => absurd hj (Nat.not_lt_zero j)) (by decide) (by decide) dX7_init_52 (fun q14 => ?_)
  show Wc K A [(h0, .inr (7, [.null, .null, .null, .null, .int 0])), (q1, .inl (kcy K 6, 6, .inr (.inr (.inr (.inr (va_up (va_up (va_up (va_up (fun _ => none) (0 : Int32).toNatClampNeg (some q2)) (1 : Int32).toNatClampNeg (some q5)) (2 : Int32).toNatClampNeg (some q8)) (3 : Int32).toNatClampNeg (some q11))))))), (q2, .inr (5, [])), (q5, .inr (9, [])), (q8, .inr (0, [])), (q11, .inr (3, [])), (q14, .inr (4, []))] 6 6 55 [(0, .ref h0)] [.ref q14, .int 4, .ref q1, .ref q1, .ref h0]
  refine k_dup C dX7_init_55 rfl ?_
  refine k_callN (ar := 0) (wr := [(h0, .inr (7, [.null, .null, .null, .null, .int 0])), (q1, .inl (kcy K 6, 6, .inr (.inr (.inr (.inr (va_up (va_up (va_up (va_up (fun _ => none) (0 : Int32).toNatClampNeg (some q2)) (1 : Int32).toNatClampNeg (some q5)) (2 : Int32).toNatClampNeg (some q8)) (3 : Int32).toNatClampNeg (some q11))))))), (q2, .inr (5, [])), (q5, .inr (9, [])), (q8, .inr (0, [])), (q11, .inr (3, []))]) (rest := [.ref q14, .int 4, .ref q1, .ref q1, .ref h0]) (host := "CalledNumbers") C [6] [0, 1, 2, 3, 4, 5] (k_X4_init) hk_X4_init rfl twN150 tw151 tw70 tw152 (by decide) (by decide) (by decide) (by decide) rfl rfl (by decide) (by decide) (by decide) rfl rfl (Nat.le_of_ble_eq_true rfl) dX7_init_56 (fun w16 p15 => ?_)
  subst p15
  show Wc K A [(h0, .inr (7, [.null, .null, .null, .null, .int 0])), (q1, .inl (kcy K 6, 6, .inr (.inr (.inr (.inr (va_up (va_up (va_up (va_up (fun _ => none) (0 : Int32).toNatClampNeg (some q2)) (1 : Int32).toNatClampNeg (some q5)) (2 : Int32).toNatClampNeg (some q8)) (3 : Int32).toNatClampNeg (some q11))))))), (q2, .inr (5, [])), (q5, .inr (9, [])), (q8, .inr (0, [])), (q11, .inr (3, [])), (q14, .inr (4, []))] 6 6 59 [(0, .ref h0)] [.ref q14, .int 4, .ref q1, .ref q1, .ref h0]
  refine k_astqO (q := (RX4, TX4, 0)) (E := "CalledNumbers$Plain") C 1 6 rfl rfl twN1161 rfl rfl (vin_in (by decide)) dX7_init_59 ?_
  show Wc K A [(h0, .inr (7, [.null, .null, .null, .null, .int 0])), (q1, .inl (kcy K 6, 6, .inr (.inr (.inr (.inr (va_up (va_up (va_up (va_up (va_up (fun _ => none) (0 : Int32).toNatClampNeg (some q2)) (1 : Int32).toNatClampNeg (some q5)) (2 : Int32).toNatClampNeg (some q8)) (3 : Int32).toNatClampNeg (some q11)) (4 : Int32).toNatClampNeg (some q14))))))), (q2, .inr (5, [])), (q5, .inr (9, [])), (q8, .inr (0, [])), (q11, .inr (3, [])), (q14, .inr (4, []))] 6 6 60 [(0, .ref h0)] [.ref q1, .ref h0]
  refine k_dup C dX7_init_60 rfl ?_
  refine k_iconst (v := 5) C dX7_init_61 rfl ?_
  refine k_new (ci := 8) (fs := []) (q := (RX8, TX8, 0)) C tyX8 tyX8_ok rfl inBX8 tw155 tw156 tw71 (fun j (hj : j < 0) => absurd hj (Nat.not_lt_zero j)) (by decide) (by decide) dX7_init_62 (fun q17 => ?_)
  show Wc K A [(h0, .inr (7, [.null, .null, .null, .null, .int 0])), (q1, .inl (kcy K 6, 6, .inr (.inr (.inr (.inr (va_up (va_up (va_up (va_up (va_up (fun _ => none) (0 : Int32).toNatClampNeg (some q2)) (1 : Int32).toNatClampNeg (some q5)) (2 : Int32).toNatClampNeg (some q8)) (3 : Int32).toNatClampNeg (some q11)) (4 : Int32).toNatClampNeg (some q14))))))), (q2, .inr (5, [])), (q5, .inr (9, [])), (q8, .inr (0, [])), (q11, .inr (3, [])), (q14, .inr (4, [])), (q17, .inr (8, []))] 7 6 65 [(0, .ref h0)] [.ref q17, .int 5, .ref q1, .ref q1, .ref h0]
  refine k_dup C dX7_init_65 rfl ?_
  refine k_callN (ar := 0) (wr := [(h0, .inr (7, [.null, .null, .null, .null, .int 0])), (q1, .inl (kcy K 6, 6, .inr (.inr (.inr (.inr (va_up (va_up (va_up (va_up (va_up (fun _ => none) (0 : Int32).toNatClampNeg (some q2)) (1 : Int32).toNatClampNeg (some q5)) (2 : Int32).toNatClampNeg (some q8)) (3 : Int32).toNatClampNeg (some q11)) (4 : Int32).toNatClampNeg (some q14))))))), (q2, .inr (5, [])), (q5, .inr (9, [])), (q8, .inr (0, [])), (q11, .inr (3, [])), (q14, .inr (4, []))]) (rest := [.ref q17, .int 5, .ref q1, .ref q1, .ref h0]) (host := "CalledNumbers") C [7] [0, 1, 2, 3, 4, 5, 6] (k_X8_init) hk_X8_init rfl twN157 tw158 tw71 tw159 (by decide) (by decide) (by decide) (by decide) rfl rfl (by decide) (by decide) (by decide) rfl rfl (Nat.le_of_ble_eq_true rfl) dX7_init_66 (fun w19 p18 => ?_)
  subst p18
  show Wc K A [(h0, .inr (7, [.null, .null, .null, .null, .int 0])), (q1, .inl (kcy K 6, 6, .inr (.inr (.inr (.inr (va_up (va_up (va_up (va_up (va_up (fun _ => none) (0 : Int32).toNatClampNeg (some q2)) (1 : Int32).toNatClampNeg (some q5)) (2 : Int32).toNatClampNeg (some q8)) (3 : Int32).toNatClampNeg (some q11)) (4 : Int32).toNatClampNeg (some q14))))))), (q2, .inr (5, [])), (q5, .inr (9, [])), (q8, .inr (0, [])), (q11, .inr (3, [])), (q14, .inr (4, [])), (q17, .inr (8, []))] 7 6 69 [(0, .ref h0)] [.ref q17, .int 5, .ref q1, .ref q1, .ref h0]
  refine k_astqO (q := (RX8, TX8, 0)) (E := "CalledNumbers$Plain") C 1 7 rfl rfl twN1162 rfl rfl (vin_in (by decide)) dX7_init_69 ?_
  show Wc K A [(h0, .inr (7, [.null, .null, .null, .null, .int 0])), (q1, .inl (kcy K 6, 6, .inr (.inr (.inr (.inr (va_up (va_up (va_up (va_up (va_up (va_up (fun _ => none) (0 : Int32).toNatClampNeg (some q2)) (1 : Int32).toNatClampNeg (some q5)) (2 : Int32).toNatClampNeg (some q8)) (3 : Int32).toNatClampNeg (some q11)) (4 : Int32).toNatClampNeg (some q14)) (5 : Int32).toNatClampNeg (some q17))))))), (q2, .inr (5, [])), (q5, .inr (9, [])), (q8, .inr (0, [])), (q11, .inr (3, [])), (q14, .inr (4, [])), (q17, .inr (8, []))] 7 6 70 [(0, .ref h0)] [.ref q1, .ref h0]
  refine k_putF (j := 0) (i := 27) (q := (RX7, TX7, 5)) (ty := tyX7 0) C 0 tyX7 tyX7_ok nmX7 rfl rfl inBX7 (by decide) tw163 rfl hin rfl (by decide +kernel) rfl rfl (Nat.le_of_ble_eq_true rfl) dX7_init_70 ?_
  show Wc K A [(h0, .inr (7, [.ref q1, .null, .null, .null, .int 0])), (q1, .inl (kcy K 6, 6, .inr (.inr (.inr (.inr (va_up (va_up (va_up (va_up (va_up (va_up (fun _ => none) (0 : Int32).toNatClampNeg (some q2)) (1 : Int32).toNatClampNeg (some q5)) (2 : Int32).toNatClampNeg (some q8)) (3 : Int32).toNatClampNeg (some q11)) (4 : Int32).toNatClampNeg (some q14)) (5 : Int32).toNatClampNeg (some q17))))))), (q2, .inr (5, [])), (q5, .inr (9, [])), (q8, .inr (0, [])), (q11, .inr (3, [])), (q14, .inr (4, [])), (q17, .inr (8, []))] 7 6 73 [(0, .ref h0)] []
  refine k_aload_n C 0 dX7_init_73 rfl ?_
  refine k_iconst (v := 4) C dX7_init_74 rfl ?_
  refine k_newi (N := 4) C tw111 (by decide) (by decide) (by decide) (by decide) (by decide) dX7_init_75 (fun q20 => ?_)
  show Wc K A [(h0, .inr (7, [.ref q1, .null, .null, .null, .int 0])), (q1, .inl (kcy K 6, 6, .inr (.inr (.inr (.inr (va_up (va_up (va_up (va_up (va_up (va_up (fun _ => none) (0 : Int32).toNatClampNeg (some q2)) (1 : Int32).toNatClampNeg (some q5)) (2 : Int32).toNatClampNeg (some q8)) (3 : Int32).toNatClampNeg (some q11)) (4 : Int32).toNatClampNeg (some q14)) (5 : Int32).toNatClampNeg (some q17))))))), (q2, .inr (5, [])), (q5, .inr (9, [])), (q8, .inr (0, [])), (q11, .inr (3, [])), (q14, .inr (4, [])), (q17, .inr (8, [])), (q20, .inl (kcy K 0, 4, .inl (fun _ => 0)))] 8 10 77 [(0, .ref h0)] [.ref q20, .ref h0]
  refine k_putF (j := 1) (i := 33) (q := (RX7, TX7, 5)) (ty := tyX7 1) C 0 tyX7 tyX7_ok nmX7 rfl rfl inBX7 (by decide) tw165 rfl hin rfl (by decide +kernel) rfl rfl (Nat.le_of_ble_eq_true rfl) dX7_init_77 ?_
  show Wc K A [(h0, .inr (7, [.ref q1, .ref q20, .null, .null, .int 0])), (q1, .inl (kcy K 6, 6, .inr (.inr (.inr (.inr (va_up (va_up (va_up (va_up (va_up (va_up (fun _ => none) (0 : Int32).toNatClampNeg (some q2)) (1 : Int32).toNatClampNeg (some q5)) (2 : Int32).toNatClampNeg (some q8)) (3 : Int32).toNatClampNeg (some q11)) (4 : Int32).toNatClampNeg (some q14)) (5 : Int32).toNatClampNeg (some q17))))))), (q2, .inr (5, [])), (q5, .inr (9, [])), (q8, .inr (0, [])), (q11, .inr (3, [])), (q14, .inr (4, [])), (q17, .inr (8, [])), (q20, .inl (kcy K 0, 4, .inl (fun _ => 0)))] 8 10 80 [(0, .ref h0)] []
  refine k_aload_n C 0 dX7_init_80 rfl ?_
  refine k_iconst (v := 4) C dX7_init_81 rfl ?_
  refine k_bipush (v := 6) C dX7_init_82 rfl ?_
  refine k_mna (N := 4) (M := 6) (t := 2) (u := 0) (g := (6, .inl (fun _ => 0))) C rfl rfl tw162 (by decide) tw111 rfl rfl (by decide) (by decide) (by decide) (by decide) (by decide) (by decide) (by decide) rfl rfl (by decide) (by decide) (fun c => (arrV_new c 6 (defaultValue _)).trans rfl) dX7_init_84 (fun q21 r22 => ?_)
  show Wc K A [(h0, .inr (7, [.ref q1, .ref q20, .null, .null, .int 0])), (q1, .inl (kcy K 6, 6, .inr (.inr (.inr (.inr (va_up (va_up (va_up (va_up (va_up (va_up (fun _ => none) (0 : Int32).toNatClampNeg (some q2)) (1 : Int32).toNatClampNeg (some q5)) (2 : Int32).toNatClampNeg (some q8)) (3 : Int32).toNatClampNeg (some q11)) (4 : Int32).toNatClampNeg (some q14)) (5 : Int32).toNatClampNeg (some q17))))))), (q2, .inr (5, [])), (q5, .inr (9, [])), (q8, .inr (0, [])), (q11, .inr (3, [])), (q14, .inr (4, [])), (q17, .inr (8, [])), (q20, .inl (kcy K 0, 4, .inl (fun _ => 0))), (q21, .inl (kcy K 2, 4, .inr (.inr (.inr (.inr (fun i => if i < 4 then some (r22 i) else none)))))), ((r22 0), .inl (kcy K 0, 6, .inl (fun _ => 0))), ((r22 1), .inl (kcy K 0, 6, .inl (fun _ => 0))), ((r22 2), .inl (kcy K 0, 6, .inl (fun _ => 0))), ((r22 3), .inl (kcy K 0, 6, .inl (fun _ => 0)))] 13 38 88 [(0, .ref h0)] [.ref q21, .ref h0]
  refine k_putF (j := 2) (i := 39) (q := (RX7, TX7, 5)) (ty := tyX7 2) C 0 tyX7 tyX7_ok nmX7 rfl rfl inBX7 (by decide) tw167 rfl hin rfl (by decide +kernel) rfl rfl (Nat.le_of_ble_eq_true rfl) dX7_init_88 ?_
  show Wc K A [(h0, .inr (7, [.ref q1, .ref q20, .ref q21, .null, .int 0])), (q1, .inl (kcy K 6, 6, .inr (.inr (.inr (.inr (va_up (va_up (va_up (va_up (va_up (va_up (fun _ => none) (0 : Int32).toNatClampNeg (some q2)) (1 : Int32).toNatClampNeg (some q5)) (2 : Int32).toNatClampNeg (some q8)) (3 : Int32).toNatClampNeg (some q11)) (4 : Int32).toNatClampNeg (some q14)) (5 : Int32).toNatClampNeg (some q17))))))), (q2, .inr (5, [])), (q5, .inr (9, [])), (q8, .inr (0, [])), (q11, .inr (3, [])), (q14, .inr (4, [])), (q17, .inr (8, [])), (q20, .inl (kcy K 0, 4, .inl (fun _ => 0))), (q21, .inl (kcy K 2, 4, .inr (.inr (.inr (.inr (fun i => if i < 4 then some (r22 i) else none)))))), ((r22 0), .inl (kcy K 0, 6, .inl (fun _ => 0))), ((r22 1), .inl (kcy K 0, 6, .inl (fun _ => 0))), ((r22 2), .inl (kcy K 0, 6, .inl (fun _ => 0))), ((r22 3), .inl (kcy K 0, 6, .inl (fun _ => 0)))] 13 38 91 [(0, .ref h0)] []
  refine k_aload_n C 0 dX7_init_91 rfl ?_
  refine k_iconst (v := 4) C dX7_init_92 rfl ?_
  refine k_newi (N := 4) C tw111 (by decide) (by decide) (by decide) (by decide) (by decide) dX7_init_93 (fun q23 => ?_)
  show Wc K A [(h0, .inr (7, [.ref q1, .ref q20, .ref q21, .null, .int 0])), (q1, .inl (kcy K 6, 6, .inr (.inr (.inr (.inr (va_up (va_up (va_up (va_up (va_up (va_up (fun _ => none) (0 : Int32).toNatClampNeg (some q2)) (1 : Int32).toNatClampNeg (some q5)) (2 : Int32).toNatClampNeg (some q8)) (3 : Int32).toNatClampNeg (some q11)) (4 : Int32).toNatClampNeg (some q14)) (5 : Int32).toNatClampNeg (some q17))))))), (q2, .inr (5, [])), (q5, .inr (9, [])), (q8, .inr (0, [])), (q11, .inr (3, [])), (q14, .inr (4, [])), (q17, .inr (8, [])), (q20, .inl (kcy K 0, 4, .inl (fun _ => 0))), (q21, .inl (kcy K 2, 4, .inr (.inr (.inr (.inr (fun i => if i < 4 then some (r22 i) else none)))))), ((r22 0), .inl (kcy K 0, 6, .inl (fun _ => 0))), ((r22 1), .inl (kcy K 0, 6, .inl (fun _ => 0))), ((r22 2), .inl (kcy K 0, 6, .inl (fun _ => 0))), ((r22 3), .inl (kcy K 0, 6, .inl (fun _ => 0))), (q23, .inl (kcy K 0, 4, .inl (fun _ => 0)))] 14 42 95 [(0, .ref h0)] [.ref q23, .ref h0]
  refine k_putF (j := 3) (i := 42) (q := (RX7, TX7, 5)) (ty := tyX7 3) C 0 tyX7 tyX7_ok nmX7 rfl rfl inBX7 (by decide) tw169 rfl hin rfl (by decide +kernel) rfl rfl (Nat.le_of_ble_eq_true rfl) dX7_init_95 ?_
  show Wc K A [(h0, .inr (7, [.ref q1, .ref q20, .ref q21, .ref q23, .int 0])), (q1, .inl (kcy K 6, 6, .inr (.inr (.inr (.inr (va_up (va_up (va_up (va_up (va_up (va_up (fun _ => none) (0 : Int32).toNatClampNeg (some q2)) (1 : Int32).toNatClampNeg (some q5)) (2 : Int32).toNatClampNeg (some q8)) (3 : Int32).toNatClampNeg (some q11)) (4 : Int32).toNatClampNeg (some q14)) (5 : Int32).toNatClampNeg (some q17))))))), (q2, .inr (5, [])), (q5, .inr (9, [])), (q8, .inr (0, [])), (q11, .inr (3, [])), (q14, .inr (4, [])), (q17, .inr (8, [])), (q20, .inl (kcy K 0, 4, .inl (fun _ => 0))), (q21, .inl (kcy K 2, 4, .inr (.inr (.inr (.inr (fun i => if i < 4 then some (r22 i) else none)))))), ((r22 0), .inl (kcy K 0, 6, .inl (fun _ => 0))), ((r22 1), .inl (kcy K 0, 6, .inl (fun _ => 0))), ((r22 2), .inl (kcy K 0, 6, .inl (fun _ => 0))), ((r22 3), .inl (kcy K 0, 6, .inl (fun _ => 0))), (q23, .inl (kcy K 0, 4, .inl (fun _ => 0)))] 14 42 98 [(0, .ref h0)] []
  exact k_vret C R ⟨q1, q20, q21, q23, q2, q5, q8, q11, q14, q17, r22, rfl⟩ (by decide) (by decide) dX7_init_98
